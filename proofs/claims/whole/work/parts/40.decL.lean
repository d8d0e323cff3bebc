theorem dL_law__0 : decode cL_law_ 0 = .ok (.new 8, 3) := by decide +kernel
theorem dL_law__3 : decode cL_law_ 3 = .ok (.dup, 1) := by decide +kernel
theorem dL_law__4 : decode cL_law_ 4 = .ok (.invokespecial 123, 3) := by decide +kernel
theorem dL_law__7 : decode cL_law_ 7 = .ok (.astore_n 1, 1) := by decide +kernel
theorem dL_law__8 : decode cL_law_ 8 = .ok (.new 124, 3) := by decide +kernel
theorem dL_law__11 : decode cL_law_ 11 = .ok (.dup, 1) := by decide +kernel
theorem dL_law__12 : decode cL_law_ 12 = .ok (.invokespecial 126, 3) := by decide +kernel
theorem dL_law__15 : decode cL_law_ 15 = .ok (.astore_n 2, 1) := by decide +kernel
theorem dL_law__16 : decode cL_law_ 16 = .ok (.iconst 1, 1) := by decide +kernel
theorem dL_law__17 : decode cL_law_ 17 = .ok (.newarray .long, 2) := by decide +kernel
theorem dL_law__19 : decode cL_law_ 19 = .ok (.astore_n 3, 1) := by decide +kernel
theorem dL_law__20 : decode cL_law_ 20 = .ok (.iconst 0, 1) := by decide +kernel
theorem dL_law__21 : decode cL_law_ 21 = .ok (.istore 4, 2) := by decide +kernel
theorem dL_law__23 : decode cL_law_ 23 = .ok (.iload 4, 2) := by decide +kernel
theorem dL_law__25 : decode cL_law_ 25 = .ok (.aload_n 0, 1) := by decide +kernel
theorem dL_law__26 : decode cL_law_ 26 = .ok (.arraylength, 1) := by decide +kernel
theorem dL_law__27 : decode cL_law_ 27 = .ok (.bipush 6, 2) := by decide +kernel
theorem dL_law__29 : decode cL_law_ 29 = .ok (.isub, 1) := by decide +kernel
theorem dL_law__30 : decode cL_law_ 30 = .ok (.if_icmp .gt 2768, 3) := by decide +kernel
theorem dL_law__33 : decode cL_law_ 33 = .ok (.aload_n 0, 1) := by decide +kernel
theorem dL_law__34 : decode cL_law_ 34 = .ok (.iload 4, 2) := by decide +kernel
theorem dL_law__36 : decode cL_law_ 36 = .ok (.iaload, 1) := by decide +kernel
theorem dL_law__37 : decode cL_law_ 37 = .ok (.bipush 63, 2) := by decide +kernel
theorem dL_law__39 : decode cL_law_ 39 = .ok (.iand, 1) := by decide +kernel
theorem dL_law__40 : decode cL_law_ 40 = .ok (.tableswitch 2752 0 53 #[232, 305, 330, 374, 418, 431, 499, 567, 635, 703, 778, 853, 909, 977, 1033, 1089, 1157, 1225, 1305, 1408, 1476, 1489, 1502, 1515, 1599, 1612, 1625, 1638, 1706, 1719, 1763, 1807, 1870, 1883, 1939, 1983, 2051, 2119, 2187, 2200, 2213, 2226, 2239, 2252, 2265, 2345, 2429, 2513, 2597, 2665, 2690, 2703, 2714, 2727], 232) := by decide +kernel
theorem dL_law__272 : decode cL_law_ 272 = .ok (.aload_n 1, 1) := by decide +kernel
theorem dL_law__273 : decode cL_law_ 273 = .ok (.aload_n 0, 1) := by decide +kernel
theorem dL_law__274 : decode cL_law_ 274 = .ok (.iload 4, 2) := by decide +kernel
theorem dL_law__276 : decode cL_law_ 276 = .ok (.iconst 1, 1) := by decide +kernel
theorem dL_law__277 : decode cL_law_ 277 = .ok (.iadd, 1) := by decide +kernel
theorem dL_law__278 : decode cL_law_ 278 = .ok (.iaload, 1) := by decide +kernel
theorem dL_law__279 : decode cL_law_ 279 = .ok (.aload_n 0, 1) := by decide +kernel
theorem dL_law__280 : decode cL_law_ 280 = .ok (.iload 4, 2) := by decide +kernel
theorem dL_law__282 : decode cL_law_ 282 = .ok (.iconst 2, 1) := by decide +kernel
theorem dL_law__283 : decode cL_law_ 283 = .ok (.iadd, 1) := by decide +kernel
theorem dL_law__284 : decode cL_law_ 284 = .ok (.iaload, 1) := by decide +kernel
theorem dL_law__285 : decode cL_law_ 285 = .ok (.aload_n 0, 1) := by decide +kernel
theorem dL_law__286 : decode cL_law_ 286 = .ok (.iload 4, 2) := by decide +kernel
theorem dL_law__288 : decode cL_law_ 288 = .ok (.iconst 3, 1) := by decide +kernel
theorem dL_law__289 : decode cL_law_ 289 = .ok (.iadd, 1) := by decide +kernel
theorem dL_law__290 : decode cL_law_ 290 = .ok (.iaload, 1) := by decide +kernel
theorem dL_law__291 : decode cL_law_ 291 = .ok (.aload_n 0, 1) := by decide +kernel
theorem dL_law__292 : decode cL_law_ 292 = .ok (.iload 4, 2) := by decide +kernel
theorem dL_law__294 : decode cL_law_ 294 = .ok (.iconst 4, 1) := by decide +kernel
theorem dL_law__295 : decode cL_law_ 295 = .ok (.iadd, 1) := by decide +kernel
theorem dL_law__296 : decode cL_law_ 296 = .ok (.iaload, 1) := by decide +kernel
theorem dL_law__297 : decode cL_law_ 297 = .ok (.aload_n 0, 1) := by decide +kernel
theorem dL_law__298 : decode cL_law_ 298 = .ok (.iload 4, 2) := by decide +kernel
theorem dL_law__300 : decode cL_law_ 300 = .ok (.iconst 5, 1) := by decide +kernel
theorem dL_law__301 : decode cL_law_ 301 = .ok (.iadd, 1) := by decide +kernel
theorem dL_law__302 : decode cL_law_ 302 = .ok (.iaload, 1) := by decide +kernel
theorem dL_law__303 : decode cL_law_ 303 = .ok (.invokevirtual 127, 3) := by decide +kernel
theorem dL_law__306 : decode cL_law_ 306 = .ok (.aload_n 2, 1) := by decide +kernel
theorem dL_law__307 : decode cL_law_ 307 = .ok (.aload_n 0, 1) := by decide +kernel
theorem dL_law__308 : decode cL_law_ 308 = .ok (.iload 4, 2) := by decide +kernel
theorem dL_law__310 : decode cL_law_ 310 = .ok (.iconst 1, 1) := by decide +kernel
theorem dL_law__311 : decode cL_law_ 311 = .ok (.iadd, 1) := by decide +kernel
theorem dL_law__312 : decode cL_law_ 312 = .ok (.iaload, 1) := by decide +kernel
theorem dL_law__313 : decode cL_law_ 313 = .ok (.aload_n 0, 1) := by decide +kernel
theorem dL_law__314 : decode cL_law_ 314 = .ok (.iload 4, 2) := by decide +kernel
theorem dL_law__316 : decode cL_law_ 316 = .ok (.iconst 2, 1) := by decide +kernel
theorem dL_law__317 : decode cL_law_ 317 = .ok (.iadd, 1) := by decide +kernel
theorem dL_law__318 : decode cL_law_ 318 = .ok (.iaload, 1) := by decide +kernel
theorem dL_law__319 : decode cL_law_ 319 = .ok (.aload_n 0, 1) := by decide +kernel
theorem dL_law__320 : decode cL_law_ 320 = .ok (.iload 4, 2) := by decide +kernel
theorem dL_law__322 : decode cL_law_ 322 = .ok (.iconst 3, 1) := by decide +kernel
theorem dL_law__323 : decode cL_law_ 323 = .ok (.iadd, 1) := by decide +kernel
theorem dL_law__324 : decode cL_law_ 324 = .ok (.iaload, 1) := by decide +kernel
theorem dL_law__325 : decode cL_law_ 325 = .ok (.aload_n 0, 1) := by decide +kernel
theorem dL_law__326 : decode cL_law_ 326 = .ok (.iload 4, 2) := by decide +kernel
theorem dL_law__328 : decode cL_law_ 328 = .ok (.iconst 4, 1) := by decide +kernel
theorem dL_law__329 : decode cL_law_ 329 = .ok (.iadd, 1) := by decide +kernel
theorem dL_law__330 : decode cL_law_ 330 = .ok (.iaload, 1) := by decide +kernel
theorem dL_law__331 : decode cL_law_ 331 = .ok (.aload_n 0, 1) := by decide +kernel
theorem dL_law__332 : decode cL_law_ 332 = .ok (.iload 4, 2) := by decide +kernel
theorem dL_law__334 : decode cL_law_ 334 = .ok (.iconst 5, 1) := by decide +kernel
theorem dL_law__335 : decode cL_law_ 335 = .ok (.iadd, 1) := by decide +kernel
theorem dL_law__336 : decode cL_law_ 336 = .ok (.iaload, 1) := by decide +kernel
theorem dL_law__337 : decode cL_law_ 337 = .ok (.invokevirtual 131, 3) := by decide +kernel
theorem dL_law__340 : decode cL_law_ 340 = .ok (.if_icmp .eq 2452, 3) := by decide +kernel
theorem dL_law__343 : decode cL_law_ 343 = .ok (.iconst 0, 1) := by decide +kernel
theorem dL_law__344 : decode cL_law_ 344 = .ok (.ireturn, 1) := by decide +kernel
theorem dL_law__345 : decode cL_law_ 345 = .ok (.aload_n 1, 1) := by decide +kernel
theorem dL_law__346 : decode cL_law_ 346 = .ok (.aload_n 0, 1) := by decide +kernel
theorem dL_law__347 : decode cL_law_ 347 = .ok (.iload 4, 2) := by decide +kernel
theorem dL_law__349 : decode cL_law_ 349 = .ok (.iconst 1, 1) := by decide +kernel
theorem dL_law__350 : decode cL_law_ 350 = .ok (.iadd, 1) := by decide +kernel
theorem dL_law__351 : decode cL_law_ 351 = .ok (.iaload, 1) := by decide +kernel
theorem dL_law__352 : decode cL_law_ 352 = .ok (.invokevirtual 132, 3) := by decide +kernel
theorem dL_law__355 : decode cL_law_ 355 = .ok (.aload_n 2, 1) := by decide +kernel
theorem dL_law__356 : decode cL_law_ 356 = .ok (.aload_n 0, 1) := by decide +kernel
theorem dL_law__357 : decode cL_law_ 357 = .ok (.iload 4, 2) := by decide +kernel
theorem dL_law__359 : decode cL_law_ 359 = .ok (.iconst 1, 1) := by decide +kernel
theorem dL_law__360 : decode cL_law_ 360 = .ok (.iadd, 1) := by decide +kernel
theorem dL_law__361 : decode cL_law_ 361 = .ok (.iaload, 1) := by decide +kernel
theorem dL_law__362 : decode cL_law_ 362 = .ok (.invokevirtual 135, 3) := by decide +kernel
theorem dL_law__365 : decode cL_law_ 365 = .ok (.if_icmp .eq 2427, 3) := by decide +kernel
theorem dL_law__368 : decode cL_law_ 368 = .ok (.iconst 0, 1) := by decide +kernel
theorem dL_law__369 : decode cL_law_ 369 = .ok (.ireturn, 1) := by decide +kernel
theorem dL_law__370 : decode cL_law_ 370 = .ok (.aload_n 1, 1) := by decide +kernel
theorem dL_law__371 : decode cL_law_ 371 = .ok (.aload_n 3, 1) := by decide +kernel
theorem dL_law__372 : decode cL_law_ 372 = .ok (.invokestatic 136, 3) := by decide +kernel
theorem dL_law__375 : decode cL_law_ 375 = .ok (.istore 5, 2) := by decide +kernel
theorem dL_law__377 : decode cL_law_ 377 = .ok (.aload_n 2, 1) := by decide +kernel
theorem dL_law__378 : decode cL_law_ 378 = .ok (.invokevirtual 141, 3) := by decide +kernel
theorem dL_law__381 : decode cL_law_ 381 = .ok (.istore 6, 2) := by decide +kernel
theorem dL_law__383 : decode cL_law_ 383 = .ok (.aload_n 2, 1) := by decide +kernel
theorem dL_law__384 : decode cL_law_ 384 = .ok (.invokevirtual 142, 3) := by decide +kernel
theorem dL_law__387 : decode cL_law_ 387 = .ok (.iload 5, 2) := by decide +kernel
theorem dL_law__389 : decode cL_law_ 389 = .ok (.if_icmp .eq 5, 3) := by decide +kernel
theorem dL_law__392 : decode cL_law_ 392 = .ok (.iconst 0, 1) := by decide +kernel
theorem dL_law__393 : decode cL_law_ 393 = .ok (.ireturn, 1) := by decide +kernel
theorem dL_law__394 : decode cL_law_ 394 = .ok (.iload 5, 2) := by decide +kernel
theorem dL_law__396 : decode cL_law_ 396 = .ok (.ifCond .ne 15, 3) := by decide +kernel
theorem dL_law__399 : decode cL_law_ 399 = .ok (.aload_n 3, 1) := by decide +kernel
theorem dL_law__400 : decode cL_law_ 400 = .ok (.iconst 0, 1) := by decide +kernel
theorem dL_law__401 : decode cL_law_ 401 = .ok (.laload, 1) := by decide +kernel
theorem dL_law__402 : decode cL_law_ 402 = .ok (.iload 6, 2) := by decide +kernel
theorem dL_law__404 : decode cL_law_ 404 = .ok (.i2l, 1) := by decide +kernel
theorem dL_law__405 : decode cL_law_ 405 = .ok (.lcmp, 1) := by decide +kernel
theorem dL_law__406 : decode cL_law_ 406 = .ok (.ifCond .eq 5, 3) := by decide +kernel
theorem dL_law__409 : decode cL_law_ 409 = .ok (.iconst 0, 1) := by decide +kernel
theorem dL_law__410 : decode cL_law_ 410 = .ok (.ireturn, 1) := by decide +kernel
theorem dL_law__411 : decode cL_law_ 411 = .ok (.goto 2381, 3) := by decide +kernel
theorem dL_law__414 : decode cL_law_ 414 = .ok (.aload_n 1, 1) := by decide +kernel
theorem dL_law__415 : decode cL_law_ 415 = .ok (.aload_n 3, 1) := by decide +kernel
theorem dL_law__416 : decode cL_law_ 416 = .ok (.invokestatic 145, 3) := by decide +kernel
theorem dL_law__419 : decode cL_law_ 419 = .ok (.istore 5, 2) := by decide +kernel
theorem dL_law__421 : decode cL_law_ 421 = .ok (.aload_n 2, 1) := by decide +kernel
theorem dL_law__422 : decode cL_law_ 422 = .ok (.invokevirtual 147, 3) := by decide +kernel
theorem dL_law__425 : decode cL_law_ 425 = .ok (.istore 6, 2) := by decide +kernel
theorem dL_law__427 : decode cL_law_ 427 = .ok (.aload_n 2, 1) := by decide +kernel
theorem dL_law__428 : decode cL_law_ 428 = .ok (.invokevirtual 142, 3) := by decide +kernel
theorem dL_law__431 : decode cL_law_ 431 = .ok (.iload 5, 2) := by decide +kernel
theorem dL_law__433 : decode cL_law_ 433 = .ok (.if_icmp .eq 5, 3) := by decide +kernel
theorem dL_law__436 : decode cL_law_ 436 = .ok (.iconst 0, 1) := by decide +kernel
theorem dL_law__437 : decode cL_law_ 437 = .ok (.ireturn, 1) := by decide +kernel
theorem dL_law__438 : decode cL_law_ 438 = .ok (.iload 5, 2) := by decide +kernel
theorem dL_law__440 : decode cL_law_ 440 = .ok (.ifCond .ne 15, 3) := by decide +kernel
theorem dL_law__443 : decode cL_law_ 443 = .ok (.aload_n 3, 1) := by decide +kernel
theorem dL_law__444 : decode cL_law_ 444 = .ok (.iconst 0, 1) := by decide +kernel
theorem dL_law__445 : decode cL_law_ 445 = .ok (.laload, 1) := by decide +kernel
theorem dL_law__446 : decode cL_law_ 446 = .ok (.iload 6, 2) := by decide +kernel
theorem dL_law__448 : decode cL_law_ 448 = .ok (.i2l, 1) := by decide +kernel
theorem dL_law__449 : decode cL_law_ 449 = .ok (.lcmp, 1) := by decide +kernel
theorem dL_law__450 : decode cL_law_ 450 = .ok (.ifCond .eq 5, 3) := by decide +kernel
theorem dL_law__453 : decode cL_law_ 453 = .ok (.iconst 0, 1) := by decide +kernel
theorem dL_law__454 : decode cL_law_ 454 = .ok (.ireturn, 1) := by decide +kernel
theorem dL_law__455 : decode cL_law_ 455 = .ok (.goto 2337, 3) := by decide +kernel
theorem dL_law__458 : decode cL_law_ 458 = .ok (.aload_n 1, 1) := by decide +kernel
theorem dL_law__459 : decode cL_law_ 459 = .ok (.invokevirtual 148, 3) := by decide +kernel
theorem dL_law__462 : decode cL_law_ 462 = .ok (.aload_n 2, 1) := by decide +kernel
theorem dL_law__463 : decode cL_law_ 463 = .ok (.invokevirtual 151, 3) := by decide +kernel
theorem dL_law__466 : decode cL_law_ 466 = .ok (.if_icmp .eq 2326, 3) := by decide +kernel
theorem dL_law__469 : decode cL_law_ 469 = .ok (.iconst 0, 1) := by decide +kernel
theorem dL_law__470 : decode cL_law_ 470 = .ok (.ireturn, 1) := by decide +kernel
theorem dL_law__471 : decode cL_law_ 471 = .ok (.aload_n 1, 1) := by decide +kernel
theorem dL_law__472 : decode cL_law_ 472 = .ok (.aload_n 0, 1) := by decide +kernel
theorem dL_law__473 : decode cL_law_ 473 = .ok (.iload 4, 2) := by decide +kernel
theorem dL_law__475 : decode cL_law_ 475 = .ok (.iconst 1, 1) := by decide +kernel
theorem dL_law__476 : decode cL_law_ 476 = .ok (.iadd, 1) := by decide +kernel
theorem dL_law__477 : decode cL_law_ 477 = .ok (.iaload, 1) := by decide +kernel
theorem dL_law__478 : decode cL_law_ 478 = .ok (.aload_n 0, 1) := by decide +kernel
theorem dL_law__479 : decode cL_law_ 479 = .ok (.iload 4, 2) := by decide +kernel
theorem dL_law__481 : decode cL_law_ 481 = .ok (.iconst 2, 1) := by decide +kernel
theorem dL_law__482 : decode cL_law_ 482 = .ok (.iadd, 1) := by decide +kernel
theorem dL_law__483 : decode cL_law_ 483 = .ok (.iaload, 1) := by decide +kernel
theorem dL_law__484 : decode cL_law_ 484 = .ok (.aload_n 3, 1) := by decide +kernel
theorem dL_law__485 : decode cL_law_ 485 = .ok (.invokestatic 152, 3) := by decide +kernel
theorem dL_law__488 : decode cL_law_ 488 = .ok (.istore 5, 2) := by decide +kernel
theorem dL_law__490 : decode cL_law_ 490 = .ok (.aload_n 2, 1) := by decide +kernel
theorem dL_law__491 : decode cL_law_ 491 = .ok (.aload_n 0, 1) := by decide +kernel
theorem dL_law__492 : decode cL_law_ 492 = .ok (.iload 4, 2) := by decide +kernel
theorem dL_law__494 : decode cL_law_ 494 = .ok (.iconst 1, 1) := by decide +kernel
theorem dL_law__495 : decode cL_law_ 495 = .ok (.iadd, 1) := by decide +kernel
theorem dL_law__496 : decode cL_law_ 496 = .ok (.iaload, 1) := by decide +kernel
theorem dL_law__497 : decode cL_law_ 497 = .ok (.aload_n 0, 1) := by decide +kernel
theorem dL_law__498 : decode cL_law_ 498 = .ok (.iload 4, 2) := by decide +kernel
theorem dL_law__500 : decode cL_law_ 500 = .ok (.iconst 2, 1) := by decide +kernel
theorem dL_law__501 : decode cL_law_ 501 = .ok (.iadd, 1) := by decide +kernel
theorem dL_law__502 : decode cL_law_ 502 = .ok (.iaload, 1) := by decide +kernel
theorem dL_law__503 : decode cL_law_ 503 = .ok (.invokevirtual 155, 3) := by decide +kernel
theorem dL_law__506 : decode cL_law_ 506 = .ok (.istore 6, 2) := by decide +kernel
theorem dL_law__508 : decode cL_law_ 508 = .ok (.aload_n 2, 1) := by decide +kernel
theorem dL_law__509 : decode cL_law_ 509 = .ok (.invokevirtual 142, 3) := by decide +kernel
theorem dL_law__512 : decode cL_law_ 512 = .ok (.iload 5, 2) := by decide +kernel
theorem dL_law__514 : decode cL_law_ 514 = .ok (.if_icmp .eq 5, 3) := by decide +kernel
theorem dL_law__517 : decode cL_law_ 517 = .ok (.iconst 0, 1) := by decide +kernel
theorem dL_law__518 : decode cL_law_ 518 = .ok (.ireturn, 1) := by decide +kernel
theorem dL_law__519 : decode cL_law_ 519 = .ok (.iload 5, 2) := by decide +kernel
theorem dL_law__521 : decode cL_law_ 521 = .ok (.ifCond .ne 15, 3) := by decide +kernel
theorem dL_law__524 : decode cL_law_ 524 = .ok (.aload_n 3, 1) := by decide +kernel
theorem dL_law__525 : decode cL_law_ 525 = .ok (.iconst 0, 1) := by decide +kernel
theorem dL_law__526 : decode cL_law_ 526 = .ok (.laload, 1) := by decide +kernel
theorem dL_law__527 : decode cL_law_ 527 = .ok (.iload 6, 2) := by decide +kernel
theorem dL_law__529 : decode cL_law_ 529 = .ok (.i2l, 1) := by decide +kernel
theorem dL_law__530 : decode cL_law_ 530 = .ok (.lcmp, 1) := by decide +kernel
theorem dL_law__531 : decode cL_law_ 531 = .ok (.ifCond .eq 5, 3) := by decide +kernel
theorem dL_law__534 : decode cL_law_ 534 = .ok (.iconst 0, 1) := by decide +kernel
theorem dL_law__535 : decode cL_law_ 535 = .ok (.ireturn, 1) := by decide +kernel
theorem dL_law__536 : decode cL_law_ 536 = .ok (.goto 2256, 3) := by decide +kernel
theorem dL_law__539 : decode cL_law_ 539 = .ok (.aload_n 1, 1) := by decide +kernel
theorem dL_law__540 : decode cL_law_ 540 = .ok (.aload_n 0, 1) := by decide +kernel
theorem dL_law__541 : decode cL_law_ 541 = .ok (.iload 4, 2) := by decide +kernel
theorem dL_law__543 : decode cL_law_ 543 = .ok (.iconst 1, 1) := by decide +kernel
theorem dL_law__544 : decode cL_law_ 544 = .ok (.iadd, 1) := by decide +kernel
theorem dL_law__545 : decode cL_law_ 545 = .ok (.iaload, 1) := by decide +kernel
theorem dL_law__546 : decode cL_law_ 546 = .ok (.aload_n 0, 1) := by decide +kernel
theorem dL_law__547 : decode cL_law_ 547 = .ok (.iload 4, 2) := by decide +kernel
theorem dL_law__549 : decode cL_law_ 549 = .ok (.iconst 2, 1) := by decide +kernel
theorem dL_law__550 : decode cL_law_ 550 = .ok (.iadd, 1) := by decide +kernel
theorem dL_law__551 : decode cL_law_ 551 = .ok (.iaload, 1) := by decide +kernel
theorem dL_law__552 : decode cL_law_ 552 = .ok (.aload_n 3, 1) := by decide +kernel
theorem dL_law__553 : decode cL_law_ 553 = .ok (.invokestatic 156, 3) := by decide +kernel
theorem dL_law__556 : decode cL_law_ 556 = .ok (.istore 5, 2) := by decide +kernel
theorem dL_law__558 : decode cL_law_ 558 = .ok (.aload_n 2, 1) := by decide +kernel
theorem dL_law__559 : decode cL_law_ 559 = .ok (.aload_n 0, 1) := by decide +kernel
theorem dL_law__560 : decode cL_law_ 560 = .ok (.iload 4, 2) := by decide +kernel
theorem dL_law__562 : decode cL_law_ 562 = .ok (.iconst 1, 1) := by decide +kernel
theorem dL_law__563 : decode cL_law_ 563 = .ok (.iadd, 1) := by decide +kernel
theorem dL_law__564 : decode cL_law_ 564 = .ok (.iaload, 1) := by decide +kernel
theorem dL_law__565 : decode cL_law_ 565 = .ok (.aload_n 0, 1) := by decide +kernel
theorem dL_law__566 : decode cL_law_ 566 = .ok (.iload 4, 2) := by decide +kernel
theorem dL_law__568 : decode cL_law_ 568 = .ok (.iconst 2, 1) := by decide +kernel
theorem dL_law__569 : decode cL_law_ 569 = .ok (.iadd, 1) := by decide +kernel
theorem dL_law__570 : decode cL_law_ 570 = .ok (.iaload, 1) := by decide +kernel
theorem dL_law__571 : decode cL_law_ 571 = .ok (.invokevirtual 158, 3) := by decide +kernel
theorem dL_law__574 : decode cL_law_ 574 = .ok (.istore 6, 2) := by decide +kernel
theorem dL_law__576 : decode cL_law_ 576 = .ok (.aload_n 2, 1) := by decide +kernel
theorem dL_law__577 : decode cL_law_ 577 = .ok (.invokevirtual 142, 3) := by decide +kernel
theorem dL_law__580 : decode cL_law_ 580 = .ok (.iload 5, 2) := by decide +kernel
theorem dL_law__582 : decode cL_law_ 582 = .ok (.if_icmp .eq 5, 3) := by decide +kernel
theorem dL_law__585 : decode cL_law_ 585 = .ok (.iconst 0, 1) := by decide +kernel
theorem dL_law__586 : decode cL_law_ 586 = .ok (.ireturn, 1) := by decide +kernel
theorem dL_law__587 : decode cL_law_ 587 = .ok (.iload 5, 2) := by decide +kernel
theorem dL_law__589 : decode cL_law_ 589 = .ok (.ifCond .ne 15, 3) := by decide +kernel
theorem dL_law__592 : decode cL_law_ 592 = .ok (.aload_n 3, 1) := by decide +kernel
theorem dL_law__593 : decode cL_law_ 593 = .ok (.iconst 0, 1) := by decide +kernel
theorem dL_law__594 : decode cL_law_ 594 = .ok (.laload, 1) := by decide +kernel
theorem dL_law__595 : decode cL_law_ 595 = .ok (.iload 6, 2) := by decide +kernel
theorem dL_law__597 : decode cL_law_ 597 = .ok (.i2l, 1) := by decide +kernel
theorem dL_law__598 : decode cL_law_ 598 = .ok (.lcmp, 1) := by decide +kernel
theorem dL_law__599 : decode cL_law_ 599 = .ok (.ifCond .eq 5, 3) := by decide +kernel
theorem dL_law__602 : decode cL_law_ 602 = .ok (.iconst 0, 1) := by decide +kernel
theorem dL_law__603 : decode cL_law_ 603 = .ok (.ireturn, 1) := by decide +kernel
theorem dL_law__604 : decode cL_law_ 604 = .ok (.goto 2188, 3) := by decide +kernel
theorem dL_law__607 : decode cL_law_ 607 = .ok (.aload_n 1, 1) := by decide +kernel
theorem dL_law__608 : decode cL_law_ 608 = .ok (.aload_n 0, 1) := by decide +kernel
theorem dL_law__609 : decode cL_law_ 609 = .ok (.iload 4, 2) := by decide +kernel
theorem dL_law__611 : decode cL_law_ 611 = .ok (.iconst 1, 1) := by decide +kernel
theorem dL_law__612 : decode cL_law_ 612 = .ok (.iadd, 1) := by decide +kernel
theorem dL_law__613 : decode cL_law_ 613 = .ok (.iaload, 1) := by decide +kernel
theorem dL_law__614 : decode cL_law_ 614 = .ok (.aload_n 0, 1) := by decide +kernel
theorem dL_law__615 : decode cL_law_ 615 = .ok (.iload 4, 2) := by decide +kernel
theorem dL_law__617 : decode cL_law_ 617 = .ok (.iconst 2, 1) := by decide +kernel
theorem dL_law__618 : decode cL_law_ 618 = .ok (.iadd, 1) := by decide +kernel
theorem dL_law__619 : decode cL_law_ 619 = .ok (.iaload, 1) := by decide +kernel
theorem dL_law__620 : decode cL_law_ 620 = .ok (.aload_n 3, 1) := by decide +kernel
theorem dL_law__621 : decode cL_law_ 621 = .ok (.invokestatic 159, 3) := by decide +kernel
theorem dL_law__624 : decode cL_law_ 624 = .ok (.istore 5, 2) := by decide +kernel
theorem dL_law__626 : decode cL_law_ 626 = .ok (.aload_n 2, 1) := by decide +kernel
theorem dL_law__627 : decode cL_law_ 627 = .ok (.aload_n 0, 1) := by decide +kernel
theorem dL_law__628 : decode cL_law_ 628 = .ok (.iload 4, 2) := by decide +kernel
theorem dL_law__630 : decode cL_law_ 630 = .ok (.iconst 1, 1) := by decide +kernel
theorem dL_law__631 : decode cL_law_ 631 = .ok (.iadd, 1) := by decide +kernel
theorem dL_law__632 : decode cL_law_ 632 = .ok (.iaload, 1) := by decide +kernel
theorem dL_law__633 : decode cL_law_ 633 = .ok (.aload_n 0, 1) := by decide +kernel
theorem dL_law__634 : decode cL_law_ 634 = .ok (.iload 4, 2) := by decide +kernel
theorem dL_law__636 : decode cL_law_ 636 = .ok (.iconst 2, 1) := by decide +kernel
theorem dL_law__637 : decode cL_law_ 637 = .ok (.iadd, 1) := by decide +kernel
theorem dL_law__638 : decode cL_law_ 638 = .ok (.iaload, 1) := by decide +kernel
theorem dL_law__639 : decode cL_law_ 639 = .ok (.invokevirtual 161, 3) := by decide +kernel
theorem dL_law__642 : decode cL_law_ 642 = .ok (.istore 6, 2) := by decide +kernel
theorem dL_law__644 : decode cL_law_ 644 = .ok (.aload_n 2, 1) := by decide +kernel
theorem dL_law__645 : decode cL_law_ 645 = .ok (.invokevirtual 142, 3) := by decide +kernel
theorem dL_law__648 : decode cL_law_ 648 = .ok (.iload 5, 2) := by decide +kernel
theorem dL_law__650 : decode cL_law_ 650 = .ok (.if_icmp .eq 5, 3) := by decide +kernel
theorem dL_law__653 : decode cL_law_ 653 = .ok (.iconst 0, 1) := by decide +kernel
theorem dL_law__654 : decode cL_law_ 654 = .ok (.ireturn, 1) := by decide +kernel
theorem dL_law__655 : decode cL_law_ 655 = .ok (.iload 5, 2) := by decide +kernel
theorem dL_law__657 : decode cL_law_ 657 = .ok (.ifCond .ne 15, 3) := by decide +kernel
theorem dL_law__660 : decode cL_law_ 660 = .ok (.aload_n 3, 1) := by decide +kernel
theorem dL_law__661 : decode cL_law_ 661 = .ok (.iconst 0, 1) := by decide +kernel
theorem dL_law__662 : decode cL_law_ 662 = .ok (.laload, 1) := by decide +kernel
theorem dL_law__663 : decode cL_law_ 663 = .ok (.iload 6, 2) := by decide +kernel
theorem dL_law__665 : decode cL_law_ 665 = .ok (.i2l, 1) := by decide +kernel
theorem dL_law__666 : decode cL_law_ 666 = .ok (.lcmp, 1) := by decide +kernel
theorem dL_law__667 : decode cL_law_ 667 = .ok (.ifCond .eq 5, 3) := by decide +kernel
theorem dL_law__670 : decode cL_law_ 670 = .ok (.iconst 0, 1) := by decide +kernel
theorem dL_law__671 : decode cL_law_ 671 = .ok (.ireturn, 1) := by decide +kernel
theorem dL_law__672 : decode cL_law_ 672 = .ok (.goto 2120, 3) := by decide +kernel
theorem dL_law__675 : decode cL_law_ 675 = .ok (.aload_n 1, 1) := by decide +kernel
theorem dL_law__676 : decode cL_law_ 676 = .ok (.aload_n 0, 1) := by decide +kernel
theorem dL_law__677 : decode cL_law_ 677 = .ok (.iload 4, 2) := by decide +kernel
theorem dL_law__679 : decode cL_law_ 679 = .ok (.iconst 1, 1) := by decide +kernel
theorem dL_law__680 : decode cL_law_ 680 = .ok (.iadd, 1) := by decide +kernel
theorem dL_law__681 : decode cL_law_ 681 = .ok (.iaload, 1) := by decide +kernel
theorem dL_law__682 : decode cL_law_ 682 = .ok (.aload_n 0, 1) := by decide +kernel
theorem dL_law__683 : decode cL_law_ 683 = .ok (.iload 4, 2) := by decide +kernel
theorem dL_law__685 : decode cL_law_ 685 = .ok (.iconst 2, 1) := by decide +kernel
theorem dL_law__686 : decode cL_law_ 686 = .ok (.iadd, 1) := by decide +kernel
theorem dL_law__687 : decode cL_law_ 687 = .ok (.iaload, 1) := by decide +kernel
theorem dL_law__688 : decode cL_law_ 688 = .ok (.aload_n 3, 1) := by decide +kernel
theorem dL_law__689 : decode cL_law_ 689 = .ok (.invokestatic 162, 3) := by decide +kernel
theorem dL_law__692 : decode cL_law_ 692 = .ok (.istore 5, 2) := by decide +kernel
theorem dL_law__694 : decode cL_law_ 694 = .ok (.aload_n 2, 1) := by decide +kernel
theorem dL_law__695 : decode cL_law_ 695 = .ok (.aload_n 0, 1) := by decide +kernel
theorem dL_law__696 : decode cL_law_ 696 = .ok (.iload 4, 2) := by decide +kernel
theorem dL_law__698 : decode cL_law_ 698 = .ok (.iconst 1, 1) := by decide +kernel
theorem dL_law__699 : decode cL_law_ 699 = .ok (.iadd, 1) := by decide +kernel
theorem dL_law__700 : decode cL_law_ 700 = .ok (.iaload, 1) := by decide +kernel
theorem dL_law__701 : decode cL_law_ 701 = .ok (.aload_n 0, 1) := by decide +kernel
theorem dL_law__702 : decode cL_law_ 702 = .ok (.iload 4, 2) := by decide +kernel
theorem dL_law__704 : decode cL_law_ 704 = .ok (.iconst 2, 1) := by decide +kernel
theorem dL_law__705 : decode cL_law_ 705 = .ok (.iadd, 1) := by decide +kernel
theorem dL_law__706 : decode cL_law_ 706 = .ok (.iaload, 1) := by decide +kernel
theorem dL_law__707 : decode cL_law_ 707 = .ok (.invokevirtual 164, 3) := by decide +kernel
theorem dL_law__710 : decode cL_law_ 710 = .ok (.istore 6, 2) := by decide +kernel
theorem dL_law__712 : decode cL_law_ 712 = .ok (.aload_n 2, 1) := by decide +kernel
theorem dL_law__713 : decode cL_law_ 713 = .ok (.invokevirtual 142, 3) := by decide +kernel
theorem dL_law__716 : decode cL_law_ 716 = .ok (.iload 5, 2) := by decide +kernel
theorem dL_law__718 : decode cL_law_ 718 = .ok (.if_icmp .eq 5, 3) := by decide +kernel
theorem dL_law__721 : decode cL_law_ 721 = .ok (.iconst 0, 1) := by decide +kernel
theorem dL_law__722 : decode cL_law_ 722 = .ok (.ireturn, 1) := by decide +kernel
theorem dL_law__723 : decode cL_law_ 723 = .ok (.iload 5, 2) := by decide +kernel
theorem dL_law__725 : decode cL_law_ 725 = .ok (.ifCond .ne 15, 3) := by decide +kernel
theorem dL_law__728 : decode cL_law_ 728 = .ok (.aload_n 3, 1) := by decide +kernel
theorem dL_law__729 : decode cL_law_ 729 = .ok (.iconst 0, 1) := by decide +kernel
theorem dL_law__730 : decode cL_law_ 730 = .ok (.laload, 1) := by decide +kernel
theorem dL_law__731 : decode cL_law_ 731 = .ok (.iload 6, 2) := by decide +kernel
theorem dL_law__733 : decode cL_law_ 733 = .ok (.i2l, 1) := by decide +kernel
theorem dL_law__734 : decode cL_law_ 734 = .ok (.lcmp, 1) := by decide +kernel
theorem dL_law__735 : decode cL_law_ 735 = .ok (.ifCond .eq 5, 3) := by decide +kernel
theorem dL_law__738 : decode cL_law_ 738 = .ok (.iconst 0, 1) := by decide +kernel
theorem dL_law__739 : decode cL_law_ 739 = .ok (.ireturn, 1) := by decide +kernel
theorem dL_law__740 : decode cL_law_ 740 = .ok (.goto 2052, 3) := by decide +kernel
theorem dL_law__743 : decode cL_law_ 743 = .ok (.aload_n 1, 1) := by decide +kernel
theorem dL_law__744 : decode cL_law_ 744 = .ok (.aload_n 0, 1) := by decide +kernel
theorem dL_law__745 : decode cL_law_ 745 = .ok (.iload 4, 2) := by decide +kernel
theorem dL_law__747 : decode cL_law_ 747 = .ok (.iconst 1, 1) := by decide +kernel
theorem dL_law__748 : decode cL_law_ 748 = .ok (.iadd, 1) := by decide +kernel
theorem dL_law__749 : decode cL_law_ 749 = .ok (.iaload, 1) := by decide +kernel
theorem dL_law__750 : decode cL_law_ 750 = .ok (.aload_n 0, 1) := by decide +kernel
theorem dL_law__751 : decode cL_law_ 751 = .ok (.iload 4, 2) := by decide +kernel
theorem dL_law__753 : decode cL_law_ 753 = .ok (.iconst 2, 1) := by decide +kernel
theorem dL_law__754 : decode cL_law_ 754 = .ok (.iadd, 1) := by decide +kernel
theorem dL_law__755 : decode cL_law_ 755 = .ok (.iaload, 1) := by decide +kernel
theorem dL_law__756 : decode cL_law_ 756 = .ok (.aload_n 3, 1) := by decide +kernel
theorem dL_law__757 : decode cL_law_ 757 = .ok (.invokestatic 165, 3) := by decide +kernel
theorem dL_law__760 : decode cL_law_ 760 = .ok (.istore 5, 2) := by decide +kernel
theorem dL_law__762 : decode cL_law_ 762 = .ok (.aload_n 2, 1) := by decide +kernel
theorem dL_law__763 : decode cL_law_ 763 = .ok (.aload_n 0, 1) := by decide +kernel
theorem dL_law__764 : decode cL_law_ 764 = .ok (.iload 4, 2) := by decide +kernel
theorem dL_law__766 : decode cL_law_ 766 = .ok (.iconst 1, 1) := by decide +kernel
theorem dL_law__767 : decode cL_law_ 767 = .ok (.iadd, 1) := by decide +kernel
theorem dL_law__768 : decode cL_law_ 768 = .ok (.iaload, 1) := by decide +kernel
theorem dL_law__769 : decode cL_law_ 769 = .ok (.aload_n 0, 1) := by decide +kernel
theorem dL_law__770 : decode cL_law_ 770 = .ok (.iload 4, 2) := by decide +kernel
theorem dL_law__772 : decode cL_law_ 772 = .ok (.iconst 2, 1) := by decide +kernel
theorem dL_law__773 : decode cL_law_ 773 = .ok (.iadd, 1) := by decide +kernel
theorem dL_law__774 : decode cL_law_ 774 = .ok (.iaload, 1) := by decide +kernel
theorem dL_law__775 : decode cL_law_ 775 = .ok (.invokevirtual 167, 3) := by decide +kernel
theorem dL_law__778 : decode cL_law_ 778 = .ok (.istore 6, 2) := by decide +kernel
theorem dL_law__780 : decode cL_law_ 780 = .ok (.aload_n 2, 1) := by decide +kernel
theorem dL_law__781 : decode cL_law_ 781 = .ok (.invokevirtual 142, 3) := by decide +kernel
theorem dL_law__784 : decode cL_law_ 784 = .ok (.iload 5, 2) := by decide +kernel
theorem dL_law__786 : decode cL_law_ 786 = .ok (.if_icmp .eq 5, 3) := by decide +kernel
theorem dL_law__789 : decode cL_law_ 789 = .ok (.iconst 0, 1) := by decide +kernel
theorem dL_law__790 : decode cL_law_ 790 = .ok (.ireturn, 1) := by decide +kernel
theorem dL_law__791 : decode cL_law_ 791 = .ok (.iload 5, 2) := by decide +kernel
theorem dL_law__793 : decode cL_law_ 793 = .ok (.ifCond .ne 22, 3) := by decide +kernel
theorem dL_law__796 : decode cL_law_ 796 = .ok (.aload_n 3, 1) := by decide +kernel
theorem dL_law__797 : decode cL_law_ 797 = .ok (.iconst 0, 1) := by decide +kernel
theorem dL_law__798 : decode cL_law_ 798 = .ok (.laload, 1) := by decide +kernel
theorem dL_law__799 : decode cL_law_ 799 = .ok (.iload 6, 2) := by decide +kernel
theorem dL_law__801 : decode cL_law_ 801 = .ok (.ifCond .eq 7, 3) := by decide +kernel
theorem dL_law__804 : decode cL_law_ 804 = .ok (.lconst 1, 1) := by decide +kernel
theorem dL_law__805 : decode cL_law_ 805 = .ok (.goto 4, 3) := by decide +kernel
theorem dL_law__808 : decode cL_law_ 808 = .ok (.lconst 0, 1) := by decide +kernel
theorem dL_law__809 : decode cL_law_ 809 = .ok (.lcmp, 1) := by decide +kernel
theorem dL_law__810 : decode cL_law_ 810 = .ok (.ifCond .eq 5, 3) := by decide +kernel
theorem dL_law__813 : decode cL_law_ 813 = .ok (.iconst 0, 1) := by decide +kernel
theorem dL_law__814 : decode cL_law_ 814 = .ok (.ireturn, 1) := by decide +kernel
theorem dL_law__815 : decode cL_law_ 815 = .ok (.goto 1977, 3) := by decide +kernel
theorem dL_law__818 : decode cL_law_ 818 = .ok (.aload_n 1, 1) := by decide +kernel
theorem dL_law__819 : decode cL_law_ 819 = .ok (.aload_n 0, 1) := by decide +kernel
theorem dL_law__820 : decode cL_law_ 820 = .ok (.iload 4, 2) := by decide +kernel
theorem dL_law__822 : decode cL_law_ 822 = .ok (.iconst 1, 1) := by decide +kernel
theorem dL_law__823 : decode cL_law_ 823 = .ok (.iadd, 1) := by decide +kernel
theorem dL_law__824 : decode cL_law_ 824 = .ok (.iaload, 1) := by decide +kernel
theorem dL_law__825 : decode cL_law_ 825 = .ok (.aload_n 0, 1) := by decide +kernel
theorem dL_law__826 : decode cL_law_ 826 = .ok (.iload 4, 2) := by decide +kernel
theorem dL_law__828 : decode cL_law_ 828 = .ok (.iconst 2, 1) := by decide +kernel
theorem dL_law__829 : decode cL_law_ 829 = .ok (.iadd, 1) := by decide +kernel
theorem dL_law__830 : decode cL_law_ 830 = .ok (.iaload, 1) := by decide +kernel
theorem dL_law__831 : decode cL_law_ 831 = .ok (.aload_n 3, 1) := by decide +kernel
theorem dL_law__832 : decode cL_law_ 832 = .ok (.invokestatic 168, 3) := by decide +kernel
theorem dL_law__835 : decode cL_law_ 835 = .ok (.istore 5, 2) := by decide +kernel
theorem dL_law__837 : decode cL_law_ 837 = .ok (.aload_n 2, 1) := by decide +kernel
theorem dL_law__838 : decode cL_law_ 838 = .ok (.aload_n 0, 1) := by decide +kernel
theorem dL_law__839 : decode cL_law_ 839 = .ok (.iload 4, 2) := by decide +kernel
theorem dL_law__841 : decode cL_law_ 841 = .ok (.iconst 1, 1) := by decide +kernel
theorem dL_law__842 : decode cL_law_ 842 = .ok (.iadd, 1) := by decide +kernel
theorem dL_law__843 : decode cL_law_ 843 = .ok (.iaload, 1) := by decide +kernel
theorem dL_law__844 : decode cL_law_ 844 = .ok (.aload_n 0, 1) := by decide +kernel
theorem dL_law__845 : decode cL_law_ 845 = .ok (.iload 4, 2) := by decide +kernel
theorem dL_law__847 : decode cL_law_ 847 = .ok (.iconst 2, 1) := by decide +kernel
theorem dL_law__848 : decode cL_law_ 848 = .ok (.iadd, 1) := by decide +kernel
theorem dL_law__849 : decode cL_law_ 849 = .ok (.iaload, 1) := by decide +kernel
theorem dL_law__850 : decode cL_law_ 850 = .ok (.invokevirtual 170, 3) := by decide +kernel
theorem dL_law__853 : decode cL_law_ 853 = .ok (.istore 6, 2) := by decide +kernel
theorem dL_law__855 : decode cL_law_ 855 = .ok (.aload_n 2, 1) := by decide +kernel
theorem dL_law__856 : decode cL_law_ 856 = .ok (.invokevirtual 142, 3) := by decide +kernel
theorem dL_law__859 : decode cL_law_ 859 = .ok (.iload 5, 2) := by decide +kernel
theorem dL_law__861 : decode cL_law_ 861 = .ok (.if_icmp .eq 5, 3) := by decide +kernel
theorem dL_law__864 : decode cL_law_ 864 = .ok (.iconst 0, 1) := by decide +kernel
theorem dL_law__865 : decode cL_law_ 865 = .ok (.ireturn, 1) := by decide +kernel
theorem dL_law__866 : decode cL_law_ 866 = .ok (.iload 5, 2) := by decide +kernel
theorem dL_law__868 : decode cL_law_ 868 = .ok (.ifCond .ne 22, 3) := by decide +kernel
theorem dL_law__871 : decode cL_law_ 871 = .ok (.aload_n 3, 1) := by decide +kernel
theorem dL_law__872 : decode cL_law_ 872 = .ok (.iconst 0, 1) := by decide +kernel
theorem dL_law__873 : decode cL_law_ 873 = .ok (.laload, 1) := by decide +kernel
theorem dL_law__874 : decode cL_law_ 874 = .ok (.iload 6, 2) := by decide +kernel
theorem dL_law__876 : decode cL_law_ 876 = .ok (.ifCond .eq 7, 3) := by decide +kernel
theorem dL_law__879 : decode cL_law_ 879 = .ok (.lconst 1, 1) := by decide +kernel
theorem dL_law__880 : decode cL_law_ 880 = .ok (.goto 4, 3) := by decide +kernel
theorem dL_law__883 : decode cL_law_ 883 = .ok (.lconst 0, 1) := by decide +kernel
theorem dL_law__884 : decode cL_law_ 884 = .ok (.lcmp, 1) := by decide +kernel
theorem dL_law__885 : decode cL_law_ 885 = .ok (.ifCond .eq 5, 3) := by decide +kernel
theorem dL_law__888 : decode cL_law_ 888 = .ok (.iconst 0, 1) := by decide +kernel
theorem dL_law__889 : decode cL_law_ 889 = .ok (.ireturn, 1) := by decide +kernel
theorem dL_law__890 : decode cL_law_ 890 = .ok (.goto 1902, 3) := by decide +kernel
theorem dL_law__893 : decode cL_law_ 893 = .ok (.aload_n 1, 1) := by decide +kernel
theorem dL_law__894 : decode cL_law_ 894 = .ok (.aload_n 0, 1) := by decide +kernel
theorem dL_law__895 : decode cL_law_ 895 = .ok (.iload 4, 2) := by decide +kernel
theorem dL_law__897 : decode cL_law_ 897 = .ok (.iconst 1, 1) := by decide +kernel
theorem dL_law__898 : decode cL_law_ 898 = .ok (.iadd, 1) := by decide +kernel
theorem dL_law__899 : decode cL_law_ 899 = .ok (.iaload, 1) := by decide +kernel
theorem dL_law__900 : decode cL_law_ 900 = .ok (.aload_n 3, 1) := by decide +kernel
theorem dL_law__901 : decode cL_law_ 901 = .ok (.invokestatic 171, 3) := by decide +kernel
theorem dL_law__904 : decode cL_law_ 904 = .ok (.istore 5, 2) := by decide +kernel
theorem dL_law__906 : decode cL_law_ 906 = .ok (.aload_n 2, 1) := by decide +kernel
theorem dL_law__907 : decode cL_law_ 907 = .ok (.aload_n 0, 1) := by decide +kernel
theorem dL_law__908 : decode cL_law_ 908 = .ok (.iload 4, 2) := by decide +kernel
theorem dL_law__910 : decode cL_law_ 910 = .ok (.iconst 1, 1) := by decide +kernel
theorem dL_law__911 : decode cL_law_ 911 = .ok (.iadd, 1) := by decide +kernel
theorem dL_law__912 : decode cL_law_ 912 = .ok (.iaload, 1) := by decide +kernel
theorem dL_law__913 : decode cL_law_ 913 = .ok (.invokevirtual 174, 3) := by decide +kernel
theorem dL_law__916 : decode cL_law_ 916 = .ok (.istore 6, 2) := by decide +kernel
theorem dL_law__918 : decode cL_law_ 918 = .ok (.aload_n 2, 1) := by decide +kernel
theorem dL_law__919 : decode cL_law_ 919 = .ok (.invokevirtual 142, 3) := by decide +kernel
theorem dL_law__922 : decode cL_law_ 922 = .ok (.iload 5, 2) := by decide +kernel
theorem dL_law__924 : decode cL_law_ 924 = .ok (.if_icmp .eq 5, 3) := by decide +kernel
theorem dL_law__927 : decode cL_law_ 927 = .ok (.iconst 0, 1) := by decide +kernel
theorem dL_law__928 : decode cL_law_ 928 = .ok (.ireturn, 1) := by decide +kernel
theorem dL_law__929 : decode cL_law_ 929 = .ok (.iload 5, 2) := by decide +kernel
theorem dL_law__931 : decode cL_law_ 931 = .ok (.ifCond .ne 15, 3) := by decide +kernel
theorem dL_law__934 : decode cL_law_ 934 = .ok (.aload_n 3, 1) := by decide +kernel
theorem dL_law__935 : decode cL_law_ 935 = .ok (.iconst 0, 1) := by decide +kernel
theorem dL_law__936 : decode cL_law_ 936 = .ok (.laload, 1) := by decide +kernel
theorem dL_law__937 : decode cL_law_ 937 = .ok (.iload 6, 2) := by decide +kernel
theorem dL_law__939 : decode cL_law_ 939 = .ok (.i2l, 1) := by decide +kernel
theorem dL_law__940 : decode cL_law_ 940 = .ok (.lcmp, 1) := by decide +kernel
theorem dL_law__941 : decode cL_law_ 941 = .ok (.ifCond .eq 5, 3) := by decide +kernel
theorem dL_law__944 : decode cL_law_ 944 = .ok (.iconst 0, 1) := by decide +kernel
theorem dL_law__945 : decode cL_law_ 945 = .ok (.ireturn, 1) := by decide +kernel
theorem dL_law__946 : decode cL_law_ 946 = .ok (.goto 1846, 3) := by decide +kernel
theorem dL_law__949 : decode cL_law_ 949 = .ok (.aload_n 1, 1) := by decide +kernel
theorem dL_law__950 : decode cL_law_ 950 = .ok (.aload_n 0, 1) := by decide +kernel
theorem dL_law__951 : decode cL_law_ 951 = .ok (.iload 4, 2) := by decide +kernel
theorem dL_law__953 : decode cL_law_ 953 = .ok (.iconst 1, 1) := by decide +kernel
theorem dL_law__954 : decode cL_law_ 954 = .ok (.iadd, 1) := by decide +kernel
theorem dL_law__955 : decode cL_law_ 955 = .ok (.iaload, 1) := by decide +kernel
theorem dL_law__956 : decode cL_law_ 956 = .ok (.aload_n 0, 1) := by decide +kernel
theorem dL_law__957 : decode cL_law_ 957 = .ok (.iload 4, 2) := by decide +kernel
theorem dL_law__959 : decode cL_law_ 959 = .ok (.iconst 2, 1) := by decide +kernel
theorem dL_law__960 : decode cL_law_ 960 = .ok (.iadd, 1) := by decide +kernel
theorem dL_law__961 : decode cL_law_ 961 = .ok (.iaload, 1) := by decide +kernel
theorem dL_law__962 : decode cL_law_ 962 = .ok (.aload_n 3, 1) := by decide +kernel
theorem dL_law__963 : decode cL_law_ 963 = .ok (.invokestatic 175, 3) := by decide +kernel
theorem dL_law__966 : decode cL_law_ 966 = .ok (.istore 5, 2) := by decide +kernel
theorem dL_law__968 : decode cL_law_ 968 = .ok (.aload_n 2, 1) := by decide +kernel
theorem dL_law__969 : decode cL_law_ 969 = .ok (.aload_n 0, 1) := by decide +kernel
theorem dL_law__970 : decode cL_law_ 970 = .ok (.iload 4, 2) := by decide +kernel
theorem dL_law__972 : decode cL_law_ 972 = .ok (.iconst 1, 1) := by decide +kernel
theorem dL_law__973 : decode cL_law_ 973 = .ok (.iadd, 1) := by decide +kernel
theorem dL_law__974 : decode cL_law_ 974 = .ok (.iaload, 1) := by decide +kernel
theorem dL_law__975 : decode cL_law_ 975 = .ok (.aload_n 0, 1) := by decide +kernel
theorem dL_law__976 : decode cL_law_ 976 = .ok (.iload 4, 2) := by decide +kernel
theorem dL_law__978 : decode cL_law_ 978 = .ok (.iconst 2, 1) := by decide +kernel
theorem dL_law__979 : decode cL_law_ 979 = .ok (.iadd, 1) := by decide +kernel
theorem dL_law__980 : decode cL_law_ 980 = .ok (.iaload, 1) := by decide +kernel
theorem dL_law__981 : decode cL_law_ 981 = .ok (.invokevirtual 177, 3) := by decide +kernel
theorem dL_law__984 : decode cL_law_ 984 = .ok (.istore 6, 2) := by decide +kernel
theorem dL_law__986 : decode cL_law_ 986 = .ok (.aload_n 2, 1) := by decide +kernel
theorem dL_law__987 : decode cL_law_ 987 = .ok (.invokevirtual 142, 3) := by decide +kernel
theorem dL_law__990 : decode cL_law_ 990 = .ok (.iload 5, 2) := by decide +kernel
theorem dL_law__992 : decode cL_law_ 992 = .ok (.if_icmp .eq 5, 3) := by decide +kernel
theorem dL_law__995 : decode cL_law_ 995 = .ok (.iconst 0, 1) := by decide +kernel
theorem dL_law__996 : decode cL_law_ 996 = .ok (.ireturn, 1) := by decide +kernel
theorem dL_law__997 : decode cL_law_ 997 = .ok (.iload 5, 2) := by decide +kernel
theorem dL_law__999 : decode cL_law_ 999 = .ok (.ifCond .ne 15, 3) := by decide +kernel
theorem dL_law__1002 : decode cL_law_ 1002 = .ok (.aload_n 3, 1) := by decide +kernel
theorem dL_law__1003 : decode cL_law_ 1003 = .ok (.iconst 0, 1) := by decide +kernel
theorem dL_law__1004 : decode cL_law_ 1004 = .ok (.laload, 1) := by decide +kernel
theorem dL_law__1005 : decode cL_law_ 1005 = .ok (.iload 6, 2) := by decide +kernel
theorem dL_law__1007 : decode cL_law_ 1007 = .ok (.i2l, 1) := by decide +kernel
theorem dL_law__1008 : decode cL_law_ 1008 = .ok (.lcmp, 1) := by decide +kernel
theorem dL_law__1009 : decode cL_law_ 1009 = .ok (.ifCond .eq 5, 3) := by decide +kernel
theorem dL_law__1012 : decode cL_law_ 1012 = .ok (.iconst 0, 1) := by decide +kernel
theorem dL_law__1013 : decode cL_law_ 1013 = .ok (.ireturn, 1) := by decide +kernel
theorem dL_law__1014 : decode cL_law_ 1014 = .ok (.goto 1778, 3) := by decide +kernel
theorem dL_law__1017 : decode cL_law_ 1017 = .ok (.aload_n 1, 1) := by decide +kernel
theorem dL_law__1018 : decode cL_law_ 1018 = .ok (.aload_n 0, 1) := by decide +kernel
theorem dL_law__1019 : decode cL_law_ 1019 = .ok (.iload 4, 2) := by decide +kernel
theorem dL_law__1021 : decode cL_law_ 1021 = .ok (.iconst 1, 1) := by decide +kernel
theorem dL_law__1022 : decode cL_law_ 1022 = .ok (.iadd, 1) := by decide +kernel
theorem dL_law__1023 : decode cL_law_ 1023 = .ok (.iaload, 1) := by decide +kernel
theorem dL_law__1024 : decode cL_law_ 1024 = .ok (.aload_n 3, 1) := by decide +kernel
theorem dL_law__1025 : decode cL_law_ 1025 = .ok (.invokestatic 178, 3) := by decide +kernel
theorem dL_law__1028 : decode cL_law_ 1028 = .ok (.istore 5, 2) := by decide +kernel
theorem dL_law__1030 : decode cL_law_ 1030 = .ok (.aload_n 2, 1) := by decide +kernel
theorem dL_law__1031 : decode cL_law_ 1031 = .ok (.aload_n 0, 1) := by decide +kernel
theorem dL_law__1032 : decode cL_law_ 1032 = .ok (.iload 4, 2) := by decide +kernel
theorem dL_law__1034 : decode cL_law_ 1034 = .ok (.iconst 1, 1) := by decide +kernel
theorem dL_law__1035 : decode cL_law_ 1035 = .ok (.iadd, 1) := by decide +kernel
theorem dL_law__1036 : decode cL_law_ 1036 = .ok (.iaload, 1) := by decide +kernel
theorem dL_law__1037 : decode cL_law_ 1037 = .ok (.invokevirtual 180, 3) := by decide +kernel
theorem dL_law__1040 : decode cL_law_ 1040 = .ok (.istore 6, 2) := by decide +kernel
theorem dL_law__1042 : decode cL_law_ 1042 = .ok (.aload_n 2, 1) := by decide +kernel
theorem dL_law__1043 : decode cL_law_ 1043 = .ok (.invokevirtual 142, 3) := by decide +kernel
theorem dL_law__1046 : decode cL_law_ 1046 = .ok (.iload 5, 2) := by decide +kernel
theorem dL_law__1048 : decode cL_law_ 1048 = .ok (.if_icmp .eq 5, 3) := by decide +kernel
theorem dL_law__1051 : decode cL_law_ 1051 = .ok (.iconst 0, 1) := by decide +kernel
theorem dL_law__1052 : decode cL_law_ 1052 = .ok (.ireturn, 1) := by decide +kernel
theorem dL_law__1053 : decode cL_law_ 1053 = .ok (.iload 5, 2) := by decide +kernel
theorem dL_law__1055 : decode cL_law_ 1055 = .ok (.ifCond .ne 15, 3) := by decide +kernel
theorem dL_law__1058 : decode cL_law_ 1058 = .ok (.aload_n 3, 1) := by decide +kernel
theorem dL_law__1059 : decode cL_law_ 1059 = .ok (.iconst 0, 1) := by decide +kernel
theorem dL_law__1060 : decode cL_law_ 1060 = .ok (.laload, 1) := by decide +kernel
theorem dL_law__1061 : decode cL_law_ 1061 = .ok (.iload 6, 2) := by decide +kernel
theorem dL_law__1063 : decode cL_law_ 1063 = .ok (.i2l, 1) := by decide +kernel
theorem dL_law__1064 : decode cL_law_ 1064 = .ok (.lcmp, 1) := by decide +kernel
theorem dL_law__1065 : decode cL_law_ 1065 = .ok (.ifCond .eq 5, 3) := by decide +kernel
theorem dL_law__1068 : decode cL_law_ 1068 = .ok (.iconst 0, 1) := by decide +kernel
theorem dL_law__1069 : decode cL_law_ 1069 = .ok (.ireturn, 1) := by decide +kernel
theorem dL_law__1070 : decode cL_law_ 1070 = .ok (.goto 1722, 3) := by decide +kernel
theorem dL_law__1073 : decode cL_law_ 1073 = .ok (.aload_n 1, 1) := by decide +kernel
theorem dL_law__1074 : decode cL_law_ 1074 = .ok (.aload_n 0, 1) := by decide +kernel
theorem dL_law__1075 : decode cL_law_ 1075 = .ok (.iload 4, 2) := by decide +kernel
theorem dL_law__1077 : decode cL_law_ 1077 = .ok (.iconst 1, 1) := by decide +kernel
theorem dL_law__1078 : decode cL_law_ 1078 = .ok (.iadd, 1) := by decide +kernel
theorem dL_law__1079 : decode cL_law_ 1079 = .ok (.iaload, 1) := by decide +kernel
theorem dL_law__1080 : decode cL_law_ 1080 = .ok (.aload_n 3, 1) := by decide +kernel
theorem dL_law__1081 : decode cL_law_ 1081 = .ok (.invokestatic 181, 3) := by decide +kernel
theorem dL_law__1084 : decode cL_law_ 1084 = .ok (.istore 5, 2) := by decide +kernel
theorem dL_law__1086 : decode cL_law_ 1086 = .ok (.aload_n 2, 1) := by decide +kernel
theorem dL_law__1087 : decode cL_law_ 1087 = .ok (.aload_n 0, 1) := by decide +kernel
theorem dL_law__1088 : decode cL_law_ 1088 = .ok (.iload 4, 2) := by decide +kernel
theorem dL_law__1090 : decode cL_law_ 1090 = .ok (.iconst 1, 1) := by decide +kernel
theorem dL_law__1091 : decode cL_law_ 1091 = .ok (.iadd, 1) := by decide +kernel
theorem dL_law__1092 : decode cL_law_ 1092 = .ok (.iaload, 1) := by decide +kernel
theorem dL_law__1093 : decode cL_law_ 1093 = .ok (.invokevirtual 183, 3) := by decide +kernel
theorem dL_law__1096 : decode cL_law_ 1096 = .ok (.istore 6, 2) := by decide +kernel
theorem dL_law__1098 : decode cL_law_ 1098 = .ok (.aload_n 2, 1) := by decide +kernel
theorem dL_law__1099 : decode cL_law_ 1099 = .ok (.invokevirtual 142, 3) := by decide +kernel
theorem dL_law__1102 : decode cL_law_ 1102 = .ok (.iload 5, 2) := by decide +kernel
theorem dL_law__1104 : decode cL_law_ 1104 = .ok (.if_icmp .eq 5, 3) := by decide +kernel
theorem dL_law__1107 : decode cL_law_ 1107 = .ok (.iconst 0, 1) := by decide +kernel
theorem dL_law__1108 : decode cL_law_ 1108 = .ok (.ireturn, 1) := by decide +kernel
theorem dL_law__1109 : decode cL_law_ 1109 = .ok (.iload 5, 2) := by decide +kernel
theorem dL_law__1111 : decode cL_law_ 1111 = .ok (.ifCond .ne 15, 3) := by decide +kernel
theorem dL_law__1114 : decode cL_law_ 1114 = .ok (.aload_n 3, 1) := by decide +kernel
theorem dL_law__1115 : decode cL_law_ 1115 = .ok (.iconst 0, 1) := by decide +kernel
theorem dL_law__1116 : decode cL_law_ 1116 = .ok (.laload, 1) := by decide +kernel
theorem dL_law__1117 : decode cL_law_ 1117 = .ok (.iload 6, 2) := by decide +kernel
theorem dL_law__1119 : decode cL_law_ 1119 = .ok (.i2l, 1) := by decide +kernel
theorem dL_law__1120 : decode cL_law_ 1120 = .ok (.lcmp, 1) := by decide +kernel
theorem dL_law__1121 : decode cL_law_ 1121 = .ok (.ifCond .eq 5, 3) := by decide +kernel
theorem dL_law__1124 : decode cL_law_ 1124 = .ok (.iconst 0, 1) := by decide +kernel
theorem dL_law__1125 : decode cL_law_ 1125 = .ok (.ireturn, 1) := by decide +kernel
theorem dL_law__1126 : decode cL_law_ 1126 = .ok (.goto 1666, 3) := by decide +kernel
theorem dL_law__1129 : decode cL_law_ 1129 = .ok (.aload_n 1, 1) := by decide +kernel
theorem dL_law__1130 : decode cL_law_ 1130 = .ok (.aload_n 0, 1) := by decide +kernel
theorem dL_law__1131 : decode cL_law_ 1131 = .ok (.iload 4, 2) := by decide +kernel
theorem dL_law__1133 : decode cL_law_ 1133 = .ok (.iconst 1, 1) := by decide +kernel
theorem dL_law__1134 : decode cL_law_ 1134 = .ok (.iadd, 1) := by decide +kernel
theorem dL_law__1135 : decode cL_law_ 1135 = .ok (.iaload, 1) := by decide +kernel
theorem dL_law__1136 : decode cL_law_ 1136 = .ok (.aload_n 0, 1) := by decide +kernel
theorem dL_law__1137 : decode cL_law_ 1137 = .ok (.iload 4, 2) := by decide +kernel
theorem dL_law__1139 : decode cL_law_ 1139 = .ok (.iconst 2, 1) := by decide +kernel
theorem dL_law__1140 : decode cL_law_ 1140 = .ok (.iadd, 1) := by decide +kernel
theorem dL_law__1141 : decode cL_law_ 1141 = .ok (.iaload, 1) := by decide +kernel
theorem dL_law__1142 : decode cL_law_ 1142 = .ok (.aload_n 3, 1) := by decide +kernel
theorem dL_law__1143 : decode cL_law_ 1143 = .ok (.invokestatic 184, 3) := by decide +kernel
theorem dL_law__1146 : decode cL_law_ 1146 = .ok (.istore 5, 2) := by decide +kernel
theorem dL_law__1148 : decode cL_law_ 1148 = .ok (.aload_n 2, 1) := by decide +kernel
theorem dL_law__1149 : decode cL_law_ 1149 = .ok (.aload_n 0, 1) := by decide +kernel
theorem dL_law__1150 : decode cL_law_ 1150 = .ok (.iload 4, 2) := by decide +kernel
theorem dL_law__1152 : decode cL_law_ 1152 = .ok (.iconst 1, 1) := by decide +kernel
theorem dL_law__1153 : decode cL_law_ 1153 = .ok (.iadd, 1) := by decide +kernel
theorem dL_law__1154 : decode cL_law_ 1154 = .ok (.iaload, 1) := by decide +kernel
theorem dL_law__1155 : decode cL_law_ 1155 = .ok (.aload_n 0, 1) := by decide +kernel
theorem dL_law__1156 : decode cL_law_ 1156 = .ok (.iload 4, 2) := by decide +kernel
theorem dL_law__1158 : decode cL_law_ 1158 = .ok (.iconst 2, 1) := by decide +kernel
theorem dL_law__1159 : decode cL_law_ 1159 = .ok (.iadd, 1) := by decide +kernel
theorem dL_law__1160 : decode cL_law_ 1160 = .ok (.iaload, 1) := by decide +kernel
theorem dL_law__1161 : decode cL_law_ 1161 = .ok (.invokevirtual 186, 3) := by decide +kernel
theorem dL_law__1164 : decode cL_law_ 1164 = .ok (.istore 6, 2) := by decide +kernel
theorem dL_law__1166 : decode cL_law_ 1166 = .ok (.aload_n 2, 1) := by decide +kernel
theorem dL_law__1167 : decode cL_law_ 1167 = .ok (.invokevirtual 142, 3) := by decide +kernel
theorem dL_law__1170 : decode cL_law_ 1170 = .ok (.iload 5, 2) := by decide +kernel
theorem dL_law__1172 : decode cL_law_ 1172 = .ok (.if_icmp .eq 5, 3) := by decide +kernel
theorem dL_law__1175 : decode cL_law_ 1175 = .ok (.iconst 0, 1) := by decide +kernel
theorem dL_law__1176 : decode cL_law_ 1176 = .ok (.ireturn, 1) := by decide +kernel
theorem dL_law__1177 : decode cL_law_ 1177 = .ok (.iload 5, 2) := by decide +kernel
theorem dL_law__1179 : decode cL_law_ 1179 = .ok (.ifCond .ne 15, 3) := by decide +kernel
theorem dL_law__1182 : decode cL_law_ 1182 = .ok (.aload_n 3, 1) := by decide +kernel
theorem dL_law__1183 : decode cL_law_ 1183 = .ok (.iconst 0, 1) := by decide +kernel
theorem dL_law__1184 : decode cL_law_ 1184 = .ok (.laload, 1) := by decide +kernel
theorem dL_law__1185 : decode cL_law_ 1185 = .ok (.iload 6, 2) := by decide +kernel
theorem dL_law__1187 : decode cL_law_ 1187 = .ok (.i2l, 1) := by decide +kernel
theorem dL_law__1188 : decode cL_law_ 1188 = .ok (.lcmp, 1) := by decide +kernel
theorem dL_law__1189 : decode cL_law_ 1189 = .ok (.ifCond .eq 5, 3) := by decide +kernel
theorem dL_law__1192 : decode cL_law_ 1192 = .ok (.iconst 0, 1) := by decide +kernel
theorem dL_law__1193 : decode cL_law_ 1193 = .ok (.ireturn, 1) := by decide +kernel
theorem dL_law__1194 : decode cL_law_ 1194 = .ok (.goto 1598, 3) := by decide +kernel
theorem dL_law__1197 : decode cL_law_ 1197 = .ok (.aload_n 1, 1) := by decide +kernel
theorem dL_law__1198 : decode cL_law_ 1198 = .ok (.aload_n 0, 1) := by decide +kernel
theorem dL_law__1199 : decode cL_law_ 1199 = .ok (.iload 4, 2) := by decide +kernel
theorem dL_law__1201 : decode cL_law_ 1201 = .ok (.iconst 1, 1) := by decide +kernel
theorem dL_law__1202 : decode cL_law_ 1202 = .ok (.iadd, 1) := by decide +kernel
theorem dL_law__1203 : decode cL_law_ 1203 = .ok (.iaload, 1) := by decide +kernel
theorem dL_law__1204 : decode cL_law_ 1204 = .ok (.aload_n 0, 1) := by decide +kernel
theorem dL_law__1205 : decode cL_law_ 1205 = .ok (.iload 4, 2) := by decide +kernel
theorem dL_law__1207 : decode cL_law_ 1207 = .ok (.iconst 2, 1) := by decide +kernel
theorem dL_law__1208 : decode cL_law_ 1208 = .ok (.iadd, 1) := by decide +kernel
theorem dL_law__1209 : decode cL_law_ 1209 = .ok (.iaload, 1) := by decide +kernel
theorem dL_law__1210 : decode cL_law_ 1210 = .ok (.aload_n 3, 1) := by decide +kernel
theorem dL_law__1211 : decode cL_law_ 1211 = .ok (.invokestatic 187, 3) := by decide +kernel
theorem dL_law__1214 : decode cL_law_ 1214 = .ok (.istore 5, 2) := by decide +kernel
theorem dL_law__1216 : decode cL_law_ 1216 = .ok (.aload_n 2, 1) := by decide +kernel
theorem dL_law__1217 : decode cL_law_ 1217 = .ok (.aload_n 0, 1) := by decide +kernel
theorem dL_law__1218 : decode cL_law_ 1218 = .ok (.iload 4, 2) := by decide +kernel
theorem dL_law__1220 : decode cL_law_ 1220 = .ok (.iconst 1, 1) := by decide +kernel
theorem dL_law__1221 : decode cL_law_ 1221 = .ok (.iadd, 1) := by decide +kernel
theorem dL_law__1222 : decode cL_law_ 1222 = .ok (.iaload, 1) := by decide +kernel
theorem dL_law__1223 : decode cL_law_ 1223 = .ok (.aload_n 0, 1) := by decide +kernel
theorem dL_law__1224 : decode cL_law_ 1224 = .ok (.iload 4, 2) := by decide +kernel
theorem dL_law__1226 : decode cL_law_ 1226 = .ok (.iconst 2, 1) := by decide +kernel
theorem dL_law__1227 : decode cL_law_ 1227 = .ok (.iadd, 1) := by decide +kernel
theorem dL_law__1228 : decode cL_law_ 1228 = .ok (.iaload, 1) := by decide +kernel
theorem dL_law__1229 : decode cL_law_ 1229 = .ok (.invokevirtual 189, 3) := by decide +kernel
theorem dL_law__1232 : decode cL_law_ 1232 = .ok (.istore 6, 2) := by decide +kernel
theorem dL_law__1234 : decode cL_law_ 1234 = .ok (.aload_n 2, 1) := by decide +kernel
theorem dL_law__1235 : decode cL_law_ 1235 = .ok (.invokevirtual 142, 3) := by decide +kernel
theorem dL_law__1238 : decode cL_law_ 1238 = .ok (.iload 5, 2) := by decide +kernel
theorem dL_law__1240 : decode cL_law_ 1240 = .ok (.if_icmp .eq 5, 3) := by decide +kernel
theorem dL_law__1243 : decode cL_law_ 1243 = .ok (.iconst 0, 1) := by decide +kernel
theorem dL_law__1244 : decode cL_law_ 1244 = .ok (.ireturn, 1) := by decide +kernel
theorem dL_law__1245 : decode cL_law_ 1245 = .ok (.iload 5, 2) := by decide +kernel
theorem dL_law__1247 : decode cL_law_ 1247 = .ok (.ifCond .ne 15, 3) := by decide +kernel
theorem dL_law__1250 : decode cL_law_ 1250 = .ok (.aload_n 3, 1) := by decide +kernel
theorem dL_law__1251 : decode cL_law_ 1251 = .ok (.iconst 0, 1) := by decide +kernel
theorem dL_law__1252 : decode cL_law_ 1252 = .ok (.laload, 1) := by decide +kernel
theorem dL_law__1253 : decode cL_law_ 1253 = .ok (.iload 6, 2) := by decide +kernel
theorem dL_law__1255 : decode cL_law_ 1255 = .ok (.i2l, 1) := by decide +kernel
theorem dL_law__1256 : decode cL_law_ 1256 = .ok (.lcmp, 1) := by decide +kernel
theorem dL_law__1257 : decode cL_law_ 1257 = .ok (.ifCond .eq 5, 3) := by decide +kernel
theorem dL_law__1260 : decode cL_law_ 1260 = .ok (.iconst 0, 1) := by decide +kernel
theorem dL_law__1261 : decode cL_law_ 1261 = .ok (.ireturn, 1) := by decide +kernel
theorem dL_law__1262 : decode cL_law_ 1262 = .ok (.goto 1530, 3) := by decide +kernel
theorem dL_law__1265 : decode cL_law_ 1265 = .ok (.aload_n 1, 1) := by decide +kernel
theorem dL_law__1266 : decode cL_law_ 1266 = .ok (.aload_n 0, 1) := by decide +kernel
theorem dL_law__1267 : decode cL_law_ 1267 = .ok (.iload 4, 2) := by decide +kernel
theorem dL_law__1269 : decode cL_law_ 1269 = .ok (.iconst 1, 1) := by decide +kernel
theorem dL_law__1270 : decode cL_law_ 1270 = .ok (.iadd, 1) := by decide +kernel
theorem dL_law__1271 : decode cL_law_ 1271 = .ok (.iaload, 1) := by decide +kernel
theorem dL_law__1272 : decode cL_law_ 1272 = .ok (.aload_n 0, 1) := by decide +kernel
theorem dL_law__1273 : decode cL_law_ 1273 = .ok (.iload 4, 2) := by decide +kernel
theorem dL_law__1275 : decode cL_law_ 1275 = .ok (.iconst 2, 1) := by decide +kernel
theorem dL_law__1276 : decode cL_law_ 1276 = .ok (.iadd, 1) := by decide +kernel
theorem dL_law__1277 : decode cL_law_ 1277 = .ok (.iaload, 1) := by decide +kernel
theorem dL_law__1278 : decode cL_law_ 1278 = .ok (.aload_n 0, 1) := by decide +kernel
theorem dL_law__1279 : decode cL_law_ 1279 = .ok (.iload 4, 2) := by decide +kernel
theorem dL_law__1281 : decode cL_law_ 1281 = .ok (.iconst 3, 1) := by decide +kernel
theorem dL_law__1282 : decode cL_law_ 1282 = .ok (.iadd, 1) := by decide +kernel
theorem dL_law__1283 : decode cL_law_ 1283 = .ok (.iaload, 1) := by decide +kernel
theorem dL_law__1284 : decode cL_law_ 1284 = .ok (.aload_n 3, 1) := by decide +kernel
theorem dL_law__1285 : decode cL_law_ 1285 = .ok (.invokestatic 190, 3) := by decide +kernel
theorem dL_law__1288 : decode cL_law_ 1288 = .ok (.istore 5, 2) := by decide +kernel
theorem dL_law__1290 : decode cL_law_ 1290 = .ok (.aload_n 2, 1) := by decide +kernel
theorem dL_law__1291 : decode cL_law_ 1291 = .ok (.aload_n 0, 1) := by decide +kernel
theorem dL_law__1292 : decode cL_law_ 1292 = .ok (.iload 4, 2) := by decide +kernel
theorem dL_law__1294 : decode cL_law_ 1294 = .ok (.iconst 1, 1) := by decide +kernel
theorem dL_law__1295 : decode cL_law_ 1295 = .ok (.iadd, 1) := by decide +kernel
theorem dL_law__1296 : decode cL_law_ 1296 = .ok (.iaload, 1) := by decide +kernel
theorem dL_law__1297 : decode cL_law_ 1297 = .ok (.aload_n 0, 1) := by decide +kernel
theorem dL_law__1298 : decode cL_law_ 1298 = .ok (.iload 4, 2) := by decide +kernel
theorem dL_law__1300 : decode cL_law_ 1300 = .ok (.iconst 2, 1) := by decide +kernel
theorem dL_law__1301 : decode cL_law_ 1301 = .ok (.iadd, 1) := by decide +kernel
theorem dL_law__1302 : decode cL_law_ 1302 = .ok (.iaload, 1) := by decide +kernel
theorem dL_law__1303 : decode cL_law_ 1303 = .ok (.aload_n 0, 1) := by decide +kernel
theorem dL_law__1304 : decode cL_law_ 1304 = .ok (.iload 4, 2) := by decide +kernel
theorem dL_law__1306 : decode cL_law_ 1306 = .ok (.iconst 3, 1) := by decide +kernel
theorem dL_law__1307 : decode cL_law_ 1307 = .ok (.iadd, 1) := by decide +kernel
theorem dL_law__1308 : decode cL_law_ 1308 = .ok (.iaload, 1) := by decide +kernel
theorem dL_law__1309 : decode cL_law_ 1309 = .ok (.invokevirtual 193, 3) := by decide +kernel
theorem dL_law__1312 : decode cL_law_ 1312 = .ok (.istore 6, 2) := by decide +kernel
theorem dL_law__1314 : decode cL_law_ 1314 = .ok (.aload_n 2, 1) := by decide +kernel
theorem dL_law__1315 : decode cL_law_ 1315 = .ok (.invokevirtual 142, 3) := by decide +kernel
theorem dL_law__1318 : decode cL_law_ 1318 = .ok (.iload 5, 2) := by decide +kernel
theorem dL_law__1320 : decode cL_law_ 1320 = .ok (.if_icmp .eq 5, 3) := by decide +kernel
theorem dL_law__1323 : decode cL_law_ 1323 = .ok (.iconst 0, 1) := by decide +kernel
theorem dL_law__1324 : decode cL_law_ 1324 = .ok (.ireturn, 1) := by decide +kernel
theorem dL_law__1325 : decode cL_law_ 1325 = .ok (.iload 5, 2) := by decide +kernel
theorem dL_law__1327 : decode cL_law_ 1327 = .ok (.ifCond .ne 15, 3) := by decide +kernel
theorem dL_law__1330 : decode cL_law_ 1330 = .ok (.aload_n 3, 1) := by decide +kernel
theorem dL_law__1331 : decode cL_law_ 1331 = .ok (.iconst 0, 1) := by decide +kernel
theorem dL_law__1332 : decode cL_law_ 1332 = .ok (.laload, 1) := by decide +kernel
theorem dL_law__1333 : decode cL_law_ 1333 = .ok (.iload 6, 2) := by decide +kernel
theorem dL_law__1335 : decode cL_law_ 1335 = .ok (.i2l, 1) := by decide +kernel
theorem dL_law__1336 : decode cL_law_ 1336 = .ok (.lcmp, 1) := by decide +kernel
theorem dL_law__1337 : decode cL_law_ 1337 = .ok (.ifCond .eq 5, 3) := by decide +kernel
theorem dL_law__1340 : decode cL_law_ 1340 = .ok (.iconst 0, 1) := by decide +kernel
theorem dL_law__1341 : decode cL_law_ 1341 = .ok (.ireturn, 1) := by decide +kernel
theorem dL_law__1342 : decode cL_law_ 1342 = .ok (.goto 1450, 3) := by decide +kernel
theorem dL_law__1345 : decode cL_law_ 1345 = .ok (.aload_n 1, 1) := by decide +kernel
theorem dL_law__1346 : decode cL_law_ 1346 = .ok (.aload_n 0, 1) := by decide +kernel
theorem dL_law__1347 : decode cL_law_ 1347 = .ok (.iload 4, 2) := by decide +kernel
theorem dL_law__1349 : decode cL_law_ 1349 = .ok (.iconst 1, 1) := by decide +kernel
theorem dL_law__1350 : decode cL_law_ 1350 = .ok (.iadd, 1) := by decide +kernel
theorem dL_law__1351 : decode cL_law_ 1351 = .ok (.iaload, 1) := by decide +kernel
theorem dL_law__1352 : decode cL_law_ 1352 = .ok (.aload_n 0, 1) := by decide +kernel
theorem dL_law__1353 : decode cL_law_ 1353 = .ok (.iload 4, 2) := by decide +kernel
theorem dL_law__1355 : decode cL_law_ 1355 = .ok (.iconst 2, 1) := by decide +kernel
theorem dL_law__1356 : decode cL_law_ 1356 = .ok (.iadd, 1) := by decide +kernel
theorem dL_law__1357 : decode cL_law_ 1357 = .ok (.iaload, 1) := by decide +kernel
theorem dL_law__1358 : decode cL_law_ 1358 = .ok (.aload_n 0, 1) := by decide +kernel
theorem dL_law__1359 : decode cL_law_ 1359 = .ok (.iload 4, 2) := by decide +kernel
theorem dL_law__1361 : decode cL_law_ 1361 = .ok (.iconst 3, 1) := by decide +kernel
theorem dL_law__1362 : decode cL_law_ 1362 = .ok (.iadd, 1) := by decide +kernel
theorem dL_law__1363 : decode cL_law_ 1363 = .ok (.iaload, 1) := by decide +kernel
theorem dL_law__1364 : decode cL_law_ 1364 = .ok (.ifCond .eq 7, 3) := by decide +kernel
theorem dL_law__1367 : decode cL_law_ 1367 = .ok (.iconst 1, 1) := by decide +kernel
theorem dL_law__1368 : decode cL_law_ 1368 = .ok (.goto 4, 3) := by decide +kernel
theorem dL_law__1371 : decode cL_law_ 1371 = .ok (.iconst 0, 1) := by decide +kernel
theorem dL_law__1372 : decode cL_law_ 1372 = .ok (.aload_n 3, 1) := by decide +kernel
theorem dL_law__1373 : decode cL_law_ 1373 = .ok (.invokestatic 194, 3) := by decide +kernel
theorem dL_law__1376 : decode cL_law_ 1376 = .ok (.istore 5, 2) := by decide +kernel
theorem dL_law__1378 : decode cL_law_ 1378 = .ok (.aload_n 2, 1) := by decide +kernel
theorem dL_law__1379 : decode cL_law_ 1379 = .ok (.aload_n 0, 1) := by decide +kernel
theorem dL_law__1380 : decode cL_law_ 1380 = .ok (.iload 4, 2) := by decide +kernel
theorem dL_law__1382 : decode cL_law_ 1382 = .ok (.iconst 1, 1) := by decide +kernel
theorem dL_law__1383 : decode cL_law_ 1383 = .ok (.iadd, 1) := by decide +kernel
theorem dL_law__1384 : decode cL_law_ 1384 = .ok (.iaload, 1) := by decide +kernel
theorem dL_law__1385 : decode cL_law_ 1385 = .ok (.aload_n 0, 1) := by decide +kernel
theorem dL_law__1386 : decode cL_law_ 1386 = .ok (.iload 4, 2) := by decide +kernel
theorem dL_law__1388 : decode cL_law_ 1388 = .ok (.iconst 2, 1) := by decide +kernel
theorem dL_law__1389 : decode cL_law_ 1389 = .ok (.iadd, 1) := by decide +kernel
theorem dL_law__1390 : decode cL_law_ 1390 = .ok (.iaload, 1) := by decide +kernel
theorem dL_law__1391 : decode cL_law_ 1391 = .ok (.aload_n 0, 1) := by decide +kernel
theorem dL_law__1392 : decode cL_law_ 1392 = .ok (.iload 4, 2) := by decide +kernel
theorem dL_law__1394 : decode cL_law_ 1394 = .ok (.iconst 3, 1) := by decide +kernel
theorem dL_law__1395 : decode cL_law_ 1395 = .ok (.iadd, 1) := by decide +kernel
theorem dL_law__1396 : decode cL_law_ 1396 = .ok (.iaload, 1) := by decide +kernel
theorem dL_law__1397 : decode cL_law_ 1397 = .ok (.ifCond .eq 7, 3) := by decide +kernel
theorem dL_law__1400 : decode cL_law_ 1400 = .ok (.iconst 1, 1) := by decide +kernel
theorem dL_law__1401 : decode cL_law_ 1401 = .ok (.goto 4, 3) := by decide +kernel
theorem dL_law__1404 : decode cL_law_ 1404 = .ok (.iconst 0, 1) := by decide +kernel
theorem dL_law__1405 : decode cL_law_ 1405 = .ok (.invokevirtual 197, 3) := by decide +kernel
theorem dL_law__1408 : decode cL_law_ 1408 = .ok (.istore 6, 2) := by decide +kernel
theorem dL_law__1410 : decode cL_law_ 1410 = .ok (.aload_n 2, 1) := by decide +kernel
theorem dL_law__1411 : decode cL_law_ 1411 = .ok (.invokevirtual 142, 3) := by decide +kernel
theorem dL_law__1414 : decode cL_law_ 1414 = .ok (.iload 5, 2) := by decide +kernel
theorem dL_law__1416 : decode cL_law_ 1416 = .ok (.if_icmp .eq 5, 3) := by decide +kernel
theorem dL_law__1419 : decode cL_law_ 1419 = .ok (.iconst 0, 1) := by decide +kernel
theorem dL_law__1420 : decode cL_law_ 1420 = .ok (.ireturn, 1) := by decide +kernel
theorem dL_law__1421 : decode cL_law_ 1421 = .ok (.iload 5, 2) := by decide +kernel
theorem dL_law__1423 : decode cL_law_ 1423 = .ok (.ifCond .ne 22, 3) := by decide +kernel
theorem dL_law__1426 : decode cL_law_ 1426 = .ok (.aload_n 3, 1) := by decide +kernel
theorem dL_law__1427 : decode cL_law_ 1427 = .ok (.iconst 0, 1) := by decide +kernel
theorem dL_law__1428 : decode cL_law_ 1428 = .ok (.laload, 1) := by decide +kernel
theorem dL_law__1429 : decode cL_law_ 1429 = .ok (.iload 6, 2) := by decide +kernel
theorem dL_law__1431 : decode cL_law_ 1431 = .ok (.ifCond .eq 7, 3) := by decide +kernel
theorem dL_law__1434 : decode cL_law_ 1434 = .ok (.lconst 1, 1) := by decide +kernel
theorem dL_law__1435 : decode cL_law_ 1435 = .ok (.goto 4, 3) := by decide +kernel
theorem dL_law__1438 : decode cL_law_ 1438 = .ok (.lconst 0, 1) := by decide +kernel
theorem dL_law__1439 : decode cL_law_ 1439 = .ok (.lcmp, 1) := by decide +kernel
theorem dL_law__1440 : decode cL_law_ 1440 = .ok (.ifCond .eq 5, 3) := by decide +kernel
theorem dL_law__1443 : decode cL_law_ 1443 = .ok (.iconst 0, 1) := by decide +kernel
theorem dL_law__1444 : decode cL_law_ 1444 = .ok (.ireturn, 1) := by decide +kernel
theorem dL_law__1445 : decode cL_law_ 1445 = .ok (.goto 1347, 3) := by decide +kernel
theorem dL_law__1448 : decode cL_law_ 1448 = .ok (.aload_n 1, 1) := by decide +kernel
theorem dL_law__1449 : decode cL_law_ 1449 = .ok (.aload_n 0, 1) := by decide +kernel
theorem dL_law__1450 : decode cL_law_ 1450 = .ok (.iload 4, 2) := by decide +kernel
theorem dL_law__1452 : decode cL_law_ 1452 = .ok (.iconst 1, 1) := by decide +kernel
theorem dL_law__1453 : decode cL_law_ 1453 = .ok (.iadd, 1) := by decide +kernel
theorem dL_law__1454 : decode cL_law_ 1454 = .ok (.iaload, 1) := by decide +kernel
theorem dL_law__1455 : decode cL_law_ 1455 = .ok (.aload_n 0, 1) := by decide +kernel
theorem dL_law__1456 : decode cL_law_ 1456 = .ok (.iload 4, 2) := by decide +kernel
theorem dL_law__1458 : decode cL_law_ 1458 = .ok (.iconst 2, 1) := by decide +kernel
theorem dL_law__1459 : decode cL_law_ 1459 = .ok (.iadd, 1) := by decide +kernel
theorem dL_law__1460 : decode cL_law_ 1460 = .ok (.iaload, 1) := by decide +kernel
theorem dL_law__1461 : decode cL_law_ 1461 = .ok (.aload_n 3, 1) := by decide +kernel
theorem dL_law__1462 : decode cL_law_ 1462 = .ok (.invokestatic 198, 3) := by decide +kernel
theorem dL_law__1465 : decode cL_law_ 1465 = .ok (.istore 5, 2) := by decide +kernel
theorem dL_law__1467 : decode cL_law_ 1467 = .ok (.aload_n 2, 1) := by decide +kernel
theorem dL_law__1468 : decode cL_law_ 1468 = .ok (.aload_n 0, 1) := by decide +kernel
theorem dL_law__1469 : decode cL_law_ 1469 = .ok (.iload 4, 2) := by decide +kernel
theorem dL_law__1471 : decode cL_law_ 1471 = .ok (.iconst 1, 1) := by decide +kernel
theorem dL_law__1472 : decode cL_law_ 1472 = .ok (.iadd, 1) := by decide +kernel
theorem dL_law__1473 : decode cL_law_ 1473 = .ok (.iaload, 1) := by decide +kernel
theorem dL_law__1474 : decode cL_law_ 1474 = .ok (.aload_n 0, 1) := by decide +kernel
theorem dL_law__1475 : decode cL_law_ 1475 = .ok (.iload 4, 2) := by decide +kernel
theorem dL_law__1477 : decode cL_law_ 1477 = .ok (.iconst 2, 1) := by decide +kernel
theorem dL_law__1478 : decode cL_law_ 1478 = .ok (.iadd, 1) := by decide +kernel
theorem dL_law__1479 : decode cL_law_ 1479 = .ok (.iaload, 1) := by decide +kernel
theorem dL_law__1480 : decode cL_law_ 1480 = .ok (.invokevirtual 200, 3) := by decide +kernel
theorem dL_law__1483 : decode cL_law_ 1483 = .ok (.istore 6, 2) := by decide +kernel
theorem dL_law__1485 : decode cL_law_ 1485 = .ok (.aload_n 2, 1) := by decide +kernel
theorem dL_law__1486 : decode cL_law_ 1486 = .ok (.invokevirtual 142, 3) := by decide +kernel
theorem dL_law__1489 : decode cL_law_ 1489 = .ok (.iload 5, 2) := by decide +kernel
theorem dL_law__1491 : decode cL_law_ 1491 = .ok (.if_icmp .eq 5, 3) := by decide +kernel
theorem dL_law__1494 : decode cL_law_ 1494 = .ok (.iconst 0, 1) := by decide +kernel
theorem dL_law__1495 : decode cL_law_ 1495 = .ok (.ireturn, 1) := by decide +kernel
theorem dL_law__1496 : decode cL_law_ 1496 = .ok (.iload 5, 2) := by decide +kernel
theorem dL_law__1498 : decode cL_law_ 1498 = .ok (.ifCond .ne 15, 3) := by decide +kernel
theorem dL_law__1501 : decode cL_law_ 1501 = .ok (.aload_n 3, 1) := by decide +kernel
theorem dL_law__1502 : decode cL_law_ 1502 = .ok (.iconst 0, 1) := by decide +kernel
theorem dL_law__1503 : decode cL_law_ 1503 = .ok (.laload, 1) := by decide +kernel
theorem dL_law__1504 : decode cL_law_ 1504 = .ok (.iload 6, 2) := by decide +kernel
theorem dL_law__1506 : decode cL_law_ 1506 = .ok (.i2l, 1) := by decide +kernel
theorem dL_law__1507 : decode cL_law_ 1507 = .ok (.lcmp, 1) := by decide +kernel
theorem dL_law__1508 : decode cL_law_ 1508 = .ok (.ifCond .eq 5, 3) := by decide +kernel
theorem dL_law__1511 : decode cL_law_ 1511 = .ok (.iconst 0, 1) := by decide +kernel
theorem dL_law__1512 : decode cL_law_ 1512 = .ok (.ireturn, 1) := by decide +kernel
theorem dL_law__1513 : decode cL_law_ 1513 = .ok (.goto 1279, 3) := by decide +kernel
theorem dL_law__1516 : decode cL_law_ 1516 = .ok (.aload_n 1, 1) := by decide +kernel
theorem dL_law__1517 : decode cL_law_ 1517 = .ok (.invokevirtual 201, 3) := by decide +kernel
theorem dL_law__1520 : decode cL_law_ 1520 = .ok (.aload_n 2, 1) := by decide +kernel
theorem dL_law__1521 : decode cL_law_ 1521 = .ok (.invokevirtual 204, 3) := by decide +kernel
theorem dL_law__1524 : decode cL_law_ 1524 = .ok (.if_icmp .eq 1268, 3) := by decide +kernel
theorem dL_law__1527 : decode cL_law_ 1527 = .ok (.iconst 0, 1) := by decide +kernel
theorem dL_law__1528 : decode cL_law_ 1528 = .ok (.ireturn, 1) := by decide +kernel
theorem dL_law__1529 : decode cL_law_ 1529 = .ok (.aload_n 1, 1) := by decide +kernel
theorem dL_law__1530 : decode cL_law_ 1530 = .ok (.invokevirtual 205, 3) := by decide +kernel
theorem dL_law__1533 : decode cL_law_ 1533 = .ok (.aload_n 2, 1) := by decide +kernel
theorem dL_law__1534 : decode cL_law_ 1534 = .ok (.invokevirtual 208, 3) := by decide +kernel
theorem dL_law__1537 : decode cL_law_ 1537 = .ok (.if_icmp .eq 1255, 3) := by decide +kernel
theorem dL_law__1540 : decode cL_law_ 1540 = .ok (.iconst 0, 1) := by decide +kernel
theorem dL_law__1541 : decode cL_law_ 1541 = .ok (.ireturn, 1) := by decide +kernel
theorem dL_law__1542 : decode cL_law_ 1542 = .ok (.aload_n 1, 1) := by decide +kernel
theorem dL_law__1543 : decode cL_law_ 1543 = .ok (.invokevirtual 209, 3) := by decide +kernel
theorem dL_law__1546 : decode cL_law_ 1546 = .ok (.aload_n 2, 1) := by decide +kernel
theorem dL_law__1547 : decode cL_law_ 1547 = .ok (.invokevirtual 212, 3) := by decide +kernel
theorem dL_law__1550 : decode cL_law_ 1550 = .ok (.if_icmp .eq 1242, 3) := by decide +kernel
theorem dL_law__1553 : decode cL_law_ 1553 = .ok (.iconst 0, 1) := by decide +kernel
theorem dL_law__1554 : decode cL_law_ 1554 = .ok (.ireturn, 1) := by decide +kernel
theorem dL_law__1555 : decode cL_law_ 1555 = .ok (.aload_n 1, 1) := by decide +kernel
theorem dL_law__1556 : decode cL_law_ 1556 = .ok (.aload_n 0, 1) := by decide +kernel
theorem dL_law__1557 : decode cL_law_ 1557 = .ok (.iload 4, 2) := by decide +kernel
theorem dL_law__1559 : decode cL_law_ 1559 = .ok (.iconst 1, 1) := by decide +kernel
theorem dL_law__1560 : decode cL_law_ 1560 = .ok (.iadd, 1) := by decide +kernel
theorem dL_law__1561 : decode cL_law_ 1561 = .ok (.iaload, 1) := by decide +kernel
theorem dL_law__1562 : decode cL_law_ 1562 = .ok (.aload_n 0, 1) := by decide +kernel
theorem dL_law__1563 : decode cL_law_ 1563 = .ok (.iload 4, 2) := by decide +kernel
theorem dL_law__1565 : decode cL_law_ 1565 = .ok (.iconst 2, 1) := by decide +kernel
theorem dL_law__1566 : decode cL_law_ 1566 = .ok (.iadd, 1) := by decide +kernel
theorem dL_law__1567 : decode cL_law_ 1567 = .ok (.iaload, 1) := by decide +kernel
theorem dL_law__1568 : decode cL_law_ 1568 = .ok (.ifCond .eq 7, 3) := by decide +kernel
theorem dL_law__1571 : decode cL_law_ 1571 = .ok (.iconst 1, 1) := by decide +kernel
theorem dL_law__1572 : decode cL_law_ 1572 = .ok (.goto 4, 3) := by decide +kernel
theorem dL_law__1575 : decode cL_law_ 1575 = .ok (.iconst 0, 1) := by decide +kernel
theorem dL_law__1576 : decode cL_law_ 1576 = .ok (.aload_n 3, 1) := by decide +kernel
theorem dL_law__1577 : decode cL_law_ 1577 = .ok (.invokestatic 213, 3) := by decide +kernel
theorem dL_law__1580 : decode cL_law_ 1580 = .ok (.istore 5, 2) := by decide +kernel
theorem dL_law__1582 : decode cL_law_ 1582 = .ok (.aload_n 2, 1) := by decide +kernel
theorem dL_law__1583 : decode cL_law_ 1583 = .ok (.aload_n 0, 1) := by decide +kernel
theorem dL_law__1584 : decode cL_law_ 1584 = .ok (.iload 4, 2) := by decide +kernel
theorem dL_law__1586 : decode cL_law_ 1586 = .ok (.iconst 1, 1) := by decide +kernel
theorem dL_law__1587 : decode cL_law_ 1587 = .ok (.iadd, 1) := by decide +kernel
theorem dL_law__1588 : decode cL_law_ 1588 = .ok (.iaload, 1) := by decide +kernel
theorem dL_law__1589 : decode cL_law_ 1589 = .ok (.aload_n 0, 1) := by decide +kernel
theorem dL_law__1590 : decode cL_law_ 1590 = .ok (.iload 4, 2) := by decide +kernel
theorem dL_law__1592 : decode cL_law_ 1592 = .ok (.iconst 2, 1) := by decide +kernel
theorem dL_law__1593 : decode cL_law_ 1593 = .ok (.iadd, 1) := by decide +kernel
theorem dL_law__1594 : decode cL_law_ 1594 = .ok (.iaload, 1) := by decide +kernel
theorem dL_law__1595 : decode cL_law_ 1595 = .ok (.ifCond .eq 7, 3) := by decide +kernel
theorem dL_law__1598 : decode cL_law_ 1598 = .ok (.iconst 1, 1) := by decide +kernel
theorem dL_law__1599 : decode cL_law_ 1599 = .ok (.goto 4, 3) := by decide +kernel
theorem dL_law__1602 : decode cL_law_ 1602 = .ok (.iconst 0, 1) := by decide +kernel
theorem dL_law__1603 : decode cL_law_ 1603 = .ok (.invokevirtual 216, 3) := by decide +kernel
theorem dL_law__1606 : decode cL_law_ 1606 = .ok (.istore 6, 2) := by decide +kernel
theorem dL_law__1608 : decode cL_law_ 1608 = .ok (.aload_n 2, 1) := by decide +kernel
theorem dL_law__1609 : decode cL_law_ 1609 = .ok (.invokevirtual 142, 3) := by decide +kernel
theorem dL_law__1612 : decode cL_law_ 1612 = .ok (.iload 5, 2) := by decide +kernel
theorem dL_law__1614 : decode cL_law_ 1614 = .ok (.if_icmp .eq 5, 3) := by decide +kernel
theorem dL_law__1617 : decode cL_law_ 1617 = .ok (.iconst 0, 1) := by decide +kernel
theorem dL_law__1618 : decode cL_law_ 1618 = .ok (.ireturn, 1) := by decide +kernel
theorem dL_law__1619 : decode cL_law_ 1619 = .ok (.iload 5, 2) := by decide +kernel
theorem dL_law__1621 : decode cL_law_ 1621 = .ok (.ifCond .ne 15, 3) := by decide +kernel
theorem dL_law__1624 : decode cL_law_ 1624 = .ok (.aload_n 3, 1) := by decide +kernel
theorem dL_law__1625 : decode cL_law_ 1625 = .ok (.iconst 0, 1) := by decide +kernel
theorem dL_law__1626 : decode cL_law_ 1626 = .ok (.laload, 1) := by decide +kernel
theorem dL_law__1627 : decode cL_law_ 1627 = .ok (.iload 6, 2) := by decide +kernel
theorem dL_law__1629 : decode cL_law_ 1629 = .ok (.i2l, 1) := by decide +kernel
theorem dL_law__1630 : decode cL_law_ 1630 = .ok (.lcmp, 1) := by decide +kernel
theorem dL_law__1631 : decode cL_law_ 1631 = .ok (.ifCond .eq 5, 3) := by decide +kernel
theorem dL_law__1634 : decode cL_law_ 1634 = .ok (.iconst 0, 1) := by decide +kernel
theorem dL_law__1635 : decode cL_law_ 1635 = .ok (.ireturn, 1) := by decide +kernel
theorem dL_law__1636 : decode cL_law_ 1636 = .ok (.goto 1156, 3) := by decide +kernel
theorem dL_law__1639 : decode cL_law_ 1639 = .ok (.aload_n 1, 1) := by decide +kernel
theorem dL_law__1640 : decode cL_law_ 1640 = .ok (.invokevirtual 217, 3) := by decide +kernel
theorem dL_law__1643 : decode cL_law_ 1643 = .ok (.aload_n 2, 1) := by decide +kernel
theorem dL_law__1644 : decode cL_law_ 1644 = .ok (.invokevirtual 220, 3) := by decide +kernel
theorem dL_law__1647 : decode cL_law_ 1647 = .ok (.if_icmp .eq 1145, 3) := by decide +kernel
theorem dL_law__1650 : decode cL_law_ 1650 = .ok (.iconst 0, 1) := by decide +kernel
theorem dL_law__1651 : decode cL_law_ 1651 = .ok (.ireturn, 1) := by decide +kernel
theorem dL_law__1652 : decode cL_law_ 1652 = .ok (.aload_n 1, 1) := by decide +kernel
theorem dL_law__1653 : decode cL_law_ 1653 = .ok (.invokevirtual 221, 3) := by decide +kernel
theorem dL_law__1656 : decode cL_law_ 1656 = .ok (.aload_n 2, 1) := by decide +kernel
theorem dL_law__1657 : decode cL_law_ 1657 = .ok (.invokevirtual 224, 3) := by decide +kernel
theorem dL_law__1660 : decode cL_law_ 1660 = .ok (.if_icmp .eq 1132, 3) := by decide +kernel
theorem dL_law__1663 : decode cL_law_ 1663 = .ok (.iconst 0, 1) := by decide +kernel
theorem dL_law__1664 : decode cL_law_ 1664 = .ok (.ireturn, 1) := by decide +kernel
theorem dL_law__1665 : decode cL_law_ 1665 = .ok (.aload_n 1, 1) := by decide +kernel
theorem dL_law__1666 : decode cL_law_ 1666 = .ok (.invokevirtual 225, 3) := by decide +kernel
theorem dL_law__1669 : decode cL_law_ 1669 = .ok (.aload_n 2, 1) := by decide +kernel
theorem dL_law__1670 : decode cL_law_ 1670 = .ok (.invokevirtual 228, 3) := by decide +kernel
theorem dL_law__1673 : decode cL_law_ 1673 = .ok (.if_icmp .eq 1119, 3) := by decide +kernel
theorem dL_law__1676 : decode cL_law_ 1676 = .ok (.iconst 0, 1) := by decide +kernel
theorem dL_law__1677 : decode cL_law_ 1677 = .ok (.ireturn, 1) := by decide +kernel
theorem dL_law__1678 : decode cL_law_ 1678 = .ok (.aload_n 1, 1) := by decide +kernel
theorem dL_law__1679 : decode cL_law_ 1679 = .ok (.aload_n 0, 1) := by decide +kernel
theorem dL_law__1680 : decode cL_law_ 1680 = .ok (.iload 4, 2) := by decide +kernel
theorem dL_law__1682 : decode cL_law_ 1682 = .ok (.iconst 1, 1) := by decide +kernel
theorem dL_law__1683 : decode cL_law_ 1683 = .ok (.iadd, 1) := by decide +kernel
theorem dL_law__1684 : decode cL_law_ 1684 = .ok (.iaload, 1) := by decide +kernel
theorem dL_law__1685 : decode cL_law_ 1685 = .ok (.aload_n 0, 1) := by decide +kernel
theorem dL_law__1686 : decode cL_law_ 1686 = .ok (.iload 4, 2) := by decide +kernel
theorem dL_law__1688 : decode cL_law_ 1688 = .ok (.iconst 2, 1) := by decide +kernel
theorem dL_law__1689 : decode cL_law_ 1689 = .ok (.iadd, 1) := by decide +kernel
theorem dL_law__1690 : decode cL_law_ 1690 = .ok (.iaload, 1) := by decide +kernel
theorem dL_law__1691 : decode cL_law_ 1691 = .ok (.aload_n 3, 1) := by decide +kernel
theorem dL_law__1692 : decode cL_law_ 1692 = .ok (.invokestatic 229, 3) := by decide +kernel
theorem dL_law__1695 : decode cL_law_ 1695 = .ok (.istore 5, 2) := by decide +kernel
theorem dL_law__1697 : decode cL_law_ 1697 = .ok (.aload_n 2, 1) := by decide +kernel
theorem dL_law__1698 : decode cL_law_ 1698 = .ok (.aload_n 0, 1) := by decide +kernel
theorem dL_law__1699 : decode cL_law_ 1699 = .ok (.iload 4, 2) := by decide +kernel
theorem dL_law__1701 : decode cL_law_ 1701 = .ok (.iconst 1, 1) := by decide +kernel
theorem dL_law__1702 : decode cL_law_ 1702 = .ok (.iadd, 1) := by decide +kernel
theorem dL_law__1703 : decode cL_law_ 1703 = .ok (.iaload, 1) := by decide +kernel
theorem dL_law__1704 : decode cL_law_ 1704 = .ok (.aload_n 0, 1) := by decide +kernel
theorem dL_law__1705 : decode cL_law_ 1705 = .ok (.iload 4, 2) := by decide +kernel
theorem dL_law__1707 : decode cL_law_ 1707 = .ok (.iconst 2, 1) := by decide +kernel
theorem dL_law__1708 : decode cL_law_ 1708 = .ok (.iadd, 1) := by decide +kernel
theorem dL_law__1709 : decode cL_law_ 1709 = .ok (.iaload, 1) := by decide +kernel
theorem dL_law__1710 : decode cL_law_ 1710 = .ok (.invokevirtual 231, 3) := by decide +kernel
theorem dL_law__1713 : decode cL_law_ 1713 = .ok (.istore 6, 2) := by decide +kernel
theorem dL_law__1715 : decode cL_law_ 1715 = .ok (.aload_n 2, 1) := by decide +kernel
theorem dL_law__1716 : decode cL_law_ 1716 = .ok (.invokevirtual 142, 3) := by decide +kernel
theorem dL_law__1719 : decode cL_law_ 1719 = .ok (.iload 5, 2) := by decide +kernel
theorem dL_law__1721 : decode cL_law_ 1721 = .ok (.if_icmp .eq 5, 3) := by decide +kernel
theorem dL_law__1724 : decode cL_law_ 1724 = .ok (.iconst 0, 1) := by decide +kernel
theorem dL_law__1725 : decode cL_law_ 1725 = .ok (.ireturn, 1) := by decide +kernel
theorem dL_law__1726 : decode cL_law_ 1726 = .ok (.iload 5, 2) := by decide +kernel
theorem dL_law__1728 : decode cL_law_ 1728 = .ok (.ifCond .ne 15, 3) := by decide +kernel
theorem dL_law__1731 : decode cL_law_ 1731 = .ok (.aload_n 3, 1) := by decide +kernel
theorem dL_law__1732 : decode cL_law_ 1732 = .ok (.iconst 0, 1) := by decide +kernel
theorem dL_law__1733 : decode cL_law_ 1733 = .ok (.laload, 1) := by decide +kernel
theorem dL_law__1734 : decode cL_law_ 1734 = .ok (.iload 6, 2) := by decide +kernel
theorem dL_law__1736 : decode cL_law_ 1736 = .ok (.i2l, 1) := by decide +kernel
theorem dL_law__1737 : decode cL_law_ 1737 = .ok (.lcmp, 1) := by decide +kernel
theorem dL_law__1738 : decode cL_law_ 1738 = .ok (.ifCond .eq 5, 3) := by decide +kernel
theorem dL_law__1741 : decode cL_law_ 1741 = .ok (.iconst 0, 1) := by decide +kernel
theorem dL_law__1742 : decode cL_law_ 1742 = .ok (.ireturn, 1) := by decide +kernel
theorem dL_law__1743 : decode cL_law_ 1743 = .ok (.goto 1049, 3) := by decide +kernel
theorem dL_law__1746 : decode cL_law_ 1746 = .ok (.aload_n 1, 1) := by decide +kernel
theorem dL_law__1747 : decode cL_law_ 1747 = .ok (.invokevirtual 232, 3) := by decide +kernel
theorem dL_law__1750 : decode cL_law_ 1750 = .ok (.aload_n 2, 1) := by decide +kernel
theorem dL_law__1751 : decode cL_law_ 1751 = .ok (.invokevirtual 235, 3) := by decide +kernel
theorem dL_law__1754 : decode cL_law_ 1754 = .ok (.if_icmp .eq 1038, 3) := by decide +kernel
theorem dL_law__1757 : decode cL_law_ 1757 = .ok (.iconst 0, 1) := by decide +kernel
theorem dL_law__1758 : decode cL_law_ 1758 = .ok (.ireturn, 1) := by decide +kernel
theorem dL_law__1759 : decode cL_law_ 1759 = .ok (.aload_n 1, 1) := by decide +kernel
theorem dL_law__1760 : decode cL_law_ 1760 = .ok (.aload_n 3, 1) := by decide +kernel
theorem dL_law__1761 : decode cL_law_ 1761 = .ok (.invokestatic 236, 3) := by decide +kernel
theorem dL_law__1764 : decode cL_law_ 1764 = .ok (.istore 5, 2) := by decide +kernel
theorem dL_law__1766 : decode cL_law_ 1766 = .ok (.aload_n 2, 1) := by decide +kernel
theorem dL_law__1767 : decode cL_law_ 1767 = .ok (.invokevirtual 238, 3) := by decide +kernel
theorem dL_law__1770 : decode cL_law_ 1770 = .ok (.istore 6, 2) := by decide +kernel
theorem dL_law__1772 : decode cL_law_ 1772 = .ok (.aload_n 2, 1) := by decide +kernel
theorem dL_law__1773 : decode cL_law_ 1773 = .ok (.invokevirtual 142, 3) := by decide +kernel
theorem dL_law__1776 : decode cL_law_ 1776 = .ok (.iload 5, 2) := by decide +kernel
theorem dL_law__1778 : decode cL_law_ 1778 = .ok (.if_icmp .eq 5, 3) := by decide +kernel
theorem dL_law__1781 : decode cL_law_ 1781 = .ok (.iconst 0, 1) := by decide +kernel
theorem dL_law__1782 : decode cL_law_ 1782 = .ok (.ireturn, 1) := by decide +kernel
theorem dL_law__1783 : decode cL_law_ 1783 = .ok (.iload 5, 2) := by decide +kernel
theorem dL_law__1785 : decode cL_law_ 1785 = .ok (.ifCond .ne 15, 3) := by decide +kernel
theorem dL_law__1788 : decode cL_law_ 1788 = .ok (.aload_n 3, 1) := by decide +kernel
theorem dL_law__1789 : decode cL_law_ 1789 = .ok (.iconst 0, 1) := by decide +kernel
theorem dL_law__1790 : decode cL_law_ 1790 = .ok (.laload, 1) := by decide +kernel
theorem dL_law__1791 : decode cL_law_ 1791 = .ok (.iload 6, 2) := by decide +kernel
theorem dL_law__1793 : decode cL_law_ 1793 = .ok (.i2l, 1) := by decide +kernel
theorem dL_law__1794 : decode cL_law_ 1794 = .ok (.lcmp, 1) := by decide +kernel
theorem dL_law__1795 : decode cL_law_ 1795 = .ok (.ifCond .eq 5, 3) := by decide +kernel
theorem dL_law__1798 : decode cL_law_ 1798 = .ok (.iconst 0, 1) := by decide +kernel
theorem dL_law__1799 : decode cL_law_ 1799 = .ok (.ireturn, 1) := by decide +kernel
theorem dL_law__1800 : decode cL_law_ 1800 = .ok (.goto 992, 3) := by decide +kernel
theorem dL_law__1803 : decode cL_law_ 1803 = .ok (.aload_n 1, 1) := by decide +kernel
theorem dL_law__1804 : decode cL_law_ 1804 = .ok (.aload_n 3, 1) := by decide +kernel
theorem dL_law__1805 : decode cL_law_ 1805 = .ok (.invokestatic 239, 3) := by decide +kernel
theorem dL_law__1808 : decode cL_law_ 1808 = .ok (.istore 5, 2) := by decide +kernel
theorem dL_law__1810 : decode cL_law_ 1810 = .ok (.aload_n 2, 1) := by decide +kernel
theorem dL_law__1811 : decode cL_law_ 1811 = .ok (.invokevirtual 241, 3) := by decide +kernel
theorem dL_law__1814 : decode cL_law_ 1814 = .ok (.istore 6, 2) := by decide +kernel
theorem dL_law__1816 : decode cL_law_ 1816 = .ok (.aload_n 2, 1) := by decide +kernel
theorem dL_law__1817 : decode cL_law_ 1817 = .ok (.invokevirtual 142, 3) := by decide +kernel
theorem dL_law__1820 : decode cL_law_ 1820 = .ok (.iload 5, 2) := by decide +kernel
theorem dL_law__1822 : decode cL_law_ 1822 = .ok (.if_icmp .eq 5, 3) := by decide +kernel
theorem dL_law__1825 : decode cL_law_ 1825 = .ok (.iconst 0, 1) := by decide +kernel
theorem dL_law__1826 : decode cL_law_ 1826 = .ok (.ireturn, 1) := by decide +kernel
theorem dL_law__1827 : decode cL_law_ 1827 = .ok (.iload 5, 2) := by decide +kernel
theorem dL_law__1829 : decode cL_law_ 1829 = .ok (.ifCond .ne 15, 3) := by decide +kernel
theorem dL_law__1832 : decode cL_law_ 1832 = .ok (.aload_n 3, 1) := by decide +kernel
theorem dL_law__1833 : decode cL_law_ 1833 = .ok (.iconst 0, 1) := by decide +kernel
theorem dL_law__1834 : decode cL_law_ 1834 = .ok (.laload, 1) := by decide +kernel
theorem dL_law__1835 : decode cL_law_ 1835 = .ok (.iload 6, 2) := by decide +kernel
theorem dL_law__1837 : decode cL_law_ 1837 = .ok (.i2l, 1) := by decide +kernel
theorem dL_law__1838 : decode cL_law_ 1838 = .ok (.lcmp, 1) := by decide +kernel
theorem dL_law__1839 : decode cL_law_ 1839 = .ok (.ifCond .eq 5, 3) := by decide +kernel
theorem dL_law__1842 : decode cL_law_ 1842 = .ok (.iconst 0, 1) := by decide +kernel
theorem dL_law__1843 : decode cL_law_ 1843 = .ok (.ireturn, 1) := by decide +kernel
theorem dL_law__1844 : decode cL_law_ 1844 = .ok (.goto 948, 3) := by decide +kernel
theorem dL_law__1847 : decode cL_law_ 1847 = .ok (.aload_n 1, 1) := by decide +kernel
theorem dL_law__1848 : decode cL_law_ 1848 = .ok (.aload_n 0, 1) := by decide +kernel
theorem dL_law__1849 : decode cL_law_ 1849 = .ok (.iload 4, 2) := by decide +kernel
theorem dL_law__1851 : decode cL_law_ 1851 = .ok (.iconst 1, 1) := by decide +kernel
theorem dL_law__1852 : decode cL_law_ 1852 = .ok (.iadd, 1) := by decide +kernel
theorem dL_law__1853 : decode cL_law_ 1853 = .ok (.iaload, 1) := by decide +kernel
theorem dL_law__1854 : decode cL_law_ 1854 = .ok (.aload_n 3, 1) := by decide +kernel
theorem dL_law__1855 : decode cL_law_ 1855 = .ok (.invokestatic 242, 3) := by decide +kernel
theorem dL_law__1858 : decode cL_law_ 1858 = .ok (.istore 5, 2) := by decide +kernel
theorem dL_law__1860 : decode cL_law_ 1860 = .ok (.aload_n 2, 1) := by decide +kernel
theorem dL_law__1861 : decode cL_law_ 1861 = .ok (.aload_n 0, 1) := by decide +kernel
theorem dL_law__1862 : decode cL_law_ 1862 = .ok (.iload 4, 2) := by decide +kernel
theorem dL_law__1864 : decode cL_law_ 1864 = .ok (.iconst 1, 1) := by decide +kernel
theorem dL_law__1865 : decode cL_law_ 1865 = .ok (.iadd, 1) := by decide +kernel
theorem dL_law__1866 : decode cL_law_ 1866 = .ok (.iaload, 1) := by decide +kernel
theorem dL_law__1867 : decode cL_law_ 1867 = .ok (.invokevirtual 244, 3) := by decide +kernel
theorem dL_law__1870 : decode cL_law_ 1870 = .ok (.istore 6, 2) := by decide +kernel
theorem dL_law__1872 : decode cL_law_ 1872 = .ok (.aload_n 2, 1) := by decide +kernel
theorem dL_law__1873 : decode cL_law_ 1873 = .ok (.invokevirtual 142, 3) := by decide +kernel
theorem dL_law__1876 : decode cL_law_ 1876 = .ok (.iload 5, 2) := by decide +kernel
theorem dL_law__1878 : decode cL_law_ 1878 = .ok (.if_icmp .eq 5, 3) := by decide +kernel
theorem dL_law__1881 : decode cL_law_ 1881 = .ok (.iconst 0, 1) := by decide +kernel
theorem dL_law__1882 : decode cL_law_ 1882 = .ok (.ireturn, 1) := by decide +kernel
theorem dL_law__1883 : decode cL_law_ 1883 = .ok (.iload 5, 2) := by decide +kernel
theorem dL_law__1885 : decode cL_law_ 1885 = .ok (.ifCond .ne 22, 3) := by decide +kernel
theorem dL_law__1888 : decode cL_law_ 1888 = .ok (.aload_n 3, 1) := by decide +kernel
theorem dL_law__1889 : decode cL_law_ 1889 = .ok (.iconst 0, 1) := by decide +kernel
theorem dL_law__1890 : decode cL_law_ 1890 = .ok (.laload, 1) := by decide +kernel
theorem dL_law__1891 : decode cL_law_ 1891 = .ok (.iload 6, 2) := by decide +kernel
theorem dL_law__1893 : decode cL_law_ 1893 = .ok (.ifCond .eq 7, 3) := by decide +kernel
theorem dL_law__1896 : decode cL_law_ 1896 = .ok (.lconst 1, 1) := by decide +kernel
theorem dL_law__1897 : decode cL_law_ 1897 = .ok (.goto 4, 3) := by decide +kernel
theorem dL_law__1900 : decode cL_law_ 1900 = .ok (.lconst 0, 1) := by decide +kernel
theorem dL_law__1901 : decode cL_law_ 1901 = .ok (.lcmp, 1) := by decide +kernel
theorem dL_law__1902 : decode cL_law_ 1902 = .ok (.ifCond .eq 5, 3) := by decide +kernel
theorem dL_law__1905 : decode cL_law_ 1905 = .ok (.iconst 0, 1) := by decide +kernel
theorem dL_law__1906 : decode cL_law_ 1906 = .ok (.ireturn, 1) := by decide +kernel
theorem dL_law__1907 : decode cL_law_ 1907 = .ok (.goto 885, 3) := by decide +kernel
theorem dL_law__1910 : decode cL_law_ 1910 = .ok (.aload_n 1, 1) := by decide +kernel
theorem dL_law__1911 : decode cL_law_ 1911 = .ok (.invokevirtual 245, 3) := by decide +kernel
theorem dL_law__1914 : decode cL_law_ 1914 = .ok (.aload_n 2, 1) := by decide +kernel
theorem dL_law__1915 : decode cL_law_ 1915 = .ok (.invokevirtual 248, 3) := by decide +kernel
theorem dL_law__1918 : decode cL_law_ 1918 = .ok (.if_icmp .eq 874, 3) := by decide +kernel
theorem dL_law__1921 : decode cL_law_ 1921 = .ok (.iconst 0, 1) := by decide +kernel
theorem dL_law__1922 : decode cL_law_ 1922 = .ok (.ireturn, 1) := by decide +kernel
theorem dL_law__1923 : decode cL_law_ 1923 = .ok (.aload_n 1, 1) := by decide +kernel
theorem dL_law__1924 : decode cL_law_ 1924 = .ok (.aload_n 0, 1) := by decide +kernel
theorem dL_law__1925 : decode cL_law_ 1925 = .ok (.iload 4, 2) := by decide +kernel
theorem dL_law__1927 : decode cL_law_ 1927 = .ok (.iconst 1, 1) := by decide +kernel
theorem dL_law__1928 : decode cL_law_ 1928 = .ok (.iadd, 1) := by decide +kernel
theorem dL_law__1929 : decode cL_law_ 1929 = .ok (.iaload, 1) := by decide +kernel
theorem dL_law__1930 : decode cL_law_ 1930 = .ok (.aload_n 3, 1) := by decide +kernel
theorem dL_law__1931 : decode cL_law_ 1931 = .ok (.invokestatic 249, 3) := by decide +kernel
theorem dL_law__1934 : decode cL_law_ 1934 = .ok (.istore 5, 2) := by decide +kernel
theorem dL_law__1936 : decode cL_law_ 1936 = .ok (.aload_n 2, 1) := by decide +kernel
theorem dL_law__1937 : decode cL_law_ 1937 = .ok (.aload_n 0, 1) := by decide +kernel
theorem dL_law__1938 : decode cL_law_ 1938 = .ok (.iload 4, 2) := by decide +kernel
theorem dL_law__1940 : decode cL_law_ 1940 = .ok (.iconst 1, 1) := by decide +kernel
theorem dL_law__1941 : decode cL_law_ 1941 = .ok (.iadd, 1) := by decide +kernel
theorem dL_law__1942 : decode cL_law_ 1942 = .ok (.iaload, 1) := by decide +kernel
theorem dL_law__1943 : decode cL_law_ 1943 = .ok (.invokevirtual 251, 3) := by decide +kernel
theorem dL_law__1946 : decode cL_law_ 1946 = .ok (.istore 6, 2) := by decide +kernel
theorem dL_law__1948 : decode cL_law_ 1948 = .ok (.aload_n 2, 1) := by decide +kernel
theorem dL_law__1949 : decode cL_law_ 1949 = .ok (.invokevirtual 142, 3) := by decide +kernel
theorem dL_law__1952 : decode cL_law_ 1952 = .ok (.iload 5, 2) := by decide +kernel
theorem dL_law__1954 : decode cL_law_ 1954 = .ok (.if_icmp .eq 5, 3) := by decide +kernel
theorem dL_law__1957 : decode cL_law_ 1957 = .ok (.iconst 0, 1) := by decide +kernel
theorem dL_law__1958 : decode cL_law_ 1958 = .ok (.ireturn, 1) := by decide +kernel
theorem dL_law__1959 : decode cL_law_ 1959 = .ok (.iload 5, 2) := by decide +kernel
theorem dL_law__1961 : decode cL_law_ 1961 = .ok (.ifCond .ne 15, 3) := by decide +kernel
theorem dL_law__1964 : decode cL_law_ 1964 = .ok (.aload_n 3, 1) := by decide +kernel
theorem dL_law__1965 : decode cL_law_ 1965 = .ok (.iconst 0, 1) := by decide +kernel
theorem dL_law__1966 : decode cL_law_ 1966 = .ok (.laload, 1) := by decide +kernel
theorem dL_law__1967 : decode cL_law_ 1967 = .ok (.iload 6, 2) := by decide +kernel
theorem dL_law__1969 : decode cL_law_ 1969 = .ok (.i2l, 1) := by decide +kernel
theorem dL_law__1970 : decode cL_law_ 1970 = .ok (.lcmp, 1) := by decide +kernel
theorem dL_law__1971 : decode cL_law_ 1971 = .ok (.ifCond .eq 5, 3) := by decide +kernel
theorem dL_law__1974 : decode cL_law_ 1974 = .ok (.iconst 0, 1) := by decide +kernel
theorem dL_law__1975 : decode cL_law_ 1975 = .ok (.ireturn, 1) := by decide +kernel
theorem dL_law__1976 : decode cL_law_ 1976 = .ok (.goto 816, 3) := by decide +kernel
theorem dL_law__1979 : decode cL_law_ 1979 = .ok (.aload_n 1, 1) := by decide +kernel
theorem dL_law__1980 : decode cL_law_ 1980 = .ok (.aload_n 3, 1) := by decide +kernel
theorem dL_law__1981 : decode cL_law_ 1981 = .ok (.invokestatic 252, 3) := by decide +kernel
theorem dL_law__1984 : decode cL_law_ 1984 = .ok (.istore 5, 2) := by decide +kernel
theorem dL_law__1986 : decode cL_law_ 1986 = .ok (.aload_n 2, 1) := by decide +kernel
theorem dL_law__1987 : decode cL_law_ 1987 = .ok (.invokevirtual 254, 3) := by decide +kernel
theorem dL_law__1990 : decode cL_law_ 1990 = .ok (.istore 6, 2) := by decide +kernel
theorem dL_law__1992 : decode cL_law_ 1992 = .ok (.aload_n 2, 1) := by decide +kernel
theorem dL_law__1993 : decode cL_law_ 1993 = .ok (.invokevirtual 142, 3) := by decide +kernel
theorem dL_law__1996 : decode cL_law_ 1996 = .ok (.iload 5, 2) := by decide +kernel
theorem dL_law__1998 : decode cL_law_ 1998 = .ok (.if_icmp .eq 5, 3) := by decide +kernel
theorem dL_law__2001 : decode cL_law_ 2001 = .ok (.iconst 0, 1) := by decide +kernel
theorem dL_law__2002 : decode cL_law_ 2002 = .ok (.ireturn, 1) := by decide +kernel
theorem dL_law__2003 : decode cL_law_ 2003 = .ok (.iload 5, 2) := by decide +kernel
theorem dL_law__2005 : decode cL_law_ 2005 = .ok (.ifCond .ne 15, 3) := by decide +kernel
theorem dL_law__2008 : decode cL_law_ 2008 = .ok (.aload_n 3, 1) := by decide +kernel
theorem dL_law__2009 : decode cL_law_ 2009 = .ok (.iconst 0, 1) := by decide +kernel
theorem dL_law__2010 : decode cL_law_ 2010 = .ok (.laload, 1) := by decide +kernel
theorem dL_law__2011 : decode cL_law_ 2011 = .ok (.iload 6, 2) := by decide +kernel
theorem dL_law__2013 : decode cL_law_ 2013 = .ok (.i2l, 1) := by decide +kernel
theorem dL_law__2014 : decode cL_law_ 2014 = .ok (.lcmp, 1) := by decide +kernel
theorem dL_law__2015 : decode cL_law_ 2015 = .ok (.ifCond .eq 5, 3) := by decide +kernel
theorem dL_law__2018 : decode cL_law_ 2018 = .ok (.iconst 0, 1) := by decide +kernel
theorem dL_law__2019 : decode cL_law_ 2019 = .ok (.ireturn, 1) := by decide +kernel
theorem dL_law__2020 : decode cL_law_ 2020 = .ok (.goto 772, 3) := by decide +kernel
theorem dL_law__2023 : decode cL_law_ 2023 = .ok (.aload_n 1, 1) := by decide +kernel
theorem dL_law__2024 : decode cL_law_ 2024 = .ok (.aload_n 0, 1) := by decide +kernel
theorem dL_law__2025 : decode cL_law_ 2025 = .ok (.iload 4, 2) := by decide +kernel
theorem dL_law__2027 : decode cL_law_ 2027 = .ok (.iconst 1, 1) := by decide +kernel
theorem dL_law__2028 : decode cL_law_ 2028 = .ok (.iadd, 1) := by decide +kernel
theorem dL_law__2029 : decode cL_law_ 2029 = .ok (.iaload, 1) := by decide +kernel
theorem dL_law__2030 : decode cL_law_ 2030 = .ok (.aload_n 0, 1) := by decide +kernel
theorem dL_law__2031 : decode cL_law_ 2031 = .ok (.iload 4, 2) := by decide +kernel
theorem dL_law__2033 : decode cL_law_ 2033 = .ok (.iconst 2, 1) := by decide +kernel
theorem dL_law__2034 : decode cL_law_ 2034 = .ok (.iadd, 1) := by decide +kernel
theorem dL_law__2035 : decode cL_law_ 2035 = .ok (.iaload, 1) := by decide +kernel
theorem dL_law__2036 : decode cL_law_ 2036 = .ok (.aload_n 3, 1) := by decide +kernel
theorem dL_law__2037 : decode cL_law_ 2037 = .ok (.invokestatic 255, 3) := by decide +kernel
theorem dL_law__2040 : decode cL_law_ 2040 = .ok (.istore 5, 2) := by decide +kernel
theorem dL_law__2042 : decode cL_law_ 2042 = .ok (.aload_n 2, 1) := by decide +kernel
theorem dL_law__2043 : decode cL_law_ 2043 = .ok (.aload_n 0, 1) := by decide +kernel
theorem dL_law__2044 : decode cL_law_ 2044 = .ok (.iload 4, 2) := by decide +kernel
theorem dL_law__2046 : decode cL_law_ 2046 = .ok (.iconst 1, 1) := by decide +kernel
theorem dL_law__2047 : decode cL_law_ 2047 = .ok (.iadd, 1) := by decide +kernel
theorem dL_law__2048 : decode cL_law_ 2048 = .ok (.iaload, 1) := by decide +kernel
theorem dL_law__2049 : decode cL_law_ 2049 = .ok (.aload_n 0, 1) := by decide +kernel
theorem dL_law__2050 : decode cL_law_ 2050 = .ok (.iload 4, 2) := by decide +kernel
theorem dL_law__2052 : decode cL_law_ 2052 = .ok (.iconst 2, 1) := by decide +kernel
theorem dL_law__2053 : decode cL_law_ 2053 = .ok (.iadd, 1) := by decide +kernel
theorem dL_law__2054 : decode cL_law_ 2054 = .ok (.iaload, 1) := by decide +kernel
theorem dL_law__2055 : decode cL_law_ 2055 = .ok (.invokevirtual 257, 3) := by decide +kernel
theorem dL_law__2058 : decode cL_law_ 2058 = .ok (.istore 6, 2) := by decide +kernel
theorem dL_law__2060 : decode cL_law_ 2060 = .ok (.aload_n 2, 1) := by decide +kernel
theorem dL_law__2061 : decode cL_law_ 2061 = .ok (.invokevirtual 142, 3) := by decide +kernel
theorem dL_law__2064 : decode cL_law_ 2064 = .ok (.iload 5, 2) := by decide +kernel
theorem dL_law__2066 : decode cL_law_ 2066 = .ok (.if_icmp .eq 5, 3) := by decide +kernel
theorem dL_law__2069 : decode cL_law_ 2069 = .ok (.iconst 0, 1) := by decide +kernel
theorem dL_law__2070 : decode cL_law_ 2070 = .ok (.ireturn, 1) := by decide +kernel
theorem dL_law__2071 : decode cL_law_ 2071 = .ok (.iload 5, 2) := by decide +kernel
theorem dL_law__2073 : decode cL_law_ 2073 = .ok (.ifCond .ne 15, 3) := by decide +kernel
theorem dL_law__2076 : decode cL_law_ 2076 = .ok (.aload_n 3, 1) := by decide +kernel
theorem dL_law__2077 : decode cL_law_ 2077 = .ok (.iconst 0, 1) := by decide +kernel
theorem dL_law__2078 : decode cL_law_ 2078 = .ok (.laload, 1) := by decide +kernel
theorem dL_law__2079 : decode cL_law_ 2079 = .ok (.iload 6, 2) := by decide +kernel
theorem dL_law__2081 : decode cL_law_ 2081 = .ok (.i2l, 1) := by decide +kernel
theorem dL_law__2082 : decode cL_law_ 2082 = .ok (.lcmp, 1) := by decide +kernel
theorem dL_law__2083 : decode cL_law_ 2083 = .ok (.ifCond .eq 5, 3) := by decide +kernel
theorem dL_law__2086 : decode cL_law_ 2086 = .ok (.iconst 0, 1) := by decide +kernel
theorem dL_law__2087 : decode cL_law_ 2087 = .ok (.ireturn, 1) := by decide +kernel
theorem dL_law__2088 : decode cL_law_ 2088 = .ok (.goto 704, 3) := by decide +kernel
theorem dL_law__2091 : decode cL_law_ 2091 = .ok (.aload_n 1, 1) := by decide +kernel
theorem dL_law__2092 : decode cL_law_ 2092 = .ok (.aload_n 0, 1) := by decide +kernel
theorem dL_law__2093 : decode cL_law_ 2093 = .ok (.iload 4, 2) := by decide +kernel
theorem dL_law__2095 : decode cL_law_ 2095 = .ok (.iconst 1, 1) := by decide +kernel
theorem dL_law__2096 : decode cL_law_ 2096 = .ok (.iadd, 1) := by decide +kernel
theorem dL_law__2097 : decode cL_law_ 2097 = .ok (.iaload, 1) := by decide +kernel
theorem dL_law__2098 : decode cL_law_ 2098 = .ok (.aload_n 0, 1) := by decide +kernel
theorem dL_law__2099 : decode cL_law_ 2099 = .ok (.iload 4, 2) := by decide +kernel
theorem dL_law__2101 : decode cL_law_ 2101 = .ok (.iconst 2, 1) := by decide +kernel
theorem dL_law__2102 : decode cL_law_ 2102 = .ok (.iadd, 1) := by decide +kernel
theorem dL_law__2103 : decode cL_law_ 2103 = .ok (.iaload, 1) := by decide +kernel
theorem dL_law__2104 : decode cL_law_ 2104 = .ok (.aload_n 3, 1) := by decide +kernel
theorem dL_law__2105 : decode cL_law_ 2105 = .ok (.invokestatic 258, 3) := by decide +kernel
theorem dL_law__2108 : decode cL_law_ 2108 = .ok (.istore 5, 2) := by decide +kernel
theorem dL_law__2110 : decode cL_law_ 2110 = .ok (.aload_n 2, 1) := by decide +kernel
theorem dL_law__2111 : decode cL_law_ 2111 = .ok (.aload_n 0, 1) := by decide +kernel
theorem dL_law__2112 : decode cL_law_ 2112 = .ok (.iload 4, 2) := by decide +kernel
theorem dL_law__2114 : decode cL_law_ 2114 = .ok (.iconst 1, 1) := by decide +kernel
theorem dL_law__2115 : decode cL_law_ 2115 = .ok (.iadd, 1) := by decide +kernel
theorem dL_law__2116 : decode cL_law_ 2116 = .ok (.iaload, 1) := by decide +kernel
theorem dL_law__2117 : decode cL_law_ 2117 = .ok (.aload_n 0, 1) := by decide +kernel
theorem dL_law__2118 : decode cL_law_ 2118 = .ok (.iload 4, 2) := by decide +kernel
theorem dL_law__2120 : decode cL_law_ 2120 = .ok (.iconst 2, 1) := by decide +kernel
theorem dL_law__2121 : decode cL_law_ 2121 = .ok (.iadd, 1) := by decide +kernel
theorem dL_law__2122 : decode cL_law_ 2122 = .ok (.iaload, 1) := by decide +kernel
theorem dL_law__2123 : decode cL_law_ 2123 = .ok (.invokevirtual 260, 3) := by decide +kernel
theorem dL_law__2126 : decode cL_law_ 2126 = .ok (.istore 6, 2) := by decide +kernel
theorem dL_law__2128 : decode cL_law_ 2128 = .ok (.aload_n 2, 1) := by decide +kernel
theorem dL_law__2129 : decode cL_law_ 2129 = .ok (.invokevirtual 142, 3) := by decide +kernel
theorem dL_law__2132 : decode cL_law_ 2132 = .ok (.iload 5, 2) := by decide +kernel
theorem dL_law__2134 : decode cL_law_ 2134 = .ok (.if_icmp .eq 5, 3) := by decide +kernel
theorem dL_law__2137 : decode cL_law_ 2137 = .ok (.iconst 0, 1) := by decide +kernel
theorem dL_law__2138 : decode cL_law_ 2138 = .ok (.ireturn, 1) := by decide +kernel
theorem dL_law__2139 : decode cL_law_ 2139 = .ok (.iload 5, 2) := by decide +kernel
theorem dL_law__2141 : decode cL_law_ 2141 = .ok (.ifCond .ne 15, 3) := by decide +kernel
theorem dL_law__2144 : decode cL_law_ 2144 = .ok (.aload_n 3, 1) := by decide +kernel
theorem dL_law__2145 : decode cL_law_ 2145 = .ok (.iconst 0, 1) := by decide +kernel
theorem dL_law__2146 : decode cL_law_ 2146 = .ok (.laload, 1) := by decide +kernel
theorem dL_law__2147 : decode cL_law_ 2147 = .ok (.iload 6, 2) := by decide +kernel
theorem dL_law__2149 : decode cL_law_ 2149 = .ok (.i2l, 1) := by decide +kernel
theorem dL_law__2150 : decode cL_law_ 2150 = .ok (.lcmp, 1) := by decide +kernel
theorem dL_law__2151 : decode cL_law_ 2151 = .ok (.ifCond .eq 5, 3) := by decide +kernel
theorem dL_law__2154 : decode cL_law_ 2154 = .ok (.iconst 0, 1) := by decide +kernel
theorem dL_law__2155 : decode cL_law_ 2155 = .ok (.ireturn, 1) := by decide +kernel
theorem dL_law__2156 : decode cL_law_ 2156 = .ok (.goto 636, 3) := by decide +kernel
theorem dL_law__2159 : decode cL_law_ 2159 = .ok (.aload_n 1, 1) := by decide +kernel
theorem dL_law__2160 : decode cL_law_ 2160 = .ok (.aload_n 0, 1) := by decide +kernel
theorem dL_law__2161 : decode cL_law_ 2161 = .ok (.iload 4, 2) := by decide +kernel
theorem dL_law__2163 : decode cL_law_ 2163 = .ok (.iconst 1, 1) := by decide +kernel
theorem dL_law__2164 : decode cL_law_ 2164 = .ok (.iadd, 1) := by decide +kernel
theorem dL_law__2165 : decode cL_law_ 2165 = .ok (.iaload, 1) := by decide +kernel
theorem dL_law__2166 : decode cL_law_ 2166 = .ok (.aload_n 0, 1) := by decide +kernel
theorem dL_law__2167 : decode cL_law_ 2167 = .ok (.iload 4, 2) := by decide +kernel
theorem dL_law__2169 : decode cL_law_ 2169 = .ok (.iconst 2, 1) := by decide +kernel
theorem dL_law__2170 : decode cL_law_ 2170 = .ok (.iadd, 1) := by decide +kernel
theorem dL_law__2171 : decode cL_law_ 2171 = .ok (.iaload, 1) := by decide +kernel
theorem dL_law__2172 : decode cL_law_ 2172 = .ok (.aload_n 3, 1) := by decide +kernel
theorem dL_law__2173 : decode cL_law_ 2173 = .ok (.invokestatic 261, 3) := by decide +kernel
theorem dL_law__2176 : decode cL_law_ 2176 = .ok (.istore 5, 2) := by decide +kernel
theorem dL_law__2178 : decode cL_law_ 2178 = .ok (.aload_n 2, 1) := by decide +kernel
theorem dL_law__2179 : decode cL_law_ 2179 = .ok (.aload_n 0, 1) := by decide +kernel
theorem dL_law__2180 : decode cL_law_ 2180 = .ok (.iload 4, 2) := by decide +kernel
theorem dL_law__2182 : decode cL_law_ 2182 = .ok (.iconst 1, 1) := by decide +kernel
theorem dL_law__2183 : decode cL_law_ 2183 = .ok (.iadd, 1) := by decide +kernel
theorem dL_law__2184 : decode cL_law_ 2184 = .ok (.iaload, 1) := by decide +kernel
theorem dL_law__2185 : decode cL_law_ 2185 = .ok (.aload_n 0, 1) := by decide +kernel
theorem dL_law__2186 : decode cL_law_ 2186 = .ok (.iload 4, 2) := by decide +kernel
theorem dL_law__2188 : decode cL_law_ 2188 = .ok (.iconst 2, 1) := by decide +kernel
theorem dL_law__2189 : decode cL_law_ 2189 = .ok (.iadd, 1) := by decide +kernel
theorem dL_law__2190 : decode cL_law_ 2190 = .ok (.iaload, 1) := by decide +kernel
theorem dL_law__2191 : decode cL_law_ 2191 = .ok (.invokevirtual 263, 3) := by decide +kernel
theorem dL_law__2194 : decode cL_law_ 2194 = .ok (.istore 6, 2) := by decide +kernel
theorem dL_law__2196 : decode cL_law_ 2196 = .ok (.aload_n 2, 1) := by decide +kernel
theorem dL_law__2197 : decode cL_law_ 2197 = .ok (.invokevirtual 142, 3) := by decide +kernel
theorem dL_law__2200 : decode cL_law_ 2200 = .ok (.iload 5, 2) := by decide +kernel
theorem dL_law__2202 : decode cL_law_ 2202 = .ok (.if_icmp .eq 5, 3) := by decide +kernel
theorem dL_law__2205 : decode cL_law_ 2205 = .ok (.iconst 0, 1) := by decide +kernel
theorem dL_law__2206 : decode cL_law_ 2206 = .ok (.ireturn, 1) := by decide +kernel
theorem dL_law__2207 : decode cL_law_ 2207 = .ok (.iload 5, 2) := by decide +kernel
theorem dL_law__2209 : decode cL_law_ 2209 = .ok (.ifCond .ne 15, 3) := by decide +kernel
theorem dL_law__2212 : decode cL_law_ 2212 = .ok (.aload_n 3, 1) := by decide +kernel
theorem dL_law__2213 : decode cL_law_ 2213 = .ok (.iconst 0, 1) := by decide +kernel
theorem dL_law__2214 : decode cL_law_ 2214 = .ok (.laload, 1) := by decide +kernel
theorem dL_law__2215 : decode cL_law_ 2215 = .ok (.iload 6, 2) := by decide +kernel
theorem dL_law__2217 : decode cL_law_ 2217 = .ok (.i2l, 1) := by decide +kernel
theorem dL_law__2218 : decode cL_law_ 2218 = .ok (.lcmp, 1) := by decide +kernel
theorem dL_law__2219 : decode cL_law_ 2219 = .ok (.ifCond .eq 5, 3) := by decide +kernel
theorem dL_law__2222 : decode cL_law_ 2222 = .ok (.iconst 0, 1) := by decide +kernel
theorem dL_law__2223 : decode cL_law_ 2223 = .ok (.ireturn, 1) := by decide +kernel
theorem dL_law__2224 : decode cL_law_ 2224 = .ok (.goto 568, 3) := by decide +kernel
theorem dL_law__2227 : decode cL_law_ 2227 = .ok (.aload_n 1, 1) := by decide +kernel
theorem dL_law__2228 : decode cL_law_ 2228 = .ok (.invokevirtual 264, 3) := by decide +kernel
theorem dL_law__2231 : decode cL_law_ 2231 = .ok (.aload_n 2, 1) := by decide +kernel
theorem dL_law__2232 : decode cL_law_ 2232 = .ok (.invokevirtual 267, 3) := by decide +kernel
theorem dL_law__2235 : decode cL_law_ 2235 = .ok (.if_icmp .eq 557, 3) := by decide +kernel
theorem dL_law__2238 : decode cL_law_ 2238 = .ok (.iconst 0, 1) := by decide +kernel
theorem dL_law__2239 : decode cL_law_ 2239 = .ok (.ireturn, 1) := by decide +kernel
theorem dL_law__2240 : decode cL_law_ 2240 = .ok (.aload_n 1, 1) := by decide +kernel
theorem dL_law__2241 : decode cL_law_ 2241 = .ok (.invokevirtual 268, 3) := by decide +kernel
theorem dL_law__2244 : decode cL_law_ 2244 = .ok (.aload_n 2, 1) := by decide +kernel
theorem dL_law__2245 : decode cL_law_ 2245 = .ok (.invokevirtual 271, 3) := by decide +kernel
theorem dL_law__2248 : decode cL_law_ 2248 = .ok (.if_icmp .eq 544, 3) := by decide +kernel
theorem dL_law__2251 : decode cL_law_ 2251 = .ok (.iconst 0, 1) := by decide +kernel
theorem dL_law__2252 : decode cL_law_ 2252 = .ok (.ireturn, 1) := by decide +kernel
theorem dL_law__2253 : decode cL_law_ 2253 = .ok (.aload_n 1, 1) := by decide +kernel
theorem dL_law__2254 : decode cL_law_ 2254 = .ok (.invokevirtual 272, 3) := by decide +kernel
theorem dL_law__2257 : decode cL_law_ 2257 = .ok (.aload_n 2, 1) := by decide +kernel
theorem dL_law__2258 : decode cL_law_ 2258 = .ok (.invokevirtual 275, 3) := by decide +kernel
theorem dL_law__2261 : decode cL_law_ 2261 = .ok (.if_icmp .eq 531, 3) := by decide +kernel
theorem dL_law__2264 : decode cL_law_ 2264 = .ok (.iconst 0, 1) := by decide +kernel
theorem dL_law__2265 : decode cL_law_ 2265 = .ok (.ireturn, 1) := by decide +kernel
theorem dL_law__2266 : decode cL_law_ 2266 = .ok (.aload_n 1, 1) := by decide +kernel
theorem dL_law__2267 : decode cL_law_ 2267 = .ok (.invokevirtual 276, 3) := by decide +kernel
theorem dL_law__2270 : decode cL_law_ 2270 = .ok (.aload_n 2, 1) := by decide +kernel
theorem dL_law__2271 : decode cL_law_ 2271 = .ok (.invokevirtual 279, 3) := by decide +kernel
theorem dL_law__2274 : decode cL_law_ 2274 = .ok (.if_icmp .eq 518, 3) := by decide +kernel
theorem dL_law__2277 : decode cL_law_ 2277 = .ok (.iconst 0, 1) := by decide +kernel
theorem dL_law__2278 : decode cL_law_ 2278 = .ok (.ireturn, 1) := by decide +kernel
theorem dL_law__2279 : decode cL_law_ 2279 = .ok (.aload_n 1, 1) := by decide +kernel
theorem dL_law__2280 : decode cL_law_ 2280 = .ok (.invokevirtual 280, 3) := by decide +kernel
theorem dL_law__2283 : decode cL_law_ 2283 = .ok (.aload_n 2, 1) := by decide +kernel
theorem dL_law__2284 : decode cL_law_ 2284 = .ok (.invokevirtual 283, 3) := by decide +kernel
theorem dL_law__2287 : decode cL_law_ 2287 = .ok (.if_icmp .eq 505, 3) := by decide +kernel
theorem dL_law__2290 : decode cL_law_ 2290 = .ok (.iconst 0, 1) := by decide +kernel
theorem dL_law__2291 : decode cL_law_ 2291 = .ok (.ireturn, 1) := by decide +kernel
theorem dL_law__2292 : decode cL_law_ 2292 = .ok (.aload_n 1, 1) := by decide +kernel
theorem dL_law__2293 : decode cL_law_ 2293 = .ok (.invokevirtual 284, 3) := by decide +kernel
theorem dL_law__2296 : decode cL_law_ 2296 = .ok (.aload_n 2, 1) := by decide +kernel
theorem dL_law__2297 : decode cL_law_ 2297 = .ok (.invokevirtual 287, 3) := by decide +kernel
theorem dL_law__2300 : decode cL_law_ 2300 = .ok (.if_icmp .eq 492, 3) := by decide +kernel
theorem dL_law__2303 : decode cL_law_ 2303 = .ok (.iconst 0, 1) := by decide +kernel
theorem dL_law__2304 : decode cL_law_ 2304 = .ok (.ireturn, 1) := by decide +kernel
theorem dL_law__2305 : decode cL_law_ 2305 = .ok (.aload_n 1, 1) := by decide +kernel
theorem dL_law__2306 : decode cL_law_ 2306 = .ok (.aload_n 0, 1) := by decide +kernel
theorem dL_law__2307 : decode cL_law_ 2307 = .ok (.iload 4, 2) := by decide +kernel
theorem dL_law__2309 : decode cL_law_ 2309 = .ok (.iconst 1, 1) := by decide +kernel
theorem dL_law__2310 : decode cL_law_ 2310 = .ok (.iadd, 1) := by decide +kernel
theorem dL_law__2311 : decode cL_law_ 2311 = .ok (.iaload, 1) := by decide +kernel
theorem dL_law__2312 : decode cL_law_ 2312 = .ok (.aload_n 0, 1) := by decide +kernel
theorem dL_law__2313 : decode cL_law_ 2313 = .ok (.iload 4, 2) := by decide +kernel
theorem dL_law__2315 : decode cL_law_ 2315 = .ok (.iconst 2, 1) := by decide +kernel
theorem dL_law__2316 : decode cL_law_ 2316 = .ok (.iadd, 1) := by decide +kernel
theorem dL_law__2317 : decode cL_law_ 2317 = .ok (.iaload, 1) := by decide +kernel
theorem dL_law__2318 : decode cL_law_ 2318 = .ok (.aload_n 0, 1) := by decide +kernel
theorem dL_law__2319 : decode cL_law_ 2319 = .ok (.iload 4, 2) := by decide +kernel
theorem dL_law__2321 : decode cL_law_ 2321 = .ok (.iconst 3, 1) := by decide +kernel
theorem dL_law__2322 : decode cL_law_ 2322 = .ok (.iadd, 1) := by decide +kernel
theorem dL_law__2323 : decode cL_law_ 2323 = .ok (.iaload, 1) := by decide +kernel
theorem dL_law__2324 : decode cL_law_ 2324 = .ok (.aload_n 3, 1) := by decide +kernel
theorem dL_law__2325 : decode cL_law_ 2325 = .ok (.invokestatic 288, 3) := by decide +kernel
theorem dL_law__2328 : decode cL_law_ 2328 = .ok (.istore 5, 2) := by decide +kernel
theorem dL_law__2330 : decode cL_law_ 2330 = .ok (.aload_n 2, 1) := by decide +kernel
theorem dL_law__2331 : decode cL_law_ 2331 = .ok (.aload_n 0, 1) := by decide +kernel
theorem dL_law__2332 : decode cL_law_ 2332 = .ok (.iload 4, 2) := by decide +kernel
theorem dL_law__2334 : decode cL_law_ 2334 = .ok (.iconst 1, 1) := by decide +kernel
theorem dL_law__2335 : decode cL_law_ 2335 = .ok (.iadd, 1) := by decide +kernel
theorem dL_law__2336 : decode cL_law_ 2336 = .ok (.iaload, 1) := by decide +kernel
theorem dL_law__2337 : decode cL_law_ 2337 = .ok (.aload_n 0, 1) := by decide +kernel
theorem dL_law__2338 : decode cL_law_ 2338 = .ok (.iload 4, 2) := by decide +kernel
theorem dL_law__2340 : decode cL_law_ 2340 = .ok (.iconst 2, 1) := by decide +kernel
theorem dL_law__2341 : decode cL_law_ 2341 = .ok (.iadd, 1) := by decide +kernel
theorem dL_law__2342 : decode cL_law_ 2342 = .ok (.iaload, 1) := by decide +kernel
theorem dL_law__2343 : decode cL_law_ 2343 = .ok (.aload_n 0, 1) := by decide +kernel
theorem dL_law__2344 : decode cL_law_ 2344 = .ok (.iload 4, 2) := by decide +kernel
theorem dL_law__2346 : decode cL_law_ 2346 = .ok (.iconst 3, 1) := by decide +kernel
theorem dL_law__2347 : decode cL_law_ 2347 = .ok (.iadd, 1) := by decide +kernel
theorem dL_law__2348 : decode cL_law_ 2348 = .ok (.iaload, 1) := by decide +kernel
theorem dL_law__2349 : decode cL_law_ 2349 = .ok (.invokevirtual 290, 3) := by decide +kernel
theorem dL_law__2352 : decode cL_law_ 2352 = .ok (.istore 6, 2) := by decide +kernel
theorem dL_law__2354 : decode cL_law_ 2354 = .ok (.aload_n 2, 1) := by decide +kernel
theorem dL_law__2355 : decode cL_law_ 2355 = .ok (.invokevirtual 142, 3) := by decide +kernel
theorem dL_law__2358 : decode cL_law_ 2358 = .ok (.iload 5, 2) := by decide +kernel
theorem dL_law__2360 : decode cL_law_ 2360 = .ok (.if_icmp .eq 5, 3) := by decide +kernel
theorem dL_law__2363 : decode cL_law_ 2363 = .ok (.iconst 0, 1) := by decide +kernel
theorem dL_law__2364 : decode cL_law_ 2364 = .ok (.ireturn, 1) := by decide +kernel
theorem dL_law__2365 : decode cL_law_ 2365 = .ok (.iload 5, 2) := by decide +kernel
theorem dL_law__2367 : decode cL_law_ 2367 = .ok (.ifCond .ne 15, 3) := by decide +kernel
theorem dL_law__2370 : decode cL_law_ 2370 = .ok (.aload_n 3, 1) := by decide +kernel
theorem dL_law__2371 : decode cL_law_ 2371 = .ok (.iconst 0, 1) := by decide +kernel
theorem dL_law__2372 : decode cL_law_ 2372 = .ok (.laload, 1) := by decide +kernel
theorem dL_law__2373 : decode cL_law_ 2373 = .ok (.iload 6, 2) := by decide +kernel
theorem dL_law__2375 : decode cL_law_ 2375 = .ok (.i2l, 1) := by decide +kernel
theorem dL_law__2376 : decode cL_law_ 2376 = .ok (.lcmp, 1) := by decide +kernel
theorem dL_law__2377 : decode cL_law_ 2377 = .ok (.ifCond .eq 5, 3) := by decide +kernel
theorem dL_law__2380 : decode cL_law_ 2380 = .ok (.iconst 0, 1) := by decide +kernel
theorem dL_law__2381 : decode cL_law_ 2381 = .ok (.ireturn, 1) := by decide +kernel
theorem dL_law__2382 : decode cL_law_ 2382 = .ok (.goto 410, 3) := by decide +kernel
theorem dL_law__2385 : decode cL_law_ 2385 = .ok (.aload_n 1, 1) := by decide +kernel
theorem dL_law__2386 : decode cL_law_ 2386 = .ok (.aload_n 0, 1) := by decide +kernel
theorem dL_law__2387 : decode cL_law_ 2387 = .ok (.iload 4, 2) := by decide +kernel
theorem dL_law__2389 : decode cL_law_ 2389 = .ok (.iconst 1, 1) := by decide +kernel
theorem dL_law__2390 : decode cL_law_ 2390 = .ok (.iadd, 1) := by decide +kernel
theorem dL_law__2391 : decode cL_law_ 2391 = .ok (.iaload, 1) := by decide +kernel
theorem dL_law__2392 : decode cL_law_ 2392 = .ok (.aload_n 0, 1) := by decide +kernel
theorem dL_law__2393 : decode cL_law_ 2393 = .ok (.iload 4, 2) := by decide +kernel
theorem dL_law__2395 : decode cL_law_ 2395 = .ok (.iconst 2, 1) := by decide +kernel
theorem dL_law__2396 : decode cL_law_ 2396 = .ok (.iadd, 1) := by decide +kernel
theorem dL_law__2397 : decode cL_law_ 2397 = .ok (.iaload, 1) := by decide +kernel
theorem dL_law__2398 : decode cL_law_ 2398 = .ok (.ifCond .eq 7, 3) := by decide +kernel
theorem dL_law__2401 : decode cL_law_ 2401 = .ok (.iconst 1, 1) := by decide +kernel
theorem dL_law__2402 : decode cL_law_ 2402 = .ok (.goto 4, 3) := by decide +kernel
theorem dL_law__2405 : decode cL_law_ 2405 = .ok (.iconst 0, 1) := by decide +kernel
theorem dL_law__2406 : decode cL_law_ 2406 = .ok (.aload_n 3, 1) := by decide +kernel
theorem dL_law__2407 : decode cL_law_ 2407 = .ok (.invokestatic 291, 3) := by decide +kernel
theorem dL_law__2410 : decode cL_law_ 2410 = .ok (.istore 5, 2) := by decide +kernel
theorem dL_law__2412 : decode cL_law_ 2412 = .ok (.aload_n 2, 1) := by decide +kernel
theorem dL_law__2413 : decode cL_law_ 2413 = .ok (.aload_n 0, 1) := by decide +kernel
theorem dL_law__2414 : decode cL_law_ 2414 = .ok (.iload 4, 2) := by decide +kernel
theorem dL_law__2416 : decode cL_law_ 2416 = .ok (.iconst 1, 1) := by decide +kernel
theorem dL_law__2417 : decode cL_law_ 2417 = .ok (.iadd, 1) := by decide +kernel
theorem dL_law__2418 : decode cL_law_ 2418 = .ok (.iaload, 1) := by decide +kernel
theorem dL_law__2419 : decode cL_law_ 2419 = .ok (.aload_n 0, 1) := by decide +kernel
theorem dL_law__2420 : decode cL_law_ 2420 = .ok (.iload 4, 2) := by decide +kernel
theorem dL_law__2422 : decode cL_law_ 2422 = .ok (.iconst 2, 1) := by decide +kernel
theorem dL_law__2423 : decode cL_law_ 2423 = .ok (.iadd, 1) := by decide +kernel
theorem dL_law__2424 : decode cL_law_ 2424 = .ok (.iaload, 1) := by decide +kernel
theorem dL_law__2425 : decode cL_law_ 2425 = .ok (.ifCond .eq 7, 3) := by decide +kernel
theorem dL_law__2428 : decode cL_law_ 2428 = .ok (.iconst 1, 1) := by decide +kernel
theorem dL_law__2429 : decode cL_law_ 2429 = .ok (.goto 4, 3) := by decide +kernel
theorem dL_law__2432 : decode cL_law_ 2432 = .ok (.iconst 0, 1) := by decide +kernel
theorem dL_law__2433 : decode cL_law_ 2433 = .ok (.invokevirtual 293, 3) := by decide +kernel
theorem dL_law__2436 : decode cL_law_ 2436 = .ok (.istore 6, 2) := by decide +kernel
theorem dL_law__2438 : decode cL_law_ 2438 = .ok (.aload_n 2, 1) := by decide +kernel
theorem dL_law__2439 : decode cL_law_ 2439 = .ok (.invokevirtual 142, 3) := by decide +kernel
theorem dL_law__2442 : decode cL_law_ 2442 = .ok (.iload 5, 2) := by decide +kernel
theorem dL_law__2444 : decode cL_law_ 2444 = .ok (.if_icmp .eq 5, 3) := by decide +kernel
theorem dL_law__2447 : decode cL_law_ 2447 = .ok (.iconst 0, 1) := by decide +kernel
theorem dL_law__2448 : decode cL_law_ 2448 = .ok (.ireturn, 1) := by decide +kernel
theorem dL_law__2449 : decode cL_law_ 2449 = .ok (.iload 5, 2) := by decide +kernel
theorem dL_law__2451 : decode cL_law_ 2451 = .ok (.ifCond .ne 15, 3) := by decide +kernel
theorem dL_law__2454 : decode cL_law_ 2454 = .ok (.aload_n 3, 1) := by decide +kernel
theorem dL_law__2455 : decode cL_law_ 2455 = .ok (.iconst 0, 1) := by decide +kernel
theorem dL_law__2456 : decode cL_law_ 2456 = .ok (.laload, 1) := by decide +kernel
theorem dL_law__2457 : decode cL_law_ 2457 = .ok (.iload 6, 2) := by decide +kernel
theorem dL_law__2459 : decode cL_law_ 2459 = .ok (.i2l, 1) := by decide +kernel
theorem dL_law__2460 : decode cL_law_ 2460 = .ok (.lcmp, 1) := by decide +kernel
theorem dL_law__2461 : decode cL_law_ 2461 = .ok (.ifCond .eq 5, 3) := by decide +kernel
theorem dL_law__2464 : decode cL_law_ 2464 = .ok (.iconst 0, 1) := by decide +kernel
theorem dL_law__2465 : decode cL_law_ 2465 = .ok (.ireturn, 1) := by decide +kernel
theorem dL_law__2466 : decode cL_law_ 2466 = .ok (.goto 326, 3) := by decide +kernel
theorem dL_law__2469 : decode cL_law_ 2469 = .ok (.aload_n 1, 1) := by decide +kernel
theorem dL_law__2470 : decode cL_law_ 2470 = .ok (.aload_n 0, 1) := by decide +kernel
theorem dL_law__2471 : decode cL_law_ 2471 = .ok (.iload 4, 2) := by decide +kernel
theorem dL_law__2473 : decode cL_law_ 2473 = .ok (.iconst 1, 1) := by decide +kernel
theorem dL_law__2474 : decode cL_law_ 2474 = .ok (.iadd, 1) := by decide +kernel
theorem dL_law__2475 : decode cL_law_ 2475 = .ok (.iaload, 1) := by decide +kernel
theorem dL_law__2476 : decode cL_law_ 2476 = .ok (.aload_n 0, 1) := by decide +kernel
theorem dL_law__2477 : decode cL_law_ 2477 = .ok (.iload 4, 2) := by decide +kernel
theorem dL_law__2479 : decode cL_law_ 2479 = .ok (.iconst 2, 1) := by decide +kernel
theorem dL_law__2480 : decode cL_law_ 2480 = .ok (.iadd, 1) := by decide +kernel
theorem dL_law__2481 : decode cL_law_ 2481 = .ok (.iaload, 1) := by decide +kernel
theorem dL_law__2482 : decode cL_law_ 2482 = .ok (.ifCond .eq 7, 3) := by decide +kernel
theorem dL_law__2485 : decode cL_law_ 2485 = .ok (.iconst 1, 1) := by decide +kernel
theorem dL_law__2486 : decode cL_law_ 2486 = .ok (.goto 4, 3) := by decide +kernel
theorem dL_law__2489 : decode cL_law_ 2489 = .ok (.iconst 0, 1) := by decide +kernel
theorem dL_law__2490 : decode cL_law_ 2490 = .ok (.aload_n 3, 1) := by decide +kernel
theorem dL_law__2491 : decode cL_law_ 2491 = .ok (.invokestatic 294, 3) := by decide +kernel
theorem dL_law__2494 : decode cL_law_ 2494 = .ok (.istore 5, 2) := by decide +kernel
theorem dL_law__2496 : decode cL_law_ 2496 = .ok (.aload_n 2, 1) := by decide +kernel
theorem dL_law__2497 : decode cL_law_ 2497 = .ok (.aload_n 0, 1) := by decide +kernel
theorem dL_law__2498 : decode cL_law_ 2498 = .ok (.iload 4, 2) := by decide +kernel
theorem dL_law__2500 : decode cL_law_ 2500 = .ok (.iconst 1, 1) := by decide +kernel
theorem dL_law__2501 : decode cL_law_ 2501 = .ok (.iadd, 1) := by decide +kernel
theorem dL_law__2502 : decode cL_law_ 2502 = .ok (.iaload, 1) := by decide +kernel
theorem dL_law__2503 : decode cL_law_ 2503 = .ok (.aload_n 0, 1) := by decide +kernel
theorem dL_law__2504 : decode cL_law_ 2504 = .ok (.iload 4, 2) := by decide +kernel
theorem dL_law__2506 : decode cL_law_ 2506 = .ok (.iconst 2, 1) := by decide +kernel
theorem dL_law__2507 : decode cL_law_ 2507 = .ok (.iadd, 1) := by decide +kernel
theorem dL_law__2508 : decode cL_law_ 2508 = .ok (.iaload, 1) := by decide +kernel
theorem dL_law__2509 : decode cL_law_ 2509 = .ok (.ifCond .eq 7, 3) := by decide +kernel
theorem dL_law__2512 : decode cL_law_ 2512 = .ok (.iconst 1, 1) := by decide +kernel
theorem dL_law__2513 : decode cL_law_ 2513 = .ok (.goto 4, 3) := by decide +kernel
theorem dL_law__2516 : decode cL_law_ 2516 = .ok (.iconst 0, 1) := by decide +kernel
theorem dL_law__2517 : decode cL_law_ 2517 = .ok (.invokevirtual 296, 3) := by decide +kernel
theorem dL_law__2520 : decode cL_law_ 2520 = .ok (.istore 6, 2) := by decide +kernel
theorem dL_law__2522 : decode cL_law_ 2522 = .ok (.aload_n 2, 1) := by decide +kernel
theorem dL_law__2523 : decode cL_law_ 2523 = .ok (.invokevirtual 142, 3) := by decide +kernel
theorem dL_law__2526 : decode cL_law_ 2526 = .ok (.iload 5, 2) := by decide +kernel
theorem dL_law__2528 : decode cL_law_ 2528 = .ok (.if_icmp .eq 5, 3) := by decide +kernel
theorem dL_law__2531 : decode cL_law_ 2531 = .ok (.iconst 0, 1) := by decide +kernel
theorem dL_law__2532 : decode cL_law_ 2532 = .ok (.ireturn, 1) := by decide +kernel
theorem dL_law__2533 : decode cL_law_ 2533 = .ok (.iload 5, 2) := by decide +kernel
theorem dL_law__2535 : decode cL_law_ 2535 = .ok (.ifCond .ne 15, 3) := by decide +kernel
theorem dL_law__2538 : decode cL_law_ 2538 = .ok (.aload_n 3, 1) := by decide +kernel
theorem dL_law__2539 : decode cL_law_ 2539 = .ok (.iconst 0, 1) := by decide +kernel
theorem dL_law__2540 : decode cL_law_ 2540 = .ok (.laload, 1) := by decide +kernel
theorem dL_law__2541 : decode cL_law_ 2541 = .ok (.iload 6, 2) := by decide +kernel
theorem dL_law__2543 : decode cL_law_ 2543 = .ok (.i2l, 1) := by decide +kernel
theorem dL_law__2544 : decode cL_law_ 2544 = .ok (.lcmp, 1) := by decide +kernel
theorem dL_law__2545 : decode cL_law_ 2545 = .ok (.ifCond .eq 5, 3) := by decide +kernel
theorem dL_law__2548 : decode cL_law_ 2548 = .ok (.iconst 0, 1) := by decide +kernel
theorem dL_law__2549 : decode cL_law_ 2549 = .ok (.ireturn, 1) := by decide +kernel
theorem dL_law__2550 : decode cL_law_ 2550 = .ok (.goto 242, 3) := by decide +kernel
theorem dL_law__2553 : decode cL_law_ 2553 = .ok (.aload_n 1, 1) := by decide +kernel
theorem dL_law__2554 : decode cL_law_ 2554 = .ok (.aload_n 0, 1) := by decide +kernel
theorem dL_law__2555 : decode cL_law_ 2555 = .ok (.iload 4, 2) := by decide +kernel
theorem dL_law__2557 : decode cL_law_ 2557 = .ok (.iconst 1, 1) := by decide +kernel
theorem dL_law__2558 : decode cL_law_ 2558 = .ok (.iadd, 1) := by decide +kernel
theorem dL_law__2559 : decode cL_law_ 2559 = .ok (.iaload, 1) := by decide +kernel
theorem dL_law__2560 : decode cL_law_ 2560 = .ok (.aload_n 0, 1) := by decide +kernel
theorem dL_law__2561 : decode cL_law_ 2561 = .ok (.iload 4, 2) := by decide +kernel
theorem dL_law__2563 : decode cL_law_ 2563 = .ok (.iconst 2, 1) := by decide +kernel
theorem dL_law__2564 : decode cL_law_ 2564 = .ok (.iadd, 1) := by decide +kernel
theorem dL_law__2565 : decode cL_law_ 2565 = .ok (.iaload, 1) := by decide +kernel
theorem dL_law__2566 : decode cL_law_ 2566 = .ok (.ifCond .eq 7, 3) := by decide +kernel
theorem dL_law__2569 : decode cL_law_ 2569 = .ok (.iconst 1, 1) := by decide +kernel
theorem dL_law__2570 : decode cL_law_ 2570 = .ok (.goto 4, 3) := by decide +kernel
theorem dL_law__2573 : decode cL_law_ 2573 = .ok (.iconst 0, 1) := by decide +kernel
theorem dL_law__2574 : decode cL_law_ 2574 = .ok (.aload_n 3, 1) := by decide +kernel
theorem dL_law__2575 : decode cL_law_ 2575 = .ok (.invokestatic 297, 3) := by decide +kernel
theorem dL_law__2578 : decode cL_law_ 2578 = .ok (.istore 5, 2) := by decide +kernel
theorem dL_law__2580 : decode cL_law_ 2580 = .ok (.aload_n 2, 1) := by decide +kernel
theorem dL_law__2581 : decode cL_law_ 2581 = .ok (.aload_n 0, 1) := by decide +kernel
theorem dL_law__2582 : decode cL_law_ 2582 = .ok (.iload 4, 2) := by decide +kernel
theorem dL_law__2584 : decode cL_law_ 2584 = .ok (.iconst 1, 1) := by decide +kernel
theorem dL_law__2585 : decode cL_law_ 2585 = .ok (.iadd, 1) := by decide +kernel
theorem dL_law__2586 : decode cL_law_ 2586 = .ok (.iaload, 1) := by decide +kernel
theorem dL_law__2587 : decode cL_law_ 2587 = .ok (.aload_n 0, 1) := by decide +kernel
theorem dL_law__2588 : decode cL_law_ 2588 = .ok (.iload 4, 2) := by decide +kernel
theorem dL_law__2590 : decode cL_law_ 2590 = .ok (.iconst 2, 1) := by decide +kernel
theorem dL_law__2591 : decode cL_law_ 2591 = .ok (.iadd, 1) := by decide +kernel
theorem dL_law__2592 : decode cL_law_ 2592 = .ok (.iaload, 1) := by decide +kernel
theorem dL_law__2593 : decode cL_law_ 2593 = .ok (.ifCond .eq 7, 3) := by decide +kernel
theorem dL_law__2596 : decode cL_law_ 2596 = .ok (.iconst 1, 1) := by decide +kernel
theorem dL_law__2597 : decode cL_law_ 2597 = .ok (.goto 4, 3) := by decide +kernel
theorem dL_law__2600 : decode cL_law_ 2600 = .ok (.iconst 0, 1) := by decide +kernel
theorem dL_law__2601 : decode cL_law_ 2601 = .ok (.invokevirtual 299, 3) := by decide +kernel
theorem dL_law__2604 : decode cL_law_ 2604 = .ok (.istore 6, 2) := by decide +kernel
theorem dL_law__2606 : decode cL_law_ 2606 = .ok (.aload_n 2, 1) := by decide +kernel
theorem dL_law__2607 : decode cL_law_ 2607 = .ok (.invokevirtual 142, 3) := by decide +kernel
theorem dL_law__2610 : decode cL_law_ 2610 = .ok (.iload 5, 2) := by decide +kernel
theorem dL_law__2612 : decode cL_law_ 2612 = .ok (.if_icmp .eq 5, 3) := by decide +kernel
theorem dL_law__2615 : decode cL_law_ 2615 = .ok (.iconst 0, 1) := by decide +kernel
theorem dL_law__2616 : decode cL_law_ 2616 = .ok (.ireturn, 1) := by decide +kernel
theorem dL_law__2617 : decode cL_law_ 2617 = .ok (.iload 5, 2) := by decide +kernel
theorem dL_law__2619 : decode cL_law_ 2619 = .ok (.ifCond .ne 15, 3) := by decide +kernel
theorem dL_law__2622 : decode cL_law_ 2622 = .ok (.aload_n 3, 1) := by decide +kernel
theorem dL_law__2623 : decode cL_law_ 2623 = .ok (.iconst 0, 1) := by decide +kernel
theorem dL_law__2624 : decode cL_law_ 2624 = .ok (.laload, 1) := by decide +kernel
theorem dL_law__2625 : decode cL_law_ 2625 = .ok (.iload 6, 2) := by decide +kernel
theorem dL_law__2627 : decode cL_law_ 2627 = .ok (.i2l, 1) := by decide +kernel
theorem dL_law__2628 : decode cL_law_ 2628 = .ok (.lcmp, 1) := by decide +kernel
theorem dL_law__2629 : decode cL_law_ 2629 = .ok (.ifCond .eq 5, 3) := by decide +kernel
theorem dL_law__2632 : decode cL_law_ 2632 = .ok (.iconst 0, 1) := by decide +kernel
theorem dL_law__2633 : decode cL_law_ 2633 = .ok (.ireturn, 1) := by decide +kernel
theorem dL_law__2634 : decode cL_law_ 2634 = .ok (.goto 158, 3) := by decide +kernel
theorem dL_law__2637 : decode cL_law_ 2637 = .ok (.aload_n 1, 1) := by decide +kernel
theorem dL_law__2638 : decode cL_law_ 2638 = .ok (.aload_n 0, 1) := by decide +kernel
theorem dL_law__2639 : decode cL_law_ 2639 = .ok (.iload 4, 2) := by decide +kernel
theorem dL_law__2641 : decode cL_law_ 2641 = .ok (.iconst 1, 1) := by decide +kernel
theorem dL_law__2642 : decode cL_law_ 2642 = .ok (.iadd, 1) := by decide +kernel
theorem dL_law__2643 : decode cL_law_ 2643 = .ok (.iaload, 1) := by decide +kernel
theorem dL_law__2644 : decode cL_law_ 2644 = .ok (.aload_n 0, 1) := by decide +kernel
theorem dL_law__2645 : decode cL_law_ 2645 = .ok (.iload 4, 2) := by decide +kernel
theorem dL_law__2647 : decode cL_law_ 2647 = .ok (.iconst 2, 1) := by decide +kernel
theorem dL_law__2648 : decode cL_law_ 2648 = .ok (.iadd, 1) := by decide +kernel
theorem dL_law__2649 : decode cL_law_ 2649 = .ok (.iaload, 1) := by decide +kernel
theorem dL_law__2650 : decode cL_law_ 2650 = .ok (.aload_n 3, 1) := by decide +kernel
theorem dL_law__2651 : decode cL_law_ 2651 = .ok (.invokestatic 300, 3) := by decide +kernel
theorem dL_law__2654 : decode cL_law_ 2654 = .ok (.istore 5, 2) := by decide +kernel
theorem dL_law__2656 : decode cL_law_ 2656 = .ok (.aload_n 2, 1) := by decide +kernel
theorem dL_law__2657 : decode cL_law_ 2657 = .ok (.aload_n 0, 1) := by decide +kernel
theorem dL_law__2658 : decode cL_law_ 2658 = .ok (.iload 4, 2) := by decide +kernel
theorem dL_law__2660 : decode cL_law_ 2660 = .ok (.iconst 1, 1) := by decide +kernel
theorem dL_law__2661 : decode cL_law_ 2661 = .ok (.iadd, 1) := by decide +kernel
theorem dL_law__2662 : decode cL_law_ 2662 = .ok (.iaload, 1) := by decide +kernel
theorem dL_law__2663 : decode cL_law_ 2663 = .ok (.aload_n 0, 1) := by decide +kernel
theorem dL_law__2664 : decode cL_law_ 2664 = .ok (.iload 4, 2) := by decide +kernel
theorem dL_law__2666 : decode cL_law_ 2666 = .ok (.iconst 2, 1) := by decide +kernel
theorem dL_law__2667 : decode cL_law_ 2667 = .ok (.iadd, 1) := by decide +kernel
theorem dL_law__2668 : decode cL_law_ 2668 = .ok (.iaload, 1) := by decide +kernel
theorem dL_law__2669 : decode cL_law_ 2669 = .ok (.invokevirtual 302, 3) := by decide +kernel
theorem dL_law__2672 : decode cL_law_ 2672 = .ok (.istore 6, 2) := by decide +kernel
theorem dL_law__2674 : decode cL_law_ 2674 = .ok (.aload_n 2, 1) := by decide +kernel
theorem dL_law__2675 : decode cL_law_ 2675 = .ok (.invokevirtual 142, 3) := by decide +kernel
theorem dL_law__2678 : decode cL_law_ 2678 = .ok (.iload 5, 2) := by decide +kernel
theorem dL_law__2680 : decode cL_law_ 2680 = .ok (.if_icmp .eq 5, 3) := by decide +kernel
theorem dL_law__2683 : decode cL_law_ 2683 = .ok (.iconst 0, 1) := by decide +kernel
theorem dL_law__2684 : decode cL_law_ 2684 = .ok (.ireturn, 1) := by decide +kernel
theorem dL_law__2685 : decode cL_law_ 2685 = .ok (.iload 5, 2) := by decide +kernel
theorem dL_law__2687 : decode cL_law_ 2687 = .ok (.ifCond .ne 15, 3) := by decide +kernel
theorem dL_law__2690 : decode cL_law_ 2690 = .ok (.aload_n 3, 1) := by decide +kernel
theorem dL_law__2691 : decode cL_law_ 2691 = .ok (.iconst 0, 1) := by decide +kernel
theorem dL_law__2692 : decode cL_law_ 2692 = .ok (.laload, 1) := by decide +kernel
theorem dL_law__2693 : decode cL_law_ 2693 = .ok (.iload 6, 2) := by decide +kernel
theorem dL_law__2695 : decode cL_law_ 2695 = .ok (.i2l, 1) := by decide +kernel
theorem dL_law__2696 : decode cL_law_ 2696 = .ok (.lcmp, 1) := by decide +kernel
theorem dL_law__2697 : decode cL_law_ 2697 = .ok (.ifCond .eq 5, 3) := by decide +kernel
theorem dL_law__2700 : decode cL_law_ 2700 = .ok (.iconst 0, 1) := by decide +kernel
theorem dL_law__2701 : decode cL_law_ 2701 = .ok (.ireturn, 1) := by decide +kernel
theorem dL_law__2702 : decode cL_law_ 2702 = .ok (.goto 90, 3) := by decide +kernel
theorem dL_law__2705 : decode cL_law_ 2705 = .ok (.aload_n 1, 1) := by decide +kernel
theorem dL_law__2706 : decode cL_law_ 2706 = .ok (.aload_n 0, 1) := by decide +kernel
theorem dL_law__2707 : decode cL_law_ 2707 = .ok (.iload 4, 2) := by decide +kernel
theorem dL_law__2709 : decode cL_law_ 2709 = .ok (.iconst 1, 1) := by decide +kernel
theorem dL_law__2710 : decode cL_law_ 2710 = .ok (.iadd, 1) := by decide +kernel
theorem dL_law__2711 : decode cL_law_ 2711 = .ok (.iaload, 1) := by decide +kernel
theorem dL_law__2712 : decode cL_law_ 2712 = .ok (.invokevirtual 303, 3) := by decide +kernel
theorem dL_law__2715 : decode cL_law_ 2715 = .ok (.aload_n 2, 1) := by decide +kernel
theorem dL_law__2716 : decode cL_law_ 2716 = .ok (.aload_n 0, 1) := by decide +kernel
theorem dL_law__2717 : decode cL_law_ 2717 = .ok (.iload 4, 2) := by decide +kernel
theorem dL_law__2719 : decode cL_law_ 2719 = .ok (.iconst 1, 1) := by decide +kernel
theorem dL_law__2720 : decode cL_law_ 2720 = .ok (.iadd, 1) := by decide +kernel
theorem dL_law__2721 : decode cL_law_ 2721 = .ok (.iaload, 1) := by decide +kernel
theorem dL_law__2722 : decode cL_law_ 2722 = .ok (.invokevirtual 306, 3) := by decide +kernel
theorem dL_law__2725 : decode cL_law_ 2725 = .ok (.if_icmp .eq 67, 3) := by decide +kernel
theorem dL_law__2728 : decode cL_law_ 2728 = .ok (.iconst 0, 1) := by decide +kernel
theorem dL_law__2729 : decode cL_law_ 2729 = .ok (.ireturn, 1) := by decide +kernel
theorem dL_law__2730 : decode cL_law_ 2730 = .ok (.aload_n 1, 1) := by decide +kernel
theorem dL_law__2731 : decode cL_law_ 2731 = .ok (.invokevirtual 307, 3) := by decide +kernel
theorem dL_law__2734 : decode cL_law_ 2734 = .ok (.aload_n 2, 1) := by decide +kernel
theorem dL_law__2735 : decode cL_law_ 2735 = .ok (.invokevirtual 311, 3) := by decide +kernel
theorem dL_law__2738 : decode cL_law_ 2738 = .ok (.if_icmp .eq 54, 3) := by decide +kernel
theorem dL_law__2741 : decode cL_law_ 2741 = .ok (.iconst 0, 1) := by decide +kernel
theorem dL_law__2742 : decode cL_law_ 2742 = .ok (.ireturn, 1) := by decide +kernel
theorem dL_law__2743 : decode cL_law_ 2743 = .ok (.aload_n 1, 1) := by decide +kernel
theorem dL_law__2744 : decode cL_law_ 2744 = .ok (.invokevirtual 312, 3) := by decide +kernel
theorem dL_law__2747 : decode cL_law_ 2747 = .ok (.aload_n 2, 1) := by decide +kernel
theorem dL_law__2748 : decode cL_law_ 2748 = .ok (.invokevirtual 315, 3) := by decide +kernel
theorem dL_law__2751 : decode cL_law_ 2751 = .ok (.goto 41, 3) := by decide +kernel
theorem dL_law__2754 : decode cL_law_ 2754 = .ok (.aload_n 1, 1) := by decide +kernel
theorem dL_law__2755 : decode cL_law_ 2755 = .ok (.invokevirtual 316, 3) := by decide +kernel
theorem dL_law__2758 : decode cL_law_ 2758 = .ok (.aload_n 2, 1) := by decide +kernel
theorem dL_law__2759 : decode cL_law_ 2759 = .ok (.invokevirtual 319, 3) := by decide +kernel
theorem dL_law__2762 : decode cL_law_ 2762 = .ok (.if_icmp .eq 30, 3) := by decide +kernel
theorem dL_law__2765 : decode cL_law_ 2765 = .ok (.iconst 0, 1) := by decide +kernel
theorem dL_law__2766 : decode cL_law_ 2766 = .ok (.ireturn, 1) := by decide +kernel
theorem dL_law__2767 : decode cL_law_ 2767 = .ok (.aload_n 1, 1) := by decide +kernel
theorem dL_law__2768 : decode cL_law_ 2768 = .ok (.aload_n 0, 1) := by decide +kernel
theorem dL_law__2769 : decode cL_law_ 2769 = .ok (.iload 4, 2) := by decide +kernel
theorem dL_law__2771 : decode cL_law_ 2771 = .ok (.iconst 1, 1) := by decide +kernel
theorem dL_law__2772 : decode cL_law_ 2772 = .ok (.iadd, 1) := by decide +kernel
theorem dL_law__2773 : decode cL_law_ 2773 = .ok (.iaload, 1) := by decide +kernel
theorem dL_law__2774 : decode cL_law_ 2774 = .ok (.invokevirtual 320, 3) := by decide +kernel
theorem dL_law__2777 : decode cL_law_ 2777 = .ok (.aload_n 2, 1) := by decide +kernel
theorem dL_law__2778 : decode cL_law_ 2778 = .ok (.aload_n 0, 1) := by decide +kernel
theorem dL_law__2779 : decode cL_law_ 2779 = .ok (.iload 4, 2) := by decide +kernel
theorem dL_law__2781 : decode cL_law_ 2781 = .ok (.iconst 1, 1) := by decide +kernel
theorem dL_law__2782 : decode cL_law_ 2782 = .ok (.iadd, 1) := by decide +kernel
theorem dL_law__2783 : decode cL_law_ 2783 = .ok (.iaload, 1) := by decide +kernel
theorem dL_law__2784 : decode cL_law_ 2784 = .ok (.invokevirtual 323, 3) := by decide +kernel
theorem dL_law__2787 : decode cL_law_ 2787 = .ok (.if_icmp .eq 5, 3) := by decide +kernel
theorem dL_law__2790 : decode cL_law_ 2790 = .ok (.iconst 0, 1) := by decide +kernel
theorem dL_law__2791 : decode cL_law_ 2791 = .ok (.ireturn, 1) := by decide +kernel
theorem dL_law__2792 : decode cL_law_ 2792 = .ok (.iinc 4 6, 3) := by decide +kernel
theorem dL_law__2795 : decode cL_law_ 2795 = .ok (.goto (-2772), 3) := by decide +kernel
theorem dL_law__2798 : decode cL_law_ 2798 = .ok (.iconst 1, 1) := by decide +kernel
theorem dL_law__2799 : decode cL_law_ 2799 = .ok (.ireturn, 1) := by decide +kernel
