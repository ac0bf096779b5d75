set_option maxRecDepth 20000 in
theorem flX1_11 : aj_FL RX1 11 1 0 := ⟨_, _, _, cfX1, by decide, aj_mem 367 (by decide +kernel) (by decide +kernel)⟩
set_option maxRecDepth 20000 in
theorem flX1_17 : aj_FL RX1 17 1 1 := ⟨_, _, _, cfX1, by decide, aj_mem 368 (by decide +kernel) (by decide +kernel)⟩
set_option maxRecDepth 20000 in
theorem fpX1_17 : aj_FP RX1 17 1 1 := ⟨_, _, _, cfX1, by decide, aj_mem 368 (by decide +kernel) (by decide +kernel), rfl⟩
set_option maxRecDepth 20000 in
theorem flX1_21 : aj_FL RX1 21 1 2 := ⟨_, _, _, cfX1, by decide, aj_mem 369 (by decide +kernel) (by decide +kernel)⟩
set_option maxRecDepth 20000 in
theorem fpX1_21 : aj_FP RX1 21 1 2 := ⟨_, _, _, cfX1, by decide, aj_mem 369 (by decide +kernel) (by decide +kernel), rfl⟩
set_option maxRecDepth 20000 in
theorem flX11_180 : aj_FL RX11 180 1 2 := ⟨_, _, _, cfX1, by decide, aj_mem 370 (by decide +kernel) (by decide +kernel)⟩
set_option maxRecDepth 20000 in
theorem fpX11_180 : aj_FP RX11 180 1 2 := ⟨_, _, _, cfX1, by decide, aj_mem 370 (by decide +kernel) (by decide +kernel), rfl⟩
set_option maxRecDepth 20000 in
theorem flX5_9 : aj_FL RX5 9 5 0 := ⟨_, _, _, cfX5, by decide, aj_mem 394 (by decide +kernel) (by decide +kernel)⟩
set_option maxRecDepth 20000 in
theorem fpX5_9 : aj_FP RX5 9 5 0 := ⟨_, _, _, cfX5, by decide, aj_mem 394 (by decide +kernel) (by decide +kernel), rfl⟩
set_option maxRecDepth 20000 in
theorem flX8_53 : aj_FL RX8 53 5 0 := ⟨_, _, _, cfX5, by decide, aj_mem 395 (by decide +kernel) (by decide +kernel)⟩
set_option maxRecDepth 20000 in
theorem fpX8_53 : aj_FP RX8 53 5 0 := ⟨_, _, _, cfX5, by decide, aj_mem 395 (by decide +kernel) (by decide +kernel), rfl⟩
set_option maxRecDepth 20000 in
theorem flX11_295 : aj_FL RX11 295 5 0 := ⟨_, _, _, cfX5, by decide, aj_mem 396 (by decide +kernel) (by decide +kernel)⟩
set_option maxRecDepth 20000 in
theorem fpX11_295 : aj_FP RX11 295 5 0 := ⟨_, _, _, cfX5, by decide, aj_mem 396 (by decide +kernel) (by decide +kernel), rfl⟩
set_option maxRecDepth 20000 in
theorem flX5_15 : aj_FL RX5 15 5 1 := ⟨_, _, _, cfX5, by decide, aj_mem 397 (by decide +kernel) (by decide +kernel)⟩
set_option maxRecDepth 20000 in
theorem fpX5_15 : aj_FP RX5 15 5 1 := ⟨_, _, _, cfX5, by decide, aj_mem 397 (by decide +kernel) (by decide +kernel), rfl⟩
set_option maxRecDepth 20000 in
theorem flX8_110 : aj_FL RX8 110 5 1 := ⟨_, _, _, cfX5, by decide, aj_mem 398 (by decide +kernel) (by decide +kernel)⟩
set_option maxRecDepth 20000 in
theorem fpX8_110 : aj_FP RX8 110 5 1 := ⟨_, _, _, cfX5, by decide, aj_mem 398 (by decide +kernel) (by decide +kernel), rfl⟩
set_option maxRecDepth 20000 in
theorem flX11_219 : aj_FL RX11 219 5 1 := ⟨_, _, _, cfX5, by decide, aj_mem 399 (by decide +kernel) (by decide +kernel)⟩
set_option maxRecDepth 20000 in
theorem fpX11_219 : aj_FP RX11 219 5 1 := ⟨_, _, _, cfX5, by decide, aj_mem 399 (by decide +kernel) (by decide +kernel), rfl⟩
set_option maxRecDepth 20000 in
theorem flX5_18 : aj_FL RX5 18 5 2 := ⟨_, _, _, cfX5, by decide, aj_mem 400 (by decide +kernel) (by decide +kernel)⟩
set_option maxRecDepth 20000 in
theorem flX8_113 : aj_FL RX8 113 5 2 := ⟨_, _, _, cfX5, by decide, aj_mem 401 (by decide +kernel) (by decide +kernel)⟩
set_option maxRecDepth 20000 in
theorem flX5_22 : aj_FL RX5 22 5 3 := ⟨_, _, _, cfX5, by decide, aj_mem 402 (by decide +kernel) (by decide +kernel)⟩
set_option maxRecDepth 20000 in
theorem flX8_116 : aj_FL RX8 116 5 3 := ⟨_, _, _, cfX5, by decide, aj_mem 403 (by decide +kernel) (by decide +kernel)⟩
set_option maxRecDepth 20000 in
theorem flX5_25 : aj_FL RX5 25 5 4 := ⟨_, _, _, cfX5, by decide, aj_mem 404 (by decide +kernel) (by decide +kernel)⟩
set_option maxRecDepth 20000 in
theorem flX5_28 : aj_FL RX5 28 5 5 := ⟨_, _, _, cfX5, by decide, aj_mem 405 (by decide +kernel) (by decide +kernel)⟩
set_option maxRecDepth 20000 in
theorem flX5_31 : aj_FL RX5 31 5 6 := ⟨_, _, _, cfX5, by decide, aj_mem 406 (by decide +kernel) (by decide +kernel)⟩
set_option maxRecDepth 20000 in
theorem flX5_34 : aj_FL RX5 34 5 7 := ⟨_, _, _, cfX5, by decide, aj_mem 407 (by decide +kernel) (by decide +kernel)⟩
set_option maxRecDepth 20000 in
theorem fpX5_34 : aj_FP RX5 34 5 7 := ⟨_, _, _, cfX5, by decide, aj_mem 407 (by decide +kernel) (by decide +kernel), rfl⟩
set_option maxRecDepth 20000 in
theorem flX5_38 : aj_FL RX5 38 5 8 := ⟨_, _, _, cfX5, by decide, aj_mem 408 (by decide +kernel) (by decide +kernel)⟩
set_option maxRecDepth 20000 in
theorem flX8_79 : aj_FL RX8 79 5 8 := ⟨_, _, _, cfX5, by decide, aj_mem 409 (by decide +kernel) (by decide +kernel)⟩
set_option maxRecDepth 20000 in
theorem flX5_41 : aj_FL RX5 41 5 9 := ⟨_, _, _, cfX5, by decide, aj_mem 410 (by decide +kernel) (by decide +kernel)⟩
set_option maxRecDepth 20000 in
theorem flX8_82 : aj_FL RX8 82 5 9 := ⟨_, _, _, cfX5, by decide, aj_mem 411 (by decide +kernel) (by decide +kernel)⟩
set_option maxRecDepth 20000 in
theorem flX5_44 : aj_FL RX5 44 5 10 := ⟨_, _, _, cfX5, by decide, aj_mem 412 (by decide +kernel) (by decide +kernel)⟩
set_option maxRecDepth 20000 in
theorem flX8_88 : aj_FL RX8 88 5 10 := ⟨_, _, _, cfX5, by decide, aj_mem 413 (by decide +kernel) (by decide +kernel)⟩
set_option maxRecDepth 20000 in
theorem flX11_257 : aj_FL RX11 257 5 10 := ⟨_, _, _, cfX5, by decide, aj_mem 414 (by decide +kernel) (by decide +kernel)⟩
set_option maxRecDepth 20000 in
theorem flX5_47 : aj_FL RX5 47 5 11 := ⟨_, _, _, cfX5, by decide, aj_mem 415 (by decide +kernel) (by decide +kernel)⟩
set_option maxRecDepth 20000 in
theorem flX11_307 : aj_FL RX11 307 5 11 := ⟨_, _, _, cfX5, by decide, aj_mem 416 (by decide +kernel) (by decide +kernel)⟩
set_option maxRecDepth 20000 in
theorem flX5_50 : aj_FL RX5 50 5 12 := ⟨_, _, _, cfX5, by decide, aj_mem 417 (by decide +kernel) (by decide +kernel)⟩
set_option maxRecDepth 20000 in
theorem flX5_53 : aj_FL RX5 53 5 13 := ⟨_, _, _, cfX5, by decide, aj_mem 418 (by decide +kernel) (by decide +kernel)⟩
set_option maxRecDepth 20000 in
theorem flX5_56 : aj_FL RX5 56 5 14 := ⟨_, _, _, cfX5, by decide, aj_mem 419 (by decide +kernel) (by decide +kernel)⟩
set_option maxRecDepth 20000 in
theorem flX5_59 : aj_FL RX5 59 5 15 := ⟨_, _, _, cfX5, by decide, aj_mem 420 (by decide +kernel) (by decide +kernel)⟩
set_option maxRecDepth 20000 in
theorem fpX5_59 : aj_FP RX5 59 5 15 := ⟨_, _, _, cfX5, by decide, aj_mem 420 (by decide +kernel) (by decide +kernel), rfl⟩
set_option maxRecDepth 20000 in
theorem flX5_63 : aj_FL RX5 63 5 16 := ⟨_, _, _, cfX5, by decide, aj_mem 421 (by decide +kernel) (by decide +kernel)⟩
set_option maxRecDepth 20000 in
theorem fpX5_63 : aj_FP RX5 63 5 16 := ⟨_, _, _, cfX5, by decide, aj_mem 421 (by decide +kernel) (by decide +kernel), rfl⟩
set_option maxRecDepth 20000 in
theorem flX8_64 : aj_FL RX8 64 5 16 := ⟨_, _, _, cfX5, by decide, aj_mem 422 (by decide +kernel) (by decide +kernel)⟩
set_option maxRecDepth 20000 in
theorem fpX8_64 : aj_FP RX8 64 5 16 := ⟨_, _, _, cfX5, by decide, aj_mem 422 (by decide +kernel) (by decide +kernel), rfl⟩
set_option maxRecDepth 20000 in
theorem flX8_9 : aj_FL RX8 9 8 0 := ⟨_, _, _, cfX8, by decide, aj_mem 458 (by decide +kernel) (by decide +kernel)⟩
set_option maxRecDepth 20000 in
theorem fpX8_9 : aj_FP RX8 9 8 0 := ⟨_, _, _, cfX8, by decide, aj_mem 458 (by decide +kernel) (by decide +kernel), rfl⟩
set_option maxRecDepth 20000 in
theorem flX11_418 : aj_FL RX11 418 8 0 := ⟨_, _, _, cfX8, by decide, aj_mem 459 (by decide +kernel) (by decide +kernel)⟩
set_option maxRecDepth 20000 in
theorem fpX11_418 : aj_FP RX11 418 8 0 := ⟨_, _, _, cfX8, by decide, aj_mem 459 (by decide +kernel) (by decide +kernel), rfl⟩
set_option maxRecDepth 20000 in
theorem flX8_15 : aj_FL RX8 15 8 1 := ⟨_, _, _, cfX8, by decide, aj_mem 460 (by decide +kernel) (by decide +kernel)⟩
set_option maxRecDepth 20000 in
theorem fpX8_15 : aj_FP RX8 15 8 1 := ⟨_, _, _, cfX8, by decide, aj_mem 460 (by decide +kernel) (by decide +kernel), rfl⟩
set_option maxRecDepth 20000 in
theorem flX11_273 : aj_FL RX11 273 8 1 := ⟨_, _, _, cfX8, by decide, aj_mem 461 (by decide +kernel) (by decide +kernel)⟩
set_option maxRecDepth 20000 in
theorem fpX11_273 : aj_FP RX11 273 8 1 := ⟨_, _, _, cfX8, by decide, aj_mem 461 (by decide +kernel) (by decide +kernel), rfl⟩
set_option maxRecDepth 20000 in
theorem flX8_19 : aj_FL RX8 19 8 2 := ⟨_, _, _, cfX8, by decide, aj_mem 462 (by decide +kernel) (by decide +kernel)⟩
set_option maxRecDepth 20000 in
theorem flX11_276 : aj_FL RX11 276 8 2 := ⟨_, _, _, cfX8, by decide, aj_mem 463 (by decide +kernel) (by decide +kernel)⟩
set_option maxRecDepth 20000 in
theorem flX8_26 : aj_FL RX8 26 8 3 := ⟨_, _, _, cfX8, by decide, aj_mem 464 (by decide +kernel) (by decide +kernel)⟩
set_option maxRecDepth 20000 in
theorem flX11_415 : aj_FL RX11 415 8 3 := ⟨_, _, _, cfX8, by decide, aj_mem 465 (by decide +kernel) (by decide +kernel)⟩
set_option maxRecDepth 20000 in
theorem flX8_30 : aj_FL RX8 30 8 4 := ⟨_, _, _, cfX8, by decide, aj_mem 466 (by decide +kernel) (by decide +kernel)⟩
set_option maxRecDepth 20000 in
theorem flX8_33 : aj_FL RX8 33 8 5 := ⟨_, _, _, cfX8, by decide, aj_mem 467 (by decide +kernel) (by decide +kernel)⟩
set_option maxRecDepth 20000 in
theorem flX8_36 : aj_FL RX8 36 8 6 := ⟨_, _, _, cfX8, by decide, aj_mem 468 (by decide +kernel) (by decide +kernel)⟩
set_option maxRecDepth 20000 in
theorem flX8_39 : aj_FL RX8 39 8 7 := ⟨_, _, _, cfX8, by decide, aj_mem 469 (by decide +kernel) (by decide +kernel)⟩
set_option maxRecDepth 20000 in
theorem flX8_42 : aj_FL RX8 42 8 8 := ⟨_, _, _, cfX8, by decide, aj_mem 470 (by decide +kernel) (by decide +kernel)⟩
set_option maxRecDepth 20000 in
theorem flX8_45 : aj_FL RX8 45 8 9 := ⟨_, _, _, cfX8, by decide, aj_mem 471 (by decide +kernel) (by decide +kernel)⟩
set_option maxRecDepth 20000 in
theorem fpX8_45 : aj_FP RX8 45 8 9 := ⟨_, _, _, cfX8, by decide, aj_mem 471 (by decide +kernel) (by decide +kernel), rfl⟩
set_option maxRecDepth 20000 in
theorem flX2_11 : aj_FL RX2 11 2 0 := ⟨_, _, _, cfX2, by decide, aj_mem 501 (by decide +kernel) (by decide +kernel)⟩
set_option maxRecDepth 20000 in
theorem fpX2_11 : aj_FP RX2 11 2 0 := ⟨_, _, _, cfX2, by decide, aj_mem 501 (by decide +kernel) (by decide +kernel), rfl⟩
set_option maxRecDepth 20000 in
theorem flX2_15 : aj_FL RX2 15 2 1 := ⟨_, _, _, cfX2, by decide, aj_mem 502 (by decide +kernel) (by decide +kernel)⟩
set_option maxRecDepth 20000 in
theorem fpX2_15 : aj_FP RX2 15 2 1 := ⟨_, _, _, cfX2, by decide, aj_mem 502 (by decide +kernel) (by decide +kernel), rfl⟩
set_option maxRecDepth 20000 in
theorem flX2_18 : aj_FL RX2 18 2 2 := ⟨_, _, _, cfX2, by decide, aj_mem 503 (by decide +kernel) (by decide +kernel)⟩
set_option maxRecDepth 20000 in
theorem fpX2_18 : aj_FP RX2 18 2 2 := ⟨_, _, _, cfX2, by decide, aj_mem 503 (by decide +kernel) (by decide +kernel), rfl⟩
set_option maxRecDepth 20000 in
theorem flX2_21 : aj_FL RX2 21 2 3 := ⟨_, _, _, cfX2, by decide, aj_mem 504 (by decide +kernel) (by decide +kernel)⟩
set_option maxRecDepth 20000 in
theorem fpX2_21 : aj_FP RX2 21 2 3 := ⟨_, _, _, cfX2, by decide, aj_mem 504 (by decide +kernel) (by decide +kernel), rfl⟩
set_option maxRecDepth 20000 in
theorem flX11_345 : aj_FL RX11 345 2 3 := ⟨_, _, _, cfX2, by decide, aj_mem 505 (by decide +kernel) (by decide +kernel)⟩
set_option maxRecDepth 20000 in
theorem fpX11_345 : aj_FP RX11 345 2 3 := ⟨_, _, _, cfX2, by decide, aj_mem 505 (by decide +kernel) (by decide +kernel), rfl⟩
set_option maxRecDepth 20000 in
theorem flX2_24 : aj_FL RX2 24 2 4 := ⟨_, _, _, cfX2, by decide, aj_mem 506 (by decide +kernel) (by decide +kernel)⟩
set_option maxRecDepth 20000 in
theorem fpX2_24 : aj_FP RX2 24 2 4 := ⟨_, _, _, cfX2, by decide, aj_mem 506 (by decide +kernel) (by decide +kernel), rfl⟩
set_option maxRecDepth 20000 in
theorem flX11_348 : aj_FL RX11 348 2 4 := ⟨_, _, _, cfX2, by decide, aj_mem 507 (by decide +kernel) (by decide +kernel)⟩
set_option maxRecDepth 20000 in
theorem fpX11_348 : aj_FP RX11 348 2 4 := ⟨_, _, _, cfX2, by decide, aj_mem 507 (by decide +kernel) (by decide +kernel), rfl⟩
set_option maxRecDepth 20000 in
theorem flX2_27 : aj_FL RX2 27 2 5 := ⟨_, _, _, cfX2, by decide, aj_mem 508 (by decide +kernel) (by decide +kernel)⟩
set_option maxRecDepth 20000 in
theorem fpX2_27 : aj_FP RX2 27 2 5 := ⟨_, _, _, cfX2, by decide, aj_mem 508 (by decide +kernel) (by decide +kernel), rfl⟩
set_option maxRecDepth 20000 in
theorem flX11_351 : aj_FL RX11 351 2 5 := ⟨_, _, _, cfX2, by decide, aj_mem 509 (by decide +kernel) (by decide +kernel)⟩
set_option maxRecDepth 20000 in
theorem fpX11_351 : aj_FP RX11 351 2 5 := ⟨_, _, _, cfX2, by decide, aj_mem 509 (by decide +kernel) (by decide +kernel), rfl⟩
set_option maxRecDepth 20000 in
theorem flX2_30 : aj_FL RX2 30 2 6 := ⟨_, _, _, cfX2, by decide, aj_mem 510 (by decide +kernel) (by decide +kernel)⟩
set_option maxRecDepth 20000 in
theorem flX11_354 : aj_FL RX11 354 2 6 := ⟨_, _, _, cfX2, by decide, aj_mem 511 (by decide +kernel) (by decide +kernel)⟩
set_option maxRecDepth 20000 in
theorem flX2_34 : aj_FL RX2 34 2 7 := ⟨_, _, _, cfX2, by decide, aj_mem 512 (by decide +kernel) (by decide +kernel)⟩
set_option maxRecDepth 20000 in
theorem flX3_10 : aj_FL RX3 10 3 0 := ⟨_, _, _, cfX3, by decide, aj_mem 539 (by decide +kernel) (by decide +kernel)⟩
set_option maxRecDepth 20000 in
theorem flX3_19 : aj_FL RX3 19 3 1 := ⟨_, _, _, cfX3, by decide, aj_mem 540 (by decide +kernel) (by decide +kernel)⟩
set_option maxRecDepth 20000 in
theorem flX3_23 : aj_FL RX3 23 3 2 := ⟨_, _, _, cfX3, by decide, aj_mem 541 (by decide +kernel) (by decide +kernel)⟩
set_option maxRecDepth 20000 in
theorem fpX3_23 : aj_FP RX3 23 3 2 := ⟨_, _, _, cfX3, by decide, aj_mem 541 (by decide +kernel) (by decide +kernel), rfl⟩
set_option maxRecDepth 20000 in
theorem flX11_399 : aj_FL RX11 399 3 2 := ⟨_, _, _, cfX3, by decide, aj_mem 542 (by decide +kernel) (by decide +kernel)⟩
set_option maxRecDepth 20000 in
theorem fpX11_399 : aj_FP RX11 399 3 2 := ⟨_, _, _, cfX3, by decide, aj_mem 542 (by decide +kernel) (by decide +kernel), rfl⟩
set_option maxRecDepth 20000 in
theorem flX10_9 : aj_FL RX10 9 10 0 := ⟨_, _, _, cfX10, by decide, aj_mem 555 (by decide +kernel) (by decide +kernel)⟩
set_option maxRecDepth 20000 in
theorem flX11_201 : aj_FL RX11 201 10 0 := ⟨_, _, _, cfX10, by decide, aj_mem 556 (by decide +kernel) (by decide +kernel)⟩
set_option maxRecDepth 20000 in
theorem flX10_15 : aj_FL RX10 15 10 1 := ⟨_, _, _, cfX10, by decide, aj_mem 557 (by decide +kernel) (by decide +kernel)⟩
set_option maxRecDepth 20000 in
theorem fpX10_15 : aj_FP RX10 15 10 1 := ⟨_, _, _, cfX10, by decide, aj_mem 557 (by decide +kernel) (by decide +kernel), rfl⟩
set_option maxRecDepth 20000 in
theorem flX10_19 : aj_FL RX10 19 10 2 := ⟨_, _, _, cfX10, by decide, aj_mem 558 (by decide +kernel) (by decide +kernel)⟩
set_option maxRecDepth 20000 in
theorem fpX10_19 : aj_FP RX10 19 10 2 := ⟨_, _, _, cfX10, by decide, aj_mem 558 (by decide +kernel) (by decide +kernel), rfl⟩
set_option maxRecDepth 20000 in
theorem flX11_198 : aj_FL RX11 198 10 2 := ⟨_, _, _, cfX10, by decide, aj_mem 559 (by decide +kernel) (by decide +kernel)⟩
set_option maxRecDepth 20000 in
theorem fpX11_198 : aj_FP RX11 198 10 2 := ⟨_, _, _, cfX10, by decide, aj_mem 559 (by decide +kernel) (by decide +kernel), rfl⟩
set_option maxRecDepth 20000 in
theorem flX11_12 : aj_FL RX11 12 11 0 := ⟨_, _, _, cfX11, by decide, aj_mem 568 (by decide +kernel) (by decide +kernel)⟩
set_option maxRecDepth 20000 in
theorem flX11_19 : aj_FL RX11 19 11 1 := ⟨_, _, _, cfX11, by decide, aj_mem 569 (by decide +kernel) (by decide +kernel)⟩
set_option maxRecDepth 20000 in
theorem flX11_26 : aj_FL RX11 26 11 2 := ⟨_, _, _, cfX11, by decide, aj_mem 570 (by decide +kernel) (by decide +kernel)⟩
set_option maxRecDepth 20000 in
theorem flX11_30 : aj_FL RX11 30 11 3 := ⟨_, _, _, cfX11, by decide, aj_mem 571 (by decide +kernel) (by decide +kernel)⟩
set_option maxRecDepth 20000 in
theorem flX11_33 : aj_FL RX11 33 11 4 := ⟨_, _, _, cfX11, by decide, aj_mem 572 (by decide +kernel) (by decide +kernel)⟩
set_option maxRecDepth 20000 in
theorem flX11_39 : aj_FL RX11 39 11 5 := ⟨_, _, _, cfX11, by decide, aj_mem 573 (by decide +kernel) (by decide +kernel)⟩
set_option maxRecDepth 20000 in
theorem flX11_45 : aj_FL RX11 45 11 6 := ⟨_, _, _, cfX11, by decide, aj_mem 574 (by decide +kernel) (by decide +kernel)⟩
set_option maxRecDepth 20000 in
theorem flX11_51 : aj_FL RX11 51 11 7 := ⟨_, _, _, cfX11, by decide, aj_mem 575 (by decide +kernel) (by decide +kernel)⟩
set_option maxRecDepth 20000 in
theorem flX11_58 : aj_FL RX11 58 11 8 := ⟨_, _, _, cfX11, by decide, aj_mem 576 (by decide +kernel) (by decide +kernel)⟩
set_option maxRecDepth 20000 in
theorem flX11_65 : aj_FL RX11 65 11 9 := ⟨_, _, _, cfX11, by decide, aj_mem 577 (by decide +kernel) (by decide +kernel)⟩
set_option maxRecDepth 20000 in
theorem flX11_72 : aj_FL RX11 72 11 10 := ⟨_, _, _, cfX11, by decide, aj_mem 578 (by decide +kernel) (by decide +kernel)⟩
set_option maxRecDepth 20000 in
theorem flX11_76 : aj_FL RX11 76 11 11 := ⟨_, _, _, cfX11, by decide, aj_mem 579 (by decide +kernel) (by decide +kernel)⟩
set_option maxRecDepth 20000 in
theorem flX11_80 : aj_FL RX11 80 11 12 := ⟨_, _, _, cfX11, by decide, aj_mem 580 (by decide +kernel) (by decide +kernel)⟩
set_option maxRecDepth 20000 in
theorem fpX11_80 : aj_FP RX11 80 11 12 := ⟨_, _, _, cfX11, by decide, aj_mem 580 (by decide +kernel) (by decide +kernel), rfl⟩
set_option maxRecDepth 20000 in
theorem mvL_13 : aj_MV RL 13 yX11_feed cX11_feed 6 (some .int) 11 := ⟨⟨aj_mem 608 (by decide +kernel) (by decide +kernel), aj_mem 130 (by decide +kernel) (by decide +kernel), aj_mem 611 (by decide +kernel) (by decide +kernel), by decide +kernel, by decide⟩, aj_mem 609 (by decide +kernel) (by decide +kernel), aj_mem 610 (by decide +kernel) (by decide +kernel), _, _, rfl⟩
set_option maxRecDepth 20000 in
theorem mvX11_90 : aj_MV RX11 90 yX7_layFour cX7_layFour 3 none 7 := ⟨⟨aj_mem 612 (by decide +kernel) (by decide +kernel), aj_mem 131 (by decide +kernel) (by decide +kernel), aj_mem 615 (by decide +kernel) (by decide +kernel), by decide +kernel, by decide⟩, aj_mem 613 (by decide +kernel) (by decide +kernel), aj_mem 614 (by decide +kernel) (by decide +kernel), _, _, rfl⟩
set_option maxRecDepth 20000 in
theorem mvL_18 : aj_MV RL 18 yX11_works cX11_works 2 (some .int) 11 := ⟨⟨aj_mem 616 (by decide +kernel) (by decide +kernel), aj_mem 130 (by decide +kernel) (by decide +kernel), aj_mem 619 (by decide +kernel) (by decide +kernel), by decide +kernel, by decide⟩, aj_mem 617 (by decide +kernel) (by decide +kernel), aj_mem 618 (by decide +kernel) (by decide +kernel), _, _, rfl⟩
set_option maxRecDepth 20000 in
theorem mvX11_94 : aj_MV RX11 94 yX7_readAll cX7_readAll 3 (some .boolean) 7 := ⟨⟨aj_mem 620 (by decide +kernel) (by decide +kernel), aj_mem 131 (by decide +kernel) (by decide +kernel), aj_mem 623 (by decide +kernel) (by decide +kernel), by decide +kernel, by decide⟩, aj_mem 621 (by decide +kernel) (by decide +kernel), aj_mem 622 (by decide +kernel) (by decide +kernel), _, _, rfl⟩
set_option maxRecDepth 20000 in
theorem msX7_51 : aj_MS RX7 51 Lib.Math.min.name Lib.Math.min.code 2 (some .int) := ⟨⟨aj_mem 624 (by decide +kernel) (by decide +kernel), aj_mem 143 (by decide +kernel) (by decide +kernel), aj_mem 626 (by decide +kernel) (by decide +kernel), by decide +kernel, by decide⟩, aj_mem 625 (by decide +kernel) (by decide +kernel)⟩
set_option maxRecDepth 20000 in
theorem mvX7_57 : aj_MV RX7 57 yX6_clear cX6_clear 1 none 6 := ⟨⟨aj_mem 627 (by decide +kernel) (by decide +kernel), aj_mem 132 (by decide +kernel) (by decide +kernel), aj_mem 630 (by decide +kernel) (by decide +kernel), by decide +kernel, by decide⟩, aj_mem 628 (by decide +kernel) (by decide +kernel), aj_mem 629 (by decide +kernel) (by decide +kernel), _, _, rfl⟩
set_option maxRecDepth 20000 in
theorem mvX6_57 : aj_MV RX6 57 yX0_makeProduct cX0_makeProduct 5 none 0 := ⟨⟨aj_mem 631 (by decide +kernel) (by decide +kernel), aj_mem 133 (by decide +kernel) (by decide +kernel), aj_mem 634 (by decide +kernel) (by decide +kernel), by decide +kernel, by decide⟩, aj_mem 632 (by decide +kernel) (by decide +kernel), aj_mem 633 (by decide +kernel) (by decide +kernel), _, _, rfl⟩
set_option maxRecDepth 20000 in
theorem mvX0_29 : aj_MV RX0 29 yX0_settle cX0_settle 5 none 0 := ⟨⟨aj_mem 635 (by decide +kernel) (by decide +kernel), aj_mem 133 (by decide +kernel) (by decide +kernel), aj_mem 638 (by decide +kernel) (by decide +kernel), by decide +kernel, by decide⟩, aj_mem 637 (by decide +kernel) (by decide +kernel), aj_mem 0 (by decide +kernel) (by decide +kernel), _, _, rfl⟩
set_option maxRecDepth 20000 in
theorem mvX0_35 : aj_MV RX0 35 yX0_times cX0_times 3 (some .int) 0 := ⟨⟨aj_mem 639 (by decide +kernel) (by decide +kernel), aj_mem 133 (by decide +kernel) (by decide +kernel), aj_mem 642 (by decide +kernel) (by decide +kernel), by decide +kernel, by decide⟩, aj_mem 640 (by decide +kernel) (by decide +kernel), aj_mem 641 (by decide +kernel) (by decide +kernel), _, _, rfl⟩
set_option maxRecDepth 20000 in
theorem mvX0_25 : aj_MV RX0 25 yX0_has cX0_has 2 (some .boolean) 0 := ⟨⟨aj_mem 643 (by decide +kernel) (by decide +kernel), aj_mem 133 (by decide +kernel) (by decide +kernel), aj_mem 646 (by decide +kernel) (by decide +kernel), by decide +kernel, by decide⟩, aj_mem 644 (by decide +kernel) (by decide +kernel), aj_mem 645 (by decide +kernel) (by decide +kernel), _, _, rfl⟩
set_option maxRecDepth 20000 in
theorem mvX6_61 : aj_MV RX6 61 yX4_clear cX4_clear 1 none 4 := ⟨⟨aj_mem 647 (by decide +kernel) (by decide +kernel), aj_mem 134 (by decide +kernel) (by decide +kernel), aj_mem 650 (by decide +kernel) (by decide +kernel), by decide +kernel, by decide⟩, aj_mem 648 (by decide +kernel) (by decide +kernel), aj_mem 649 (by decide +kernel) (by decide +kernel), _, _, rfl⟩
set_option maxRecDepth 20000 in
theorem mvX7_60 : aj_MV RX7 60 yX7_step cX7_step 2 none 7 := ⟨⟨aj_mem 651 (by decide +kernel) (by decide +kernel), aj_mem 131 (by decide +kernel) (by decide +kernel), aj_mem 654 (by decide +kernel) (by decide +kernel), by decide +kernel, by decide⟩, aj_mem 653 (by decide +kernel) (by decide +kernel), aj_mem 1 (by decide +kernel) (by decide +kernel), _, _, rfl⟩
set_option maxRecDepth 20000 in
theorem mvX7_197 : aj_MV RX7 197 yX7_wordToken cX7_wordToken 5 (some .int) 7 := ⟨⟨aj_mem 655 (by decide +kernel) (by decide +kernel), aj_mem 131 (by decide +kernel) (by decide +kernel), aj_mem 658 (by decide +kernel) (by decide +kernel), by decide +kernel, by decide⟩, aj_mem 657 (by decide +kernel) (by decide +kernel), aj_mem 2 (by decide +kernel) (by decide +kernel), _, _, rfl⟩
set_option maxRecDepth 20000 in
theorem msJ0_495 : aj_MS RJ0 495 yJ1_charAt_3b067 cJ1_charAt_3b067 2 (some .char) := ⟨⟨aj_mem 678 (by decide +kernel) (by decide +kernel), aj_mem 145 (by decide +kernel) (by decide +kernel), aj_mem 680 (by decide +kernel) (by decide +kernel), by decide +kernel, by decide⟩, aj_mem 679 (by decide +kernel) (by decide +kernel)⟩
set_option maxRecDepth 20000 in
theorem msJ1_9 : aj_MS RJ1 9 yJ0_checkIndex_df160 cJ0_checkIndex_df160 2 none := ⟨⟨aj_mem 681 (by decide +kernel) (by decide +kernel), aj_mem 144 (by decide +kernel) (by decide +kernel), aj_mem 683 (by decide +kernel) (by decide +kernel), by decide +kernel, by decide⟩, aj_mem 682 (by decide +kernel) (by decide +kernel)⟩
set_option maxRecDepth 20000 in
theorem msJ0_1059 : aj_MS RJ0 1059 yJ3_checkIndex_8e157 cJ3_checkIndex_8e157 3 (some .int) := ⟨⟨aj_mem 686 (by decide +kernel) (by decide +kernel), aj_mem 146 (by decide +kernel) (by decide +kernel), aj_mem 688 (by decide +kernel) (by decide +kernel), by decide +kernel, by decide⟩, aj_mem 687 (by decide +kernel) (by decide +kernel)⟩
set_option maxRecDepth 20000 in
theorem msJ0_498 : aj_MS RJ0 498 yJ2_charAt_3b067 cJ2_charAt_3b067 2 (some .char) := ⟨⟨aj_mem 689 (by decide +kernel) (by decide +kernel), aj_mem 147 (by decide +kernel) (by decide +kernel), aj_mem 691 (by decide +kernel) (by decide +kernel), by decide +kernel, by decide⟩, aj_mem 690 (by decide +kernel) (by decide +kernel)⟩
set_option maxRecDepth 20000 in
theorem msJ2_67 : aj_MS RJ2 67 yJ2_checkIndex_2214a cJ2_checkIndex_2214a 2 none := ⟨⟨aj_mem 692 (by decide +kernel) (by decide +kernel), aj_mem 147 (by decide +kernel) (by decide +kernel), aj_mem 694 (by decide +kernel) (by decide +kernel), by decide +kernel, by decide⟩, aj_mem 693 (by decide +kernel) (by decide +kernel)⟩
set_option maxRecDepth 20000 in
theorem msJ2_48 : aj_MS RJ2 48 yJ2_length_9d52b cJ2_length_9d52b 1 (some .int) := ⟨⟨aj_mem 695 (by decide +kernel) (by decide +kernel), aj_mem 147 (by decide +kernel) (by decide +kernel), aj_mem 697 (by decide +kernel) (by decide +kernel), by decide +kernel, by decide⟩, aj_mem 696 (by decide +kernel) (by decide +kernel)⟩
set_option maxRecDepth 20000 in
theorem msJ2_414 : aj_MS RJ2 414 yJ0_checkIndex_df160 cJ0_checkIndex_df160 2 none := ⟨⟨aj_mem 698 (by decide +kernel) (by decide +kernel), aj_mem 144 (by decide +kernel) (by decide +kernel), aj_mem 683 (by decide +kernel) (by decide +kernel), by decide +kernel, by decide⟩, aj_mem 682 (by decide +kernel) (by decide +kernel)⟩
set_option maxRecDepth 20000 in
theorem msJ2_71 : aj_MS RJ2 71 yJ2_getChar_3b067 cJ2_getChar_3b067 2 (some .char) := ⟨⟨aj_mem 699 (by decide +kernel) (by decide +kernel), aj_mem 147 (by decide +kernel) (by decide +kernel), aj_mem 701 (by decide +kernel) (by decide +kernel), by decide +kernel, by decide⟩, aj_mem 700 (by decide +kernel) (by decide +kernel)⟩
set_option maxRecDepth 20000 in
theorem msJ0_637 : aj_MS RJ0 637 yJ1_indexOf_4cfef cJ1_indexOf_4cfef 4 (some .int) := ⟨⟨aj_mem 718 (by decide +kernel) (by decide +kernel), aj_mem 145 (by decide +kernel) (by decide +kernel), aj_mem 720 (by decide +kernel) (by decide +kernel), by decide +kernel, by decide⟩, aj_mem 719 (by decide +kernel) (by decide +kernel)⟩
set_option maxRecDepth 20000 in
theorem msJ1_88 : aj_MS RJ1 88 yJ1_canEncode_9a6ad cJ1_canEncode_9a6ad 1 (some .boolean) := ⟨⟨aj_mem 721 (by decide +kernel) (by decide +kernel), aj_mem 145 (by decide +kernel) (by decide +kernel), aj_mem 723 (by decide +kernel) (by decide +kernel), by decide +kernel, by decide⟩, aj_mem 722 (by decide +kernel) (by decide +kernel)⟩
set_option maxRecDepth 20000 in
theorem msJ1_92 : aj_MS RJ1 92 Lib.Math.max.name Lib.Math.max.code 2 (some .int) := ⟨⟨aj_mem 724 (by decide +kernel) (by decide +kernel), aj_mem 143 (by decide +kernel) (by decide +kernel), aj_mem 726 (by decide +kernel) (by decide +kernel), by decide +kernel, by decide⟩, aj_mem 725 (by decide +kernel) (by decide +kernel)⟩
set_option maxRecDepth 20000 in
theorem msJ1_38 : aj_MS RJ1 38 Lib.Math.min.name Lib.Math.min.code 2 (some .int) := ⟨⟨aj_mem 727 (by decide +kernel) (by decide +kernel), aj_mem 143 (by decide +kernel) (by decide +kernel), aj_mem 626 (by decide +kernel) (by decide +kernel), by decide +kernel, by decide⟩, aj_mem 625 (by decide +kernel) (by decide +kernel)⟩
set_option maxRecDepth 20000 in
theorem msJ1_95 : aj_MS RJ1 95 yJ1_indexOfChar_4cfef cJ1_indexOfChar_4cfef 6 (some .int) := ⟨⟨aj_mem 728 (by decide +kernel) (by decide +kernel), aj_mem 145 (by decide +kernel) (by decide +kernel), aj_mem 730 (by decide +kernel) (by decide +kernel), by decide +kernel, by decide⟩, aj_mem 729 (by decide +kernel) (by decide +kernel)⟩
set_option maxRecDepth 20000 in
theorem msJ0_640 : aj_MS RJ0 640 yJ2_indexOf_4cfef cJ2_indexOf_4cfef 4 (some .int) := ⟨⟨aj_mem 731 (by decide +kernel) (by decide +kernel), aj_mem 147 (by decide +kernel) (by decide +kernel), aj_mem 733 (by decide +kernel) (by decide +kernel), by decide +kernel, by decide⟩, aj_mem 732 (by decide +kernel) (by decide +kernel)⟩
set_option maxRecDepth 20000 in
theorem msJ2_224 : aj_MS RJ2 224 Lib.Math.max.name Lib.Math.max.code 2 (some .int) := ⟨⟨aj_mem 734 (by decide +kernel) (by decide +kernel), aj_mem 143 (by decide +kernel) (by decide +kernel), aj_mem 726 (by decide +kernel) (by decide +kernel), by decide +kernel, by decide⟩, aj_mem 725 (by decide +kernel) (by decide +kernel)⟩
set_option maxRecDepth 20000 in
theorem msJ2_183 : aj_MS RJ2 183 Lib.Math.min.name Lib.Math.min.code 2 (some .int) := ⟨⟨aj_mem 735 (by decide +kernel) (by decide +kernel), aj_mem 143 (by decide +kernel) (by decide +kernel), aj_mem 626 (by decide +kernel) (by decide +kernel), by decide +kernel, by decide⟩, aj_mem 625 (by decide +kernel) (by decide +kernel)⟩
set_option maxRecDepth 20000 in
theorem msJ2_228 : aj_MS RJ2 228 yJ2_indexOfChar_4cfef cJ2_indexOfChar_4cfef 4 (some .int) := ⟨⟨aj_mem 737 (by decide +kernel) (by decide +kernel), aj_mem 147 (by decide +kernel) (by decide +kernel), aj_mem 739 (by decide +kernel) (by decide +kernel), by decide +kernel, by decide⟩, aj_mem 738 (by decide +kernel) (by decide +kernel)⟩
set_option maxRecDepth 20000 in
theorem msJ2_96 : aj_MS RJ2 96 yJ2_checkBoundsBeginEnd_d044e cJ2_checkBoundsBeginEnd_d044e 3 none := ⟨⟨aj_mem 740 (by decide +kernel) (by decide +kernel), aj_mem 147 (by decide +kernel) (by decide +kernel), aj_mem 742 (by decide +kernel) (by decide +kernel), by decide +kernel, by decide⟩, aj_mem 741 (by decide +kernel) (by decide +kernel)⟩
set_option maxRecDepth 20000 in
theorem msJ2_241 : aj_MS RJ2 241 yJ0_checkBoundsBeginEnd_23922 cJ0_checkBoundsBeginEnd_23922 3 none := ⟨⟨aj_mem 743 (by decide +kernel) (by decide +kernel), aj_mem 144 (by decide +kernel) (by decide +kernel), aj_mem 745 (by decide +kernel) (by decide +kernel), by decide +kernel, by decide⟩, aj_mem 744 (by decide +kernel) (by decide +kernel)⟩
set_option maxRecDepth 20000 in
theorem msJ0_1062 : aj_MS RJ0 1062 yJ3_checkFromToIndex_8c36e cJ3_checkFromToIndex_8c36e 4 (some .int) := ⟨⟨aj_mem 746 (by decide +kernel) (by decide +kernel), aj_mem 146 (by decide +kernel) (by decide +kernel), aj_mem 748 (by decide +kernel) (by decide +kernel), by decide +kernel, by decide⟩, aj_mem 747 (by decide +kernel) (by decide +kernel)⟩
set_option maxRecDepth 20000 in
theorem msJ2_244 : aj_MS RJ2 244 yJ2_indexOfCharUnsafe_4cfef cJ2_indexOfCharUnsafe_4cfef 5 (some .int) := ⟨⟨aj_mem 749 (by decide +kernel) (by decide +kernel), aj_mem 147 (by decide +kernel) (by decide +kernel), aj_mem 751 (by decide +kernel) (by decide +kernel), by decide +kernel, by decide⟩, aj_mem 750 (by decide +kernel) (by decide +kernel)⟩
set_option maxRecDepth 20000 in
theorem msJ2_232 : aj_MS RJ2 232 yJ2_indexOfSupplementary_4cfef cJ2_indexOfSupplementary_4cfef 7 (some .int) := ⟨⟨aj_mem 752 (by decide +kernel) (by decide +kernel), aj_mem 147 (by decide +kernel) (by decide +kernel), aj_mem 754 (by decide +kernel) (by decide +kernel), by decide +kernel, by decide⟩, aj_mem 753 (by decide +kernel) (by decide +kernel)⟩
set_option maxRecDepth 20000 in
theorem msJ2_164 : aj_MS RJ2 164 yJ11_isValidCodePoint_9a6ad cJ11_isValidCodePoint_9a6ad 2 (some .boolean) := ⟨⟨aj_mem 755 (by decide +kernel) (by decide +kernel), aj_mem 148 (by decide +kernel) (by decide +kernel), aj_mem 757 (by decide +kernel) (by decide +kernel), by decide +kernel, by decide⟩, aj_mem 756 (by decide +kernel) (by decide +kernel)⟩
