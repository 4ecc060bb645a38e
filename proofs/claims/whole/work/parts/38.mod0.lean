set_option maxRecDepth 20000 in
theorem kk1 : K1 1 = (20, 12) := rfl
set_option maxRecDepth 20000 in
theorem kk2 : K1 2 = (20, 12) := rfl
set_option maxRecDepth 20000 in
theorem kk3 : K1 3 = (20, 12) := rfl
set_option maxRecDepth 20000 in
theorem kk4 : K1 4 = (20, 12) := rfl
set_option maxRecDepth 20000 in
theorem kk6 : K1 6 = (10, 0) := rfl
set_option maxRecDepth 20000 in
theorem kk7 : K1 7 = (8, 0) := rfl
set_option maxRecDepth 20000 in
theorem kk8 : K1 8 = (20, 240) := rfl
set_option maxRecDepth 20000 in
theorem kk9 : K1 9 = (2, 0) := rfl
set_option maxRecDepth 20000 in
theorem kk10 : K1 10 = (20, 4) := rfl
set_option maxRecDepth 20000 in
theorem kk11 : K1 11 = (20, 4) := rfl
set_option maxRecDepth 20000 in
theorem kk12 : K1 12 = (20, 8) := rfl
set_option maxRecDepth 20000 in
theorem kk13 : K1 13 = (20, 8) := rfl
set_option maxRecDepth 20000 in
theorem kk14 : K1 14 = (20, 8) := rfl
set_option maxRecDepth 20000 in
theorem kk15 : K1 15 = (20, 12) := rfl
set_option maxRecDepth 20000 in
theorem kk16 : K1 16 = (20, 12) := rfl
set_option maxRecDepth 20000 in
theorem kk17 : K1 17 = (20, 12) := rfl
set_option maxRecDepth 20000 in
theorem kk18 : K1 18 = (20, 12) := rfl
set_option maxRecDepth 20000 in
theorem kk19 : K1 19 = (4, 0) := rfl
set_option maxRecDepth 20000 in
theorem kk20 : K1 20 = (3, 0) := rfl
set_option maxRecDepth 20000 in
theorem kk21 : K1 21 = (20, 240) := rfl
set_option maxRecDepth 20000 in
theorem kk22 : K1 22 = (20, 240) := rfl
set_option maxRecDepth 20000 in
theorem kk23 : K1 23 = (20, 64) := rfl
set_option maxRecDepth 20000 in
theorem kk24 : K1 24 = (20, 64) := rfl
set_option maxRecDepth 20000 in
theorem kk25 : K1 25 = (20, 64) := rfl
set_option maxRecDepth 20000 in
theorem kk26 : K1 26 = (20, 64) := rfl
set_option maxRecDepth 20000 in
theorem kk27 : K1 27 = (24, 4) := rfl
set_option maxRecDepth 20000 in
theorem kk28 : K1 28 = (20, 5) := rfl
set_option maxRecDepth 20000 in
theorem kk29 : K1 29 = (1, 0) := rfl
set_option maxRecDepth 20000 in
theorem kk30 : K1 30 = (20, 8) := rfl
set_option maxRecDepth 20000 in
theorem kk31 : K1 31 = (20, 8) := rfl
set_option maxRecDepth 20000 in
theorem kk32 : K1 32 = (20, 6) := rfl
set_option maxRecDepth 20000 in
theorem kk33 : K1 33 = (7, 0) := rfl
set_option maxRecDepth 20000 in
theorem kk34 : K1 34 = (20, 32) := rfl
set_option maxRecDepth 20000 in
theorem kk35 : K1 35 = (20, 32) := rfl
set_option maxRecDepth 20000 in
theorem kk36 : K1 36 = (20, 32) := rfl
set_option maxRecDepth 20000 in
theorem kk37 : K1 37 = (20, 32) := rfl
set_option maxRecDepth 20000 in
theorem kk38 : K1 38 = (20, 32) := rfl
set_option maxRecDepth 20000 in
theorem kk39 : K1 39 = (20, 8) := rfl
set_option maxRecDepth 20000 in
theorem kk40 : K1 40 = (20, 60) := rfl
set_option maxRecDepth 20000 in
theorem kk41 : K1 41 = (7, 0) := rfl
set_option maxRecDepth 20000 in
theorem kk42 : K1 42 = (20, 32) := rfl
set_option maxRecDepth 20000 in
theorem kk43 : K1 43 = (20, 32) := rfl
set_option maxRecDepth 20000 in
theorem kk44 : K1 44 = (20, 32) := rfl
set_option maxRecDepth 20000 in
theorem kk45 : K1 45 = (20, 32) := rfl
set_option maxRecDepth 20000 in
theorem kk46 : K1 46 = (20, 32) := rfl
set_option maxRecDepth 20000 in
theorem kk47 : K1 47 = (20, 8) := rfl
set_option maxRecDepth 20000 in
theorem kk48 : K1 48 = (20, 60) := rfl
set_option maxRecDepth 20000 in
theorem kk49 : K1 49 = (7, 0) := rfl
set_option maxRecDepth 20000 in
theorem kk50 : K1 50 = (20, 32) := rfl
set_option maxRecDepth 20000 in
theorem kk51 : K1 51 = (20, 32) := rfl
set_option maxRecDepth 20000 in
theorem kk52 : K1 52 = (20, 32) := rfl
set_option maxRecDepth 20000 in
theorem kk53 : K1 53 = (20, 32) := rfl
set_option maxRecDepth 20000 in
theorem kk54 : K1 54 = (20, 32) := rfl
set_option maxRecDepth 20000 in
theorem kk55 : K1 55 = (20, 8) := rfl
set_option maxRecDepth 20000 in
theorem kk56 : K1 56 = (20, 60) := rfl
set_option maxRecDepth 20000 in
theorem kk57 : K1 57 = (7, 0) := rfl
set_option maxRecDepth 20000 in
theorem kk58 : K1 58 = (20, 32) := rfl
set_option maxRecDepth 20000 in
theorem kk59 : K1 59 = (20, 32) := rfl
set_option maxRecDepth 20000 in
theorem kk60 : K1 60 = (20, 32) := rfl
set_option maxRecDepth 20000 in
theorem kk61 : K1 61 = (20, 32) := rfl
set_option maxRecDepth 20000 in
theorem kk62 : K1 62 = (20, 32) := rfl
set_option maxRecDepth 20000 in
theorem kk63 : K1 63 = (20, 8) := rfl
set_option maxRecDepth 20000 in
theorem kk64 : K1 64 = (20, 60) := rfl
set_option maxRecDepth 20000 in
theorem kk65 : K1 65 = (5, 0) := rfl
set_option maxRecDepth 20000 in
theorem kk66 : K1 66 = (23, 40) := rfl
set_option maxRecDepth 20000 in
theorem kk387 : K1 387 = (6, 0) := rfl
set_option maxRecDepth 20000 in
theorem kk388 : K1 388 = (20, 10) := rfl
set_option maxRecDepth 20000 in
theorem kk389 : K1 389 = (20, 10) := rfl
set_option maxRecDepth 20000 in
theorem kk390 : K1 390 = (20, 10) := rfl
set_option maxRecDepth 20000 in
theorem kk391 : K1 391 = (20, 10) := rfl
set_option maxRecDepth 20000 in
theorem kk392 : K1 392 = (7, 0) := rfl
set_option maxRecDepth 20000 in
theorem kk393 : K1 393 = (20, 32) := rfl
set_option maxRecDepth 20000 in
theorem kk394 : K1 394 = (20, 32) := rfl
set_option maxRecDepth 20000 in
theorem kk395 : K1 395 = (20, 32) := rfl
set_option maxRecDepth 20000 in
theorem kk396 : K1 396 = (20, 32) := rfl
set_option maxRecDepth 20000 in
theorem kk397 : K1 397 = (20, 32) := rfl
set_option maxRecDepth 20000 in
theorem kk398 : K1 398 = (20, 8) := rfl
set_option maxRecDepth 20000 in
theorem kk399 : K1 399 = (20, 60) := rfl
set_option maxRecDepth 20000 in
theorem kk400 : K1 400 = (20, 288) := rfl
set_option maxRecDepth 20000 in
theorem kk401 : K1 401 = (21, 72) := rfl
set_option maxRecDepth 20000 in
theorem kk402 : K1 402 = (20, 1944) := rfl
set_option maxRecDepth 20000 in
theorem kk403 : K1 403 = (20, 1512) := rfl
set_option maxRecDepth 20000 in
theorem kk404 : K1 404 = (20, 64) := rfl
set_option maxRecDepth 20000 in
theorem kk405 : K1 405 = (0, 0) := rfl
set_option maxRecDepth 20000 in
theorem kk406 : K1 406 = (21, 8) := rfl
set_option maxRecDepth 20000 in
theorem kk407 : K1 407 = (22, 256) := rfl
set_option maxRecDepth 20000 in
theorem kk408 : K1 408 = (20, 256) := rfl
set_option maxRecDepth 20000 in
theorem kk409 : K1 409 = (9, 0) := rfl
set_option maxRecDepth 20000 in
theorem kk410 : K1 410 = (23, 7) := rfl
set_option maxRecDepth 20000 in
theorem kk411 : K1 411 = (7, 0) := rfl
set_option maxRecDepth 20000 in
theorem kk412 : K1 412 = (20, 32) := rfl
set_option maxRecDepth 20000 in
theorem kk413 : K1 413 = (20, 32) := rfl
set_option maxRecDepth 20000 in
theorem kk414 : K1 414 = (20, 32) := rfl
set_option maxRecDepth 20000 in
theorem kk415 : K1 415 = (20, 32) := rfl
set_option maxRecDepth 20000 in
theorem kk416 : K1 416 = (20, 32) := rfl
set_option maxRecDepth 20000 in
theorem kk417 : K1 417 = (20, 8) := rfl
set_option maxRecDepth 20000 in
theorem kk418 : K1 418 = (20, 60) := rfl
set_option maxRecDepth 20000 in
theorem kk419 : K1 419 = (7, 0) := rfl
set_option maxRecDepth 20000 in
theorem kk420 : K1 420 = (20, 32) := rfl
set_option maxRecDepth 20000 in
theorem kk421 : K1 421 = (20, 32) := rfl
set_option maxRecDepth 20000 in
theorem kk422 : K1 422 = (20, 32) := rfl
set_option maxRecDepth 20000 in
theorem kk423 : K1 423 = (20, 32) := rfl
set_option maxRecDepth 20000 in
theorem kk424 : K1 424 = (20, 32) := rfl
set_option maxRecDepth 20000 in
theorem kk425 : K1 425 = (20, 8) := rfl
set_option maxRecDepth 20000 in
theorem kk426 : K1 426 = (20, 60) := rfl
set_option maxRecDepth 20000 in
theorem kk427 : K1 427 = (7, 0) := rfl
set_option maxRecDepth 20000 in
theorem kk428 : K1 428 = (20, 32) := rfl
set_option maxRecDepth 20000 in
theorem kk429 : K1 429 = (20, 32) := rfl
set_option maxRecDepth 20000 in
theorem kk430 : K1 430 = (20, 32) := rfl
set_option maxRecDepth 20000 in
theorem kk431 : K1 431 = (20, 32) := rfl
set_option maxRecDepth 20000 in
theorem kk432 : K1 432 = (20, 32) := rfl
set_option maxRecDepth 20000 in
theorem kk433 : K1 433 = (20, 8) := rfl
set_option maxRecDepth 20000 in
theorem kk434 : K1 434 = (20, 60) := rfl
set_option maxRecDepth 20000 in
theorem kk435 : K1 435 = (7, 0) := rfl
set_option maxRecDepth 20000 in
theorem kk436 : K1 436 = (20, 32) := rfl
set_option maxRecDepth 20000 in
theorem kk437 : K1 437 = (20, 32) := rfl
set_option maxRecDepth 20000 in
theorem kk438 : K1 438 = (20, 32) := rfl
set_option maxRecDepth 20000 in
theorem kk439 : K1 439 = (20, 32) := rfl
set_option maxRecDepth 20000 in
theorem kk440 : K1 440 = (20, 32) := rfl
set_option maxRecDepth 20000 in
theorem kk441 : K1 441 = (20, 8) := rfl
set_option maxRecDepth 20000 in
theorem kk442 : K1 442 = (20, 60) := rfl
set_option maxRecDepth 20000 in
theorem kk443 : K1 443 = (7, 0) := rfl
set_option maxRecDepth 20000 in
theorem kk444 : K1 444 = (20, 32) := rfl
set_option maxRecDepth 20000 in
theorem kk445 : K1 445 = (20, 32) := rfl
set_option maxRecDepth 20000 in
theorem kk446 : K1 446 = (20, 32) := rfl
set_option maxRecDepth 20000 in
theorem kk447 : K1 447 = (20, 32) := rfl
set_option maxRecDepth 20000 in
theorem kk448 : K1 448 = (20, 32) := rfl
set_option maxRecDepth 20000 in
theorem kk449 : K1 449 = (20, 8) := rfl
set_option maxRecDepth 20000 in
theorem kk450 : K1 450 = (20, 60) := rfl
set_option maxRecDepth 20000 in
theorem kk451 : K1 451 = (7, 0) := rfl
set_option maxRecDepth 20000 in
theorem kk452 : K1 452 = (20, 32) := rfl
set_option maxRecDepth 20000 in
theorem kk453 : K1 453 = (20, 32) := rfl
set_option maxRecDepth 20000 in
theorem kk454 : K1 454 = (20, 32) := rfl
set_option maxRecDepth 20000 in
theorem kk455 : K1 455 = (20, 32) := rfl
set_option maxRecDepth 20000 in
theorem kk456 : K1 456 = (20, 32) := rfl
set_option maxRecDepth 20000 in
theorem kk457 : K1 457 = (20, 8) := rfl
set_option maxRecDepth 20000 in
theorem kk458 : K1 458 = (20, 60) := rfl
set_option maxRecDepth 20000 in
theorem kk459 : K1 459 = (7, 0) := rfl
set_option maxRecDepth 20000 in
theorem kk460 : K1 460 = (20, 32) := rfl
set_option maxRecDepth 20000 in
theorem kk461 : K1 461 = (20, 32) := rfl
set_option maxRecDepth 20000 in
theorem kk462 : K1 462 = (20, 32) := rfl
set_option maxRecDepth 20000 in
theorem kk463 : K1 463 = (20, 32) := rfl
set_option maxRecDepth 20000 in
theorem kk464 : K1 464 = (20, 32) := rfl
set_option maxRecDepth 20000 in
theorem kk465 : K1 465 = (20, 8) := rfl
set_option maxRecDepth 20000 in
theorem kk466 : K1 466 = (20, 60) := rfl
set_option maxRecDepth 20000 in
theorem kk467 : K1 467 = (20, 18) := rfl
set_option maxRecDepth 20000 in
theorem kk468 : K1 468 = (11, 0) := rfl
set_option maxRecDepth 20000 in
theorem kk469 : K1 469 = (20, 240) := rfl
set_option maxRecDepth 20000 in
theorem kk470 : K1 470 = (20, 2600) := rfl
set_option maxRecDepth 20000 in
theorem kk471 : K1 471 = (20, 2600) := rfl
set_option maxRecDepth 20000 in
theorem kk472 : K1 472 = (20, 5) := rfl
set_option maxRecDepth 20000 in
theorem kk473 : K1 473 = (20, 5) := rfl
set_option maxRecDepth 20000 in
theorem kk474 : K1 474 = (20, 700) := rfl
set_option maxRecDepth 20000 in
theorem kk475 : K1 475 = (20, 700) := rfl
set_option maxRecDepth 20000 in
theorem kk476 : K1 476 = (20, 700) := rfl
set_option maxRecDepth 20000 in
theorem kk477 : K1 477 = (20, 6) := rfl
set_option maxRecDepth 20000 in
theorem kk478 : K1 478 = (20, 80) := rfl
set_option maxRecDepth 20000 in
theorem kk479 : K1 479 = (20, 4) := rfl
set_option maxRecDepth 20000 in
theorem kk480 : K1 480 = (20, 24) := rfl
set_option maxRecDepth 20000 in
theorem kk481 : K1 481 = (20, 48) := rfl
set_option maxRecDepth 20000 in
theorem kk482 : K1 482 = (20, 4) := rfl
set_option maxRecDepth 20000 in
theorem kk483 : K1 483 = (20, 24) := rfl
set_option maxRecDepth 20000 in
theorem kk484 : K1 484 = (20, 48) := rfl
set_option maxRecDepth 20000 in
theorem kk485 : K1 485 = (20, 8) := rfl
set_option maxRecDepth 20000 in
theorem kk486 : K1 486 = (20, 352) := rfl
set_option maxRecDepth 20000 in
theorem kk487 : K1 487 = (20, 5) := rfl
set_option maxRecDepth 20000 in
theorem kk488 : K1 488 = (20, 14080) := rfl
set_option maxRecDepth 20000 in
theorem kk489 : K1 489 = (20, 1539) := rfl
set_option maxRecDepth 20000 in
theorem kk490 : K1 490 = (21, 8) := rfl
set_option maxRecDepth 20000 in
theorem kk491 : K1 491 = (20, 256) := rfl
set_option maxRecDepth 20000 in
theorem kk492 : K1 492 = (20, 10) := rfl
set_option maxRecDepth 20000 in
theorem kk493 : K1 493 = (20, 10) := rfl
set_option maxRecDepth 20000 in
theorem kk494 : K1 494 = (20, 10) := rfl
set_option maxRecDepth 20000 in
theorem kk495 : K1 495 = (22, 10) := rfl
set_option maxRecDepth 20000 in
theorem kk496 : K1 496 = (21, 72) := rfl
set_option maxRecDepth 20000 in
theorem kk497 : K1 497 = (20, 576) := rfl
set_option maxRecDepth 20000 in
theorem kk498 : K1 498 = (20, 352) := rfl
set_option maxRecDepth 20000 in
theorem kk499 : K1 499 = (21, 1) := rfl
set_option maxRecDepth 20000 in
theorem rr6_0 : R1 6 0 = some 7 := rfl
set_option maxRecDepth 20000 in
theorem rr6_1 : R1 6 1 = some 9 := rfl
set_option maxRecDepth 20000 in
theorem rr6_2 : R1 6 2 = some 19 := rfl
set_option maxRecDepth 20000 in
theorem rr6_3 : R1 6 3 = some 27 := rfl
set_option maxRecDepth 20000 in
theorem rr6_7 : R1 6 7 = some 28 := rfl
set_option maxRecDepth 20000 in
theorem rr6_9 : R1 6 9 = some 29 := rfl
set_option maxRecDepth 20000 in
theorem rr6_10 : R1 6 10 = some 33 := rfl
set_option maxRecDepth 20000 in
theorem rr6_11 : R1 6 11 = some 41 := rfl
set_option maxRecDepth 20000 in
theorem rr6_12 : R1 6 12 = some 49 := rfl
set_option maxRecDepth 20000 in
theorem rr6_13 : R1 6 13 = some 57 := rfl
set_option maxRecDepth 20000 in
theorem rr6_15 : R1 6 15 = some 65 := rfl
set_option maxRecDepth 20000 in
theorem rr6_16 : R1 6 16 = some 387 := rfl
set_option maxRecDepth 20000 in
theorem rr6_17 : R1 6 17 = some 405 := rfl
set_option maxRecDepth 20000 in
theorem rr6_18 : R1 6 18 = some 409 := rfl
set_option maxRecDepth 20000 in
theorem rr6_19 : R1 6 19 = some 467 := rfl
set_option maxRecDepth 20000 in
theorem rr7_0 : R1 7 0 = some 8 := rfl
set_option maxRecDepth 20000 in
theorem rr9_0 : R1 9 0 = some 10 := rfl
set_option maxRecDepth 20000 in
theorem rr9_1 : R1 9 1 = some 11 := rfl
set_option maxRecDepth 20000 in
theorem rr9_4 : R1 9 4 = some 12 := rfl
set_option maxRecDepth 20000 in
theorem rr9_5 : R1 9 5 = some 13 := rfl
set_option maxRecDepth 20000 in
theorem rr9_6 : R1 9 6 = some 14 := rfl
set_option maxRecDepth 20000 in
theorem rr9_8 : R1 9 8 = some 15 := rfl
set_option maxRecDepth 20000 in
theorem rr9_9 : R1 9 9 = some 16 := rfl
set_option maxRecDepth 20000 in
theorem rr9_10 : R1 9 10 = some 17 := rfl
set_option maxRecDepth 20000 in
theorem rr9_11 : R1 9 11 = some 18 := rfl
set_option maxRecDepth 20000 in
theorem rr19_0 : R1 19 0 = some 20 := rfl
set_option maxRecDepth 20000 in
theorem rr20_0 : R1 20 0 = some 21 := rfl
set_option maxRecDepth 20000 in
theorem rr20_1 : R1 20 1 = some 22 := rfl
set_option maxRecDepth 20000 in
theorem rr20_3 : R1 20 3 = some 23 := rfl
set_option maxRecDepth 20000 in
theorem rr20_4 : R1 20 4 = some 24 := rfl
set_option maxRecDepth 20000 in
theorem rr20_5 : R1 20 5 = some 25 := rfl
set_option maxRecDepth 20000 in
theorem rr20_7 : R1 20 7 = some 26 := rfl
set_option maxRecDepth 20000 in
theorem rr29_3 : R1 29 3 = some 30 := rfl
set_option maxRecDepth 20000 in
theorem rr29_4 : R1 29 4 = some 31 := rfl
set_option maxRecDepth 20000 in
theorem rr29_6 : R1 29 6 = some 32 := rfl
set_option maxRecDepth 20000 in
theorem rr65_0 : R1 65 0 = some 66 := rfl
set_option maxRecDepth 20000 in
theorem rr387_0 : R1 387 0 = some 388 := rfl
set_option maxRecDepth 20000 in
theorem rr387_1 : R1 387 1 = some 389 := rfl
set_option maxRecDepth 20000 in
theorem rr387_2 : R1 387 2 = some 390 := rfl
set_option maxRecDepth 20000 in
theorem rr387_3 : R1 387 3 = some 391 := rfl
set_option maxRecDepth 20000 in
theorem rr387_6 : R1 387 6 = some 392 := rfl
set_option maxRecDepth 20000 in
theorem rr387_7 : R1 387 7 = some 400 := rfl
set_option maxRecDepth 20000 in
theorem rr387_8 : R1 387 8 = some 401 := rfl
set_option maxRecDepth 20000 in
theorem rr387_9 : R1 387 9 = some 402 := rfl
set_option maxRecDepth 20000 in
theorem rr387_10 : R1 387 10 = some 403 := rfl
set_option maxRecDepth 20000 in
theorem rr387_12 : R1 387 12 = some 404 := rfl
set_option maxRecDepth 20000 in
theorem rr405_0 : R1 405 0 = some 406 := rfl
set_option maxRecDepth 20000 in
theorem rr405_2 : R1 405 2 = some 407 := rfl
set_option maxRecDepth 20000 in
theorem rr405_3 : R1 405 3 = some 408 := rfl
set_option maxRecDepth 20000 in
theorem rr409_0 : R1 409 0 = some 410 := rfl
set_option maxRecDepth 20000 in
theorem rr468_1 : R1 468 1 = some 469 := rfl
set_option maxRecDepth 20000 in
theorem rr468_6 : R1 468 6 = some 470 := rfl
set_option maxRecDepth 20000 in
theorem rr468_7 : R1 468 7 = some 471 := rfl
set_option maxRecDepth 20000 in
theorem rr468_8 : R1 468 8 = some 472 := rfl
set_option maxRecDepth 20000 in
theorem rr468_9 : R1 468 9 = some 473 := rfl
set_option maxRecDepth 20000 in
theorem rr468_10 : R1 468 10 = some 474 := rfl
set_option maxRecDepth 20000 in
theorem rr468_11 : R1 468 11 = some 475 := rfl
set_option maxRecDepth 20000 in
theorem rr468_12 : R1 468 12 = some 476 := rfl
set_option maxRecDepth 20000 in
theorem rr468_15 : R1 468 15 = some 477 := rfl
set_option maxRecDepth 20000 in
theorem rr468_16 : R1 468 16 = some 478 := rfl
set_option maxRecDepth 20000 in
theorem rr468_17 : R1 468 17 = some 479 := rfl
set_option maxRecDepth 20000 in
theorem rr468_18 : R1 468 18 = some 480 := rfl
set_option maxRecDepth 20000 in
theorem rr468_19 : R1 468 19 = some 481 := rfl
set_option maxRecDepth 20000 in
theorem rr468_22 : R1 468 22 = some 482 := rfl
set_option maxRecDepth 20000 in
theorem rr468_23 : R1 468 23 = some 483 := rfl
set_option maxRecDepth 20000 in
theorem rr468_24 : R1 468 24 = some 484 := rfl
set_option maxRecDepth 20000 in
theorem rr468_27 : R1 468 27 = some 485 := rfl
set_option maxRecDepth 20000 in
theorem rr468_28 : R1 468 28 = some 486 := rfl
set_option maxRecDepth 20000 in
theorem rr468_29 : R1 468 29 = some 487 := rfl
set_option maxRecDepth 20000 in
theorem rr468_32 : R1 468 32 = some 488 := rfl
set_option maxRecDepth 20000 in
theorem rr468_35 : R1 468 35 = some 489 := rfl
set_option maxRecDepth 20000 in
theorem rr468_36 : R1 468 36 = some 490 := rfl
set_option maxRecDepth 20000 in
theorem rr468_37 : R1 468 37 = some 491 := rfl
set_option maxRecDepth 20000 in
theorem rr468_38 : R1 468 38 = some 492 := rfl
set_option maxRecDepth 20000 in
theorem rr468_39 : R1 468 39 = some 493 := rfl
set_option maxRecDepth 20000 in
theorem rr468_40 : R1 468 40 = some 494 := rfl
set_option maxRecDepth 20000 in
theorem rr468_41 : R1 468 41 = some 495 := rfl
set_option maxRecDepth 20000 in
theorem rr468_43 : R1 468 43 = some 496 := rfl
set_option maxRecDepth 20000 in
theorem rr468_44 : R1 468 44 = some 497 := rfl
set_option maxRecDepth 20000 in
theorem rr468_45 : R1 468 45 = some 498 := rfl
/-! THE MODEL's small methods -/
section RulesK
variable {d : Nat} {m : jMe} {pc : Nat} {ls : jLs} {st : List jV} {M : jM} {Q : Option jV → jM → Prop}
theorem r_ialoadK {r k : Nat} {x : Int} (hd : decode m.2.2.1 pc = .ok (.iaload, 1)) (hx : x = (k : Int)) (h : jIdx M 20 r x = true) (q : Run d m (pc + 1) ls (vI (iv M r k) :: st) M Q) : Run d m pc ls (vI x :: vR r :: st) M Q := by
  subst hx
  exact r_iaload hd h q
theorem r_laloadK {r k : Nat} {x : Int} (hd : decode m.2.2.1 pc = .ok (.laload, 1)) (hx : x = (k : Int)) (h : jIdx M 21 r x = true) (q : Run d m (pc + 1) ls (vL (lg M r k) :: st) M Q) : Run d m pc ls (vI x :: vR r :: st) M Q := by
  subst hx
  exact r_laload hd h q
theorem r_iastoreK {r k : Nat} {x v : Int} (hd : decode m.2.2.1 pc = .ok (.iastore, 1)) (hx : x = (k : Int)) (h : jIdx M 20 r x = true ∧ 6 ≤ r) (q : Run d m (pc + 1) ls st (si M r k v) Q) : Run d m pc ls (vI v :: vI x :: vR r :: st) M Q := by
  subst hx
  exact r_iastore hd h q
theorem r_lastoreK {r k : Nat} {x v : Int} (hd : decode m.2.2.1 pc = .ok (.lastore, 1)) (hx : x = (k : Int)) (h : jIdx M 21 r x = true ∧ 6 ≤ r) (q : Run d m (pc + 1) ls st (sl M r k v) Q) : Run d m pc ls (vL v :: vI x :: vR r :: st) M Q := by
  subst hx
  exact r_lastore hd h q
end RulesK
def fIn (v lo hi : Int) : Int := if lo ≤ v ∧ v ≤ hi then 1 else 0
def fHas (s k : Int) : Int := if jand (jshr s k) 1 = 1 then 1 else 0
def fGm (mi k : Int) : Int := if mi = 0 then 1 else if mi = 1 then (if k < 2 then 1 else 0) else if k = 2 then 1 else 0
def fB (v : Int) : Int := fW v (-1000000) 1000000
def fTm (v : Int) : Int := w32 (if v < 2147483647 then v else 2147483647)
def fDg (c : Int) : Int := if 48 ≤ c ∧ c ≤ 57 then 1 else 0
def fSg (c : Int) : Int := if c = 61 ∨ c = 60 ∨ c = 62 then 1 else 0
def fLt (c : Int) : Int := if c = 115 then 0 else if c = 107 then 1 else if c = 97 then 2 else if c = 100 then 3 else if c = 119 then 4 else if c = 104 then 5 else -1
section Model0
variable {d : Nat} {M : jM} {Q : Option jV → jM → Prop}
theorem m_in {v lo hi : Int} (hd : 2 ≤ d) (hS : Shp M) (h : Q (some (vI (fIn v lo hi))) M) : Call d mX11_in [vI v, vI lo, vI hi] M Q := by
  obtain ⟨e, rfl⟩ := dd (d := d) (by omega)
  refine vn_in (by omega) hS ?_
  refine (congrArg (fun z => Q (some (vI z)) M) ?_).mp h
  unfold fIn
  repeat' split
  all_goals first | rfl | omega
theorem m_has {s k : Int} (hd : 2 ≤ d) (hS : Shp M) (h : Q (some (vI (fHas s k))) M) : Call d mX11_has [vI s, vI k] M Q := by
  obtain ⟨e, rfl⟩ := dd (d := d) (by omega)
  refine vn_has (by omega) hS ?_
  refine (congrArg (fun z => Q (some (vI z)) M) ?_).mp h
  unfold fHas
  by_cases c : jand (jshr s k) 1 = 1 <;> simp [c]
theorem m_goesInto {mi k : Int} (hd : 2 ≤ d) (hS : Shp M) (h : Q (some (vI (fGm mi k))) M) : Call d mX11_goesInto [vI mi, vI k] M Q := by
  obtain ⟨e, rfl⟩ := dd (d := d) (by omega)
  refine vn_goesInto (by omega) hS ?_
  refine (congrArg (fun z => Q (some (vI z)) M) ?_).mp h
  unfold fGm
  repeat' split
  all_goals first | rfl | omega
theorem m_bounded {v : Int} (hd : 2 ≤ d) (hS : Shp M) (h : Q (some (vI (fB v))) M) : Call d mX11_bounded [vL v] M Q := by
  obtain ⟨e, rfl⟩ := dd (d := d) (by omega)
  refine vn_bounded (by omega) hS ?_
  refine (congrArg (fun z => Q (some (vI z)) M) ?_).mp h
  unfold fB fW
  rw [w32_i (by repeat' split
                all_goals omega) (by repeat' split
                                     all_goals omega)]
  repeat' split
  all_goals omega
theorem m_asTold {v : Int} (hd : 2 ≤ d) (hS : Shp M) (h : Q (some (vI (fTm v))) M) : Call d mX11_asTold [vL v] M Q := by
  obtain ⟨e, rfl⟩ := dd (d := d) (by omega)
  exact vn_asTold (by omega) hS h
theorem m_isDigit {v : Int} (hd : 2 ≤ d) (hS : Shp M) (h : Q (some (vI (fDg v))) M) : Call d mX11_isDigit [vI v] M Q := by
  obtain ⟨e, rfl⟩ := dd (d := d) (by omega)
  refine vn_isDigit (by omega) hS ?_
  refine (congrArg (fun z => Q (some (vI z)) M) ?_).mp h
  unfold fDg
  repeat' split
  all_goals first | rfl | omega
theorem m_isSign {v : Int} (hd : 2 ≤ d) (hS : Shp M) (h : Q (some (vI (fSg v))) M) : Call d mX11_isSign [vI v] M Q := by
  obtain ⟨e, rfl⟩ := dd (d := d) (by omega)
  refine vn_isSign (by omega) hS ?_
  refine (congrArg (fun z => Q (some (vI z)) M) ?_).mp h
  unfold fSg
  repeat' split
  all_goals first | rfl | omega
theorem m_letterOf {v : Int} (hd : 2 ≤ d) (hS : Shp M) (h : Q (some (vI (fLt v))) M) : Call d mX11_letterOf [vI v] M Q := by
  obtain ⟨e, rfl⟩ := dd (d := d) (by omega)
  refine vn_letterOf (by omega) hS ?_
  refine (congrArg (fun z => Q (some (vI z)) M) ?_).mp h
  unfold fLt
  by_cases c1 : v = 115
  · simp [c1]
  by_cases c2 : v = 107
  · simp [c2]
  by_cases c3 : v = 97
  · simp [c3]
  by_cases c4 : v = 100
  · simp [c4]
  by_cases c5 : v = 119
  · simp [c5]
  by_cases c6 : v = 104
  · simp [c6]
  simp [c1, c2, c3, c4, c5, c6]
theorem m_ix {p i k : Int} (hb : (0 ≤ p ∧ p < 8) ∧ (0 ≤ i ∧ i < 4) ∧ (0 ≤ k ∧ k < 5)) : w32 ((w32 ((5 : Int) * (w32 ((w32 ((4 : Int) * p)) + i)))) + k) = 20 * p + 5 * i + k := by
  rw [w32_i (z := 4 * p) (by omega) (by omega), w32_i (z := 4 * p + i) (by omega) (by omega), w32_i (z := 5 * (4 * p + i)) (by omega) (by omega), w32_i (by omega) (by omega)]
  omega
theorem m_of {p i k : Int} (hd : 2 ≤ d) (hS : Shp M) (hb : (0 ≤ p ∧ p < 8) ∧ (0 ≤ i ∧ i < 4) ∧ (0 ≤ k ∧ k < 5)) (h : Q (some (vI (iv M 486 (20 * p + 5 * i + k).toNat))) M) : Call d mX11_of [vR 468, vI p, vI i, vI k] M Q := by
  obtain ⟨e, rfl⟩ := dd (d := d) (by omega)
  refine vn_of (by omega) hS ?_
  rw [m_ix hb]
  exact ⟨⟨by omega, by omega⟩, h⟩
theorem m_set {p i k v : Int} (hd : 2 ≤ d) (hS : Shp M) (hb : (0 ≤ p ∧ p < 8) ∧ (0 ≤ i ∧ i < 4) ∧ (0 ≤ k ∧ k < 5)) (h : Q none (si M 486 (20 * p + 5 * i + k).toNat v)) : Call d mX11_set [vR 468, vI p, vI i, vI k, vI v] M Q := by
  obtain ⟨e, rfl⟩ := dd (d := d) (by omega)
  refine vn_set (by omega) hS ?_
  rw [m_ix hb]
  exact ⟨⟨by omega, by omega⟩, h⟩
theorem vn_isOf {e : Nat} {M : jM} {Q : Option jV → jM → Prop} {p : Int} {i : Int} {w : Int} (he : 4 ≤ e) (hS : Shp M)
  (h : ((0 ≤ p ∧ p < 8) ∧ (0 ≤ i ∧ i < 4)) ∧ ((((iv M 486 (20 * p + 5 * i + (0 : Int)).toNat) ≠ (1 : Int)) → (Q (some (vI (0 : Int))) M)) ∧ (¬ ((iv M 486 (20 * p + 5 * i + (0 : Int)).toNat) ≠ (1 : Int)) → (((0 ≤ p ∧ p < 8) ∧ (0 ≤ i ∧ i < 4)) ∧ (Q (some (vI (if (iv M 486 (20 * p + 5 * i + (1 : Int)).toNat) ≠ w then (0 : Int) else (1 : Int)))) M))))) :
  Call (e + 1) mX11_isOf [vR 468, vI p, vI i, vI w] M Q := by
  show Run (e + 1) mX11_isOf 0 [some (vR 468), some (vI p), some (vI i), some (vI w)] [] M Q
  refine r_aload_n dX11_isOf_0 rfl ?_
  refine r_iload_n dX11_isOf_1 rfl ?_
  refine r_iload_n dX11_isOf_2 rfl ?_
  refine r_iconst dX11_isOf_3 (by decide) ?_
  refine r_invV_i dX11_isOf_4 kM11_271 (by decide) (Nat.le_of_ble_eq_true rfl) rfl rfl (Nat.le_of_ble_eq_true rfl) (Nat.le_of_ble_eq_true rfl) (sh_o hS rfl (by decide)) (m_of (by omega) hS ⟨h.1.1, h.1.2, by decide⟩ ⟨_, rfl, ?_⟩)
  refine r_iconst dX11_isOf_7 (by decide) ?_
  refine r_icmp_ne dX11_isOf_8 rfl (fun c1 => ?_) (fun c1 => ?_)
  · refine r_iconst dX11_isOf_26 (by decide) ?_
    exact r_zret dX11_isOf_27 rfl (by decide) (h.2.1 c1)
  · refine r_aload_n dX11_isOf_11 rfl ?_
    refine r_iload_n dX11_isOf_12 rfl ?_
    refine r_iload_n dX11_isOf_13 rfl ?_
    refine r_iconst dX11_isOf_14 (by decide) ?_
    refine r_invV_i dX11_isOf_15 kM11_271 (by decide) (Nat.le_of_ble_eq_true rfl) rfl rfl (Nat.le_of_ble_eq_true rfl) (Nat.le_of_ble_eq_true rfl) (sh_o hS rfl (by decide)) (m_of (by omega) hS ⟨(h.2.2 c1).1.1, (h.2.2 c1).1.2, by decide⟩ ⟨_, rfl, ?_⟩)
    refine r_iload_n dX11_isOf_18 rfl ?_
    have K2 : Run (e + 1) mX11_isOf 27 [some (vR 468), some (vI p), some (vI i), some (vI w)] [vI (if (iv M 486 (20 * p + 5 * i + (1 : Int)).toNat) ≠ w then (0 : Int) else (1 : Int))] M Q := by
      exact r_zret dX11_isOf_27 rfl (by (repeat' split) <;> first | exact Or.inl rfl | exact Or.inr rfl) (h.2.2 c1).2
    refine r_icmp_ne dX11_isOf_19 rfl (fun q3 => ?_) (fun q3 => ?_)
    · rw [if_pos q3] at K2
      refine r_iconst dX11_isOf_26 (by decide) ?_
      exact K2
    · rw [if_neg q3] at K2
      refine r_iconst dX11_isOf_22 (by decide) ?_
      refine r_goto (tgt := 27) dX11_isOf_23 rfl ?_
      exact K2
theorem vn_isPerson {e : Nat} {M : jM} {Q : Option jV → jM → Prop} {p : Int} (he : 4 ≤ e) (hS : Shp M)
  (h : ((fIn p (0 : Int) (w32 ((iv M 468 25) - (1 : Int)))) = 0 ∨ (fIn p (0 : Int) (w32 ((iv M 468 25) - (1 : Int)))) = 1) ∧ Q (some (vI (fIn p (0 : Int) (w32 ((iv M 468 25) - (1 : Int)))))) M) :
  Call (e + 1) mX11_isPerson [vR 468, vI p] M Q := by
  show Run (e + 1) mX11_isPerson 0 [some (vR 468), some (vI p)] [] M Q
  refine r_iload_n dX11_isPerson_0 rfl ?_
  refine r_iconst dX11_isPerson_1 (by decide) ?_
  refine r_aload_n dX11_isPerson_2 rfl ?_
  refine r_get0 dX11_isPerson_3 kF11_287 (sh_o hS rfl (by decide)) ?_
  refine r_iconst dX11_isPerson_6 (by decide) ?_
  refine r_isub dX11_isPerson_7 ?_
  refine r_invS_i dX11_isPerson_8 (by decide) kXn11_224 kM11_224 (by decide) (Nat.le_of_ble_eq_true rfl) rfl rfl (Nat.le_of_ble_eq_true rfl) (Nat.le_of_ble_eq_true rfl) (m_in (by omega) hS ⟨_, rfl, ?_⟩)
  exact r_zret dX11_isPerson_11 rfl h.1 h.2
theorem vn_goesTo {e : Nat} {M : jM} {Q : Option jV → jM → Prop} {p : Int} {k : Int} (he : 4 ≤ e) (hS : Shp M)
  (h : (0 ≤ (w32 ((w32 ((3 : Int) * p)) + (2 : Int))) ∧ (w32 ((w32 ((3 : Int) * p)) + (2 : Int))) < 24) ∧ (((fGm (iv M 483 (w32 ((w32 ((3 : Int) * p)) + (2 : Int))).toNat) k) = 0 ∨ (fGm (iv M 483 (w32 ((w32 ((3 : Int) * p)) + (2 : Int))).toNat) k) = 1) ∧ Q (some (vI (fGm (iv M 483 (w32 ((w32 ((3 : Int) * p)) + (2 : Int))).toNat) k))) M)) :
  Call (e + 1) mX11_goesTo [vR 468, vI p, vI k] M Q := by
  show Run (e + 1) mX11_goesTo 0 [some (vR 468), some (vI p), some (vI k)] [] M Q
  refine r_aload_n dX11_goesTo_0 rfl ?_
  refine r_getS (v := 483) dX11_goesTo_1 kF11_52 (sh_o hS rfl (by decide)) (sh_f hS rfl (by decide)) ?_
  refine r_iconst dX11_goesTo_4 (by decide) ?_
  refine r_iload_n dX11_goesTo_5 rfl ?_
  refine r_imul dX11_goesTo_6 ?_
  refine r_iconst dX11_goesTo_7 (by decide) ?_
  refine r_iadd dX11_goesTo_8 ?_
  refine r_iaload dX11_goesTo_9 (jro_ix (sh_r hS rfl (by decide)) h.1) ?_
  refine r_iload_n dX11_goesTo_10 rfl ?_
  refine r_invS_i dX11_goesTo_11 (by decide) kXn11_254 kM11_254 (by decide) (Nat.le_of_ble_eq_true rfl) rfl rfl (Nat.le_of_ble_eq_true rfl) (Nat.le_of_ble_eq_true rfl) (m_goesInto (by omega) hS ⟨_, rfl, ?_⟩)
  exact r_zret dX11_goesTo_14 rfl h.2.1 h.2.2
theorem m_isOf {p i w : Int} (hd : 5 ≤ d) (hS : Shp M) (hb : (0 ≤ p ∧ p < 8) ∧ (0 ≤ i ∧ i < 4)) (h : Q (some (vI (if iv M 486 (20 * p + 5 * i).toNat = 1 ∧ iv M 486 (20 * p + 5 * i + 1).toNat = w then (1 : Int) else (0 : Int)))) M) : Call d mX11_isOf [vR 468, vI p, vI i, vI w] M Q := by
  obtain ⟨e, rfl⟩ := dd (d := d) (by omega)
  refine vn_isOf (by omega) hS ⟨⟨hb.1, hb.2⟩, fun c => ?_, fun c => ⟨⟨hb.1, hb.2⟩, ?_⟩⟩
  · rw [Int.add_zero] at c
    rw [if_neg (fun q => c q.1)] at h
    exact h
  · rw [Int.add_zero] at c
    refine (congrArg (fun z => Q (some (vI z)) M) ?_).mp h
    by_cases c2 : iv M 486 (20 * p + 5 * i + 1).toNat = w <;> simp [c2] at c ⊢ <;> exact c
theorem m_isPerson {p : Int} (hd : 5 ≤ d) (hS : Shp M) (h : Q (some (vI (fIn p 0 (w32 (iv M 468 25 - 1))))) M) : Call d mX11_isPerson [vR 468, vI p] M Q := by
  obtain ⟨e, rfl⟩ := dd (d := d) (by omega)
  exact vn_isPerson (by omega) hS ⟨by unfold fIn; split <;> simp, h⟩
theorem m_goesTo {p k : Int} (hd : 5 ≤ d) (hS : Shp M) (hp : 0 ≤ p ∧ p < 8) (h : Q (some (vI (fGm (iv M 483 (3 * p + 2).toNat) k))) M) : Call d mX11_goesTo [vR 468, vI p, vI k] M Q := by
  obtain ⟨e, rfl⟩ := dd (d := d) (by omega)
  refine vn_goesTo (by omega) hS ?_
  rw [w32_i (z := 3 * p) (by omega) (by omega), w32_i (z := 3 * p + 2) (by omega) (by omega)]
  exact ⟨⟨by omega, by omega⟩, by unfold fGm; repeat' split
                                  all_goals simp, h⟩
theorem vn_areTwo {e : Nat} {M : jM} {Q : Option jV → jM → Prop} {p : Int} {q : Int} (he : 6 ≤ e) (hS : Shp M)
  (h : Q (some (vI (if (fIn p 0 (w32 (iv M 468 25 - 1))) = (0 : Int) then (0 : Int) else (if (fIn q 0 (w32 (iv M 468 25 - 1))) = (0 : Int) then (0 : Int) else (if p = q then (0 : Int) else (1 : Int)))))) M) :
  Call (e + 1) mX11_areTwo [vR 468, vI p, vI q] M Q := by
  show Run (e + 1) mX11_areTwo 0 [some (vR 468), some (vI p), some (vI q)] [] M Q
  refine r_aload_n dX11_areTwo_0 rfl ?_
  refine r_iload_n dX11_areTwo_1 rfl ?_
  refine r_invV_i dX11_areTwo_2 kM11_309 (by decide) (Nat.le_of_ble_eq_true rfl) rfl rfl (Nat.le_of_ble_eq_true rfl) (Nat.le_of_ble_eq_true rfl) (sh_o hS rfl (by decide)) (m_isPerson (by omega) hS ⟨_, rfl, ?_⟩)
  have K1 : Run (e + 1) mX11_areTwo 26 [some (vR 468), some (vI p), some (vI q)] [vI (if (fIn p 0 (w32 (iv M 468 25 - 1))) = (0 : Int) then (0 : Int) else (if (fIn q 0 (w32 (iv M 468 25 - 1))) = (0 : Int) then (0 : Int) else (if p = q then (0 : Int) else (1 : Int))))] M Q := by
    exact r_zret dX11_areTwo_26 rfl (by (repeat' split) <;> first | exact Or.inl rfl | exact Or.inr rfl) h
  refine r_if_eq dX11_areTwo_5 rfl (fun q2 => ?_) (fun q2 => ?_)
  · rw [if_pos q2] at K1
    refine r_iconst dX11_areTwo_25 (by decide) ?_
    exact K1
  · rw [if_neg q2] at K1
    refine r_aload_n dX11_areTwo_8 rfl ?_
    refine r_iload_n dX11_areTwo_9 rfl ?_
    refine r_invV_i dX11_areTwo_10 kM11_309 (by decide) (Nat.le_of_ble_eq_true rfl) rfl rfl (Nat.le_of_ble_eq_true rfl) (Nat.le_of_ble_eq_true rfl) (sh_o hS rfl (by decide)) (m_isPerson (by omega) hS ⟨_, rfl, ?_⟩)
    refine r_if_eq dX11_areTwo_13 rfl (fun q4 => ?_) (fun q4 => ?_)
    · rw [if_pos q4] at K1
      refine r_iconst dX11_areTwo_25 (by decide) ?_
      exact K1
    · rw [if_neg q4] at K1
      refine r_iload_n dX11_areTwo_16 rfl ?_
      refine r_iload_n dX11_areTwo_17 rfl ?_
      refine r_icmp_eq dX11_areTwo_18 rfl (fun q6 => ?_) (fun q6 => ?_)
      · rw [if_pos q6] at K1
        refine r_iconst dX11_areTwo_25 (by decide) ?_
        exact K1
      · rw [if_neg q6] at K1
        refine r_iconst dX11_areTwo_21 (by decide) ?_
        refine r_goto (tgt := 26) dX11_areTwo_22 rfl ?_
        exact K1
theorem m_areTwo {p q : Int} (hd : 7 ≤ d) (hS : Shp M) (h : Q (some (vI (if fIn p 0 (w32 (iv M 468 25 - 1)) = 1 ∧ fIn q 0 (w32 (iv M 468 25 - 1)) = 1 ∧ p ≠ q then (1 : Int) else (0 : Int)))) M) : Call d mX11_areTwo [vR 468, vI p, vI q] M Q := by
  obtain ⟨e, rfl⟩ := dd (d := d) (by omega)
  refine vn_areTwo (by omega) hS ?_
  refine (congrArg (fun z => Q (some (vI z)) M) ?_).mp h
  by_cases c1 : 0 ≤ p ∧ p ≤ w32 (iv M 468 25 - 1) <;> by_cases c2 : 0 ≤ q ∧ q ≤ w32 (iv M 468 25 - 1) <;> by_cases c3 : p = q <;> simp [fIn, c1, c2, c3]
end Model0
