theorem dL_acts_256 : decode cL_acts 256 = .ok (.if_icmp .ne 7, 3) := by decide +kernel
theorem dL_acts_259 : decode cL_acts 259 = .ok (.iconst 0, 1) := by decide +kernel
theorem dL_acts_260 : decode cL_acts 260 = .ok (.goto 9, 3) := by decide +kernel
theorem dL_acts_263 : decode cL_acts 263 = .ok (.aload_n 0, 1) := by decide +kernel
theorem dL_acts_264 : decode cL_acts 264 = .ok (.iload 7, 2) := by decide +kernel
theorem dL_acts_266 : decode cL_acts 266 = .ok (.invokestatic 159, 3) := by decide +kernel
theorem dL_acts_269 : decode cL_acts 269 = .ok (.istore 9, 2) := by decide +kernel
theorem dL_acts_271 : decode cL_acts 271 = .ok (.iload 7, 2) := by decide +kernel
theorem dL_acts_273 : decode cL_acts 273 = .ok (.iconst (-1), 1) := by decide +kernel
theorem dL_acts_274 : decode cL_acts 274 = .ok (.if_icmp .ne 7, 3) := by decide +kernel
theorem dL_acts_277 : decode cL_acts 277 = .ok (.iconst 0, 1) := by decide +kernel
theorem dL_acts_278 : decode cL_acts 278 = .ok (.goto 9, 3) := by decide +kernel
theorem dL_acts_281 : decode cL_acts 281 = .ok (.aload_n 0, 1) := by decide +kernel
theorem dL_acts_282 : decode cL_acts 282 = .ok (.iload 7, 2) := by decide +kernel
theorem dL_acts_284 : decode cL_acts 284 = .ok (.invokestatic 150, 3) := by decide +kernel
theorem dL_acts_287 : decode cL_acts 287 = .ok (.istore 10, 2) := by decide +kernel
theorem dL_acts_289 : decode cL_acts 289 = .ok (.aload_n 0, 1) := by decide +kernel
theorem dL_acts_290 : decode cL_acts 290 = .ok (.iload_n 2, 1) := by decide +kernel
theorem dL_acts_291 : decode cL_acts 291 = .ok (.iload 5, 2) := by decide +kernel
theorem dL_acts_293 : decode cL_acts 293 = .ok (.iload 6, 2) := by decide +kernel
theorem dL_acts_295 : decode cL_acts 295 = .ok (.iload 7, 2) := by decide +kernel
theorem dL_acts_297 : decode cL_acts 297 = .ok (.invokestatic 216, 3) := by decide +kernel
theorem dL_acts_300 : decode cL_acts 300 = .ok (.istore 11, 2) := by decide +kernel
theorem dL_acts_302 : decode cL_acts 302 = .ok (.iload 5, 2) := by decide +kernel
theorem dL_acts_304 : decode cL_acts 304 = .ok (.iload 6, 2) := by decide +kernel
theorem dL_acts_306 : decode cL_acts 306 = .ok (.if_icmp .ne 16, 3) := by decide +kernel
theorem dL_acts_309 : decode cL_acts 309 = .ok (.iload 11, 2) := by decide +kernel
theorem dL_acts_311 : decode cL_acts 311 = .ok (.bipush (-18), 2) := by decide +kernel
theorem dL_acts_313 : decode cL_acts 313 = .ok (.if_icmp .ne 7, 3) := by decide +kernel
theorem dL_acts_316 : decode cL_acts 316 = .ok (.iconst 1, 1) := by decide +kernel
theorem dL_acts_317 : decode cL_acts 317 = .ok (.goto 4, 3) := by decide +kernel
theorem dL_acts_320 : decode cL_acts 320 = .ok (.iconst 0, 1) := by decide +kernel
theorem dL_acts_321 : decode cL_acts 321 = .ok (.ireturn, 1) := by decide +kernel
theorem dL_acts_322 : decode cL_acts 322 = .ok (.iload 8, 2) := by decide +kernel
theorem dL_acts_324 : decode cL_acts 324 = .ok (.ifCond .ne 16, 3) := by decide +kernel
theorem dL_acts_327 : decode cL_acts 327 = .ok (.iload 11, 2) := by decide +kernel
theorem dL_acts_329 : decode cL_acts 329 = .ok (.bipush (-19), 2) := by decide +kernel
theorem dL_acts_331 : decode cL_acts 331 = .ok (.if_icmp .ne 7, 3) := by decide +kernel
theorem dL_acts_334 : decode cL_acts 334 = .ok (.iconst 1, 1) := by decide +kernel
theorem dL_acts_335 : decode cL_acts 335 = .ok (.goto 4, 3) := by decide +kernel
theorem dL_acts_338 : decode cL_acts 338 = .ok (.iconst 0, 1) := by decide +kernel
theorem dL_acts_339 : decode cL_acts 339 = .ok (.ireturn, 1) := by decide +kernel
theorem dL_acts_340 : decode cL_acts 340 = .ok (.iload 11, 2) := by decide +kernel
theorem dL_acts_342 : decode cL_acts 342 = .ok (.aload_n 0, 1) := by decide +kernel
theorem dL_acts_343 : decode cL_acts 343 = .ok (.invokevirtual 152, 3) := by decide +kernel
theorem dL_acts_346 : decode cL_acts 346 = .ok (.iconst 2, 1) := by decide +kernel
theorem dL_acts_347 : decode cL_acts 347 = .ok (.iload 6, 2) := by decide +kernel
theorem dL_acts_349 : decode cL_acts 349 = .ok (.iload 5, 2) := by decide +kernel
theorem dL_acts_351 : decode cL_acts 351 = .ok (.isub, 1) := by decide +kernel
theorem dL_acts_352 : decode cL_acts 352 = .ok (.invokestatic 219, 3) := by decide +kernel
theorem dL_acts_355 : decode cL_acts 355 = .ok (.imul, 1) := by decide +kernel
theorem dL_acts_356 : decode cL_acts 356 = .ok (.iadd, 1) := by decide +kernel
theorem dL_acts_357 : decode cL_acts 357 = .ok (.if_icmp .ne 13, 3) := by decide +kernel
theorem dL_acts_360 : decode cL_acts 360 = .ok (.aload_n 0, 1) := by decide +kernel
theorem dL_acts_361 : decode cL_acts 361 = .ok (.iload_n 2, 1) := by decide +kernel
theorem dL_acts_362 : decode cL_acts 362 = .ok (.invokestatic 185, 3) := by decide +kernel
theorem dL_acts_365 : decode cL_acts 365 = .ok (.iload 7, 2) := by decide +kernel
theorem dL_acts_367 : decode cL_acts 367 = .ok (.if_icmp .eq 5, 3) := by decide +kernel
theorem dL_acts_370 : decode cL_acts 370 = .ok (.iconst 0, 1) := by decide +kernel
theorem dL_acts_371 : decode cL_acts 371 = .ok (.ireturn, 1) := by decide +kernel
theorem dL_acts_372 : decode cL_acts 372 = .ok (.iload 7, 2) := by decide +kernel
theorem dL_acts_374 : decode cL_acts 374 = .ok (.iconst (-1), 1) := by decide +kernel
theorem dL_acts_375 : decode cL_acts 375 = .ok (.if_icmp .ne 20, 3) := by decide +kernel
theorem dL_acts_378 : decode cL_acts 378 = .ok (.aload_n 0, 1) := by decide +kernel
theorem dL_acts_379 : decode cL_acts 379 = .ok (.iload_n 2, 1) := by decide +kernel
theorem dL_acts_380 : decode cL_acts 380 = .ok (.invokestatic 224, 3) := by decide +kernel
theorem dL_acts_383 : decode cL_acts 383 = .ok (.iconst 1, 1) := by decide +kernel
theorem dL_acts_384 : decode cL_acts 384 = .ok (.if_icmp .ne 7, 3) := by decide +kernel
theorem dL_acts_387 : decode cL_acts 387 = .ok (.iconst 1, 1) := by decide +kernel
theorem dL_acts_388 : decode cL_acts 388 = .ok (.goto 87, 3) := by decide +kernel
theorem dL_acts_391 : decode cL_acts 391 = .ok (.iconst 0, 1) := by decide +kernel
theorem dL_acts_392 : decode cL_acts 392 = .ok (.goto 83, 3) := by decide +kernel
theorem dL_acts_395 : decode cL_acts 395 = .ok (.aload_n 0, 1) := by decide +kernel
theorem dL_acts_396 : decode cL_acts 396 = .ok (.iload 7, 2) := by decide +kernel
theorem dL_acts_398 : decode cL_acts 398 = .ok (.invokestatic 159, 3) := by decide +kernel
theorem dL_acts_401 : decode cL_acts 401 = .ok (.iload 9, 2) := by decide +kernel
theorem dL_acts_403 : decode cL_acts 403 = .ok (.iconst 1, 1) := by decide +kernel
theorem dL_acts_404 : decode cL_acts 404 = .ok (.iadd, 1) := by decide +kernel
theorem dL_acts_405 : decode cL_acts 405 = .ok (.if_icmp .ne 69, 3) := by decide +kernel
theorem dL_acts_408 : decode cL_acts 408 = .ok (.aload_n 0, 1) := by decide +kernel
theorem dL_acts_409 : decode cL_acts 409 = .ok (.iload 7, 2) := by decide +kernel
theorem dL_acts_411 : decode cL_acts 411 = .ok (.invokestatic 150, 3) := by decide +kernel
theorem dL_acts_414 : decode cL_acts 414 = .ok (.iload 10, 2) := by decide +kernel
theorem dL_acts_416 : decode cL_acts 416 = .ok (.iconst (-1), 1) := by decide +kernel
theorem dL_acts_417 : decode cL_acts 417 = .ok (.if_icmp .ne 10, 3) := by decide +kernel
theorem dL_acts_420 : decode cL_acts 420 = .ok (.aload_n 0, 1) := by decide +kernel
theorem dL_acts_421 : decode cL_acts 421 = .ok (.invokevirtual 152, 3) := by decide +kernel
theorem dL_acts_424 : decode cL_acts 424 = .ok (.goto 5, 3) := by decide +kernel
theorem dL_acts_427 : decode cL_acts 427 = .ok (.iload 10, 2) := by decide +kernel
theorem dL_acts_429 : decode cL_acts 429 = .ok (.if_icmp .ne 45, 3) := by decide +kernel
theorem dL_acts_432 : decode cL_acts 432 = .ok (.aload_n 0, 1) := by decide +kernel
theorem dL_acts_433 : decode cL_acts 433 = .ok (.iload_n 2, 1) := by decide +kernel
theorem dL_acts_434 : decode cL_acts 434 = .ok (.invokestatic 224, 3) := by decide +kernel
theorem dL_acts_437 : decode cL_acts 437 = .ok (.ifCond .ne 33, 3) := by decide +kernel
theorem dL_acts_440 : decode cL_acts 440 = .ok (.aload_n 0, 1) := by decide +kernel
theorem dL_acts_441 : decode cL_acts 441 = .ok (.iload 5, 2) := by decide +kernel
theorem dL_acts_443 : decode cL_acts 443 = .ok (.iload 6, 2) := by decide +kernel
theorem dL_acts_445 : decode cL_acts 445 = .ok (.invokestatic 226, 3) := by decide +kernel
theorem dL_acts_448 : decode cL_acts 448 = .ok (.aload_n 0, 1) := by decide +kernel
theorem dL_acts_449 : decode cL_acts 449 = .ok (.iload 7, 2) := by decide +kernel
theorem dL_acts_451 : decode cL_acts 451 = .ok (.invokestatic 146, 3) := by decide +kernel
theorem dL_acts_454 : decode cL_acts 454 = .ok (.iconst (-1), 1) := by decide +kernel
theorem dL_acts_455 : decode cL_acts 455 = .ok (.ixor, 1) := by decide +kernel
theorem dL_acts_456 : decode cL_acts 456 = .ok (.iand, 1) := by decide +kernel
theorem dL_acts_457 : decode cL_acts 457 = .ok (.ifCond .ne 17, 3) := by decide +kernel
theorem dL_acts_460 : decode cL_acts 460 = .ok (.aload_n 0, 1) := by decide +kernel
theorem dL_acts_461 : decode cL_acts 461 = .ok (.iload 7, 2) := by decide +kernel
theorem dL_acts_463 : decode cL_acts 463 = .ok (.invokestatic 157, 3) := by decide +kernel
theorem dL_acts_466 : decode cL_acts 466 = .ok (.iconst 1, 1) := by decide +kernel
theorem dL_acts_467 : decode cL_acts 467 = .ok (.if_icmp .ne 7, 3) := by decide +kernel
theorem dL_acts_470 : decode cL_acts 470 = .ok (.iconst 1, 1) := by decide +kernel
theorem dL_acts_471 : decode cL_acts 471 = .ok (.goto 4, 3) := by decide +kernel
theorem dL_acts_474 : decode cL_acts 474 = .ok (.iconst 0, 1) := by decide +kernel
theorem dL_acts_475 : decode cL_acts 475 = .ok (.ireturn, 1) := by decide +kernel
theorem dL_acts_476 : decode cL_acts 476 = .ok (.aload_n 0, 1) := by decide +kernel
theorem dL_acts_477 : decode cL_acts 477 = .ok (.iload_n 2, 1) := by decide +kernel
theorem dL_acts_478 : decode cL_acts 478 = .ok (.invokestatic 181, 3) := by decide +kernel
theorem dL_acts_481 : decode cL_acts 481 = .ok (.iconst 1, 1) := by decide +kernel
theorem dL_acts_482 : decode cL_acts 482 = .ok (.if_icmp .ne 14, 3) := by decide +kernel
theorem dL_acts_485 : decode cL_acts 485 = .ok (.iload 4, 2) := by decide +kernel
theorem dL_acts_487 : decode cL_acts 487 = .ok (.bipush 20, 2) := by decide +kernel
theorem dL_acts_489 : decode cL_acts 489 = .ok (.if_icmp .ge 7, 3) := by decide +kernel
theorem dL_acts_492 : decode cL_acts 492 = .ok (.iconst 1, 1) := by decide +kernel
theorem dL_acts_493 : decode cL_acts 493 = .ok (.goto 4, 3) := by decide +kernel
theorem dL_acts_496 : decode cL_acts 496 = .ok (.iconst 0, 1) := by decide +kernel
theorem dL_acts_497 : decode cL_acts 497 = .ok (.istore 5, 2) := by decide +kernel
theorem dL_acts_499 : decode cL_acts 499 = .ok (.aload_n 0, 1) := by decide +kernel
theorem dL_acts_500 : decode cL_acts 500 = .ok (.iload_n 2, 1) := by decide +kernel
theorem dL_acts_501 : decode cL_acts 501 = .ok (.invokestatic 224, 3) := by decide +kernel
theorem dL_acts_504 : decode cL_acts 504 = .ok (.istore 6, 2) := by decide +kernel
theorem dL_acts_506 : decode cL_acts 506 = .ok (.aload_n 0, 1) := by decide +kernel
theorem dL_acts_507 : decode cL_acts 507 = .ok (.invokevirtual 200, 3) := by decide +kernel
theorem dL_acts_510 : decode cL_acts 510 = .ok (.istore 7, 2) := by decide +kernel
theorem dL_acts_512 : decode cL_acts 512 = .ok (.aload_n 0, 1) := by decide +kernel
theorem dL_acts_513 : decode cL_acts 513 = .ok (.iload_n 2, 1) := by decide +kernel
theorem dL_acts_514 : decode cL_acts 514 = .ok (.invokestatic 229, 3) := by decide +kernel
theorem dL_acts_517 : decode cL_acts 517 = .ok (.istore 8, 2) := by decide +kernel
theorem dL_acts_519 : decode cL_acts 519 = .ok (.iload 8, 2) := by decide +kernel
theorem dL_acts_521 : decode cL_acts 521 = .ok (.bipush (-19), 2) := by decide +kernel
theorem dL_acts_523 : decode cL_acts 523 = .ok (.if_icmp .ne 27, 3) := by decide +kernel
theorem dL_acts_526 : decode cL_acts 526 = .ok (.aload_n 0, 1) := by decide +kernel
theorem dL_acts_527 : decode cL_acts 527 = .ok (.invokevirtual 200, 3) := by decide +kernel
theorem dL_acts_530 : decode cL_acts 530 = .ok (.iload 7, 2) := by decide +kernel
theorem dL_acts_532 : decode cL_acts 532 = .ok (.if_icmp .ne 16, 3) := by decide +kernel
theorem dL_acts_535 : decode cL_acts 535 = .ok (.aload_n 0, 1) := by decide +kernel
theorem dL_acts_536 : decode cL_acts 536 = .ok (.invokevirtual 166, 3) := by decide +kernel
theorem dL_acts_539 : decode cL_acts 539 = .ok (.iload 4, 2) := by decide +kernel
theorem dL_acts_541 : decode cL_acts 541 = .ok (.if_icmp .ne 7, 3) := by decide +kernel
theorem dL_acts_544 : decode cL_acts 544 = .ok (.iconst 1, 1) := by decide +kernel
theorem dL_acts_545 : decode cL_acts 545 = .ok (.goto 4, 3) := by decide +kernel
theorem dL_acts_548 : decode cL_acts 548 = .ok (.iconst 0, 1) := by decide +kernel
theorem dL_acts_549 : decode cL_acts 549 = .ok (.ireturn, 1) := by decide +kernel
theorem dL_acts_550 : decode cL_acts 550 = .ok (.iload 5, 2) := by decide +kernel
theorem dL_acts_552 : decode cL_acts 552 = .ok (.ifCond .eq 94, 3) := by decide +kernel
theorem dL_acts_555 : decode cL_acts 555 = .ok (.iload 8, 2) := by decide +kernel
theorem dL_acts_557 : decode cL_acts 557 = .ok (.iload 6, 2) := by decide +kernel
theorem dL_acts_559 : decode cL_acts 559 = .ok (.if_icmp .ne 87, 3) := by decide +kernel
theorem dL_acts_562 : decode cL_acts 562 = .ok (.aload_n 0, 1) := by decide +kernel
theorem dL_acts_563 : decode cL_acts 563 = .ok (.invokevirtual 200, 3) := by decide +kernel
theorem dL_acts_566 : decode cL_acts 566 = .ok (.iload 7, 2) := by decide +kernel
theorem dL_acts_568 : decode cL_acts 568 = .ok (.iconst 1, 1) := by decide +kernel
theorem dL_acts_569 : decode cL_acts 569 = .ok (.iadd, 1) := by decide +kernel
theorem dL_acts_570 : decode cL_acts 570 = .ok (.if_icmp .ne 76, 3) := by decide +kernel
theorem dL_acts_573 : decode cL_acts 573 = .ok (.aload_n 0, 1) := by decide +kernel
theorem dL_acts_574 : decode cL_acts 574 = .ok (.invokevirtual 166, 3) := by decide +kernel
theorem dL_acts_577 : decode cL_acts 577 = .ok (.iload 6, 2) := by decide +kernel
theorem dL_acts_579 : decode cL_acts 579 = .ok (.ifCond .ne 8, 3) := by decide +kernel
theorem dL_acts_582 : decode cL_acts 582 = .ok (.iload 4, 2) := by decide +kernel
theorem dL_acts_584 : decode cL_acts 584 = .ok (.goto 7, 3) := by decide +kernel
theorem dL_acts_587 : decode cL_acts 587 = .ok (.iload 4, 2) := by decide +kernel
theorem dL_acts_589 : decode cL_acts 589 = .ok (.iconst 1, 1) := by decide +kernel
theorem dL_acts_590 : decode cL_acts 590 = .ok (.iadd, 1) := by decide +kernel
theorem dL_acts_591 : decode cL_acts 591 = .ok (.if_icmp .ne 55, 3) := by decide +kernel
theorem dL_acts_594 : decode cL_acts 594 = .ok (.iload 6, 2) := by decide +kernel
theorem dL_acts_596 : decode cL_acts 596 = .ok (.ifCond .eq 36, 3) := by decide +kernel
theorem dL_acts_599 : decode cL_acts 599 = .ok (.aload_n 0, 1) := by decide +kernel
theorem dL_acts_600 : decode cL_acts 600 = .ok (.iload 4, 2) := by decide +kernel
theorem dL_acts_602 : decode cL_acts 602 = .ok (.invokestatic 193, 3) := by decide +kernel
theorem dL_acts_605 : decode cL_acts 605 = .ok (.iload 6, 2) := by decide +kernel
theorem dL_acts_607 : decode cL_acts 607 = .ok (.if_icmp .ne 39, 3) := by decide +kernel
theorem dL_acts_610 : decode cL_acts 610 = .ok (.aload_n 0, 1) := by decide +kernel
theorem dL_acts_611 : decode cL_acts 611 = .ok (.iload 4, 2) := by decide +kernel
theorem dL_acts_613 : decode cL_acts 613 = .ok (.invokestatic 189, 3) := by decide +kernel
theorem dL_acts_616 : decode cL_acts 616 = .ok (.aload_n 0, 1) := by decide +kernel
theorem dL_acts_617 : decode cL_acts 617 = .ok (.invokevirtual 152, 3) := by decide +kernel
theorem dL_acts_620 : decode cL_acts 620 = .ok (.if_icmp .ne 26, 3) := by decide +kernel
theorem dL_acts_623 : decode cL_acts 623 = .ok (.aload_n 0, 1) := by decide +kernel
theorem dL_acts_624 : decode cL_acts 624 = .ok (.iload 4, 2) := by decide +kernel
theorem dL_acts_626 : decode cL_acts 626 = .ok (.invokestatic 173, 3) := by decide +kernel
theorem dL_acts_629 : decode cL_acts 629 = .ok (.ifCond .ne 17, 3) := by decide +kernel
theorem dL_acts_632 : decode cL_acts 632 = .ok (.aload_n 0, 1) := by decide +kernel
theorem dL_acts_633 : decode cL_acts 633 = .ok (.iload_n 2, 1) := by decide +kernel
theorem dL_acts_634 : decode cL_acts 634 = .ok (.invokestatic 229, 3) := by decide +kernel
theorem dL_acts_637 : decode cL_acts 637 = .ok (.bipush (-19), 2) := by decide +kernel
theorem dL_acts_639 : decode cL_acts 639 = .ok (.if_icmp .ne 7, 3) := by decide +kernel
theorem dL_acts_642 : decode cL_acts 642 = .ok (.iconst 1, 1) := by decide +kernel
theorem dL_acts_643 : decode cL_acts 643 = .ok (.goto 4, 3) := by decide +kernel
theorem dL_acts_646 : decode cL_acts 646 = .ok (.iconst 0, 1) := by decide +kernel
theorem dL_acts_647 : decode cL_acts 647 = .ok (.ireturn, 1) := by decide +kernel
theorem dL_acts_648 : decode cL_acts 648 = .ok (.iload 4, 2) := by decide +kernel
theorem dL_acts_650 : decode cL_acts 650 = .ok (.ifCond .eq 7, 3) := by decide +kernel
theorem dL_acts_653 : decode cL_acts 653 = .ok (.iload_n 3, 1) := by decide +kernel
theorem dL_acts_654 : decode cL_acts 654 = .ok (.ifCond .ne 21, 3) := by decide +kernel
theorem dL_acts_657 : decode cL_acts 657 = .ok (.aload_n 0, 1) := by decide +kernel
theorem dL_acts_658 : decode cL_acts 658 = .ok (.iload 4, 2) := by decide +kernel
theorem dL_acts_660 : decode cL_acts 660 = .ok (.iconst 0, 1) := by decide +kernel
theorem dL_acts_661 : decode cL_acts 661 = .ok (.invokestatic 231, 3) := by decide +kernel
theorem dL_acts_664 : decode cL_acts 664 = .ok (.bipush (-17), 2) := by decide +kernel
theorem dL_acts_666 : decode cL_acts 666 = .ok (.if_icmp .ne 7, 3) := by decide +kernel
theorem dL_acts_669 : decode cL_acts 669 = .ok (.iconst 1, 1) := by decide +kernel
theorem dL_acts_670 : decode cL_acts 670 = .ok (.goto 4, 3) := by decide +kernel
theorem dL_acts_673 : decode cL_acts 673 = .ok (.iconst 0, 1) := by decide +kernel
theorem dL_acts_674 : decode cL_acts 674 = .ok (.ireturn, 1) := by decide +kernel
theorem dL_acts_675 : decode cL_acts 675 = .ok (.aload_n 1, 1) := by decide +kernel
theorem dL_acts_676 : decode cL_acts 676 = .ok (.iload 4, 2) := by decide +kernel
theorem dL_acts_678 : decode cL_acts 678 = .ok (.invokestatic 206, 3) := by decide +kernel
theorem dL_acts_681 : decode cL_acts 681 = .ok (.istore 5, 2) := by decide +kernel
theorem dL_acts_683 : decode cL_acts 683 = .ok (.aload_n 1, 1) := by decide +kernel
theorem dL_acts_684 : decode cL_acts 684 = .ok (.iload_n 3, 1) := by decide +kernel
theorem dL_acts_685 : decode cL_acts 685 = .ok (.invokestatic 206, 3) := by decide +kernel
theorem dL_acts_688 : decode cL_acts 688 = .ok (.istore 6, 2) := by decide +kernel
theorem dL_acts_690 : decode cL_acts 690 = .ok (.aload_n 0, 1) := by decide +kernel
theorem dL_acts_691 : decode cL_acts 691 = .ok (.iload 5, 2) := by decide +kernel
theorem dL_acts_693 : decode cL_acts 693 = .ok (.invokestatic 173, 3) := by decide +kernel
theorem dL_acts_696 : decode cL_acts 696 = .ok (.ifCond .ne 16, 3) := by decide +kernel
theorem dL_acts_699 : decode cL_acts 699 = .ok (.aload_n 0, 1) := by decide +kernel
theorem dL_acts_700 : decode cL_acts 700 = .ok (.iload 5, 2) := by decide +kernel
theorem dL_acts_702 : decode cL_acts 702 = .ok (.invokestatic 191, 3) := by decide +kernel
theorem dL_acts_705 : decode cL_acts 705 = .ok (.ifCond .ne 7, 3) := by decide +kernel
theorem dL_acts_708 : decode cL_acts 708 = .ok (.iconst 1, 1) := by decide +kernel
theorem dL_acts_709 : decode cL_acts 709 = .ok (.goto 4, 3) := by decide +kernel
theorem dL_acts_712 : decode cL_acts 712 = .ok (.iconst 0, 1) := by decide +kernel
theorem dL_acts_713 : decode cL_acts 713 = .ok (.istore 7, 2) := by decide +kernel
theorem dL_acts_715 : decode cL_acts 715 = .ok (.aload_n 0, 1) := by decide +kernel
theorem dL_acts_716 : decode cL_acts 716 = .ok (.iload 5, 2) := by decide +kernel
theorem dL_acts_718 : decode cL_acts 718 = .ok (.iload 6, 2) := by decide +kernel
theorem dL_acts_720 : decode cL_acts 720 = .ok (.invokestatic 233, 3) := by decide +kernel
theorem dL_acts_723 : decode cL_acts 723 = .ok (.istore 8, 2) := by decide +kernel
theorem dL_acts_725 : decode cL_acts 725 = .ok (.aload_n 0, 1) := by decide +kernel
theorem dL_acts_726 : decode cL_acts 726 = .ok (.iload 5, 2) := by decide +kernel
theorem dL_acts_728 : decode cL_acts 728 = .ok (.iload 6, 2) := by decide +kernel
theorem dL_acts_730 : decode cL_acts 730 = .ok (.invokestatic 231, 3) := by decide +kernel
theorem dL_acts_733 : decode cL_acts 733 = .ok (.istore 9, 2) := by decide +kernel
theorem dL_acts_735 : decode cL_acts 735 = .ok (.iload 7, 2) := by decide +kernel
theorem dL_acts_737 : decode cL_acts 737 = .ok (.ifCond .ne 16, 3) := by decide +kernel
theorem dL_acts_740 : decode cL_acts 740 = .ok (.iload 9, 2) := by decide +kernel
theorem dL_acts_742 : decode cL_acts 742 = .ok (.bipush (-19), 2) := by decide +kernel
theorem dL_acts_744 : decode cL_acts 744 = .ok (.if_icmp .ne 7, 3) := by decide +kernel
theorem dL_acts_747 : decode cL_acts 747 = .ok (.iconst 1, 1) := by decide +kernel
theorem dL_acts_748 : decode cL_acts 748 = .ok (.goto 4, 3) := by decide +kernel
theorem dL_acts_751 : decode cL_acts 751 = .ok (.iconst 0, 1) := by decide +kernel
theorem dL_acts_752 : decode cL_acts 752 = .ok (.ireturn, 1) := by decide +kernel
theorem dL_acts_753 : decode cL_acts 753 = .ok (.iload 9, 2) := by decide +kernel
theorem dL_acts_755 : decode cL_acts 755 = .ok (.iconst 1, 1) := by decide +kernel
theorem dL_acts_756 : decode cL_acts 756 = .ok (.if_icmp .lt 58, 3) := by decide +kernel
theorem dL_acts_759 : decode cL_acts 759 = .ok (.aload_n 0, 1) := by decide +kernel
theorem dL_acts_760 : decode cL_acts 760 = .ok (.iload 5, 2) := by decide +kernel
theorem dL_acts_762 : decode cL_acts 762 = .ok (.invokestatic 173, 3) := by decide +kernel
theorem dL_acts_765 : decode cL_acts 765 = .ok (.iconst 1, 1) := by decide +kernel
theorem dL_acts_766 : decode cL_acts 766 = .ok (.if_icmp .ne 48, 3) := by decide +kernel
theorem dL_acts_769 : decode cL_acts 769 = .ok (.aload_n 0, 1) := by decide +kernel
theorem dL_acts_770 : decode cL_acts 770 = .ok (.iload 5, 2) := by decide +kernel
theorem dL_acts_772 : decode cL_acts 772 = .ok (.invokestatic 235, 3) := by decide +kernel
theorem dL_acts_775 : decode cL_acts 775 = .ok (.bipush (-19), 2) := by decide +kernel
theorem dL_acts_777 : decode cL_acts 777 = .ok (.if_icmp .ne 37, 3) := by decide +kernel
theorem dL_acts_780 : decode cL_acts 780 = .ok (.aload_n 1, 1) := by decide +kernel
theorem dL_acts_781 : decode cL_acts 781 = .ok (.iconst 3, 1) := by decide +kernel
theorem dL_acts_782 : decode cL_acts 782 = .ok (.invokestatic 206, 3) := by decide +kernel
theorem dL_acts_785 : decode cL_acts 785 = .ok (.ifCond .eq 25, 3) := by decide +kernel
theorem dL_acts_788 : decode cL_acts 788 = .ok (.aload_n 0, 1) := by decide +kernel
theorem dL_acts_789 : decode cL_acts 789 = .ok (.iload 5, 2) := by decide +kernel
theorem dL_acts_791 : decode cL_acts 791 = .ok (.invokestatic 237, 3) := by decide +kernel
theorem dL_acts_794 : decode cL_acts 794 = .ok (.iload 8, 2) := by decide +kernel
theorem dL_acts_796 : decode cL_acts 796 = .ok (.if_icmp .ne 18, 3) := by decide +kernel
theorem dL_acts_799 : decode cL_acts 799 = .ok (.aload_n 0, 1) := by decide +kernel
theorem dL_acts_800 : decode cL_acts 800 = .ok (.iload 5, 2) := by decide +kernel
theorem dL_acts_802 : decode cL_acts 802 = .ok (.invokestatic 237, 3) := by decide +kernel
theorem dL_acts_805 : decode cL_acts 805 = .ok (.bipush (-19), 2) := by decide +kernel
theorem dL_acts_807 : decode cL_acts 807 = .ok (.if_icmp .ne 7, 3) := by decide +kernel
theorem dL_acts_810 : decode cL_acts 810 = .ok (.iconst 1, 1) := by decide +kernel
theorem dL_acts_811 : decode cL_acts 811 = .ok (.goto 4, 3) := by decide +kernel
theorem dL_acts_814 : decode cL_acts 814 = .ok (.iconst 0, 1) := by decide +kernel
theorem dL_acts_815 : decode cL_acts 815 = .ok (.ireturn, 1) := by decide +kernel
theorem dL_acts_816 : decode cL_acts 816 = .ok (.iload 4, 2) := by decide +kernel
theorem dL_acts_818 : decode cL_acts 818 = .ok (.ifCond .ne 19, 3) := by decide +kernel
theorem dL_acts_821 : decode cL_acts 821 = .ok (.aload_n 0, 1) := by decide +kernel
theorem dL_acts_822 : decode cL_acts 822 = .ok (.iconst 0, 1) := by decide +kernel
theorem dL_acts_823 : decode cL_acts 823 = .ok (.invokestatic 235, 3) := by decide +kernel
theorem dL_acts_826 : decode cL_acts 826 = .ok (.bipush (-17), 2) := by decide +kernel
theorem dL_acts_828 : decode cL_acts 828 = .ok (.if_icmp .ne 7, 3) := by decide +kernel
theorem dL_acts_831 : decode cL_acts 831 = .ok (.iconst 1, 1) := by decide +kernel
theorem dL_acts_832 : decode cL_acts 832 = .ok (.goto 4, 3) := by decide +kernel
theorem dL_acts_835 : decode cL_acts 835 = .ok (.iconst 0, 1) := by decide +kernel
theorem dL_acts_836 : decode cL_acts 836 = .ok (.ireturn, 1) := by decide +kernel
theorem dL_acts_837 : decode cL_acts 837 = .ok (.aload_n 1, 1) := by decide +kernel
theorem dL_acts_838 : decode cL_acts 838 = .ok (.iload 4, 2) := by decide +kernel
theorem dL_acts_840 : decode cL_acts 840 = .ok (.invokestatic 206, 3) := by decide +kernel
theorem dL_acts_843 : decode cL_acts 843 = .ok (.istore 5, 2) := by decide +kernel
theorem dL_acts_845 : decode cL_acts 845 = .ok (.aload_n 0, 1) := by decide +kernel
theorem dL_acts_846 : decode cL_acts 846 = .ok (.iload 5, 2) := by decide +kernel
theorem dL_acts_848 : decode cL_acts 848 = .ok (.invokestatic 169, 3) := by decide +kernel
theorem dL_acts_851 : decode cL_acts 851 = .ok (.istore 6, 2) := by decide +kernel
theorem dL_acts_853 : decode cL_acts 853 = .ok (.aload_n 0, 1) := by decide +kernel
theorem dL_acts_854 : decode cL_acts 854 = .ok (.iload 5, 2) := by decide +kernel
theorem dL_acts_856 : decode cL_acts 856 = .ok (.invokestatic 171, 3) := by decide +kernel
theorem dL_acts_859 : decode cL_acts 859 = .ok (.istore 7, 2) := by decide +kernel
theorem dL_acts_861 : decode cL_acts 861 = .ok (.aload_n 0, 1) := by decide +kernel
theorem dL_acts_862 : decode cL_acts 862 = .ok (.iload 6, 2) := by decide +kernel
theorem dL_acts_864 : decode cL_acts 864 = .ok (.invokestatic 175, 3) := by decide +kernel
theorem dL_acts_867 : decode cL_acts 867 = .ok (.istore 8, 2) := by decide +kernel
theorem dL_acts_869 : decode cL_acts 869 = .ok (.aload_n 0, 1) := by decide +kernel
theorem dL_acts_870 : decode cL_acts 870 = .ok (.iload 5, 2) := by decide +kernel
theorem dL_acts_872 : decode cL_acts 872 = .ok (.invokestatic 173, 3) := by decide +kernel
theorem dL_acts_875 : decode cL_acts 875 = .ok (.iconst 1, 1) := by decide +kernel
theorem dL_acts_876 : decode cL_acts 876 = .ok (.if_icmp .eq 24, 3) := by decide +kernel
theorem dL_acts_879 : decode cL_acts 879 = .ok (.aload_n 0, 1) := by decide +kernel
theorem dL_acts_880 : decode cL_acts 880 = .ok (.iload 5, 2) := by decide +kernel
theorem dL_acts_882 : decode cL_acts 882 = .ok (.invokestatic 173, 3) := by decide +kernel
theorem dL_acts_885 : decode cL_acts 885 = .ok (.iconst 4, 1) := by decide +kernel
theorem dL_acts_886 : decode cL_acts 886 = .ok (.if_icmp .eq 14, 3) := by decide +kernel
theorem dL_acts_889 : decode cL_acts 889 = .ok (.iload 7, 2) := by decide +kernel
theorem dL_acts_891 : decode cL_acts 891 = .ok (.iload 8, 2) := by decide +kernel
theorem dL_acts_893 : decode cL_acts 893 = .ok (.if_icmp .gt 7, 3) := by decide +kernel
theorem dL_acts_896 : decode cL_acts 896 = .ok (.iconst 1, 1) := by decide +kernel
theorem dL_acts_897 : decode cL_acts 897 = .ok (.goto 4, 3) := by decide +kernel
theorem dL_acts_900 : decode cL_acts 900 = .ok (.iconst 0, 1) := by decide +kernel
theorem dL_acts_901 : decode cL_acts 901 = .ok (.istore 9, 2) := by decide +kernel
theorem dL_acts_903 : decode cL_acts 903 = .ok (.aload_n 0, 1) := by decide +kernel
theorem dL_acts_904 : decode cL_acts 904 = .ok (.invokevirtual 239, 3) := by decide +kernel
theorem dL_acts_907 : decode cL_acts 907 = .ok (.istore 10, 2) := by decide +kernel
theorem dL_acts_909 : decode cL_acts 909 = .ok (.aload_n 0, 1) := by decide +kernel
theorem dL_acts_910 : decode cL_acts 910 = .ok (.iload 5, 2) := by decide +kernel
theorem dL_acts_912 : decode cL_acts 912 = .ok (.invokestatic 235, 3) := by decide +kernel
theorem dL_acts_915 : decode cL_acts 915 = .ok (.istore 11, 2) := by decide +kernel
theorem dL_acts_917 : decode cL_acts 917 = .ok (.iload 11, 2) := by decide +kernel
theorem dL_acts_919 : decode cL_acts 919 = .ok (.iload 9, 2) := by decide +kernel
theorem dL_acts_921 : decode cL_acts 921 = .ok (.ifCond .eq 8, 3) := by decide +kernel
theorem dL_acts_924 : decode cL_acts 924 = .ok (.iload 7, 2) := by decide +kernel
theorem dL_acts_926 : decode cL_acts 926 = .ok (.goto 5, 3) := by decide +kernel
theorem dL_acts_929 : decode cL_acts 929 = .ok (.bipush (-19), 2) := by decide +kernel
theorem dL_acts_931 : decode cL_acts 931 = .ok (.if_icmp .ne 53, 3) := by decide +kernel
theorem dL_acts_934 : decode cL_acts 934 = .ok (.aload_n 0, 1) := by decide +kernel
theorem dL_acts_935 : decode cL_acts 935 = .ok (.invokevirtual 239, 3) := by decide +kernel
theorem dL_acts_938 : decode cL_acts 938 = .ok (.iload 9, 2) := by decide +kernel
theorem dL_acts_940 : decode cL_acts 940 = .ok (.ifCond .eq 11, 3) := by decide +kernel
theorem dL_acts_943 : decode cL_acts 943 = .ok (.iload 10, 2) := by decide +kernel
theorem dL_acts_945 : decode cL_acts 945 = .ok (.iload 7, 2) := by decide +kernel
theorem dL_acts_947 : decode cL_acts 947 = .ok (.iadd, 1) := by decide +kernel
theorem dL_acts_948 : decode cL_acts 948 = .ok (.goto 5, 3) := by decide +kernel
theorem dL_acts_951 : decode cL_acts 951 = .ok (.iload 10, 2) := by decide +kernel
theorem dL_acts_953 : decode cL_acts 953 = .ok (.if_icmp .ne 31, 3) := by decide +kernel
theorem dL_acts_956 : decode cL_acts 956 = .ok (.aload_n 0, 1) := by decide +kernel
theorem dL_acts_957 : decode cL_acts 957 = .ok (.iload 6, 2) := by decide +kernel
theorem dL_acts_959 : decode cL_acts 959 = .ok (.invokestatic 175, 3) := by decide +kernel
theorem dL_acts_962 : decode cL_acts 962 = .ok (.iload 9, 2) := by decide +kernel
theorem dL_acts_964 : decode cL_acts 964 = .ok (.ifCond .eq 11, 3) := by decide +kernel
theorem dL_acts_967 : decode cL_acts 967 = .ok (.iload 8, 2) := by decide +kernel
theorem dL_acts_969 : decode cL_acts 969 = .ok (.iload 7, 2) := by decide +kernel
theorem dL_acts_971 : decode cL_acts 971 = .ok (.isub, 1) := by decide +kernel
theorem dL_acts_972 : decode cL_acts 972 = .ok (.goto 5, 3) := by decide +kernel
theorem dL_acts_975 : decode cL_acts 975 = .ok (.iload 8, 2) := by decide +kernel
theorem dL_acts_977 : decode cL_acts 977 = .ok (.if_icmp .ne 7, 3) := by decide +kernel
theorem dL_acts_980 : decode cL_acts 980 = .ok (.iconst 1, 1) := by decide +kernel
theorem dL_acts_981 : decode cL_acts 981 = .ok (.goto 4, 3) := by decide +kernel
theorem dL_acts_984 : decode cL_acts 984 = .ok (.iconst 0, 1) := by decide +kernel
theorem dL_acts_985 : decode cL_acts 985 = .ok (.ireturn, 1) := by decide +kernel
theorem dL_acts_986 : decode cL_acts 986 = .ok (.aload_n 1, 1) := by decide +kernel
theorem dL_acts_987 : decode cL_acts 987 = .ok (.bipush 6, 2) := by decide +kernel
theorem dL_acts_989 : decode cL_acts 989 = .ok (.invokestatic 206, 3) := by decide +kernel
theorem dL_acts_992 : decode cL_acts 992 = .ok (.ifCond .ne 9, 3) := by decide +kernel
theorem dL_acts_995 : decode cL_acts 995 = .ok (.sipush 9999, 3) := by decide +kernel
theorem dL_acts_998 : decode cL_acts 998 = .ok (.goto 11, 3) := by decide +kernel
theorem dL_acts_1001 : decode cL_acts 1001 = .ok (.iconst 1, 1) := by decide +kernel
theorem dL_acts_1002 : decode cL_acts 1002 = .ok (.aload_n 1, 1) := by decide +kernel
theorem dL_acts_1003 : decode cL_acts 1003 = .ok (.bipush 40, 2) := by decide +kernel
theorem dL_acts_1005 : decode cL_acts 1005 = .ok (.invokestatic 206, 3) := by decide +kernel
theorem dL_acts_1008 : decode cL_acts 1008 = .ok (.iadd, 1) := by decide +kernel
theorem dL_acts_1009 : decode cL_acts 1009 = .ok (.istore 5, 2) := by decide +kernel
theorem dL_acts_1011 : decode cL_acts 1011 = .ok (.aload_n 0, 1) := by decide +kernel
theorem dL_acts_1012 : decode cL_acts 1012 = .ok (.invokevirtual 152, 3) := by decide +kernel
theorem dL_acts_1015 : decode cL_acts 1015 = .ok (.istore 6, 2) := by decide +kernel
theorem dL_acts_1017 : decode cL_acts 1017 = .ok (.aload_n 0, 1) := by decide +kernel
theorem dL_acts_1018 : decode cL_acts 1018 = .ok (.iload 5, 2) := by decide +kernel
theorem dL_acts_1020 : decode cL_acts 1020 = .ok (.invokestatic 242, 3) := by decide +kernel
theorem dL_acts_1023 : decode cL_acts 1023 = .ok (.iload 6, 2) := by decide +kernel
theorem dL_acts_1025 : decode cL_acts 1025 = .ok (.iload 5, 2) := by decide +kernel
theorem dL_acts_1027 : decode cL_acts 1027 = .ok (.iadd, 1) := by decide +kernel
theorem dL_acts_1028 : decode cL_acts 1028 = .ok (.ldc 244, 2) := by decide +kernel
theorem dL_acts_1030 : decode cL_acts 1030 = .ok (.if_icmp .le 8, 3) := by decide +kernel
theorem dL_acts_1033 : decode cL_acts 1033 = .ok (.bipush (-19), 2) := by decide +kernel
theorem dL_acts_1035 : decode cL_acts 1035 = .ok (.goto 8, 3) := by decide +kernel
theorem dL_acts_1038 : decode cL_acts 1038 = .ok (.iload 6, 2) := by decide +kernel
theorem dL_acts_1040 : decode cL_acts 1040 = .ok (.iload 5, 2) := by decide +kernel
theorem dL_acts_1042 : decode cL_acts 1042 = .ok (.iadd, 1) := by decide +kernel
theorem dL_acts_1043 : decode cL_acts 1043 = .ok (.if_icmp .ne 7, 3) := by decide +kernel
theorem dL_acts_1046 : decode cL_acts 1046 = .ok (.iconst 1, 1) := by decide +kernel
theorem dL_acts_1047 : decode cL_acts 1047 = .ok (.goto 4, 3) := by decide +kernel
theorem dL_acts_1050 : decode cL_acts 1050 = .ok (.iconst 0, 1) := by decide +kernel
theorem dL_acts_1051 : decode cL_acts 1051 = .ok (.ireturn, 1) := by decide +kernel
theorem dJ5_inflateIfNeededFor_a7421_0 : decode cJ5_inflateIfNeededFor_a7421 0 = .ok (.getstatic 18, 3) := by decide +kernel
theorem dJ5_inflateIfNeededFor_a7421_3 : decode cJ5_inflateIfNeededFor_a7421 3 = .ok (.ifCond .eq 18, 3) := by decide +kernel
theorem dJ5_inflateIfNeededFor_a7421_6 : decode cJ5_inflateIfNeededFor_a7421 6 = .ok (.aload_n 0, 1) := by decide +kernel
theorem dJ5_inflateIfNeededFor_a7421_7 : decode cJ5_inflateIfNeededFor_a7421 7 = .ok (.getfield 22, 3) := by decide +kernel
theorem dJ5_inflateIfNeededFor_a7421_10 : decode cJ5_inflateIfNeededFor_a7421 10 = .ok (.aload_n 1, 1) := by decide +kernel
theorem dJ5_inflateIfNeededFor_a7421_11 : decode cJ5_inflateIfNeededFor_a7421 11 = .ok (.invokevirtual 40, 3) := by decide +kernel
theorem dJ5_inflateIfNeededFor_a7421_14 : decode cJ5_inflateIfNeededFor_a7421 14 = .ok (.if_icmp .eq 7, 3) := by decide +kernel
theorem dJ5_inflateIfNeededFor_a7421_21 : decode cJ5_inflateIfNeededFor_a7421 21 = .ok (.return_, 1) := by decide +kernel
theorem dJ0_getBytes_840e7_0 : decode cJ0_getBytes_840e7 0 = .ok (.aload_n 0, 1) := by decide +kernel
theorem dJ0_getBytes_840e7_1 : decode cJ0_getBytes_840e7 1 = .ok (.invokevirtual 335, 3) := by decide +kernel
theorem dJ0_getBytes_840e7_4 : decode cJ0_getBytes_840e7 4 = .ok (.iload_n 3, 1) := by decide +kernel
theorem dJ0_getBytes_840e7_5 : decode cJ0_getBytes_840e7 5 = .ok (.if_icmp .ne 23, 3) := by decide +kernel
theorem dJ0_getBytes_840e7_8 : decode cJ0_getBytes_840e7 8 = .ok (.aload_n 0, 1) := by decide +kernel
theorem dJ0_getBytes_840e7_9 : decode cJ0_getBytes_840e7 9 = .ok (.getfield 9, 3) := by decide +kernel
theorem dJ0_getBytes_840e7_12 : decode cJ0_getBytes_840e7 12 = .ok (.iconst 0, 1) := by decide +kernel
theorem dJ0_getBytes_840e7_13 : decode cJ0_getBytes_840e7 13 = .ok (.aload_n 1, 1) := by decide +kernel
theorem dJ0_getBytes_840e7_14 : decode cJ0_getBytes_840e7 14 = .ok (.iload_n 2, 1) := by decide +kernel
theorem dJ0_getBytes_840e7_15 : decode cJ0_getBytes_840e7 15 = .ok (.iload_n 3, 1) := by decide +kernel
theorem dJ0_getBytes_840e7_16 : decode cJ0_getBytes_840e7 16 = .ok (.ishl, 1) := by decide +kernel
theorem dJ0_getBytes_840e7_17 : decode cJ0_getBytes_840e7 17 = .ok (.aload_n 0, 1) := by decide +kernel
theorem dJ0_getBytes_840e7_18 : decode cJ0_getBytes_840e7 18 = .ok (.getfield 9, 3) := by decide +kernel
theorem dJ0_getBytes_840e7_21 : decode cJ0_getBytes_840e7 21 = .ok (.arraylength, 1) := by decide +kernel
theorem dJ0_getBytes_840e7_22 : decode cJ0_getBytes_840e7 22 = .ok (.invokestatic 212, 3) := by decide +kernel
theorem dJ0_getBytes_840e7_25 : decode cJ0_getBytes_840e7 25 = .ok (.goto 18, 3) := by decide +kernel
theorem dJ0_getBytes_840e7_43 : decode cJ0_getBytes_840e7 43 = .ok (.return_, 1) := by decide +kernel
theorem dJ5_putStringAt_47b60_0 : decode cJ5_putStringAt_47b60 0 = .ok (.aload_n 0, 1) := by decide +kernel
theorem dJ5_putStringAt_47b60_1 : decode cJ5_putStringAt_47b60 1 = .ok (.aload_n 2, 1) := by decide +kernel
theorem dJ5_putStringAt_47b60_2 : decode cJ5_putStringAt_47b60 2 = .ok (.invokevirtual 397, 3) := by decide +kernel
theorem dJ5_putStringAt_47b60_5 : decode cJ5_putStringAt_47b60 5 = .ok (.aload_n 2, 1) := by decide +kernel
theorem dJ5_putStringAt_47b60_6 : decode cJ5_putStringAt_47b60 6 = .ok (.aload_n 0, 1) := by decide +kernel
theorem dJ5_putStringAt_47b60_7 : decode cJ5_putStringAt_47b60 7 = .ok (.getfield 15, 3) := by decide +kernel
theorem dJ5_putStringAt_47b60_10 : decode cJ5_putStringAt_47b60 10 = .ok (.iload_n 1, 1) := by decide +kernel
theorem dJ5_putStringAt_47b60_11 : decode cJ5_putStringAt_47b60 11 = .ok (.aload_n 0, 1) := by decide +kernel
theorem dJ5_putStringAt_47b60_12 : decode cJ5_putStringAt_47b60 12 = .ok (.getfield 22, 3) := by decide +kernel
theorem dJ5_putStringAt_47b60_15 : decode cJ5_putStringAt_47b60 15 = .ok (.invokevirtual 399, 3) := by decide +kernel
theorem dJ5_putStringAt_47b60_18 : decode cJ5_putStringAt_47b60 18 = .ok (.return_, 1) := by decide +kernel
theorem dJ5_append_cf1ce_0 : decode cJ5_append_cf1ce 0 = .ok (.aload_n 1, 1) := by decide +kernel
theorem dJ5_append_cf1ce_1 : decode cJ5_append_cf1ce 1 = .ok (.ifnonnull 8, 3) := by decide +kernel
theorem dJ5_append_cf1ce_9 : decode cJ5_append_cf1ce 9 = .ok (.aload_n 1, 1) := by decide +kernel
theorem dJ5_append_cf1ce_10 : decode cJ5_append_cf1ce 10 = .ok (.invokevirtual 32, 3) := by decide +kernel
theorem dJ5_append_cf1ce_13 : decode cJ5_append_cf1ce 13 = .ok (.istore_n 2, 1) := by decide +kernel
theorem dJ5_append_cf1ce_14 : decode cJ5_append_cf1ce 14 = .ok (.aload_n 0, 1) := by decide +kernel
theorem dJ5_append_cf1ce_15 : decode cJ5_append_cf1ce 15 = .ok (.aload_n 0, 1) := by decide +kernel
theorem dJ5_append_cf1ce_16 : decode cJ5_append_cf1ce 16 = .ok (.getfield 79, 3) := by decide +kernel
theorem dJ5_append_cf1ce_19 : decode cJ5_append_cf1ce 19 = .ok (.iload_n 2, 1) := by decide +kernel
theorem dJ5_append_cf1ce_20 : decode cJ5_append_cf1ce 20 = .ok (.iadd, 1) := by decide +kernel
theorem dJ5_append_cf1ce_21 : decode cJ5_append_cf1ce 21 = .ok (.invokevirtual 100, 3) := by decide +kernel
theorem dJ5_append_cf1ce_24 : decode cJ5_append_cf1ce 24 = .ok (.aload_n 0, 1) := by decide +kernel
theorem dJ5_append_cf1ce_25 : decode cJ5_append_cf1ce 25 = .ok (.aload_n 0, 1) := by decide +kernel
theorem dJ5_append_cf1ce_26 : decode cJ5_append_cf1ce 26 = .ok (.getfield 79, 3) := by decide +kernel
theorem dJ5_append_cf1ce_29 : decode cJ5_append_cf1ce 29 = .ok (.aload_n 1, 1) := by decide +kernel
theorem dJ5_append_cf1ce_30 : decode cJ5_append_cf1ce 30 = .ok (.invokevirtual 208, 3) := by decide +kernel
theorem dJ5_append_cf1ce_33 : decode cJ5_append_cf1ce 33 = .ok (.aload_n 0, 1) := by decide +kernel
theorem dJ5_append_cf1ce_34 : decode cJ5_append_cf1ce 34 = .ok (.dup, 1) := by decide +kernel
theorem dJ5_append_cf1ce_35 : decode cJ5_append_cf1ce 35 = .ok (.getfield 79, 3) := by decide +kernel
theorem dJ5_append_cf1ce_38 : decode cJ5_append_cf1ce 38 = .ok (.iload_n 2, 1) := by decide +kernel
theorem dJ5_append_cf1ce_39 : decode cJ5_append_cf1ce 39 = .ok (.iadd, 1) := by decide +kernel
theorem dJ5_append_cf1ce_40 : decode cJ5_append_cf1ce 40 = .ok (.putfield 79, 3) := by decide +kernel
theorem dJ5_append_cf1ce_43 : decode cJ5_append_cf1ce 43 = .ok (.aload_n 0, 1) := by decide +kernel
theorem dJ5_append_cf1ce_44 : decode cJ5_append_cf1ce 44 = .ok (.areturn, 1) := by decide +kernel
theorem dJ4_append_15ec4_0 : decode cJ4_append_15ec4 0 = .ok (.aload_n 0, 1) := by decide +kernel
theorem dJ4_append_15ec4_1 : decode cJ4_append_15ec4 1 = .ok (.aload_n 1, 1) := by decide +kernel
theorem dJ4_append_15ec4_2 : decode cJ4_append_15ec4 2 = .ok (.invokespecial 29, 3) := by decide +kernel
theorem dJ4_append_15ec4_5 : decode cJ4_append_15ec4 5 = .ok (.pop, 1) := by decide +kernel
theorem dJ4_append_15ec4_6 : decode cJ4_append_15ec4 6 = .ok (.aload_n 0, 1) := by decide +kernel
theorem dJ4_append_15ec4_7 : decode cJ4_append_15ec4 7 = .ok (.areturn, 1) := by decide +kernel
theorem dJ4_append_cf1ce_0 : decode cJ4_append_cf1ce 0 = .ok (.aload_n 0, 1) := by decide +kernel
theorem dJ4_append_cf1ce_1 : decode cJ4_append_cf1ce 1 = .ok (.aload_n 1, 1) := by decide +kernel
theorem dJ4_append_cf1ce_2 : decode cJ4_append_cf1ce 2 = .ok (.invokevirtual 23, 3) := by decide +kernel
theorem dJ4_append_cf1ce_5 : decode cJ4_append_cf1ce 5 = .ok (.areturn, 1) := by decide +kernel
theorem dJ5_init_a7421_0 : decode cJ5_init_a7421 0 = .ok (.aload_n 0, 1) := by decide +kernel
theorem dJ5_init_a7421_1 : decode cJ5_init_a7421 1 = .ok (.invokespecial 3, 3) := by decide +kernel
theorem dJ5_init_a7421_4 : decode cJ5_init_a7421 4 = .ok (.aload_n 1, 1) := by decide +kernel
theorem dJ5_init_a7421_5 : decode cJ5_init_a7421 5 = .ok (.invokevirtual 32, 3) := by decide +kernel
theorem dJ5_init_a7421_8 : decode cJ5_init_a7421 8 = .ok (.istore_n 2, 1) := by decide +kernel
theorem dJ5_init_a7421_9 : decode cJ5_init_a7421 9 = .ok (.iload_n 2, 1) := by decide +kernel
theorem dJ5_init_a7421_10 : decode cJ5_init_a7421 10 = .ok (.ldc 38, 2) := by decide +kernel
theorem dJ5_init_a7421_12 : decode cJ5_init_a7421 12 = .ok (.if_icmp .ge 10, 3) := by decide +kernel
theorem dJ5_init_a7421_15 : decode cJ5_init_a7421 15 = .ok (.iload_n 2, 1) := by decide +kernel
theorem dJ5_init_a7421_16 : decode cJ5_init_a7421 16 = .ok (.bipush 16, 2) := by decide +kernel
theorem dJ5_init_a7421_18 : decode cJ5_init_a7421 18 = .ok (.iadd, 1) := by decide +kernel
theorem dJ5_init_a7421_19 : decode cJ5_init_a7421 19 = .ok (.goto 5, 3) := by decide +kernel
theorem dJ5_init_a7421_24 : decode cJ5_init_a7421 24 = .ok (.istore_n 3, 1) := by decide +kernel
theorem dJ5_init_a7421_25 : decode cJ5_init_a7421 25 = .ok (.aload_n 1, 1) := by decide +kernel
theorem dJ5_init_a7421_26 : decode cJ5_init_a7421 26 = .ok (.invokevirtual 40, 3) := by decide +kernel
theorem dJ5_init_a7421_29 : decode cJ5_init_a7421 29 = .ok (.istore 4, 2) := by decide +kernel
theorem dJ5_init_a7421_31 : decode cJ5_init_a7421 31 = .ok (.aload_n 0, 1) := by decide +kernel
theorem dJ5_init_a7421_32 : decode cJ5_init_a7421 32 = .ok (.iload 4, 2) := by decide +kernel
theorem dJ5_init_a7421_34 : decode cJ5_init_a7421 34 = .ok (.putfield 22, 3) := by decide +kernel
theorem dJ5_init_a7421_37 : decode cJ5_init_a7421 37 = .ok (.aload_n 0, 1) := by decide +kernel
theorem dJ5_init_a7421_38 : decode cJ5_init_a7421 38 = .ok (.iload 4, 2) := by decide +kernel
theorem dJ5_init_a7421_40 : decode cJ5_init_a7421 40 = .ok (.ifCond .ne 9, 3) := by decide +kernel
theorem dJ5_init_a7421_43 : decode cJ5_init_a7421 43 = .ok (.iload_n 3, 1) := by decide +kernel
theorem dJ5_init_a7421_44 : decode cJ5_init_a7421 44 = .ok (.newarray .byte, 2) := by decide +kernel
theorem dJ5_init_a7421_46 : decode cJ5_init_a7421 46 = .ok (.goto 7, 3) := by decide +kernel
theorem dJ5_init_a7421_53 : decode cJ5_init_a7421 53 = .ok (.putfield 15, 3) := by decide +kernel
theorem dJ5_init_a7421_56 : decode cJ5_init_a7421 56 = .ok (.aload_n 0, 1) := by decide +kernel
theorem dJ5_init_a7421_57 : decode cJ5_init_a7421 57 = .ok (.aload_n 1, 1) := by decide +kernel
theorem dJ5_init_a7421_58 : decode cJ5_init_a7421 58 = .ok (.invokevirtual 43, 3) := by decide +kernel
theorem dJ5_init_a7421_61 : decode cJ5_init_a7421 61 = .ok (.pop, 1) := by decide +kernel
theorem dJ5_init_a7421_62 : decode cJ5_init_a7421 62 = .ok (.return_, 1) := by decide +kernel
theorem dJ4_init_a7421_0 : decode cJ4_init_a7421 0 = .ok (.aload_n 0, 1) := by decide +kernel
theorem dJ4_init_a7421_1 : decode cJ4_init_a7421 1 = .ok (.aload_n 1, 1) := by decide +kernel
theorem dJ4_init_a7421_2 : decode cJ4_init_a7421 2 = .ok (.invokespecial 7, 3) := by decide +kernel
theorem dJ4_init_a7421_5 : decode cJ4_init_a7421 5 = .ok (.return_, 1) := by decide +kernel
theorem dJ6_stringSize_0f7a4_0 : decode cJ6_stringSize_0f7a4 0 = .ok (.iconst 1, 1) := by decide +kernel
theorem dJ6_stringSize_0f7a4_1 : decode cJ6_stringSize_0f7a4 1 = .ok (.istore_n 1, 1) := by decide +kernel
theorem dJ6_stringSize_0f7a4_2 : decode cJ6_stringSize_0f7a4 2 = .ok (.iload_n 0, 1) := by decide +kernel
theorem dJ6_stringSize_0f7a4_3 : decode cJ6_stringSize_0f7a4 3 = .ok (.ifCond .lt 8, 3) := by decide +kernel
theorem dJ6_stringSize_0f7a4_6 : decode cJ6_stringSize_0f7a4 6 = .ok (.iconst 0, 1) := by decide +kernel
theorem dJ6_stringSize_0f7a4_7 : decode cJ6_stringSize_0f7a4 7 = .ok (.istore_n 1, 1) := by decide +kernel
theorem dJ6_stringSize_0f7a4_8 : decode cJ6_stringSize_0f7a4 8 = .ok (.iload_n 0, 1) := by decide +kernel
theorem dJ6_stringSize_0f7a4_9 : decode cJ6_stringSize_0f7a4 9 = .ok (.ineg, 1) := by decide +kernel
theorem dJ6_stringSize_0f7a4_10 : decode cJ6_stringSize_0f7a4 10 = .ok (.istore_n 0, 1) := by decide +kernel
theorem dJ6_stringSize_0f7a4_11 : decode cJ6_stringSize_0f7a4 11 = .ok (.bipush (-10), 2) := by decide +kernel
theorem dJ6_stringSize_0f7a4_13 : decode cJ6_stringSize_0f7a4 13 = .ok (.istore_n 2, 1) := by decide +kernel
theorem dJ6_stringSize_0f7a4_14 : decode cJ6_stringSize_0f7a4 14 = .ok (.iconst 1, 1) := by decide +kernel
theorem dJ6_stringSize_0f7a4_15 : decode cJ6_stringSize_0f7a4 15 = .ok (.istore_n 3, 1) := by decide +kernel
theorem dJ6_stringSize_0f7a4_16 : decode cJ6_stringSize_0f7a4 16 = .ok (.iload_n 3, 1) := by decide +kernel
theorem dJ6_stringSize_0f7a4_17 : decode cJ6_stringSize_0f7a4 17 = .ok (.bipush 10, 2) := by decide +kernel
theorem dJ6_stringSize_0f7a4_19 : decode cJ6_stringSize_0f7a4 19 = .ok (.if_icmp .ge 23, 3) := by decide +kernel
theorem dJ6_stringSize_0f7a4_22 : decode cJ6_stringSize_0f7a4 22 = .ok (.iload_n 0, 1) := by decide +kernel
theorem dJ6_stringSize_0f7a4_23 : decode cJ6_stringSize_0f7a4 23 = .ok (.iload_n 2, 1) := by decide +kernel
theorem dJ6_stringSize_0f7a4_24 : decode cJ6_stringSize_0f7a4 24 = .ok (.if_icmp .le 7, 3) := by decide +kernel
theorem dJ6_stringSize_0f7a4_27 : decode cJ6_stringSize_0f7a4 27 = .ok (.iload_n 3, 1) := by decide +kernel
theorem dJ6_stringSize_0f7a4_28 : decode cJ6_stringSize_0f7a4 28 = .ok (.iload_n 1, 1) := by decide +kernel
theorem dJ6_stringSize_0f7a4_29 : decode cJ6_stringSize_0f7a4 29 = .ok (.iadd, 1) := by decide +kernel
theorem dJ6_stringSize_0f7a4_30 : decode cJ6_stringSize_0f7a4 30 = .ok (.ireturn, 1) := by decide +kernel
theorem dJ6_stringSize_0f7a4_31 : decode cJ6_stringSize_0f7a4 31 = .ok (.bipush 10, 2) := by decide +kernel
theorem dJ6_stringSize_0f7a4_33 : decode cJ6_stringSize_0f7a4 33 = .ok (.iload_n 2, 1) := by decide +kernel
theorem dJ6_stringSize_0f7a4_34 : decode cJ6_stringSize_0f7a4 34 = .ok (.imul, 1) := by decide +kernel
theorem dJ6_stringSize_0f7a4_35 : decode cJ6_stringSize_0f7a4 35 = .ok (.istore_n 2, 1) := by decide +kernel
theorem dJ6_stringSize_0f7a4_36 : decode cJ6_stringSize_0f7a4 36 = .ok (.iinc 3 1, 3) := by decide +kernel
theorem dJ6_stringSize_0f7a4_39 : decode cJ6_stringSize_0f7a4 39 = .ok (.goto (-23), 3) := by decide +kernel
theorem dJ6_stringSize_0f7a4_42 : decode cJ6_stringSize_0f7a4 42 = .ok (.bipush 10, 2) := by decide +kernel
theorem dJ6_stringSize_0f7a4_44 : decode cJ6_stringSize_0f7a4 44 = .ok (.iload_n 1, 1) := by decide +kernel
theorem dJ6_stringSize_0f7a4_45 : decode cJ6_stringSize_0f7a4 45 = .ok (.iadd, 1) := by decide +kernel
theorem dJ6_stringSize_0f7a4_46 : decode cJ6_stringSize_0f7a4 46 = .ok (.ireturn, 1) := by decide +kernel
theorem dJ6_getChars_ba4f3_0 : decode cJ6_getChars_ba4f3 0 = .ok (.iload_n 1, 1) := by decide +kernel
theorem dJ6_getChars_ba4f3_1 : decode cJ6_getChars_ba4f3 1 = .ok (.istore 5, 2) := by decide +kernel
theorem dJ6_getChars_ba4f3_3 : decode cJ6_getChars_ba4f3 3 = .ok (.iload_n 0, 1) := by decide +kernel
theorem dJ6_getChars_ba4f3_4 : decode cJ6_getChars_ba4f3 4 = .ok (.ifCond .ge 7, 3) := by decide +kernel
theorem dJ6_getChars_ba4f3_7 : decode cJ6_getChars_ba4f3 7 = .ok (.iconst 1, 1) := by decide +kernel
theorem dJ6_getChars_ba4f3_8 : decode cJ6_getChars_ba4f3 8 = .ok (.goto 4, 3) := by decide +kernel
theorem dJ6_getChars_ba4f3_11 : decode cJ6_getChars_ba4f3 11 = .ok (.iconst 0, 1) := by decide +kernel
theorem dJ6_getChars_ba4f3_12 : decode cJ6_getChars_ba4f3 12 = .ok (.istore 6, 2) := by decide +kernel
theorem dJ6_getChars_ba4f3_14 : decode cJ6_getChars_ba4f3 14 = .ok (.iload 6, 2) := by decide +kernel
theorem dJ6_getChars_ba4f3_16 : decode cJ6_getChars_ba4f3 16 = .ok (.ifCond .ne 6, 3) := by decide +kernel
theorem dJ6_getChars_ba4f3_19 : decode cJ6_getChars_ba4f3 19 = .ok (.iload_n 0, 1) := by decide +kernel
theorem dJ6_getChars_ba4f3_20 : decode cJ6_getChars_ba4f3 20 = .ok (.ineg, 1) := by decide +kernel
theorem dJ6_getChars_ba4f3_21 : decode cJ6_getChars_ba4f3 21 = .ok (.istore_n 0, 1) := by decide +kernel
theorem dJ6_getChars_ba4f3_22 : decode cJ6_getChars_ba4f3 22 = .ok (.iload_n 0, 1) := by decide +kernel
theorem dJ6_getChars_ba4f3_23 : decode cJ6_getChars_ba4f3 23 = .ok (.bipush (-100), 2) := by decide +kernel
theorem dJ6_getChars_ba4f3_25 : decode cJ6_getChars_ba4f3 25 = .ok (.if_icmp .gt 47, 3) := by decide +kernel
theorem dJ6_getChars_ba4f3_28 : decode cJ6_getChars_ba4f3 28 = .ok (.iload_n 0, 1) := by decide +kernel
theorem dJ6_getChars_ba4f3_29 : decode cJ6_getChars_ba4f3 29 = .ok (.bipush 100, 2) := by decide +kernel
theorem dJ6_getChars_ba4f3_31 : decode cJ6_getChars_ba4f3 31 = .ok (.idiv, 1) := by decide +kernel
theorem dJ6_getChars_ba4f3_32 : decode cJ6_getChars_ba4f3 32 = .ok (.istore_n 3, 1) := by decide +kernel
theorem dJ6_getChars_ba4f3_33 : decode cJ6_getChars_ba4f3 33 = .ok (.iload_n 3, 1) := by decide +kernel
theorem dJ6_getChars_ba4f3_34 : decode cJ6_getChars_ba4f3 34 = .ok (.bipush 100, 2) := by decide +kernel
theorem dJ6_getChars_ba4f3_36 : decode cJ6_getChars_ba4f3 36 = .ok (.imul, 1) := by decide +kernel
theorem dJ6_getChars_ba4f3_37 : decode cJ6_getChars_ba4f3 37 = .ok (.iload_n 0, 1) := by decide +kernel
theorem dJ6_getChars_ba4f3_38 : decode cJ6_getChars_ba4f3 38 = .ok (.isub, 1) := by decide +kernel
theorem dJ6_getChars_ba4f3_39 : decode cJ6_getChars_ba4f3 39 = .ok (.istore 4, 2) := by decide +kernel
theorem dJ6_getChars_ba4f3_41 : decode cJ6_getChars_ba4f3 41 = .ok (.iload_n 3, 1) := by decide +kernel
theorem dJ6_getChars_ba4f3_42 : decode cJ6_getChars_ba4f3 42 = .ok (.istore_n 0, 1) := by decide +kernel
theorem dJ6_getChars_ba4f3_43 : decode cJ6_getChars_ba4f3 43 = .ok (.aload_n 2, 1) := by decide +kernel
theorem dJ6_getChars_ba4f3_44 : decode cJ6_getChars_ba4f3 44 = .ok (.iinc 5 (-1), 3) := by decide +kernel
theorem dJ6_getChars_ba4f3_47 : decode cJ6_getChars_ba4f3 47 = .ok (.iload 5, 2) := by decide +kernel
theorem dJ6_getChars_ba4f3_49 : decode cJ6_getChars_ba4f3 49 = .ok (.getstatic 83, 3) := by decide +kernel
theorem dJ6_getChars_ba4f3_52 : decode cJ6_getChars_ba4f3 52 = .ok (.iload 4, 2) := by decide +kernel
theorem dJ6_getChars_ba4f3_54 : decode cJ6_getChars_ba4f3 54 = .ok (.baload, 1) := by decide +kernel
theorem dJ6_getChars_ba4f3_55 : decode cJ6_getChars_ba4f3 55 = .ok (.bastore, 1) := by decide +kernel
theorem dJ6_getChars_ba4f3_56 : decode cJ6_getChars_ba4f3 56 = .ok (.aload_n 2, 1) := by decide +kernel
theorem dJ6_getChars_ba4f3_57 : decode cJ6_getChars_ba4f3 57 = .ok (.iinc 5 (-1), 3) := by decide +kernel
theorem dJ6_getChars_ba4f3_60 : decode cJ6_getChars_ba4f3 60 = .ok (.iload 5, 2) := by decide +kernel
theorem dJ6_getChars_ba4f3_62 : decode cJ6_getChars_ba4f3 62 = .ok (.getstatic 87, 3) := by decide +kernel
theorem dJ6_getChars_ba4f3_65 : decode cJ6_getChars_ba4f3 65 = .ok (.iload 4, 2) := by decide +kernel
theorem dJ6_getChars_ba4f3_67 : decode cJ6_getChars_ba4f3 67 = .ok (.baload, 1) := by decide +kernel
theorem dJ6_getChars_ba4f3_68 : decode cJ6_getChars_ba4f3 68 = .ok (.bastore, 1) := by decide +kernel
theorem dJ6_getChars_ba4f3_69 : decode cJ6_getChars_ba4f3 69 = .ok (.goto (-47), 3) := by decide +kernel
theorem dJ6_getChars_ba4f3_72 : decode cJ6_getChars_ba4f3 72 = .ok (.aload_n 2, 1) := by decide +kernel
theorem dJ6_getChars_ba4f3_73 : decode cJ6_getChars_ba4f3 73 = .ok (.iinc 5 (-1), 3) := by decide +kernel
theorem dJ6_getChars_ba4f3_76 : decode cJ6_getChars_ba4f3 76 = .ok (.iload 5, 2) := by decide +kernel
theorem dJ6_getChars_ba4f3_78 : decode cJ6_getChars_ba4f3 78 = .ok (.getstatic 83, 3) := by decide +kernel
theorem dJ6_getChars_ba4f3_81 : decode cJ6_getChars_ba4f3 81 = .ok (.iload_n 0, 1) := by decide +kernel
theorem dJ6_getChars_ba4f3_82 : decode cJ6_getChars_ba4f3 82 = .ok (.ineg, 1) := by decide +kernel
theorem dJ6_getChars_ba4f3_83 : decode cJ6_getChars_ba4f3 83 = .ok (.baload, 1) := by decide +kernel
theorem dJ6_getChars_ba4f3_84 : decode cJ6_getChars_ba4f3 84 = .ok (.bastore, 1) := by decide +kernel
theorem dJ6_getChars_ba4f3_85 : decode cJ6_getChars_ba4f3 85 = .ok (.iload_n 0, 1) := by decide +kernel
theorem dJ6_getChars_ba4f3_86 : decode cJ6_getChars_ba4f3 86 = .ok (.bipush (-9), 2) := by decide +kernel
theorem dJ6_getChars_ba4f3_88 : decode cJ6_getChars_ba4f3 88 = .ok (.if_icmp .ge 16, 3) := by decide +kernel
theorem dJ6_getChars_ba4f3_91 : decode cJ6_getChars_ba4f3 91 = .ok (.aload_n 2, 1) := by decide +kernel
theorem dJ6_getChars_ba4f3_92 : decode cJ6_getChars_ba4f3 92 = .ok (.iinc 5 (-1), 3) := by decide +kernel
theorem dJ6_getChars_ba4f3_95 : decode cJ6_getChars_ba4f3 95 = .ok (.iload 5, 2) := by decide +kernel
theorem dJ6_getChars_ba4f3_97 : decode cJ6_getChars_ba4f3 97 = .ok (.getstatic 87, 3) := by decide +kernel
theorem dJ6_getChars_ba4f3_100 : decode cJ6_getChars_ba4f3 100 = .ok (.iload_n 0, 1) := by decide +kernel
theorem dJ6_getChars_ba4f3_101 : decode cJ6_getChars_ba4f3 101 = .ok (.ineg, 1) := by decide +kernel
theorem dJ6_getChars_ba4f3_102 : decode cJ6_getChars_ba4f3 102 = .ok (.baload, 1) := by decide +kernel
theorem dJ6_getChars_ba4f3_103 : decode cJ6_getChars_ba4f3 103 = .ok (.bastore, 1) := by decide +kernel
theorem dJ6_getChars_ba4f3_104 : decode cJ6_getChars_ba4f3 104 = .ok (.iload 6, 2) := by decide +kernel
theorem dJ6_getChars_ba4f3_106 : decode cJ6_getChars_ba4f3 106 = .ok (.ifCond .eq 12, 3) := by decide +kernel
theorem dJ6_getChars_ba4f3_109 : decode cJ6_getChars_ba4f3 109 = .ok (.aload_n 2, 1) := by decide +kernel
theorem dJ6_getChars_ba4f3_110 : decode cJ6_getChars_ba4f3 110 = .ok (.iinc 5 (-1), 3) := by decide +kernel
theorem dJ6_getChars_ba4f3_113 : decode cJ6_getChars_ba4f3 113 = .ok (.iload 5, 2) := by decide +kernel
theorem dJ6_getChars_ba4f3_115 : decode cJ6_getChars_ba4f3 115 = .ok (.bipush 45, 2) := by decide +kernel
theorem dJ6_getChars_ba4f3_117 : decode cJ6_getChars_ba4f3 117 = .ok (.bastore, 1) := by decide +kernel
theorem dJ6_getChars_ba4f3_118 : decode cJ6_getChars_ba4f3 118 = .ok (.iload 5, 2) := by decide +kernel
theorem dJ6_getChars_ba4f3_120 : decode cJ6_getChars_ba4f3 120 = .ok (.ireturn, 1) := by decide +kernel
theorem dJ5_append_c97b9_0 : decode cJ5_append_c97b9 0 = .ok (.aload_n 0, 1) := by decide +kernel
theorem dJ5_append_c97b9_1 : decode cJ5_append_c97b9 1 = .ok (.getfield 79, 3) := by decide +kernel
theorem dJ5_append_c97b9_4 : decode cJ5_append_c97b9 4 = .ok (.istore_n 2, 1) := by decide +kernel
theorem dJ5_append_c97b9_5 : decode cJ5_append_c97b9 5 = .ok (.iload_n 2, 1) := by decide +kernel
theorem dJ5_append_c97b9_6 : decode cJ5_append_c97b9 6 = .ok (.iload_n 1, 1) := by decide +kernel
theorem dJ5_append_c97b9_7 : decode cJ5_append_c97b9 7 = .ok (.invokestatic 245, 3) := by decide +kernel
theorem dJ5_append_c97b9_10 : decode cJ5_append_c97b9 10 = .ok (.iadd, 1) := by decide +kernel
theorem dJ5_append_c97b9_11 : decode cJ5_append_c97b9 11 = .ok (.istore_n 3, 1) := by decide +kernel
theorem dJ5_append_c97b9_12 : decode cJ5_append_c97b9 12 = .ok (.aload_n 0, 1) := by decide +kernel
theorem dJ5_append_c97b9_13 : decode cJ5_append_c97b9 13 = .ok (.iload_n 3, 1) := by decide +kernel
theorem dJ5_append_c97b9_14 : decode cJ5_append_c97b9 14 = .ok (.invokevirtual 100, 3) := by decide +kernel
theorem dJ5_append_c97b9_17 : decode cJ5_append_c97b9 17 = .ok (.aload_n 0, 1) := by decide +kernel
theorem dJ5_append_c97b9_18 : decode cJ5_append_c97b9 18 = .ok (.invokevirtual 83, 3) := by decide +kernel
theorem dJ5_append_c97b9_21 : decode cJ5_append_c97b9 21 = .ok (.ifCond .eq 16, 3) := by decide +kernel
theorem dJ5_append_c97b9_24 : decode cJ5_append_c97b9 24 = .ok (.iload_n 1, 1) := by decide +kernel
theorem dJ5_append_c97b9_25 : decode cJ5_append_c97b9 25 = .ok (.iload_n 3, 1) := by decide +kernel
theorem dJ5_append_c97b9_26 : decode cJ5_append_c97b9 26 = .ok (.aload_n 0, 1) := by decide +kernel
theorem dJ5_append_c97b9_27 : decode cJ5_append_c97b9 27 = .ok (.getfield 15, 3) := by decide +kernel
theorem dJ5_append_c97b9_30 : decode cJ5_append_c97b9 30 = .ok (.invokestatic 248, 3) := by decide +kernel
theorem dJ5_append_c97b9_33 : decode cJ5_append_c97b9 33 = .ok (.pop, 1) := by decide +kernel
theorem dJ5_append_c97b9_34 : decode cJ5_append_c97b9 34 = .ok (.goto 14, 3) := by decide +kernel
theorem dJ5_append_c97b9_48 : decode cJ5_append_c97b9 48 = .ok (.aload_n 0, 1) := by decide +kernel
theorem dJ5_append_c97b9_49 : decode cJ5_append_c97b9 49 = .ok (.iload_n 3, 1) := by decide +kernel
theorem dJ5_append_c97b9_50 : decode cJ5_append_c97b9 50 = .ok (.putfield 79, 3) := by decide +kernel
theorem dJ5_append_c97b9_53 : decode cJ5_append_c97b9 53 = .ok (.aload_n 0, 1) := by decide +kernel
theorem dJ5_append_c97b9_54 : decode cJ5_append_c97b9 54 = .ok (.areturn, 1) := by decide +kernel
theorem dJ4_append_bf812_0 : decode cJ4_append_bf812 0 = .ok (.aload_n 0, 1) := by decide +kernel
theorem dJ4_append_bf812_1 : decode cJ4_append_bf812 1 = .ok (.iload_n 1, 1) := by decide +kernel
theorem dJ4_append_bf812_2 : decode cJ4_append_bf812 2 = .ok (.invokespecial 53, 3) := by decide +kernel
theorem dJ4_append_bf812_5 : decode cJ4_append_bf812 5 = .ok (.pop, 1) := by decide +kernel
theorem dJ4_append_bf812_6 : decode cJ4_append_bf812 6 = .ok (.aload_n 0, 1) := by decide +kernel
theorem dJ4_append_bf812_7 : decode cJ4_append_bf812 7 = .ok (.areturn, 1) := by decide +kernel
theorem dL_law_0 : decode cL_law 0 = .ok (.iconst 0, 1) := by decide +kernel
theorem dL_law_1 : decode cL_law 1 = .ok (.istore_n 1, 1) := by decide +kernel
theorem dL_law_2 : decode cL_law 2 = .ok (.iload_n 1, 1) := by decide +kernel
theorem dL_law_3 : decode cL_law 3 = .ok (.aload_n 0, 1) := by decide +kernel
theorem dL_law_4 : decode cL_law 4 = .ok (.arraylength, 1) := by decide +kernel
theorem dL_law_5 : decode cL_law 5 = .ok (.if_icmp .ge 329, 3) := by decide +kernel
theorem dL_law_8 : decode cL_law 8 = .ok (.iload_n 1, 1) := by decide +kernel
theorem dL_law_9 : decode cL_law 9 = .ok (.iconst 1, 1) := by decide +kernel
theorem dL_law_10 : decode cL_law 10 = .ok (.if_icmp .ge 324, 3) := by decide +kernel
theorem dL_law_13 : decode cL_law 13 = .ok (.iconst 1, 1) := by decide +kernel
theorem dL_law_14 : decode cL_law 14 = .ok (.newarray .int, 2) := by decide +kernel
theorem dL_law_16 : decode cL_law 16 = .ok (.dup, 1) := by decide +kernel
theorem dL_law_17 : decode cL_law 17 = .ok (.iconst 0, 1) := by decide +kernel
theorem dL_law_18 : decode cL_law 18 = .ok (.aload_n 0, 1) := by decide +kernel
theorem dL_law_19 : decode cL_law 19 = .ok (.iload_n 1, 1) := by decide +kernel
theorem dL_law_20 : decode cL_law 20 = .ok (.iaload, 1) := by decide +kernel
theorem dL_law_21 : decode cL_law 21 = .ok (.iastore, 1) := by decide +kernel
theorem dL_law_22 : decode cL_law 22 = .ok (.astore_n 2, 1) := by decide +kernel
theorem dL_law_23 : decode cL_law 23 = .ok (.new 8, 3) := by decide +kernel
theorem dL_law_26 : decode cL_law 26 = .ok (.dup, 1) := by decide +kernel
theorem dL_law_27 : decode cL_law 27 = .ok (.invokespecial 245, 3) := by decide +kernel
theorem dL_law_30 : decode cL_law 30 = .ok (.astore_n 3, 1) := by decide +kernel
theorem dL_law_31 : decode cL_law 31 = .ok (.iconst 2, 1) := by decide +kernel
theorem dL_law_32 : decode cL_law 32 = .ok (.aload_n 2, 1) := by decide +kernel
theorem dL_law_33 : decode cL_law 33 = .ok (.bipush 10, 2) := by decide +kernel
theorem dL_law_35 : decode cL_law 35 = .ok (.invokestatic 206, 3) := by decide +kernel
theorem dL_law_38 : decode cL_law 38 = .ok (.iadd, 1) := by decide +kernel
theorem dL_law_39 : decode cL_law 39 = .ok (.istore 4, 2) := by decide +kernel
theorem dL_law_41 : decode cL_law 41 = .ok (.new 246, 3) := by decide +kernel
theorem dL_law_44 : decode cL_law 44 = .ok (.dup, 1) := by decide +kernel
theorem dL_law_45 : decode cL_law 45 = .ok (.ldc 248, 2) := by decide +kernel
theorem dL_law_47 : decode cL_law 47 = .ok (.invokespecial 250, 3) := by decide +kernel
theorem dL_law_50 : decode cL_law 50 = .ok (.astore 5, 2) := by decide +kernel
theorem dL_law_52 : decode cL_law 52 = .ok (.iconst 0, 1) := by decide +kernel
theorem dL_law_53 : decode cL_law 53 = .ok (.istore 6, 2) := by decide +kernel
theorem dL_law_55 : decode cL_law 55 = .ok (.iload 6, 2) := by decide +kernel
theorem dL_law_57 : decode cL_law 57 = .ok (.iload 4, 2) := by decide +kernel
theorem dL_law_59 : decode cL_law 59 = .ok (.if_icmp .ge 25, 3) := by decide +kernel
theorem dL_law_62 : decode cL_law 62 = .ok (.aload 5, 2) := by decide +kernel
theorem dL_law_64 : decode cL_law 64 = .ok (.bipush 32, 2) := by decide +kernel
theorem dL_law_66 : decode cL_law 66 = .ok (.invokevirtual 253, 3) := by decide +kernel
theorem dL_law_69 : decode cL_law 69 = .ok (.aload_n 2, 1) := by decide +kernel
theorem dL_law_70 : decode cL_law 70 = .ok (.iconst 4, 1) := by decide +kernel
theorem dL_law_71 : decode cL_law 71 = .ok (.invokestatic 206, 3) := by decide +kernel
theorem dL_law_74 : decode cL_law 74 = .ok (.invokevirtual 256, 3) := by decide +kernel
theorem dL_law_77 : decode cL_law 77 = .ok (.pop, 1) := by decide +kernel
theorem dL_law_78 : decode cL_law 78 = .ok (.iinc 6 1, 3) := by decide +kernel
theorem dL_law_81 : decode cL_law 81 = .ok (.goto (-26), 3) := by decide +kernel
theorem dL_law_84 : decode cL_law 84 = .ok (.aload 5, 2) := by decide +kernel
theorem dL_law_86 : decode cL_law 86 = .ok (.bipush 59, 2) := by decide +kernel
theorem dL_law_88 : decode cL_law 88 = .ok (.invokevirtual 253, 3) := by decide +kernel
theorem dL_law_91 : decode cL_law 91 = .ok (.pop, 1) := by decide +kernel
theorem dL_law_92 : decode cL_law 92 = .ok (.iconst 1, 1) := by decide +kernel
theorem dL_law_93 : decode cL_law 93 = .ok (.aload_n 2, 1) := by decide +kernel
theorem dL_law_94 : decode cL_law 94 = .ok (.iconst 4, 1) := by decide +kernel
theorem dL_law_95 : decode cL_law 95 = .ok (.invokestatic 206, 3) := by decide +kernel
theorem dL_law_98 : decode cL_law 98 = .ok (.iadd, 1) := by decide +kernel
theorem dL_law_99 : decode cL_law 99 = .ok (.istore 6, 2) := by decide +kernel
theorem dL_law_101 : decode cL_law 101 = .ok (.iconst 0, 1) := by decide +kernel
theorem dL_law_102 : decode cL_law 102 = .ok (.istore 7, 2) := by decide +kernel
theorem dL_law_104 : decode cL_law 104 = .ok (.iload 7, 2) := by decide +kernel
theorem dL_law_106 : decode cL_law 106 = .ok (.iload 6, 2) := by decide +kernel
theorem dL_law_108 : decode cL_law 108 = .ok (.if_icmp .ge 47, 3) := by decide +kernel
theorem dL_law_111 : decode cL_law 111 = .ok (.aload 5, 2) := by decide +kernel
theorem dL_law_113 : decode cL_law 113 = .ok (.ldc_w 259, 3) := by decide +kernel
theorem dL_law_116 : decode cL_law 116 = .ok (.invokevirtual 261, 3) := by decide +kernel
theorem dL_law_119 : decode cL_law 119 = .ok (.bipush 97, 2) := by decide +kernel
theorem dL_law_121 : decode cL_law 121 = .ok (.iload 7, 2) := by decide +kernel
theorem dL_law_123 : decode cL_law 123 = .ok (.iadd, 1) := by decide +kernel
theorem dL_law_124 : decode cL_law 124 = .ok (.i2c, 1) := by decide +kernel
theorem dL_law_125 : decode cL_law 125 = .ok (.invokevirtual 253, 3) := by decide +kernel
theorem dL_law_128 : decode cL_law 128 = .ok (.bipush 32, 2) := by decide +kernel
theorem dL_law_130 : decode cL_law 130 = .ok (.invokevirtual 253, 3) := by decide +kernel
theorem dL_law_133 : decode cL_law 133 = .ok (.aload_n 2, 1) := by decide +kernel
theorem dL_law_134 : decode cL_law 134 = .ok (.ldc_w 264, 3) := by decide +kernel
theorem dL_law_137 : decode cL_law 137 = .ok (.invokestatic 206, 3) := by decide +kernel
theorem dL_law_140 : decode cL_law 140 = .ok (.invokevirtual 256, 3) := by decide +kernel
theorem dL_law_143 : decode cL_law 143 = .ok (.bipush 59, 2) := by decide +kernel
theorem dL_law_145 : decode cL_law 145 = .ok (.invokevirtual 253, 3) := by decide +kernel
theorem dL_law_148 : decode cL_law 148 = .ok (.pop, 1) := by decide +kernel
theorem dL_law_149 : decode cL_law 149 = .ok (.iinc 7 1, 3) := by decide +kernel
theorem dL_law_152 : decode cL_law 152 = .ok (.goto (-48), 3) := by decide +kernel
theorem dL_law_155 : decode cL_law 155 = .ok (.aload_n 3, 1) := by decide +kernel
theorem dL_law_156 : decode cL_law 156 = .ok (.aload 5, 2) := by decide +kernel
theorem dL_law_158 : decode cL_law 158 = .ok (.invokevirtual 265, 3) := by decide +kernel
theorem dL_law_161 : decode cL_law 161 = .ok (.invokestatic 269, 3) := by decide +kernel
theorem dL_law_164 : decode cL_law 164 = .ok (.ifCond .eq 21, 3) := by decide +kernel
theorem dL_law_167 : decode cL_law 167 = .ok (.aload_n 3, 1) := by decide +kernel
theorem dL_law_168 : decode cL_law 168 = .ok (.invokevirtual 273, 3) := by decide +kernel
theorem dL_law_171 : decode cL_law 171 = .ok (.iload 6, 2) := by decide +kernel
theorem dL_law_173 : decode cL_law 173 = .ok (.if_icmp .ne 12, 3) := by decide +kernel
theorem dL_law_176 : decode cL_law 176 = .ok (.aload_n 3, 1) := by decide +kernel
theorem dL_law_177 : decode cL_law 177 = .ok (.invokevirtual 213, 3) := by decide +kernel
theorem dL_law_180 : decode cL_law 180 = .ok (.iload 4, 2) := by decide +kernel
theorem dL_law_182 : decode cL_law 182 = .ok (.if_icmp .eq 5, 3) := by decide +kernel
theorem dL_law_185 : decode cL_law 185 = .ok (.iconst 0, 1) := by decide +kernel
theorem dL_law_186 : decode cL_law 186 = .ok (.ireturn, 1) := by decide +kernel
theorem dL_law_187 : decode cL_law 187 = .ok (.iconst 0, 1) := by decide +kernel
theorem dL_law_188 : decode cL_law 188 = .ok (.istore 7, 2) := by decide +kernel
theorem dL_law_190 : decode cL_law 190 = .ok (.iload 7, 2) := by decide +kernel
theorem dL_law_192 : decode cL_law 192 = .ok (.bipush 36, 2) := by decide +kernel
theorem dL_law_194 : decode cL_law 194 = .ok (.if_icmp .ge 36, 3) := by decide +kernel
theorem dL_law_197 : decode cL_law 197 = .ok (.aload_n 3, 1) := by decide +kernel
theorem dL_law_198 : decode cL_law 198 = .ok (.aload_n 2, 1) := by decide +kernel
theorem dL_law_199 : decode cL_law 199 = .ok (.invokestatic 276, 3) := by decide +kernel
theorem dL_law_202 : decode cL_law 202 = .ok (.ifCond .ne 5, 3) := by decide +kernel
theorem dL_law_205 : decode cL_law 205 = .ok (.iconst 0, 1) := by decide +kernel
theorem dL_law_206 : decode cL_law 206 = .ok (.ireturn, 1) := by decide +kernel
theorem dL_law_207 : decode cL_law 207 = .ok (.iload 7, 2) := by decide +kernel
theorem dL_law_209 : decode cL_law 209 = .ok (.bipush 6, 2) := by decide +kernel
theorem dL_law_211 : decode cL_law 211 = .ok (.irem, 1) := by decide +kernel
theorem dL_law_212 : decode cL_law 212 = .ok (.ifCond .ne 12, 3) := by decide +kernel
theorem dL_law_215 : decode cL_law 215 = .ok (.aload_n 3, 1) := by decide +kernel
theorem dL_law_216 : decode cL_law 216 = .ok (.invokestatic 280, 3) := by decide +kernel
theorem dL_law_219 : decode cL_law 219 = .ok (.ifCond .ne 5, 3) := by decide +kernel
theorem dL_law_222 : decode cL_law 222 = .ok (.iconst 0, 1) := by decide +kernel
theorem dL_law_223 : decode cL_law 223 = .ok (.ireturn, 1) := by decide +kernel
theorem dL_law_224 : decode cL_law 224 = .ok (.iinc 7 1, 3) := by decide +kernel
theorem dL_law_227 : decode cL_law 227 = .ok (.goto (-37), 3) := by decide +kernel
theorem dL_law_230 : decode cL_law 230 = .ok (.aload_n 3, 1) := by decide +kernel
theorem dL_law_231 : decode cL_law 231 = .ok (.invokestatic 280, 3) := by decide +kernel
theorem dL_law_234 : decode cL_law 234 = .ok (.ifCond .ne 5, 3) := by decide +kernel
theorem dL_law_237 : decode cL_law 237 = .ok (.iconst 0, 1) := by decide +kernel
theorem dL_law_238 : decode cL_law 238 = .ok (.ireturn, 1) := by decide +kernel
theorem dL_law_239 : decode cL_law 239 = .ok (.aload_n 3, 1) := by decide +kernel
theorem dL_law_240 : decode cL_law 240 = .ok (.invokevirtual 284, 3) := by decide +kernel
theorem dL_law_243 : decode cL_law 243 = .ok (.istore 7, 2) := by decide +kernel
theorem dL_law_245 : decode cL_law 245 = .ok (.aload_n 3, 1) := by decide +kernel
theorem dL_law_246 : decode cL_law 246 = .ok (.invokevirtual 152, 3) := by decide +kernel
theorem dL_law_249 : decode cL_law 249 = .ok (.istore 8, 2) := by decide +kernel
theorem dL_law_251 : decode cL_law 251 = .ok (.aload_n 3, 1) := by decide +kernel
theorem dL_law_252 : decode cL_law 252 = .ok (.invokevirtual 197, 3) := by decide +kernel
theorem dL_law_255 : decode cL_law 255 = .ok (.istore 9, 2) := by decide +kernel
theorem dL_law_257 : decode cL_law 257 = .ok (.aload_n 3, 1) := by decide +kernel
theorem dL_law_258 : decode cL_law 258 = .ok (.bipush 77, 2) := by decide +kernel
theorem dL_law_260 : decode cL_law 260 = .ok (.invokestatic 242, 3) := by decide +kernel
theorem dL_law_263 : decode cL_law 263 = .ok (.istore 10, 2) := by decide +kernel
theorem dL_law_265 : decode cL_law 265 = .ok (.iload 10, 2) := by decide +kernel
theorem dL_law_267 : decode cL_law 267 = .ok (.ifCond .ge 6, 3) := by decide +kernel
theorem dL_law_270 : decode cL_law 270 = .ok (.goto 58, 3) := by decide +kernel
theorem dL_law_273 : decode cL_law 273 = .ok (.iload 10, 2) := by decide +kernel
theorem dL_law_275 : decode cL_law 275 = .ok (.iload 8, 2) := by decide +kernel
theorem dL_law_277 : decode cL_law 277 = .ok (.bipush 77, 2) := by decide +kernel
theorem dL_law_279 : decode cL_law 279 = .ok (.iadd, 1) := by decide +kernel
theorem dL_law_280 : decode cL_law 280 = .ok (.if_icmp .ne 46, 3) := by decide +kernel
theorem dL_law_283 : decode cL_law 283 = .ok (.aload_n 3, 1) := by decide +kernel
theorem dL_law_284 : decode cL_law 284 = .ok (.invokestatic 287, 3) := by decide +kernel
theorem dL_law_287 : decode cL_law 287 = .ok (.bipush 8, 2) := by decide +kernel
theorem dL_law_289 : decode cL_law 289 = .ok (.iload 7, 2) := by decide +kernel
theorem dL_law_291 : decode cL_law 291 = .ok (.iconst 1, 1) := by decide +kernel
theorem dL_law_292 : decode cL_law 292 = .ok (.iadd, 1) := by decide +kernel
theorem dL_law_293 : decode cL_law 293 = .ok (.invokestatic 290, 3) := by decide +kernel
theorem dL_law_296 : decode cL_law 296 = .ok (.iconst 1, 1) := by decide +kernel
theorem dL_law_297 : decode cL_law 297 = .ok (.isub, 1) := by decide +kernel
theorem dL_law_298 : decode cL_law 298 = .ok (.if_icmp .ne 28, 3) := by decide +kernel
theorem dL_law_301 : decode cL_law 301 = .ok (.aload_n 3, 1) := by decide +kernel
theorem dL_law_302 : decode cL_law 302 = .ok (.invokevirtual 152, 3) := by decide +kernel
theorem dL_law_305 : decode cL_law 305 = .ok (.iload 8, 2) := by decide +kernel
theorem dL_law_307 : decode cL_law 307 = .ok (.if_icmp .ne 19, 3) := by decide +kernel
theorem dL_law_310 : decode cL_law 310 = .ok (.aload_n 3, 1) := by decide +kernel
theorem dL_law_311 : decode cL_law 311 = .ok (.invokevirtual 197, 3) := by decide +kernel
theorem dL_law_314 : decode cL_law 314 = .ok (.iload 9, 2) := by decide +kernel
theorem dL_law_316 : decode cL_law 316 = .ok (.if_icmp .ne 10, 3) := by decide +kernel
theorem dL_law_319 : decode cL_law 319 = .ok (.aload_n 3, 1) := by decide +kernel
theorem dL_law_320 : decode cL_law 320 = .ok (.invokestatic 280, 3) := by decide +kernel
theorem dL_law_323 : decode cL_law 323 = .ok (.ifCond .ne 5, 3) := by decide +kernel
theorem dL_law_326 : decode cL_law 326 = .ok (.iconst 0, 1) := by decide +kernel
theorem dL_law_327 : decode cL_law 327 = .ok (.ireturn, 1) := by decide +kernel
theorem dL_law_328 : decode cL_law 328 = .ok (.iinc 1 1, 3) := by decide +kernel
theorem dL_law_331 : decode cL_law 331 = .ok (.goto (-329), 3) := by decide +kernel
theorem dL_law_334 : decode cL_law 334 = .ok (.iconst 1, 1) := by decide +kernel
theorem dL_law_335 : decode cL_law 335 = .ok (.ireturn, 1) := by decide +kernel
