theorem dL_same_425 : decode cL_same 425 = .ok (.iconst 0, 1) := by decide +kernel
theorem dL_same_426 : decode cL_same 426 = .ok (.aload_n 2, 1) := by decide +kernel
theorem dL_same_427 : decode cL_same 427 = .ok (.aload_n 3, 1) := by decide +kernel
theorem dL_same_428 : decode cL_same 428 = .ok (.aload 5, 2) := by decide +kernel
theorem dL_same_430 : decode cL_same 430 = .ok (.aload 6, 2) := by decide +kernel
theorem dL_same_432 : decode cL_same 432 = .ok (.invokestatic 63, 3) := by decide +kernel
theorem dL_same_435 : decode cL_same 435 = .ok (.aload_n 0, 1) := by decide +kernel
theorem dL_same_436 : decode cL_same 436 = .ok (.iload 11, 2) := by decide +kernel
theorem dL_same_438 : decode cL_same 438 = .ok (.iload 15, 2) := by decide +kernel
theorem dL_same_440 : decode cL_same 440 = .ok (.iload 16, 2) := by decide +kernel
theorem dL_same_442 : decode cL_same 442 = .ok (.invokevirtual 67, 3) := by decide +kernel
theorem dL_same_445 : decode cL_same 445 = .ok (.iload 11, 2) := by decide +kernel
theorem dL_same_447 : decode cL_same 447 = .ok (.iload 15, 2) := by decide +kernel
theorem dL_same_449 : decode cL_same 449 = .ok (.iconst (-1), 1) := by decide +kernel
theorem dL_same_450 : decode cL_same 450 = .ok (.iconst 0, 1) := by decide +kernel
theorem dL_same_451 : decode cL_same 451 = .ok (.aload_n 2, 1) := by decide +kernel
theorem dL_same_452 : decode cL_same 452 = .ok (.aload_n 3, 1) := by decide +kernel
theorem dL_same_453 : decode cL_same 453 = .ok (.aload 5, 2) := by decide +kernel
theorem dL_same_455 : decode cL_same 455 = .ok (.aload 6, 2) := by decide +kernel
theorem dL_same_457 : decode cL_same 457 = .ok (.invokestatic 43, 3) := by decide +kernel
theorem dL_same_460 : decode cL_same 460 = .ok (.ifCond .eq 7, 3) := by decide +kernel
theorem dL_same_463 : decode cL_same 463 = .ok (.iconst 1, 1) := by decide +kernel
theorem dL_same_464 : decode cL_same 464 = .ok (.goto 4, 3) := by decide +kernel
theorem dL_same_467 : decode cL_same 467 = .ok (.iconst 0, 1) := by decide +kernel
theorem dL_same_468 : decode cL_same 468 = .ok (.if_icmp .eq 5, 3) := by decide +kernel
theorem dL_same_471 : decode cL_same 471 = .ok (.iconst 0, 1) := by decide +kernel
theorem dL_same_472 : decode cL_same 472 = .ok (.ireturn, 1) := by decide +kernel
theorem dL_same_473 : decode cL_same 473 = .ok (.iload 16, 2) := by decide +kernel
theorem dL_same_475 : decode cL_same 475 = .ok (.iload 11, 2) := by decide +kernel
theorem dL_same_477 : decode cL_same 477 = .ok (.iload 15, 2) := by decide +kernel
theorem dL_same_479 : decode cL_same 479 = .ok (.aload_n 2, 1) := by decide +kernel
theorem dL_same_480 : decode cL_same 480 = .ok (.aload_n 3, 1) := by decide +kernel
theorem dL_same_481 : decode cL_same 481 = .ok (.aload 5, 2) := by decide +kernel
theorem dL_same_483 : decode cL_same 483 = .ok (.aload 6, 2) := by decide +kernel
theorem dL_same_485 : decode cL_same 485 = .ok (.invokestatic 63, 3) := by decide +kernel
theorem dL_same_488 : decode cL_same 488 = .ok (.aload_n 0, 1) := by decide +kernel
theorem dL_same_489 : decode cL_same 489 = .ok (.iload 11, 2) := by decide +kernel
theorem dL_same_491 : decode cL_same 491 = .ok (.iload 15, 2) := by decide +kernel
theorem dL_same_493 : decode cL_same 493 = .ok (.iload 16, 2) := by decide +kernel
theorem dL_same_495 : decode cL_same 495 = .ok (.invokevirtual 71, 3) := by decide +kernel
theorem dL_same_498 : decode cL_same 498 = .ok (.aload_n 3, 1) := by decide +kernel
theorem dL_same_499 : decode cL_same 499 = .ok (.iconst 4, 1) := by decide +kernel
theorem dL_same_500 : decode cL_same 500 = .ok (.iload 11, 2) := by decide +kernel
theorem dL_same_502 : decode cL_same 502 = .ok (.imul, 1) := by decide +kernel
theorem dL_same_503 : decode cL_same 503 = .ok (.iaload, 1) := by decide +kernel
theorem dL_same_504 : decode cL_same 504 = .ok (.ifCond .ge 14, 3) := by decide +kernel
theorem dL_same_507 : decode cL_same 507 = .ok (.aload_n 2, 1) := by decide +kernel
theorem dL_same_508 : decode cL_same 508 = .ok (.aload 5, 2) := by decide +kernel
theorem dL_same_510 : decode cL_same 510 = .ok (.aload 6, 2) := by decide +kernel
theorem dL_same_512 : decode cL_same 512 = .ok (.invokestatic 74, 3) := by decide +kernel
theorem dL_same_515 : decode cL_same 515 = .ok (.goto 4, 3) := by decide +kernel
theorem dL_same_518 : decode cL_same 518 = .ok (.iconst (-1), 1) := by decide +kernel
theorem dL_same_519 : decode cL_same 519 = .ok (.if_icmp .eq 5, 3) := by decide +kernel
theorem dL_same_522 : decode cL_same 522 = .ok (.iconst 0, 1) := by decide +kernel
theorem dL_same_523 : decode cL_same 523 = .ok (.ireturn, 1) := by decide +kernel
theorem dL_same_524 : decode cL_same 524 = .ok (.iinc 11 1, 3) := by decide +kernel
theorem dL_same_527 : decode cL_same 527 = .ok (.goto (-512), 3) := by decide +kernel
theorem dL_same_530 : decode cL_same 530 = .ok (.iconst 0, 1) := by decide +kernel
theorem dL_same_531 : decode cL_same 531 = .ok (.istore 11, 2) := by decide +kernel
theorem dL_same_533 : decode cL_same 533 = .ok (.iload 11, 2) := by decide +kernel
theorem dL_same_535 : decode cL_same 535 = .ok (.bipush 8, 2) := by decide +kernel
theorem dL_same_537 : decode cL_same 537 = .ok (.if_icmp .ge 96, 3) := by decide +kernel
theorem dL_same_540 : decode cL_same 540 = .ok (.iload 11, 2) := by decide +kernel
theorem dL_same_542 : decode cL_same 542 = .ok (.iconst (-1), 1) := by decide +kernel
theorem dL_same_543 : decode cL_same 543 = .ok (.iconst 0, 1) := by decide +kernel
theorem dL_same_544 : decode cL_same 544 = .ok (.aload_n 2, 1) := by decide +kernel
theorem dL_same_545 : decode cL_same 545 = .ok (.aload_n 3, 1) := by decide +kernel
theorem dL_same_546 : decode cL_same 546 = .ok (.aload 5, 2) := by decide +kernel
theorem dL_same_548 : decode cL_same 548 = .ok (.aload 6, 2) := by decide +kernel
theorem dL_same_550 : decode cL_same 550 = .ok (.invokestatic 63, 3) := by decide +kernel
theorem dL_same_553 : decode cL_same 553 = .ok (.aload_n 2, 1) := by decide +kernel
theorem dL_same_554 : decode cL_same 554 = .ok (.aload 5, 2) := by decide +kernel
theorem dL_same_556 : decode cL_same 556 = .ok (.aload 6, 2) := by decide +kernel
theorem dL_same_558 : decode cL_same 558 = .ok (.invokestatic 74, 3) := by decide +kernel
theorem dL_same_561 : decode cL_same 561 = .ok (.istore 12, 2) := by decide +kernel
theorem dL_same_563 : decode cL_same 563 = .ok (.iconst 0, 1) := by decide +kernel
theorem dL_same_564 : decode cL_same 564 = .ok (.istore 13, 2) := by decide +kernel
theorem dL_same_566 : decode cL_same 566 = .ok (.iload 13, 2) := by decide +kernel
theorem dL_same_568 : decode cL_same 568 = .ok (.aload_n 2, 1) := by decide +kernel
theorem dL_same_569 : decode cL_same 569 = .ok (.iconst 2, 1) := by decide +kernel
theorem dL_same_570 : decode cL_same 570 = .ok (.iaload, 1) := by decide +kernel
theorem dL_same_571 : decode cL_same 571 = .ok (.if_icmp .ge 29, 3) := by decide +kernel
theorem dL_same_574 : decode cL_same 574 = .ok (.aload_n 0, 1) := by decide +kernel
theorem dL_same_575 : decode cL_same 575 = .ok (.iload 13, 2) := by decide +kernel
theorem dL_same_577 : decode cL_same 577 = .ok (.iload 11, 2) := by decide +kernel
theorem dL_same_579 : decode cL_same 579 = .ok (.invokevirtual 78, 3) := by decide +kernel
theorem dL_same_582 : decode cL_same 582 = .ok (.iload 12, 2) := by decide +kernel
theorem dL_same_584 : decode cL_same 584 = .ok (.iload 13, 2) := by decide +kernel
theorem dL_same_586 : decode cL_same 586 = .ok (.ishr, 1) := by decide +kernel
theorem dL_same_587 : decode cL_same 587 = .ok (.iconst 1, 1) := by decide +kernel
