theorem dL_law_455 : decode cL_law 455 = .ok (.istore 14, 2) := by decide +kernel
theorem dL_law_457 : decode cL_law 457 = .ok (.iload 8, 2) := by decide +kernel
theorem dL_law_459 : decode cL_law 459 = .ok (.bipush 9, 2) := by decide +kernel
theorem dL_law_461 : decode cL_law 461 = .ok (.iload 13, 2) := by decide +kernel
theorem dL_law_463 : decode cL_law 463 = .ok (.iadd, 1) := by decide +kernel
theorem dL_law_464 : decode cL_law 464 = .ok (.ishr, 1) := by decide +kernel
theorem dL_law_465 : decode cL_law 465 = .ok (.iconst 3, 1) := by decide +kernel
theorem dL_law_466 : decode cL_law 466 = .ok (.invokestatic 60, 3) := by decide +kernel
theorem dL_law_469 : decode cL_law 469 = .ok (.istore 15, 2) := by decide +kernel
theorem dL_law_471 : decode cL_law 471 = .ok (.aload 5, 2) := by decide +kernel
theorem dL_law_473 : decode cL_law 473 = .ok (.iload 14, 2) := by decide +kernel
theorem dL_law_475 : decode cL_law 475 = .ok (.iaload, 1) := by decide +kernel
theorem dL_law_476 : decode cL_law 476 = .ok (.bipush 18, 2) := by decide +kernel
theorem dL_law_478 : decode cL_law 478 = .ok (.ishr, 1) := by decide +kernel
theorem dL_law_479 : decode cL_law 479 = .ok (.iconst 1, 1) := by decide +kernel
theorem dL_law_480 : decode cL_law 480 = .ok (.iand, 1) := by decide +kernel
theorem dL_law_481 : decode cL_law 481 = .ok (.iconst 1, 1) := by decide +kernel
theorem dL_law_482 : decode cL_law 482 = .ok (.if_icmp .ne 23, 3) := by decide +kernel
theorem dL_law_485 : decode cL_law 485 = .ok (.aload 5, 2) := by decide +kernel
theorem dL_law_487 : decode cL_law 487 = .ok (.iload 14, 2) := by decide +kernel
theorem dL_law_489 : decode cL_law 489 = .ok (.iaload, 1) := by decide +kernel
theorem dL_law_490 : decode cL_law 490 = .ok (.bipush 19, 2) := by decide +kernel
theorem dL_law_492 : decode cL_law 492 = .ok (.iload 15, 2) := by decide +kernel
theorem dL_law_494 : decode cL_law 494 = .ok (.iadd, 1) := by decide +kernel
theorem dL_law_495 : decode cL_law 495 = .ok (.ishr, 1) := by decide +kernel
theorem dL_law_496 : decode cL_law 496 = .ok (.iconst 1, 1) := by decide +kernel
theorem dL_law_497 : decode cL_law 497 = .ok (.iand, 1) := by decide +kernel
theorem dL_law_498 : decode cL_law 498 = .ok (.ifCond .ne 7, 3) := by decide +kernel
theorem dL_law_501 : decode cL_law 501 = .ok (.iconst 1, 1) := by decide +kernel
theorem dL_law_502 : decode cL_law 502 = .ok (.goto 4, 3) := by decide +kernel
theorem dL_law_505 : decode cL_law 505 = .ok (.iconst 0, 1) := by decide +kernel
theorem dL_law_506 : decode cL_law 506 = .ok (.istore 16, 2) := by decide +kernel
theorem dL_law_508 : decode cL_law 508 = .ok (.iload 16, 2) := by decide +kernel
theorem dL_law_510 : decode cL_law 510 = .ok (.ifCond .eq 7, 3) := by decide +kernel
theorem dL_law_513 : decode cL_law 513 = .ok (.iconst 1, 1) := by decide +kernel
theorem dL_law_514 : decode cL_law 514 = .ok (.goto 4, 3) := by decide +kernel
theorem dL_law_517 : decode cL_law 517 = .ok (.iconst 0, 1) := by decide +kernel
theorem dL_law_518 : decode cL_law 518 = .ok (.istore 17, 2) := by decide +kernel
theorem dL_law_520 : decode cL_law 520 = .ok (.iconst 0, 1) := by decide +kernel
theorem dL_law_521 : decode cL_law 521 = .ok (.istore 18, 2) := by decide +kernel
theorem dL_law_523 : decode cL_law 523 = .ok (.iload 18, 2) := by decide +kernel
theorem dL_law_525 : decode cL_law 525 = .ok (.aload_n 2, 1) := by decide +kernel
theorem dL_law_526 : decode cL_law 526 = .ok (.iconst 3, 1) := by decide +kernel
theorem dL_law_527 : decode cL_law 527 = .ok (.iaload, 1) := by decide +kernel
theorem dL_law_528 : decode cL_law 528 = .ok (.if_icmp .ge 27, 3) := by decide +kernel
theorem dL_law_531 : decode cL_law 531 = .ok (.iload 17, 2) := by decide +kernel
theorem dL_law_533 : decode cL_law 533 = .ok (.aload 5, 2) := by decide +kernel
theorem dL_law_535 : decode cL_law 535 = .ok (.iload 18, 2) := by decide +kernel
theorem dL_law_537 : decode cL_law 537 = .ok (.iaload, 1) := by decide +kernel
theorem dL_law_538 : decode cL_law 538 = .ok (.bipush 19, 2) := by decide +kernel
theorem dL_law_540 : decode cL_law 540 = .ok (.iload 15, 2) := by decide +kernel
theorem dL_law_542 : decode cL_law 542 = .ok (.iadd, 1) := by decide +kernel
theorem dL_law_543 : decode cL_law 543 = .ok (.ishr, 1) := by decide +kernel
theorem dL_law_544 : decode cL_law 544 = .ok (.iconst 1, 1) := by decide +kernel
theorem dL_law_545 : decode cL_law 545 = .ok (.iand, 1) := by decide +kernel
theorem dL_law_546 : decode cL_law 546 = .ok (.iadd, 1) := by decide +kernel
theorem dL_law_547 : decode cL_law 547 = .ok (.istore 17, 2) := by decide +kernel
theorem dL_law_549 : decode cL_law 549 = .ok (.iinc 18 1, 3) := by decide +kernel
theorem dL_law_552 : decode cL_law 552 = .ok (.goto (-29), 3) := by decide +kernel
theorem dL_law_555 : decode cL_law 555 = .ok (.aload_n 1, 1) := by decide +kernel
theorem dL_law_556 : decode cL_law 556 = .ok (.iload 14, 2) := by decide +kernel
theorem dL_law_558 : decode cL_law 558 = .ok (.iload 15, 2) := by decide +kernel
theorem dL_law_560 : decode cL_law 560 = .ok (.invokevirtual 98, 3) := by decide +kernel
theorem dL_law_563 : decode cL_law 563 = .ok (.iload 16, 2) := by decide +kernel
theorem dL_law_565 : decode cL_law 565 = .ok (.ifCond .eq 8, 3) := by decide +kernel
theorem dL_law_568 : decode cL_law 568 = .ok (.iload 17, 2) := by decide +kernel
theorem dL_law_570 : decode cL_law 570 = .ok (.goto 5, 3) := by decide +kernel
theorem dL_law_573 : decode cL_law 573 = .ok (.bipush (-5), 2) := by decide +kernel
theorem dL_law_575 : decode cL_law 575 = .ok (.if_icmp .eq 5, 3) := by decide +kernel
theorem dL_law_578 : decode cL_law 578 = .ok (.iconst 0, 1) := by decide +kernel
theorem dL_law_579 : decode cL_law 579 = .ok (.ireturn, 1) := by decide +kernel
theorem dL_law_580 : decode cL_law 580 = .ok (.iload 16, 2) := by decide +kernel
theorem dL_law_582 : decode cL_law 582 = .ok (.ifCond .eq 18, 3) := by decide +kernel
theorem dL_law_585 : decode cL_law 585 = .ok (.aload 5, 2) := by decide +kernel
theorem dL_law_587 : decode cL_law 587 = .ok (.iload 14, 2) := by decide +kernel
theorem dL_law_589 : decode cL_law 589 = .ok (.dup2, 1) := by decide +kernel
theorem dL_law_590 : decode cL_law 590 = .ok (.iaload, 1) := by decide +kernel
theorem dL_law_591 : decode cL_law 591 = .ok (.iconst 1, 1) := by decide +kernel
theorem dL_law_592 : decode cL_law 592 = .ok (.bipush 19, 2) := by decide +kernel
theorem dL_law_594 : decode cL_law 594 = .ok (.iload 15, 2) := by decide +kernel
theorem dL_law_596 : decode cL_law 596 = .ok (.iadd, 1) := by decide +kernel
theorem dL_law_597 : decode cL_law 597 = .ok (.ishl, 1) := by decide +kernel
theorem dL_law_598 : decode cL_law 598 = .ok (.ior, 1) := by decide +kernel
theorem dL_law_599 : decode cL_law 599 = .ok (.iastore, 1) := by decide +kernel
theorem dL_law_600 : decode cL_law 600 = .ok (.iinc 13 1, 3) := by decide +kernel
theorem dL_law_603 : decode cL_law 603 = .ok (.goto (-169), 3) := by decide +kernel
theorem dL_law_606 : decode cL_law 606 = .ok (.goto 602, 3) := by decide +kernel
theorem dL_law_609 : decode cL_law 609 = .ok (.iload 9, 2) := by decide +kernel
theorem dL_law_611 : decode cL_law 611 = .ok (.bipush 6, 2) := by decide +kernel
theorem dL_law_613 : decode cL_law 613 = .ok (.if_icmp .ne 174, 3) := by decide +kernel
