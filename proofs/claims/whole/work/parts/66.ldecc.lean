theorem dL_440 : decode code 440 = .ok (.iconst 1, 1) := by decide +kernel
theorem dL_441 : decode code 441 = .ok (.iadd, 1) := by decide +kernel
theorem dL_442 : decode code 442 = .ok (.iaload, 1) := by decide +kernel
theorem dL_443 : decode code 443 = .ok (.aload_n 0, 1) := by decide +kernel
theorem dL_444 : decode code 444 = .ok (.iload_n 3, 1) := by decide +kernel
theorem dL_445 : decode code 445 = .ok (.iconst 2, 1) := by decide +kernel
theorem dL_446 : decode code 446 = .ok (.iadd, 1) := by decide +kernel
theorem dL_447 : decode code 447 = .ok (.iaload, 1) := by decide +kernel
theorem dL_448 : decode code 448 = .ok (.invokevirtual 48, 3) := by decide +kernel
theorem dL_451 : decode code 451 = .ok (.aload_n 2, 1) := by decide +kernel
theorem dL_452 : decode code 452 = .ok (.aload_n 0, 1) := by decide +kernel
theorem dL_453 : decode code 453 = .ok (.iload_n 3, 1) := by decide +kernel
theorem dL_454 : decode code 454 = .ok (.iconst 1, 1) := by decide +kernel
theorem dL_455 : decode code 455 = .ok (.iadd, 1) := by decide +kernel
theorem dL_456 : decode code 456 = .ok (.iaload, 1) := by decide +kernel
theorem dL_457 : decode code 457 = .ok (.aload_n 0, 1) := by decide +kernel
theorem dL_458 : decode code 458 = .ok (.iload_n 3, 1) := by decide +kernel
theorem dL_459 : decode code 459 = .ok (.iconst 2, 1) := by decide +kernel
theorem dL_460 : decode code 460 = .ok (.iadd, 1) := by decide +kernel
theorem dL_461 : decode code 461 = .ok (.iaload, 1) := by decide +kernel
theorem dL_462 : decode code 462 = .ok (.invokevirtual 51, 3) := by decide +kernel
theorem dL_465 : decode code 465 = .ok (.if_icmp .eq 308, 3) := by decide +kernel
theorem dL_468 : decode code 468 = .ok (.iconst 0, 1) := by decide +kernel
theorem dL_469 : decode code 469 = .ok (.ireturn, 1) := by decide +kernel
theorem dL_470 : decode code 470 = .ok (.aload_n 1, 1) := by decide +kernel
theorem dL_471 : decode code 471 = .ok (.invokevirtual 52, 3) := by decide +kernel
theorem dL_474 : decode code 474 = .ok (.aload_n 2, 1) := by decide +kernel
theorem dL_475 : decode code 475 = .ok (.invokevirtual 56, 3) := by decide +kernel
theorem dL_478 : decode code 478 = .ok (.if_icmp .eq 295, 3) := by decide +kernel
theorem dL_481 : decode code 481 = .ok (.iconst 0, 1) := by decide +kernel
theorem dL_482 : decode code 482 = .ok (.ireturn, 1) := by decide +kernel
theorem dL_483 : decode code 483 = .ok (.aload_n 1, 1) := by decide +kernel
theorem dL_484 : decode code 484 = .ok (.aload_n 0, 1) := by decide +kernel
theorem dL_485 : decode code 485 = .ok (.iload_n 3, 1) := by decide +kernel
theorem dL_486 : decode code 486 = .ok (.iconst 1, 1) := by decide +kernel
theorem dL_487 : decode code 487 = .ok (.iadd, 1) := by decide +kernel
theorem dL_488 : decode code 488 = .ok (.iaload, 1) := by decide +kernel
theorem dL_489 : decode code 489 = .ok (.invokevirtual 57, 3) := by decide +kernel
theorem dL_492 : decode code 492 = .ok (.aload_n 2, 1) := by decide +kernel
theorem dL_493 : decode code 493 = .ok (.aload_n 0, 1) := by decide +kernel
theorem dL_494 : decode code 494 = .ok (.iload_n 3, 1) := by decide +kernel
theorem dL_495 : decode code 495 = .ok (.iconst 1, 1) := by decide +kernel
theorem dL_496 : decode code 496 = .ok (.iadd, 1) := by decide +kernel
theorem dL_497 : decode code 497 = .ok (.iaload, 1) := by decide +kernel
theorem dL_498 : decode code 498 = .ok (.invokevirtual 61, 3) := by decide +kernel
theorem dL_501 : decode code 501 = .ok (.if_icmp .eq 272, 3) := by decide +kernel
theorem dL_504 : decode code 504 = .ok (.iconst 0, 1) := by decide +kernel
theorem dL_505 : decode code 505 = .ok (.ireturn, 1) := by decide +kernel
theorem dL_506 : decode code 506 = .ok (.aload_n 1, 1) := by decide +kernel
theorem dL_507 : decode code 507 = .ok (.aload_n 0, 1) := by decide +kernel
theorem dL_508 : decode code 508 = .ok (.iload_n 3, 1) := by decide +kernel
theorem dL_509 : decode code 509 = .ok (.iconst 1, 1) := by decide +kernel
theorem dL_510 : decode code 510 = .ok (.iadd, 1) := by decide +kernel
theorem dL_511 : decode code 511 = .ok (.iaload, 1) := by decide +kernel
theorem dL_512 : decode code 512 = .ok (.aload_n 0, 1) := by decide +kernel
theorem dL_513 : decode code 513 = .ok (.iload_n 3, 1) := by decide +kernel
theorem dL_514 : decode code 514 = .ok (.iconst 2, 1) := by decide +kernel
theorem dL_515 : decode code 515 = .ok (.iadd, 1) := by decide +kernel
theorem dL_516 : decode code 516 = .ok (.iaload, 1) := by decide +kernel
theorem dL_517 : decode code 517 = .ok (.invokevirtual 62, 3) := by decide +kernel
theorem dL_520 : decode code 520 = .ok (.aload_n 2, 1) := by decide +kernel
theorem dL_521 : decode code 521 = .ok (.aload_n 0, 1) := by decide +kernel
theorem dL_522 : decode code 522 = .ok (.iload_n 3, 1) := by decide +kernel
theorem dL_523 : decode code 523 = .ok (.iconst 1, 1) := by decide +kernel
theorem dL_524 : decode code 524 = .ok (.iadd, 1) := by decide +kernel
theorem dL_525 : decode code 525 = .ok (.iaload, 1) := by decide +kernel
theorem dL_526 : decode code 526 = .ok (.aload_n 0, 1) := by decide +kernel
theorem dL_527 : decode code 527 = .ok (.iload_n 3, 1) := by decide +kernel
theorem dL_528 : decode code 528 = .ok (.iconst 2, 1) := by decide +kernel
theorem dL_529 : decode code 529 = .ok (.iadd, 1) := by decide +kernel
theorem dL_530 : decode code 530 = .ok (.iaload, 1) := by decide +kernel
theorem dL_531 : decode code 531 = .ok (.invokevirtual 65, 3) := by decide +kernel
theorem dL_534 : decode code 534 = .ok (.if_icmp .eq 239, 3) := by decide +kernel
theorem dL_537 : decode code 537 = .ok (.iconst 0, 1) := by decide +kernel
theorem dL_538 : decode code 538 = .ok (.ireturn, 1) := by decide +kernel
theorem dL_539 : decode code 539 = .ok (.aload_n 1, 1) := by decide +kernel
theorem dL_540 : decode code 540 = .ok (.aload_n 0, 1) := by decide +kernel
theorem dL_541 : decode code 541 = .ok (.iload_n 3, 1) := by decide +kernel
theorem dL_542 : decode code 542 = .ok (.iconst 1, 1) := by decide +kernel
theorem dL_543 : decode code 543 = .ok (.iadd, 1) := by decide +kernel
theorem dL_544 : decode code 544 = .ok (.iaload, 1) := by decide +kernel
theorem dL_545 : decode code 545 = .ok (.aload_n 0, 1) := by decide +kernel
theorem dL_546 : decode code 546 = .ok (.iload_n 3, 1) := by decide +kernel
theorem dL_547 : decode code 547 = .ok (.iconst 2, 1) := by decide +kernel
theorem dL_548 : decode code 548 = .ok (.iadd, 1) := by decide +kernel
theorem dL_549 : decode code 549 = .ok (.iaload, 1) := by decide +kernel
theorem dL_550 : decode code 550 = .ok (.invokevirtual 66, 3) := by decide +kernel
theorem dL_553 : decode code 553 = .ok (.aload_n 2, 1) := by decide +kernel
theorem dL_554 : decode code 554 = .ok (.aload_n 0, 1) := by decide +kernel
theorem dL_555 : decode code 555 = .ok (.iload_n 3, 1) := by decide +kernel
theorem dL_556 : decode code 556 = .ok (.iconst 1, 1) := by decide +kernel
theorem dL_557 : decode code 557 = .ok (.iadd, 1) := by decide +kernel
theorem dL_558 : decode code 558 = .ok (.iaload, 1) := by decide +kernel
theorem dL_559 : decode code 559 = .ok (.aload_n 0, 1) := by decide +kernel
theorem dL_560 : decode code 560 = .ok (.iload_n 3, 1) := by decide +kernel
theorem dL_561 : decode code 561 = .ok (.iconst 2, 1) := by decide +kernel
theorem dL_562 : decode code 562 = .ok (.iadd, 1) := by decide +kernel
theorem dL_563 : decode code 563 = .ok (.iaload, 1) := by decide +kernel
theorem dL_564 : decode code 564 = .ok (.invokevirtual 69, 3) := by decide +kernel
theorem dL_567 : decode code 567 = .ok (.if_icmp .eq 206, 3) := by decide +kernel
theorem dL_570 : decode code 570 = .ok (.iconst 0, 1) := by decide +kernel
theorem dL_571 : decode code 571 = .ok (.ireturn, 1) := by decide +kernel
theorem dL_572 : decode code 572 = .ok (.aload_n 1, 1) := by decide +kernel
theorem dL_573 : decode code 573 = .ok (.aload_n 0, 1) := by decide +kernel
theorem dL_574 : decode code 574 = .ok (.iload_n 3, 1) := by decide +kernel
theorem dL_575 : decode code 575 = .ok (.iconst 1, 1) := by decide +kernel
theorem dL_576 : decode code 576 = .ok (.iadd, 1) := by decide +kernel
theorem dL_577 : decode code 577 = .ok (.iaload, 1) := by decide +kernel
theorem dL_578 : decode code 578 = .ok (.aload_n 0, 1) := by decide +kernel
theorem dL_579 : decode code 579 = .ok (.iload_n 3, 1) := by decide +kernel
theorem dL_580 : decode code 580 = .ok (.iconst 2, 1) := by decide +kernel
theorem dL_581 : decode code 581 = .ok (.iadd, 1) := by decide +kernel
theorem dL_582 : decode code 582 = .ok (.iaload, 1) := by decide +kernel
theorem dL_583 : decode code 583 = .ok (.invokevirtual 70, 3) := by decide +kernel
theorem dL_586 : decode code 586 = .ok (.aload_n 2, 1) := by decide +kernel
theorem dL_587 : decode code 587 = .ok (.aload_n 0, 1) := by decide +kernel
theorem dL_588 : decode code 588 = .ok (.iload_n 3, 1) := by decide +kernel
theorem dL_589 : decode code 589 = .ok (.iconst 1, 1) := by decide +kernel
theorem dL_590 : decode code 590 = .ok (.iadd, 1) := by decide +kernel
theorem dL_591 : decode code 591 = .ok (.iaload, 1) := by decide +kernel
theorem dL_592 : decode code 592 = .ok (.aload_n 0, 1) := by decide +kernel
theorem dL_593 : decode code 593 = .ok (.iload_n 3, 1) := by decide +kernel
theorem dL_594 : decode code 594 = .ok (.iconst 2, 1) := by decide +kernel
theorem dL_595 : decode code 595 = .ok (.iadd, 1) := by decide +kernel
theorem dL_596 : decode code 596 = .ok (.iaload, 1) := by decide +kernel
theorem dL_597 : decode code 597 = .ok (.invokevirtual 73, 3) := by decide +kernel
theorem dL_600 : decode code 600 = .ok (.if_icmp .eq 173, 3) := by decide +kernel
theorem dL_603 : decode code 603 = .ok (.iconst 0, 1) := by decide +kernel
theorem dL_604 : decode code 604 = .ok (.ireturn, 1) := by decide +kernel
theorem dL_605 : decode code 605 = .ok (.aload_n 1, 1) := by decide +kernel
theorem dL_606 : decode code 606 = .ok (.aload_n 0, 1) := by decide +kernel
theorem dL_607 : decode code 607 = .ok (.iload_n 3, 1) := by decide +kernel
theorem dL_608 : decode code 608 = .ok (.iconst 1, 1) := by decide +kernel
theorem dL_609 : decode code 609 = .ok (.iadd, 1) := by decide +kernel
theorem dL_610 : decode code 610 = .ok (.iaload, 1) := by decide +kernel
theorem dL_611 : decode code 611 = .ok (.aload_n 0, 1) := by decide +kernel
theorem dL_612 : decode code 612 = .ok (.iload_n 3, 1) := by decide +kernel
theorem dL_613 : decode code 613 = .ok (.iconst 2, 1) := by decide +kernel
theorem dL_614 : decode code 614 = .ok (.iadd, 1) := by decide +kernel
theorem dL_615 : decode code 615 = .ok (.iaload, 1) := by decide +kernel
