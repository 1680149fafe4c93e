/-! THE LAW: its instructions, 2 -/
theorem dl_430 : decode code 430 = .ok (.aload_n 3, 1) := by decide +kernel
theorem dl_431 : decode code 431 = .ok (.invokestatic 90, 3) := by decide +kernel
theorem dl_434 : decode code 434 = .ok (.istore 5, 2) := by decide +kernel
theorem dl_436 : decode code 436 = .ok (.aload_n 2, 1) := by decide +kernel
theorem dl_437 : decode code 437 = .ok (.aload_n 0, 1) := by decide +kernel
theorem dl_438 : decode code 438 = .ok (.iload 4, 2) := by decide +kernel
theorem dl_440 : decode code 440 = .ok (.iconst 1, 1) := by decide +kernel
theorem dl_441 : decode code 441 = .ok (.iadd, 1) := by decide +kernel
theorem dl_442 : decode code 442 = .ok (.iaload, 1) := by decide +kernel
theorem dl_443 : decode code 443 = .ok (.aload_n 0, 1) := by decide +kernel
theorem dl_444 : decode code 444 = .ok (.iload 4, 2) := by decide +kernel
theorem dl_446 : decode code 446 = .ok (.iconst 2, 1) := by decide +kernel
theorem dl_447 : decode code 447 = .ok (.iadd, 1) := by decide +kernel
theorem dl_448 : decode code 448 = .ok (.iaload, 1) := by decide +kernel
theorem dl_449 : decode code 449 = .ok (.aload_n 0, 1) := by decide +kernel
theorem dl_450 : decode code 450 = .ok (.iload 4, 2) := by decide +kernel
theorem dl_452 : decode code 452 = .ok (.iconst 3, 1) := by decide +kernel
theorem dl_453 : decode code 453 = .ok (.iadd, 1) := by decide +kernel
theorem dl_454 : decode code 454 = .ok (.iaload, 1) := by decide +kernel
theorem dl_455 : decode code 455 = .ok (.invokevirtual 93, 3) := by decide +kernel
theorem dl_458 : decode code 458 = .ok (.istore 6, 2) := by decide +kernel
theorem dl_460 : decode code 460 = .ok (.aload_n 2, 1) := by decide +kernel
theorem dl_461 : decode code 461 = .ok (.invokevirtual 71, 3) := by decide +kernel
theorem dl_464 : decode code 464 = .ok (.iload 5, 2) := by decide +kernel
theorem dl_466 : decode code 466 = .ok (.if_icmp .eq 5, 3) := by decide +kernel
theorem dl_471 : decode code 471 = .ok (.iload 5, 2) := by decide +kernel
theorem dl_473 : decode code 473 = .ok (.ifCond .ne 15, 3) := by decide +kernel
theorem dl_476 : decode code 476 = .ok (.aload_n 3, 1) := by decide +kernel
theorem dl_477 : decode code 477 = .ok (.iconst 0, 1) := by decide +kernel
theorem dl_478 : decode code 478 = .ok (.laload, 1) := by decide +kernel
theorem dl_479 : decode code 479 = .ok (.iload 6, 2) := by decide +kernel
theorem dl_481 : decode code 481 = .ok (.i2l, 1) := by decide +kernel
theorem dl_482 : decode code 482 = .ok (.lcmp, 1) := by decide +kernel
theorem dl_483 : decode code 483 = .ok (.ifCond .eq 5, 3) := by decide +kernel
theorem dl_488 : decode code 488 = .ok (.goto 638, 3) := by decide +kernel
theorem dl_491 : decode code 491 = .ok (.aload_n 1, 1) := by decide +kernel
theorem dl_492 : decode code 492 = .ok (.aload_n 0, 1) := by decide +kernel
theorem dl_493 : decode code 493 = .ok (.iload 4, 2) := by decide +kernel
theorem dl_495 : decode code 495 = .ok (.iconst 1, 1) := by decide +kernel
theorem dl_496 : decode code 496 = .ok (.iadd, 1) := by decide +kernel
theorem dl_497 : decode code 497 = .ok (.iaload, 1) := by decide +kernel
theorem dl_498 : decode code 498 = .ok (.aload_n 0, 1) := by decide +kernel
theorem dl_499 : decode code 499 = .ok (.iload 4, 2) := by decide +kernel
theorem dl_501 : decode code 501 = .ok (.iconst 2, 1) := by decide +kernel
theorem dl_502 : decode code 502 = .ok (.iadd, 1) := by decide +kernel
theorem dl_503 : decode code 503 = .ok (.iaload, 1) := by decide +kernel
theorem dl_504 : decode code 504 = .ok (.aload_n 3, 1) := by decide +kernel
theorem dl_505 : decode code 505 = .ok (.invokestatic 94, 3) := by decide +kernel
theorem dl_508 : decode code 508 = .ok (.istore 5, 2) := by decide +kernel
theorem dl_510 : decode code 510 = .ok (.aload_n 2, 1) := by decide +kernel
theorem dl_511 : decode code 511 = .ok (.aload_n 0, 1) := by decide +kernel
theorem dl_512 : decode code 512 = .ok (.iload 4, 2) := by decide +kernel
theorem dl_514 : decode code 514 = .ok (.iconst 1, 1) := by decide +kernel
theorem dl_515 : decode code 515 = .ok (.iadd, 1) := by decide +kernel
theorem dl_516 : decode code 516 = .ok (.iaload, 1) := by decide +kernel
theorem dl_517 : decode code 517 = .ok (.aload_n 0, 1) := by decide +kernel
theorem dl_518 : decode code 518 = .ok (.iload 4, 2) := by decide +kernel
theorem dl_520 : decode code 520 = .ok (.iconst 2, 1) := by decide +kernel
theorem dl_521 : decode code 521 = .ok (.iadd, 1) := by decide +kernel
theorem dl_522 : decode code 522 = .ok (.iaload, 1) := by decide +kernel
theorem dl_523 : decode code 523 = .ok (.invokevirtual 96, 3) := by decide +kernel
theorem dl_526 : decode code 526 = .ok (.istore 6, 2) := by decide +kernel
theorem dl_528 : decode code 528 = .ok (.aload_n 2, 1) := by decide +kernel
theorem dl_529 : decode code 529 = .ok (.invokevirtual 71, 3) := by decide +kernel
theorem dl_532 : decode code 532 = .ok (.iload 5, 2) := by decide +kernel
theorem dl_534 : decode code 534 = .ok (.if_icmp .eq 5, 3) := by decide +kernel
theorem dl_539 : decode code 539 = .ok (.iload 5, 2) := by decide +kernel
theorem dl_541 : decode code 541 = .ok (.ifCond .ne 15, 3) := by decide +kernel
theorem dl_544 : decode code 544 = .ok (.aload_n 3, 1) := by decide +kernel
theorem dl_545 : decode code 545 = .ok (.iconst 0, 1) := by decide +kernel
theorem dl_546 : decode code 546 = .ok (.laload, 1) := by decide +kernel
theorem dl_547 : decode code 547 = .ok (.iload 6, 2) := by decide +kernel
theorem dl_549 : decode code 549 = .ok (.i2l, 1) := by decide +kernel
theorem dl_550 : decode code 550 = .ok (.lcmp, 1) := by decide +kernel
theorem dl_551 : decode code 551 = .ok (.ifCond .eq 5, 3) := by decide +kernel
theorem dl_556 : decode code 556 = .ok (.goto 570, 3) := by decide +kernel
theorem dl_559 : decode code 559 = .ok (.aload_n 1, 1) := by decide +kernel
theorem dl_560 : decode code 560 = .ok (.aload_n 0, 1) := by decide +kernel
theorem dl_561 : decode code 561 = .ok (.iload 4, 2) := by decide +kernel
theorem dl_563 : decode code 563 = .ok (.iconst 1, 1) := by decide +kernel
theorem dl_564 : decode code 564 = .ok (.iadd, 1) := by decide +kernel
theorem dl_565 : decode code 565 = .ok (.iaload, 1) := by decide +kernel
theorem dl_566 : decode code 566 = .ok (.aload_n 3, 1) := by decide +kernel
theorem dl_567 : decode code 567 = .ok (.invokestatic 97, 3) := by decide +kernel
theorem dl_570 : decode code 570 = .ok (.istore 5, 2) := by decide +kernel
theorem dl_572 : decode code 572 = .ok (.aload_n 2, 1) := by decide +kernel
theorem dl_573 : decode code 573 = .ok (.aload_n 0, 1) := by decide +kernel
theorem dl_574 : decode code 574 = .ok (.iload 4, 2) := by decide +kernel
theorem dl_576 : decode code 576 = .ok (.iconst 1, 1) := by decide +kernel
theorem dl_577 : decode code 577 = .ok (.iadd, 1) := by decide +kernel
theorem dl_578 : decode code 578 = .ok (.iaload, 1) := by decide +kernel
theorem dl_579 : decode code 579 = .ok (.invokevirtual 100, 3) := by decide +kernel
theorem dl_582 : decode code 582 = .ok (.istore 6, 2) := by decide +kernel
theorem dl_584 : decode code 584 = .ok (.aload_n 2, 1) := by decide +kernel
theorem dl_585 : decode code 585 = .ok (.invokevirtual 71, 3) := by decide +kernel
theorem dl_588 : decode code 588 = .ok (.iload 5, 2) := by decide +kernel
theorem dl_590 : decode code 590 = .ok (.if_icmp .eq 5, 3) := by decide +kernel
theorem dl_595 : decode code 595 = .ok (.iload 5, 2) := by decide +kernel
theorem dl_597 : decode code 597 = .ok (.ifCond .ne 15, 3) := by decide +kernel
theorem dl_600 : decode code 600 = .ok (.aload_n 3, 1) := by decide +kernel
theorem dl_601 : decode code 601 = .ok (.iconst 0, 1) := by decide +kernel
theorem dl_602 : decode code 602 = .ok (.laload, 1) := by decide +kernel
theorem dl_603 : decode code 603 = .ok (.iload 6, 2) := by decide +kernel
theorem dl_605 : decode code 605 = .ok (.i2l, 1) := by decide +kernel
theorem dl_606 : decode code 606 = .ok (.lcmp, 1) := by decide +kernel
theorem dl_607 : decode code 607 = .ok (.ifCond .eq 5, 3) := by decide +kernel
theorem dl_612 : decode code 612 = .ok (.goto 514, 3) := by decide +kernel
theorem dl_615 : decode code 615 = .ok (.aload_n 1, 1) := by decide +kernel
theorem dl_616 : decode code 616 = .ok (.aload_n 0, 1) := by decide +kernel
theorem dl_617 : decode code 617 = .ok (.iload 4, 2) := by decide +kernel
theorem dl_619 : decode code 619 = .ok (.iconst 1, 1) := by decide +kernel
theorem dl_620 : decode code 620 = .ok (.iadd, 1) := by decide +kernel
theorem dl_621 : decode code 621 = .ok (.iaload, 1) := by decide +kernel
theorem dl_622 : decode code 622 = .ok (.aload_n 3, 1) := by decide +kernel
theorem dl_623 : decode code 623 = .ok (.invokestatic 101, 3) := by decide +kernel
theorem dl_626 : decode code 626 = .ok (.istore 5, 2) := by decide +kernel
theorem dl_628 : decode code 628 = .ok (.aload_n 2, 1) := by decide +kernel
theorem dl_629 : decode code 629 = .ok (.aload_n 0, 1) := by decide +kernel
theorem dl_630 : decode code 630 = .ok (.iload 4, 2) := by decide +kernel
theorem dl_632 : decode code 632 = .ok (.iconst 1, 1) := by decide +kernel
theorem dl_633 : decode code 633 = .ok (.iadd, 1) := by decide +kernel
theorem dl_634 : decode code 634 = .ok (.iaload, 1) := by decide +kernel
theorem dl_635 : decode code 635 = .ok (.invokevirtual 103, 3) := by decide +kernel
theorem dl_638 : decode code 638 = .ok (.istore 6, 2) := by decide +kernel
theorem dl_640 : decode code 640 = .ok (.aload_n 2, 1) := by decide +kernel
theorem dl_641 : decode code 641 = .ok (.invokevirtual 71, 3) := by decide +kernel
theorem dl_644 : decode code 644 = .ok (.iload 5, 2) := by decide +kernel
theorem dl_646 : decode code 646 = .ok (.if_icmp .eq 5, 3) := by decide +kernel
theorem dl_651 : decode code 651 = .ok (.iload 5, 2) := by decide +kernel
theorem dl_653 : decode code 653 = .ok (.ifCond .ne 15, 3) := by decide +kernel
theorem dl_656 : decode code 656 = .ok (.aload_n 3, 1) := by decide +kernel
theorem dl_657 : decode code 657 = .ok (.iconst 0, 1) := by decide +kernel
theorem dl_658 : decode code 658 = .ok (.laload, 1) := by decide +kernel
theorem dl_659 : decode code 659 = .ok (.iload 6, 2) := by decide +kernel
theorem dl_661 : decode code 661 = .ok (.i2l, 1) := by decide +kernel
theorem dl_662 : decode code 662 = .ok (.lcmp, 1) := by decide +kernel
theorem dl_663 : decode code 663 = .ok (.ifCond .eq 5, 3) := by decide +kernel
theorem dl_668 : decode code 668 = .ok (.goto 458, 3) := by decide +kernel
theorem dl_671 : decode code 671 = .ok (.aload_n 1, 1) := by decide +kernel
theorem dl_672 : decode code 672 = .ok (.aload_n 0, 1) := by decide +kernel
theorem dl_673 : decode code 673 = .ok (.iload 4, 2) := by decide +kernel
theorem dl_675 : decode code 675 = .ok (.iconst 1, 1) := by decide +kernel
theorem dl_676 : decode code 676 = .ok (.iadd, 1) := by decide +kernel
theorem dl_677 : decode code 677 = .ok (.iaload, 1) := by decide +kernel
theorem dl_678 : decode code 678 = .ok (.aload_n 0, 1) := by decide +kernel
theorem dl_679 : decode code 679 = .ok (.iload 4, 2) := by decide +kernel
theorem dl_681 : decode code 681 = .ok (.iconst 2, 1) := by decide +kernel
theorem dl_682 : decode code 682 = .ok (.iadd, 1) := by decide +kernel
theorem dl_683 : decode code 683 = .ok (.iaload, 1) := by decide +kernel
theorem dl_684 : decode code 684 = .ok (.aload_n 3, 1) := by decide +kernel
theorem dl_685 : decode code 685 = .ok (.invokestatic 104, 3) := by decide +kernel
theorem dl_688 : decode code 688 = .ok (.istore 5, 2) := by decide +kernel
theorem dl_690 : decode code 690 = .ok (.aload_n 2, 1) := by decide +kernel
theorem dl_691 : decode code 691 = .ok (.aload_n 0, 1) := by decide +kernel
theorem dl_692 : decode code 692 = .ok (.iload 4, 2) := by decide +kernel
theorem dl_694 : decode code 694 = .ok (.iconst 1, 1) := by decide +kernel
theorem dl_695 : decode code 695 = .ok (.iadd, 1) := by decide +kernel
theorem dl_696 : decode code 696 = .ok (.iaload, 1) := by decide +kernel
theorem dl_697 : decode code 697 = .ok (.aload_n 0, 1) := by decide +kernel
theorem dl_698 : decode code 698 = .ok (.iload 4, 2) := by decide +kernel
theorem dl_700 : decode code 700 = .ok (.iconst 2, 1) := by decide +kernel
theorem dl_701 : decode code 701 = .ok (.iadd, 1) := by decide +kernel
theorem dl_702 : decode code 702 = .ok (.iaload, 1) := by decide +kernel
theorem dl_703 : decode code 703 = .ok (.invokevirtual 106, 3) := by decide +kernel
theorem dl_706 : decode code 706 = .ok (.istore 6, 2) := by decide +kernel
theorem dl_708 : decode code 708 = .ok (.aload_n 2, 1) := by decide +kernel
theorem dl_709 : decode code 709 = .ok (.invokevirtual 71, 3) := by decide +kernel
theorem dl_712 : decode code 712 = .ok (.iload 5, 2) := by decide +kernel
theorem dl_714 : decode code 714 = .ok (.if_icmp .eq 5, 3) := by decide +kernel
theorem dl_719 : decode code 719 = .ok (.iload 5, 2) := by decide +kernel
theorem dl_721 : decode code 721 = .ok (.ifCond .ne 15, 3) := by decide +kernel
theorem dl_724 : decode code 724 = .ok (.aload_n 3, 1) := by decide +kernel
theorem dl_725 : decode code 725 = .ok (.iconst 0, 1) := by decide +kernel
theorem dl_726 : decode code 726 = .ok (.laload, 1) := by decide +kernel
theorem dl_727 : decode code 727 = .ok (.iload 6, 2) := by decide +kernel
theorem dl_729 : decode code 729 = .ok (.i2l, 1) := by decide +kernel
theorem dl_730 : decode code 730 = .ok (.lcmp, 1) := by decide +kernel
theorem dl_731 : decode code 731 = .ok (.ifCond .eq 5, 3) := by decide +kernel
theorem dl_736 : decode code 736 = .ok (.goto 390, 3) := by decide +kernel
theorem dl_739 : decode code 739 = .ok (.aload_n 1, 1) := by decide +kernel
theorem dl_740 : decode code 740 = .ok (.aload_n 0, 1) := by decide +kernel
theorem dl_741 : decode code 741 = .ok (.iload 4, 2) := by decide +kernel
theorem dl_743 : decode code 743 = .ok (.iconst 1, 1) := by decide +kernel
theorem dl_744 : decode code 744 = .ok (.iadd, 1) := by decide +kernel
theorem dl_745 : decode code 745 = .ok (.iaload, 1) := by decide +kernel
theorem dl_746 : decode code 746 = .ok (.aload_n 0, 1) := by decide +kernel
theorem dl_747 : decode code 747 = .ok (.iload 4, 2) := by decide +kernel
theorem dl_749 : decode code 749 = .ok (.iconst 2, 1) := by decide +kernel
theorem dl_750 : decode code 750 = .ok (.iadd, 1) := by decide +kernel
theorem dl_751 : decode code 751 = .ok (.iaload, 1) := by decide +kernel
theorem dl_752 : decode code 752 = .ok (.aload_n 0, 1) := by decide +kernel
theorem dl_753 : decode code 753 = .ok (.iload 4, 2) := by decide +kernel
theorem dl_755 : decode code 755 = .ok (.iconst 3, 1) := by decide +kernel
theorem dl_756 : decode code 756 = .ok (.iadd, 1) := by decide +kernel
theorem dl_757 : decode code 757 = .ok (.iaload, 1) := by decide +kernel
theorem dl_758 : decode code 758 = .ok (.aload_n 3, 1) := by decide +kernel
theorem dl_759 : decode code 759 = .ok (.invokestatic 107, 3) := by decide +kernel
theorem dl_762 : decode code 762 = .ok (.istore 5, 2) := by decide +kernel
theorem dl_764 : decode code 764 = .ok (.aload_n 2, 1) := by decide +kernel
theorem dl_765 : decode code 765 = .ok (.aload_n 0, 1) := by decide +kernel
theorem dl_766 : decode code 766 = .ok (.iload 4, 2) := by decide +kernel
theorem dl_768 : decode code 768 = .ok (.iconst 1, 1) := by decide +kernel
theorem dl_769 : decode code 769 = .ok (.iadd, 1) := by decide +kernel
theorem dl_770 : decode code 770 = .ok (.iaload, 1) := by decide +kernel
theorem dl_771 : decode code 771 = .ok (.aload_n 0, 1) := by decide +kernel
theorem dl_772 : decode code 772 = .ok (.iload 4, 2) := by decide +kernel
theorem dl_774 : decode code 774 = .ok (.iconst 2, 1) := by decide +kernel
theorem dl_775 : decode code 775 = .ok (.iadd, 1) := by decide +kernel
theorem dl_776 : decode code 776 = .ok (.iaload, 1) := by decide +kernel
theorem dl_777 : decode code 777 = .ok (.aload_n 0, 1) := by decide +kernel
