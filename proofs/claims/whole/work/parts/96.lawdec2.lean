/-! decode rows of the law (by program: wip/whole/gen_law1.py) -/
theorem dl_538 : decode code 538 = .ok (.aload_n 2, 1) := by decide +kernel
theorem dl_539 : decode code 539 = .ok (.aload_n 0, 1) := by decide +kernel
theorem dl_540 : decode code 540 = .ok (.iload_n 3, 1) := by decide +kernel
theorem dl_541 : decode code 541 = .ok (.iconst 1, 1) := by decide +kernel
theorem dl_542 : decode code 542 = .ok (.iadd, 1) := by decide +kernel
theorem dl_543 : decode code 543 = .ok (.iaload, 1) := by decide +kernel
theorem dl_544 : decode code 544 = .ok (.invokevirtual 54, 3) := by decide +kernel
theorem dl_547 : decode code 547 = .ok (.if_icmp .eq 715, 3) := by decide +kernel
theorem dl_550 : decode code 550 = .ok (.iconst 0, 1) := by decide +kernel
theorem dl_551 : decode code 551 = .ok (.ireturn, 1) := by decide +kernel
theorem dl_552 : decode code 552 = .ok (.aload_n 1, 1) := by decide +kernel
theorem dl_553 : decode code 553 = .ok (.aload_n 0, 1) := by decide +kernel
theorem dl_554 : decode code 554 = .ok (.iload_n 3, 1) := by decide +kernel
theorem dl_555 : decode code 555 = .ok (.iconst 1, 1) := by decide +kernel
theorem dl_556 : decode code 556 = .ok (.iadd, 1) := by decide +kernel
theorem dl_557 : decode code 557 = .ok (.iaload, 1) := by decide +kernel
theorem dl_558 : decode code 558 = .ok (.aload_n 0, 1) := by decide +kernel
theorem dl_559 : decode code 559 = .ok (.iload_n 3, 1) := by decide +kernel
theorem dl_560 : decode code 560 = .ok (.iconst 2, 1) := by decide +kernel
theorem dl_561 : decode code 561 = .ok (.iadd, 1) := by decide +kernel
theorem dl_562 : decode code 562 = .ok (.iaload, 1) := by decide +kernel
theorem dl_563 : decode code 563 = .ok (.aload_n 0, 1) := by decide +kernel
theorem dl_564 : decode code 564 = .ok (.iload_n 3, 1) := by decide +kernel
theorem dl_565 : decode code 565 = .ok (.iconst 3, 1) := by decide +kernel
theorem dl_566 : decode code 566 = .ok (.iadd, 1) := by decide +kernel
theorem dl_567 : decode code 567 = .ok (.iaload, 1) := by decide +kernel
theorem dl_568 : decode code 568 = .ok (.ifCond .eq 7, 3) := by decide +kernel
theorem dl_571 : decode code 571 = .ok (.iconst 1, 1) := by decide +kernel
theorem dl_572 : decode code 572 = .ok (.goto 4, 3) := by decide +kernel
theorem dl_575 : decode code 575 = .ok (.iconst 0, 1) := by decide +kernel
theorem dl_576 : decode code 576 = .ok (.invokevirtual 55, 3) := by decide +kernel
theorem dl_579 : decode code 579 = .ok (.aload_n 2, 1) := by decide +kernel
theorem dl_580 : decode code 580 = .ok (.aload_n 0, 1) := by decide +kernel
theorem dl_581 : decode code 581 = .ok (.iload_n 3, 1) := by decide +kernel
theorem dl_582 : decode code 582 = .ok (.iconst 1, 1) := by decide +kernel
theorem dl_583 : decode code 583 = .ok (.iadd, 1) := by decide +kernel
theorem dl_584 : decode code 584 = .ok (.iaload, 1) := by decide +kernel
theorem dl_585 : decode code 585 = .ok (.aload_n 0, 1) := by decide +kernel
theorem dl_586 : decode code 586 = .ok (.iload_n 3, 1) := by decide +kernel
theorem dl_587 : decode code 587 = .ok (.iconst 2, 1) := by decide +kernel
theorem dl_588 : decode code 588 = .ok (.iadd, 1) := by decide +kernel
theorem dl_589 : decode code 589 = .ok (.iaload, 1) := by decide +kernel
theorem dl_590 : decode code 590 = .ok (.aload_n 0, 1) := by decide +kernel
theorem dl_591 : decode code 591 = .ok (.iload_n 3, 1) := by decide +kernel
theorem dl_592 : decode code 592 = .ok (.iconst 3, 1) := by decide +kernel
theorem dl_593 : decode code 593 = .ok (.iadd, 1) := by decide +kernel
theorem dl_594 : decode code 594 = .ok (.iaload, 1) := by decide +kernel
theorem dl_595 : decode code 595 = .ok (.ifCond .eq 7, 3) := by decide +kernel
theorem dl_598 : decode code 598 = .ok (.iconst 1, 1) := by decide +kernel
theorem dl_599 : decode code 599 = .ok (.goto 4, 3) := by decide +kernel
theorem dl_602 : decode code 602 = .ok (.iconst 0, 1) := by decide +kernel
theorem dl_603 : decode code 603 = .ok (.invokevirtual 58, 3) := by decide +kernel
theorem dl_606 : decode code 606 = .ok (.lcmp, 1) := by decide +kernel
theorem dl_607 : decode code 607 = .ok (.ifCond .eq 655, 3) := by decide +kernel
theorem dl_610 : decode code 610 = .ok (.iconst 0, 1) := by decide +kernel
theorem dl_611 : decode code 611 = .ok (.ireturn, 1) := by decide +kernel
theorem dl_612 : decode code 612 = .ok (.aload_n 1, 1) := by decide +kernel
theorem dl_613 : decode code 613 = .ok (.aload_n 0, 1) := by decide +kernel
theorem dl_614 : decode code 614 = .ok (.iload_n 3, 1) := by decide +kernel
theorem dl_615 : decode code 615 = .ok (.iconst 1, 1) := by decide +kernel
theorem dl_616 : decode code 616 = .ok (.iadd, 1) := by decide +kernel
theorem dl_617 : decode code 617 = .ok (.iaload, 1) := by decide +kernel
theorem dl_618 : decode code 618 = .ok (.aload_n 0, 1) := by decide +kernel
theorem dl_619 : decode code 619 = .ok (.iload_n 3, 1) := by decide +kernel
theorem dl_620 : decode code 620 = .ok (.iconst 2, 1) := by decide +kernel
theorem dl_621 : decode code 621 = .ok (.iadd, 1) := by decide +kernel
theorem dl_622 : decode code 622 = .ok (.iaload, 1) := by decide +kernel
theorem dl_623 : decode code 623 = .ok (.invokevirtual 59, 3) := by decide +kernel
theorem dl_626 : decode code 626 = .ok (.aload_n 2, 1) := by decide +kernel
theorem dl_627 : decode code 627 = .ok (.aload_n 0, 1) := by decide +kernel
theorem dl_628 : decode code 628 = .ok (.iload_n 3, 1) := by decide +kernel
theorem dl_629 : decode code 629 = .ok (.iconst 1, 1) := by decide +kernel
theorem dl_630 : decode code 630 = .ok (.iadd, 1) := by decide +kernel
theorem dl_631 : decode code 631 = .ok (.iaload, 1) := by decide +kernel
theorem dl_632 : decode code 632 = .ok (.aload_n 0, 1) := by decide +kernel
theorem dl_633 : decode code 633 = .ok (.iload_n 3, 1) := by decide +kernel
theorem dl_634 : decode code 634 = .ok (.iconst 2, 1) := by decide +kernel
theorem dl_635 : decode code 635 = .ok (.iadd, 1) := by decide +kernel
theorem dl_636 : decode code 636 = .ok (.iaload, 1) := by decide +kernel
theorem dl_637 : decode code 637 = .ok (.invokevirtual 63, 3) := by decide +kernel
theorem dl_640 : decode code 640 = .ok (.if_icmp .eq 622, 3) := by decide +kernel
theorem dl_643 : decode code 643 = .ok (.iconst 0, 1) := by decide +kernel
theorem dl_644 : decode code 644 = .ok (.ireturn, 1) := by decide +kernel
theorem dl_645 : decode code 645 = .ok (.aload_n 1, 1) := by decide +kernel
theorem dl_646 : decode code 646 = .ok (.aload_n 0, 1) := by decide +kernel
theorem dl_647 : decode code 647 = .ok (.iload_n 3, 1) := by decide +kernel
theorem dl_648 : decode code 648 = .ok (.iconst 1, 1) := by decide +kernel
theorem dl_649 : decode code 649 = .ok (.iadd, 1) := by decide +kernel
theorem dl_650 : decode code 650 = .ok (.iaload, 1) := by decide +kernel
theorem dl_651 : decode code 651 = .ok (.invokevirtual 64, 3) := by decide +kernel
theorem dl_654 : decode code 654 = .ok (.aload_n 2, 1) := by decide +kernel
theorem dl_655 : decode code 655 = .ok (.aload_n 0, 1) := by decide +kernel
theorem dl_656 : decode code 656 = .ok (.iload_n 3, 1) := by decide +kernel
theorem dl_657 : decode code 657 = .ok (.iconst 1, 1) := by decide +kernel
theorem dl_658 : decode code 658 = .ok (.iadd, 1) := by decide +kernel
theorem dl_659 : decode code 659 = .ok (.iaload, 1) := by decide +kernel
theorem dl_660 : decode code 660 = .ok (.invokevirtual 67, 3) := by decide +kernel
theorem dl_663 : decode code 663 = .ok (.if_icmp .eq 599, 3) := by decide +kernel
theorem dl_666 : decode code 666 = .ok (.iconst 0, 1) := by decide +kernel
theorem dl_667 : decode code 667 = .ok (.ireturn, 1) := by decide +kernel
theorem dl_668 : decode code 668 = .ok (.aload_n 1, 1) := by decide +kernel
theorem dl_669 : decode code 669 = .ok (.aload_n 0, 1) := by decide +kernel
theorem dl_670 : decode code 670 = .ok (.iload_n 3, 1) := by decide +kernel
theorem dl_671 : decode code 671 = .ok (.iconst 1, 1) := by decide +kernel
theorem dl_672 : decode code 672 = .ok (.iadd, 1) := by decide +kernel
theorem dl_673 : decode code 673 = .ok (.iaload, 1) := by decide +kernel
theorem dl_674 : decode code 674 = .ok (.invokevirtual 68, 3) := by decide +kernel
theorem dl_677 : decode code 677 = .ok (.aload_n 2, 1) := by decide +kernel
theorem dl_678 : decode code 678 = .ok (.aload_n 0, 1) := by decide +kernel
theorem dl_679 : decode code 679 = .ok (.iload_n 3, 1) := by decide +kernel
theorem dl_680 : decode code 680 = .ok (.iconst 1, 1) := by decide +kernel
theorem dl_681 : decode code 681 = .ok (.iadd, 1) := by decide +kernel
theorem dl_682 : decode code 682 = .ok (.iaload, 1) := by decide +kernel
theorem dl_683 : decode code 683 = .ok (.invokevirtual 71, 3) := by decide +kernel
theorem dl_686 : decode code 686 = .ok (.if_icmp .eq 576, 3) := by decide +kernel
theorem dl_689 : decode code 689 = .ok (.iconst 0, 1) := by decide +kernel
theorem dl_690 : decode code 690 = .ok (.ireturn, 1) := by decide +kernel
theorem dl_691 : decode code 691 = .ok (.aload_n 1, 1) := by decide +kernel
theorem dl_692 : decode code 692 = .ok (.aload_n 0, 1) := by decide +kernel
theorem dl_693 : decode code 693 = .ok (.iload_n 3, 1) := by decide +kernel
theorem dl_694 : decode code 694 = .ok (.iconst 1, 1) := by decide +kernel
theorem dl_695 : decode code 695 = .ok (.iadd, 1) := by decide +kernel
theorem dl_696 : decode code 696 = .ok (.iaload, 1) := by decide +kernel
theorem dl_697 : decode code 697 = .ok (.aload_n 0, 1) := by decide +kernel
theorem dl_698 : decode code 698 = .ok (.iload_n 3, 1) := by decide +kernel
theorem dl_699 : decode code 699 = .ok (.iconst 2, 1) := by decide +kernel
theorem dl_700 : decode code 700 = .ok (.iadd, 1) := by decide +kernel
theorem dl_701 : decode code 701 = .ok (.iaload, 1) := by decide +kernel
theorem dl_702 : decode code 702 = .ok (.invokevirtual 72, 3) := by decide +kernel
theorem dl_705 : decode code 705 = .ok (.aload_n 2, 1) := by decide +kernel
theorem dl_706 : decode code 706 = .ok (.aload_n 0, 1) := by decide +kernel
theorem dl_707 : decode code 707 = .ok (.iload_n 3, 1) := by decide +kernel
theorem dl_708 : decode code 708 = .ok (.iconst 1, 1) := by decide +kernel
theorem dl_709 : decode code 709 = .ok (.iadd, 1) := by decide +kernel
theorem dl_710 : decode code 710 = .ok (.iaload, 1) := by decide +kernel
theorem dl_711 : decode code 711 = .ok (.aload_n 0, 1) := by decide +kernel
theorem dl_712 : decode code 712 = .ok (.iload_n 3, 1) := by decide +kernel
theorem dl_713 : decode code 713 = .ok (.iconst 2, 1) := by decide +kernel
theorem dl_714 : decode code 714 = .ok (.iadd, 1) := by decide +kernel
theorem dl_715 : decode code 715 = .ok (.iaload, 1) := by decide +kernel
theorem dl_716 : decode code 716 = .ok (.invokevirtual 75, 3) := by decide +kernel
theorem dl_719 : decode code 719 = .ok (.if_icmp .eq 543, 3) := by decide +kernel
theorem dl_722 : decode code 722 = .ok (.iconst 0, 1) := by decide +kernel
theorem dl_723 : decode code 723 = .ok (.ireturn, 1) := by decide +kernel
theorem dl_724 : decode code 724 = .ok (.aload_n 1, 1) := by decide +kernel
theorem dl_725 : decode code 725 = .ok (.aload_n 0, 1) := by decide +kernel
theorem dl_726 : decode code 726 = .ok (.iload_n 3, 1) := by decide +kernel
theorem dl_727 : decode code 727 = .ok (.iconst 1, 1) := by decide +kernel
theorem dl_728 : decode code 728 = .ok (.iadd, 1) := by decide +kernel
theorem dl_729 : decode code 729 = .ok (.iaload, 1) := by decide +kernel
