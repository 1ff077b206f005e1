theorem d_law_602 : decode b_law 602 = .ok (.iconst 2, 1) := by decide +kernel
theorem d_law_603 : decode b_law 603 = .ok (.iadd, 1) := by decide +kernel
theorem d_law_604 : decode b_law 604 = .ok (.iaload, 1) := by decide +kernel
theorem d_law_605 : decode b_law 605 = .ok (.invokevirtual 103, 3) := by decide +kernel
theorem d_law_608 : decode b_law 608 = .ok (.lcmp, 1) := by decide +kernel
theorem d_law_609 : decode b_law 609 = .ok (.ifCond .eq 94, 3) := by decide +kernel
theorem d_law_614 : decode b_law 614 = .ok (.aload_n 1, 1) := by decide +kernel
theorem d_law_615 : decode b_law 615 = .ok (.aload_n 0, 1) := by decide +kernel
theorem d_law_616 : decode b_law 616 = .ok (.iload_n 3, 1) := by decide +kernel
theorem d_law_617 : decode b_law 617 = .ok (.iconst 1, 1) := by decide +kernel
theorem d_law_618 : decode b_law 618 = .ok (.iadd, 1) := by decide +kernel
theorem d_law_619 : decode b_law 619 = .ok (.iaload, 1) := by decide +kernel
theorem d_law_620 : decode b_law 620 = .ok (.aload_n 0, 1) := by decide +kernel
theorem d_law_621 : decode b_law 621 = .ok (.iload_n 3, 1) := by decide +kernel
theorem d_law_622 : decode b_law 622 = .ok (.iconst 2, 1) := by decide +kernel
theorem d_law_623 : decode b_law 623 = .ok (.iadd, 1) := by decide +kernel
theorem d_law_624 : decode b_law 624 = .ok (.iaload, 1) := by decide +kernel
theorem d_law_625 : decode b_law 625 = .ok (.aload_n 0, 1) := by decide +kernel
theorem d_law_626 : decode b_law 626 = .ok (.iload_n 3, 1) := by decide +kernel
theorem d_law_627 : decode b_law 627 = .ok (.iconst 3, 1) := by decide +kernel
theorem d_law_628 : decode b_law 628 = .ok (.iadd, 1) := by decide +kernel
theorem d_law_629 : decode b_law 629 = .ok (.iaload, 1) := by decide +kernel
theorem d_law_630 : decode b_law 630 = .ok (.invokevirtual 104, 3) := by decide +kernel
theorem d_law_633 : decode b_law 633 = .ok (.aload_n 2, 1) := by decide +kernel
theorem d_law_634 : decode b_law 634 = .ok (.aload_n 0, 1) := by decide +kernel
theorem d_law_635 : decode b_law 635 = .ok (.iload_n 3, 1) := by decide +kernel
theorem d_law_636 : decode b_law 636 = .ok (.iconst 1, 1) := by decide +kernel
theorem d_law_637 : decode b_law 637 = .ok (.iadd, 1) := by decide +kernel
theorem d_law_638 : decode b_law 638 = .ok (.iaload, 1) := by decide +kernel
theorem d_law_639 : decode b_law 639 = .ok (.aload_n 0, 1) := by decide +kernel
theorem d_law_640 : decode b_law 640 = .ok (.iload_n 3, 1) := by decide +kernel
theorem d_law_641 : decode b_law 641 = .ok (.iconst 2, 1) := by decide +kernel
theorem d_law_642 : decode b_law 642 = .ok (.iadd, 1) := by decide +kernel
theorem d_law_643 : decode b_law 643 = .ok (.iaload, 1) := by decide +kernel
theorem d_law_644 : decode b_law 644 = .ok (.aload_n 0, 1) := by decide +kernel
theorem d_law_645 : decode b_law 645 = .ok (.iload_n 3, 1) := by decide +kernel
theorem d_law_646 : decode b_law 646 = .ok (.iconst 3, 1) := by decide +kernel
theorem d_law_647 : decode b_law 647 = .ok (.iadd, 1) := by decide +kernel
theorem d_law_648 : decode b_law 648 = .ok (.iaload, 1) := by decide +kernel
theorem d_law_649 : decode b_law 649 = .ok (.invokevirtual 108, 3) := by decide +kernel
theorem d_law_652 : decode b_law 652 = .ok (.if_icmp .eq 51, 3) := by decide +kernel
theorem d_law_657 : decode b_law 657 = .ok (.aload_n 1, 1) := by decide +kernel
theorem d_law_658 : decode b_law 658 = .ok (.aload_n 0, 1) := by decide +kernel
theorem d_law_659 : decode b_law 659 = .ok (.iload_n 3, 1) := by decide +kernel
theorem d_law_660 : decode b_law 660 = .ok (.iconst 1, 1) := by decide +kernel
theorem d_law_661 : decode b_law 661 = .ok (.iadd, 1) := by decide +kernel
theorem d_law_662 : decode b_law 662 = .ok (.iaload, 1) := by decide +kernel
theorem d_law_663 : decode b_law 663 = .ok (.invokevirtual 109, 3) := by decide +kernel
theorem d_law_666 : decode b_law 666 = .ok (.aload_n 2, 1) := by decide +kernel
theorem d_law_667 : decode b_law 667 = .ok (.aload_n 0, 1) := by decide +kernel
theorem d_law_668 : decode b_law 668 = .ok (.iload_n 3, 1) := by decide +kernel
theorem d_law_669 : decode b_law 669 = .ok (.iconst 1, 1) := by decide +kernel
theorem d_law_670 : decode b_law 670 = .ok (.iadd, 1) := by decide +kernel
theorem d_law_671 : decode b_law 671 = .ok (.iaload, 1) := by decide +kernel
theorem d_law_672 : decode b_law 672 = .ok (.invokevirtual 112, 3) := by decide +kernel
theorem d_law_675 : decode b_law 675 = .ok (.if_icmp .eq 28, 3) := by decide +kernel
theorem d_law_680 : decode b_law 680 = .ok (.aload_n 1, 1) := by decide +kernel
theorem d_law_681 : decode b_law 681 = .ok (.aload_n 0, 1) := by decide +kernel
theorem d_law_682 : decode b_law 682 = .ok (.iload_n 3, 1) := by decide +kernel
theorem d_law_683 : decode b_law 683 = .ok (.iconst 1, 1) := by decide +kernel
theorem d_law_684 : decode b_law 684 = .ok (.iadd, 1) := by decide +kernel
theorem d_law_685 : decode b_law 685 = .ok (.iaload, 1) := by decide +kernel
theorem d_law_686 : decode b_law 686 = .ok (.invokevirtual 113, 3) := by decide +kernel
theorem d_law_689 : decode b_law 689 = .ok (.aload_n 2, 1) := by decide +kernel
theorem d_law_690 : decode b_law 690 = .ok (.aload_n 0, 1) := by decide +kernel
theorem d_law_691 : decode b_law 691 = .ok (.iload_n 3, 1) := by decide +kernel
theorem d_law_692 : decode b_law 692 = .ok (.iconst 1, 1) := by decide +kernel
theorem d_law_693 : decode b_law 693 = .ok (.iadd, 1) := by decide +kernel
theorem d_law_694 : decode b_law 694 = .ok (.iaload, 1) := by decide +kernel
theorem d_law_695 : decode b_law 695 = .ok (.invokevirtual 116, 3) := by decide +kernel
theorem d_law_698 : decode b_law 698 = .ok (.if_icmp .eq 5, 3) := by decide +kernel
theorem d_law_18 : decode b_law 18 = .ok (.iload_n 3, 1) := by decide +kernel
theorem d_law_19 : decode b_law 19 = .ok (.aload_n 0, 1) := by decide +kernel
theorem d_law_20 : decode b_law 20 = .ok (.arraylength, 1) := by decide +kernel
theorem d_law_21 : decode b_law 21 = .ok (.bipush 6, 2) := by decide +kernel
