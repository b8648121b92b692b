theorem dL_616 : decode code 616 = .ok (.aload_n 0, 1) := by decide +kernel
theorem dL_617 : decode code 617 = .ok (.iload_n 3, 1) := by decide +kernel
theorem dL_618 : decode code 618 = .ok (.iconst 3, 1) := by decide +kernel
theorem dL_619 : decode code 619 = .ok (.iadd, 1) := by decide +kernel
theorem dL_620 : decode code 620 = .ok (.iaload, 1) := by decide +kernel
theorem dL_621 : decode code 621 = .ok (.aload_n 0, 1) := by decide +kernel
theorem dL_622 : decode code 622 = .ok (.iload_n 3, 1) := by decide +kernel
theorem dL_623 : decode code 623 = .ok (.iconst 4, 1) := by decide +kernel
theorem dL_624 : decode code 624 = .ok (.iadd, 1) := by decide +kernel
theorem dL_625 : decode code 625 = .ok (.iaload, 1) := by decide +kernel
theorem dL_626 : decode code 626 = .ok (.invokevirtual 74, 3) := by decide +kernel
theorem dL_629 : decode code 629 = .ok (.aload_n 2, 1) := by decide +kernel
theorem dL_630 : decode code 630 = .ok (.aload_n 0, 1) := by decide +kernel
theorem dL_631 : decode code 631 = .ok (.iload_n 3, 1) := by decide +kernel
theorem dL_632 : decode code 632 = .ok (.iconst 1, 1) := by decide +kernel
theorem dL_633 : decode code 633 = .ok (.iadd, 1) := by decide +kernel
theorem dL_634 : decode code 634 = .ok (.iaload, 1) := by decide +kernel
theorem dL_635 : decode code 635 = .ok (.aload_n 0, 1) := by decide +kernel
theorem dL_636 : decode code 636 = .ok (.iload_n 3, 1) := by decide +kernel
theorem dL_637 : decode code 637 = .ok (.iconst 2, 1) := by decide +kernel
theorem dL_638 : decode code 638 = .ok (.iadd, 1) := by decide +kernel
theorem dL_639 : decode code 639 = .ok (.iaload, 1) := by decide +kernel
theorem dL_640 : decode code 640 = .ok (.aload_n 0, 1) := by decide +kernel
theorem dL_641 : decode code 641 = .ok (.iload_n 3, 1) := by decide +kernel
theorem dL_642 : decode code 642 = .ok (.iconst 3, 1) := by decide +kernel
theorem dL_643 : decode code 643 = .ok (.iadd, 1) := by decide +kernel
theorem dL_644 : decode code 644 = .ok (.iaload, 1) := by decide +kernel
theorem dL_645 : decode code 645 = .ok (.aload_n 0, 1) := by decide +kernel
theorem dL_646 : decode code 646 = .ok (.iload_n 3, 1) := by decide +kernel
theorem dL_647 : decode code 647 = .ok (.iconst 4, 1) := by decide +kernel
theorem dL_648 : decode code 648 = .ok (.iadd, 1) := by decide +kernel
theorem dL_649 : decode code 649 = .ok (.iaload, 1) := by decide +kernel
theorem dL_650 : decode code 650 = .ok (.invokevirtual 77, 3) := by decide +kernel
theorem dL_653 : decode code 653 = .ok (.if_icmp .eq 120, 3) := by decide +kernel
theorem dL_656 : decode code 656 = .ok (.iconst 0, 1) := by decide +kernel
theorem dL_657 : decode code 657 = .ok (.ireturn, 1) := by decide +kernel
theorem dL_658 : decode code 658 = .ok (.aload_n 1, 1) := by decide +kernel
theorem dL_659 : decode code 659 = .ok (.invokevirtual 78, 3) := by decide +kernel
theorem dL_662 : decode code 662 = .ok (.aload_n 2, 1) := by decide +kernel
theorem dL_663 : decode code 663 = .ok (.invokevirtual 81, 3) := by decide +kernel
theorem dL_666 : decode code 666 = .ok (.if_icmp .eq 107, 3) := by decide +kernel
theorem dL_669 : decode code 669 = .ok (.iconst 0, 1) := by decide +kernel
theorem dL_670 : decode code 670 = .ok (.ireturn, 1) := by decide +kernel
theorem dL_671 : decode code 671 = .ok (.aload_n 1, 1) := by decide +kernel
theorem dL_672 : decode code 672 = .ok (.aload_n 0, 1) := by decide +kernel
theorem dL_673 : decode code 673 = .ok (.iload_n 3, 1) := by decide +kernel
theorem dL_674 : decode code 674 = .ok (.iconst 1, 1) := by decide +kernel
theorem dL_675 : decode code 675 = .ok (.iadd, 1) := by decide +kernel
theorem dL_676 : decode code 676 = .ok (.iaload, 1) := by decide +kernel
theorem dL_677 : decode code 677 = .ok (.aload_n 0, 1) := by decide +kernel
theorem dL_678 : decode code 678 = .ok (.iload_n 3, 1) := by decide +kernel
theorem dL_679 : decode code 679 = .ok (.iconst 2, 1) := by decide +kernel
theorem dL_680 : decode code 680 = .ok (.iadd, 1) := by decide +kernel
theorem dL_681 : decode code 681 = .ok (.iaload, 1) := by decide +kernel
theorem dL_682 : decode code 682 = .ok (.invokevirtual 82, 3) := by decide +kernel
theorem dL_685 : decode code 685 = .ok (.aload_n 2, 1) := by decide +kernel
theorem dL_686 : decode code 686 = .ok (.aload_n 0, 1) := by decide +kernel
theorem dL_687 : decode code 687 = .ok (.iload_n 3, 1) := by decide +kernel
theorem dL_688 : decode code 688 = .ok (.iconst 1, 1) := by decide +kernel
theorem dL_689 : decode code 689 = .ok (.iadd, 1) := by decide +kernel
theorem dL_690 : decode code 690 = .ok (.iaload, 1) := by decide +kernel
theorem dL_691 : decode code 691 = .ok (.aload_n 0, 1) := by decide +kernel
theorem dL_692 : decode code 692 = .ok (.iload_n 3, 1) := by decide +kernel
theorem dL_693 : decode code 693 = .ok (.iconst 2, 1) := by decide +kernel
theorem dL_694 : decode code 694 = .ok (.iadd, 1) := by decide +kernel
theorem dL_695 : decode code 695 = .ok (.iaload, 1) := by decide +kernel
theorem dL_696 : decode code 696 = .ok (.invokevirtual 85, 3) := by decide +kernel
theorem dL_699 : decode code 699 = .ok (.if_icmp .eq 74, 3) := by decide +kernel
theorem dL_702 : decode code 702 = .ok (.iconst 0, 1) := by decide +kernel
theorem dL_703 : decode code 703 = .ok (.ireturn, 1) := by decide +kernel
theorem dL_704 : decode code 704 = .ok (.aload_n 1, 1) := by decide +kernel
theorem dL_705 : decode code 705 = .ok (.invokevirtual 86, 3) := by decide +kernel
theorem dL_708 : decode code 708 = .ok (.aload_n 2, 1) := by decide +kernel
theorem dL_709 : decode code 709 = .ok (.invokevirtual 89, 3) := by decide +kernel
theorem dL_712 : decode code 712 = .ok (.if_icmp .eq 61, 3) := by decide +kernel
theorem dL_715 : decode code 715 = .ok (.iconst 0, 1) := by decide +kernel
theorem dL_716 : decode code 716 = .ok (.ireturn, 1) := by decide +kernel
theorem dL_717 : decode code 717 = .ok (.aload_n 1, 1) := by decide +kernel
theorem dL_718 : decode code 718 = .ok (.aload_n 0, 1) := by decide +kernel
theorem dL_719 : decode code 719 = .ok (.iload_n 3, 1) := by decide +kernel
theorem dL_720 : decode code 720 = .ok (.iconst 1, 1) := by decide +kernel
theorem dL_721 : decode code 721 = .ok (.iadd, 1) := by decide +kernel
theorem dL_722 : decode code 722 = .ok (.iaload, 1) := by decide +kernel
theorem dL_723 : decode code 723 = .ok (.aload_n 0, 1) := by decide +kernel
theorem dL_724 : decode code 724 = .ok (.iload_n 3, 1) := by decide +kernel
theorem dL_725 : decode code 725 = .ok (.iconst 2, 1) := by decide +kernel
theorem dL_726 : decode code 726 = .ok (.iadd, 1) := by decide +kernel
theorem dL_727 : decode code 727 = .ok (.iaload, 1) := by decide +kernel
theorem dL_728 : decode code 728 = .ok (.invokevirtual 90, 3) := by decide +kernel
theorem dL_731 : decode code 731 = .ok (.aload_n 2, 1) := by decide +kernel
theorem dL_732 : decode code 732 = .ok (.aload_n 0, 1) := by decide +kernel
theorem dL_733 : decode code 733 = .ok (.iload_n 3, 1) := by decide +kernel
theorem dL_734 : decode code 734 = .ok (.iconst 1, 1) := by decide +kernel
theorem dL_735 : decode code 735 = .ok (.iadd, 1) := by decide +kernel
theorem dL_736 : decode code 736 = .ok (.iaload, 1) := by decide +kernel
theorem dL_737 : decode code 737 = .ok (.aload_n 0, 1) := by decide +kernel
theorem dL_738 : decode code 738 = .ok (.iload_n 3, 1) := by decide +kernel
theorem dL_739 : decode code 739 = .ok (.iconst 2, 1) := by decide +kernel
theorem dL_740 : decode code 740 = .ok (.iadd, 1) := by decide +kernel
theorem dL_741 : decode code 741 = .ok (.iaload, 1) := by decide +kernel
theorem dL_742 : decode code 742 = .ok (.invokevirtual 93, 3) := by decide +kernel
theorem dL_745 : decode code 745 = .ok (.if_icmp .eq 28, 3) := by decide +kernel
theorem dL_748 : decode code 748 = .ok (.iconst 0, 1) := by decide +kernel
theorem dL_749 : decode code 749 = .ok (.ireturn, 1) := by decide +kernel
theorem dL_750 : decode code 750 = .ok (.aload_n 1, 1) := by decide +kernel
theorem dL_751 : decode code 751 = .ok (.aload_n 0, 1) := by decide +kernel
theorem dL_752 : decode code 752 = .ok (.iload_n 3, 1) := by decide +kernel
theorem dL_753 : decode code 753 = .ok (.iconst 1, 1) := by decide +kernel
theorem dL_754 : decode code 754 = .ok (.iadd, 1) := by decide +kernel
theorem dL_755 : decode code 755 = .ok (.iaload, 1) := by decide +kernel
theorem dL_756 : decode code 756 = .ok (.invokevirtual 94, 3) := by decide +kernel
theorem dL_759 : decode code 759 = .ok (.aload_n 2, 1) := by decide +kernel
theorem dL_760 : decode code 760 = .ok (.aload_n 0, 1) := by decide +kernel
theorem dL_761 : decode code 761 = .ok (.iload_n 3, 1) := by decide +kernel
theorem dL_762 : decode code 762 = .ok (.iconst 1, 1) := by decide +kernel
theorem dL_763 : decode code 763 = .ok (.iadd, 1) := by decide +kernel
theorem dL_764 : decode code 764 = .ok (.iaload, 1) := by decide +kernel
theorem dL_765 : decode code 765 = .ok (.invokevirtual 97, 3) := by decide +kernel
theorem dL_768 : decode code 768 = .ok (.if_icmp .eq 5, 3) := by decide +kernel
theorem dL_771 : decode code 771 = .ok (.iconst 0, 1) := by decide +kernel
theorem dL_772 : decode code 772 = .ok (.ireturn, 1) := by decide +kernel
theorem dL_773 : decode code 773 = .ok (.iinc 3 5, 3) := by decide +kernel
theorem dL_776 : decode code 776 = .ok (.goto (-758), 3) := by decide +kernel
theorem dL_779 : decode code 779 = .ok (.iconst 1, 1) := by decide +kernel
theorem dL_780 : decode code 780 = .ok (.ireturn, 1) := by decide +kernel
