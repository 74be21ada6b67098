/-! the law, instruction by instruction -/
theorem d_law_579 : decode code 579 = .ok (.iload_n 3, 1) := by decide +kernel
theorem d_law_580 : decode code 580 = .ok (.iconst 2, 1) := by decide +kernel
theorem d_law_581 : decode code 581 = .ok (.iadd, 1) := by decide +kernel
theorem d_law_582 : decode code 582 = .ok (.iaload, 1) := by decide +kernel
theorem d_law_583 : decode code 583 = .ok (.invokevirtual 59, 3) := by decide +kernel
theorem d_law_586 : decode code 586 = .ok (.aload_n 2, 1) := by decide +kernel
theorem d_law_587 : decode code 587 = .ok (.aload_n 0, 1) := by decide +kernel
theorem d_law_588 : decode code 588 = .ok (.iload_n 3, 1) := by decide +kernel
theorem d_law_589 : decode code 589 = .ok (.iconst 1, 1) := by decide +kernel
theorem d_law_590 : decode code 590 = .ok (.iadd, 1) := by decide +kernel
theorem d_law_591 : decode code 591 = .ok (.iaload, 1) := by decide +kernel
theorem d_law_592 : decode code 592 = .ok (.aload_n 0, 1) := by decide +kernel
theorem d_law_593 : decode code 593 = .ok (.iload_n 3, 1) := by decide +kernel
theorem d_law_594 : decode code 594 = .ok (.iconst 2, 1) := by decide +kernel
theorem d_law_595 : decode code 595 = .ok (.iadd, 1) := by decide +kernel
theorem d_law_596 : decode code 596 = .ok (.iaload, 1) := by decide +kernel
theorem d_law_597 : decode code 597 = .ok (.invokevirtual 62, 3) := by decide +kernel
theorem d_law_600 : decode code 600 = .ok (.if_icmp .eq 826, 3) := by decide +kernel
theorem d_law_603 : decode code 603 = .ok (.iconst 0, 1) := by decide +kernel
theorem d_law_604 : decode code 604 = .ok (.ireturn, 1) := by decide +kernel
theorem d_law_605 : decode code 605 = .ok (.aload_n 1, 1) := by decide +kernel
theorem d_law_606 : decode code 606 = .ok (.invokevirtual 63, 3) := by decide +kernel
theorem d_law_609 : decode code 609 = .ok (.aload_n 2, 1) := by decide +kernel
theorem d_law_610 : decode code 610 = .ok (.invokevirtual 66, 3) := by decide +kernel
theorem d_law_613 : decode code 613 = .ok (.if_icmp .eq 813, 3) := by decide +kernel
theorem d_law_616 : decode code 616 = .ok (.iconst 0, 1) := by decide +kernel
theorem d_law_617 : decode code 617 = .ok (.ireturn, 1) := by decide +kernel
theorem d_law_618 : decode code 618 = .ok (.aload_n 1, 1) := by decide +kernel
theorem d_law_619 : decode code 619 = .ok (.aload_n 0, 1) := by decide +kernel
theorem d_law_620 : decode code 620 = .ok (.iload_n 3, 1) := by decide +kernel
theorem d_law_621 : decode code 621 = .ok (.iconst 1, 1) := by decide +kernel
theorem d_law_622 : decode code 622 = .ok (.iadd, 1) := by decide +kernel
theorem d_law_623 : decode code 623 = .ok (.iaload, 1) := by decide +kernel
theorem d_law_624 : decode code 624 = .ok (.invokevirtual 67, 3) := by decide +kernel
theorem d_law_627 : decode code 627 = .ok (.aload_n 2, 1) := by decide +kernel
theorem d_law_628 : decode code 628 = .ok (.aload_n 0, 1) := by decide +kernel
theorem d_law_629 : decode code 629 = .ok (.iload_n 3, 1) := by decide +kernel
theorem d_law_630 : decode code 630 = .ok (.iconst 1, 1) := by decide +kernel
theorem d_law_631 : decode code 631 = .ok (.iadd, 1) := by decide +kernel
theorem d_law_632 : decode code 632 = .ok (.iaload, 1) := by decide +kernel
theorem d_law_633 : decode code 633 = .ok (.invokevirtual 70, 3) := by decide +kernel
theorem d_law_636 : decode code 636 = .ok (.if_icmp .eq 790, 3) := by decide +kernel
theorem d_law_639 : decode code 639 = .ok (.iconst 0, 1) := by decide +kernel
theorem d_law_640 : decode code 640 = .ok (.ireturn, 1) := by decide +kernel
theorem d_law_641 : decode code 641 = .ok (.aload_n 1, 1) := by decide +kernel
theorem d_law_642 : decode code 642 = .ok (.aload_n 0, 1) := by decide +kernel
theorem d_law_643 : decode code 643 = .ok (.iload_n 3, 1) := by decide +kernel
theorem d_law_644 : decode code 644 = .ok (.iconst 1, 1) := by decide +kernel
theorem d_law_645 : decode code 645 = .ok (.iadd, 1) := by decide +kernel
theorem d_law_646 : decode code 646 = .ok (.iaload, 1) := by decide +kernel
theorem d_law_647 : decode code 647 = .ok (.invokevirtual 71, 3) := by decide +kernel
theorem d_law_650 : decode code 650 = .ok (.aload_n 2, 1) := by decide +kernel
theorem d_law_651 : decode code 651 = .ok (.aload_n 0, 1) := by decide +kernel
theorem d_law_652 : decode code 652 = .ok (.iload_n 3, 1) := by decide +kernel
theorem d_law_653 : decode code 653 = .ok (.iconst 1, 1) := by decide +kernel
theorem d_law_654 : decode code 654 = .ok (.iadd, 1) := by decide +kernel
theorem d_law_655 : decode code 655 = .ok (.iaload, 1) := by decide +kernel
theorem d_law_656 : decode code 656 = .ok (.invokevirtual 74, 3) := by decide +kernel
theorem d_law_659 : decode code 659 = .ok (.if_icmp .eq 767, 3) := by decide +kernel
theorem d_law_662 : decode code 662 = .ok (.iconst 0, 1) := by decide +kernel
theorem d_law_663 : decode code 663 = .ok (.ireturn, 1) := by decide +kernel
theorem d_law_664 : decode code 664 = .ok (.aload_n 1, 1) := by decide +kernel
theorem d_law_665 : decode code 665 = .ok (.aload_n 0, 1) := by decide +kernel
theorem d_law_666 : decode code 666 = .ok (.iload_n 3, 1) := by decide +kernel
theorem d_law_667 : decode code 667 = .ok (.iconst 1, 1) := by decide +kernel
theorem d_law_668 : decode code 668 = .ok (.iadd, 1) := by decide +kernel
theorem d_law_669 : decode code 669 = .ok (.iaload, 1) := by decide +kernel
theorem d_law_670 : decode code 670 = .ok (.aload_n 0, 1) := by decide +kernel
theorem d_law_671 : decode code 671 = .ok (.iload_n 3, 1) := by decide +kernel
theorem d_law_672 : decode code 672 = .ok (.iconst 2, 1) := by decide +kernel
theorem d_law_673 : decode code 673 = .ok (.iadd, 1) := by decide +kernel
theorem d_law_674 : decode code 674 = .ok (.iaload, 1) := by decide +kernel
theorem d_law_675 : decode code 675 = .ok (.invokevirtual 75, 3) := by decide +kernel
theorem d_law_678 : decode code 678 = .ok (.aload_n 2, 1) := by decide +kernel
theorem d_law_679 : decode code 679 = .ok (.aload_n 0, 1) := by decide +kernel
theorem d_law_680 : decode code 680 = .ok (.iload_n 3, 1) := by decide +kernel
theorem d_law_681 : decode code 681 = .ok (.iconst 1, 1) := by decide +kernel
theorem d_law_682 : decode code 682 = .ok (.iadd, 1) := by decide +kernel
theorem d_law_683 : decode code 683 = .ok (.iaload, 1) := by decide +kernel
theorem d_law_684 : decode code 684 = .ok (.aload_n 0, 1) := by decide +kernel
theorem d_law_685 : decode code 685 = .ok (.iload_n 3, 1) := by decide +kernel
theorem d_law_686 : decode code 686 = .ok (.iconst 2, 1) := by decide +kernel
theorem d_law_687 : decode code 687 = .ok (.iadd, 1) := by decide +kernel
theorem d_law_688 : decode code 688 = .ok (.iaload, 1) := by decide +kernel
theorem d_law_689 : decode code 689 = .ok (.invokevirtual 78, 3) := by decide +kernel
theorem d_law_692 : decode code 692 = .ok (.if_icmp .eq 734, 3) := by decide +kernel
theorem d_law_695 : decode code 695 = .ok (.iconst 0, 1) := by decide +kernel
theorem d_law_696 : decode code 696 = .ok (.ireturn, 1) := by decide +kernel
theorem d_law_697 : decode code 697 = .ok (.aload_n 1, 1) := by decide +kernel
theorem d_law_698 : decode code 698 = .ok (.aload_n 0, 1) := by decide +kernel
theorem d_law_699 : decode code 699 = .ok (.iload_n 3, 1) := by decide +kernel
theorem d_law_700 : decode code 700 = .ok (.iconst 1, 1) := by decide +kernel
theorem d_law_701 : decode code 701 = .ok (.iadd, 1) := by decide +kernel
theorem d_law_702 : decode code 702 = .ok (.iaload, 1) := by decide +kernel
theorem d_law_703 : decode code 703 = .ok (.invokevirtual 79, 3) := by decide +kernel
theorem d_law_706 : decode code 706 = .ok (.aload_n 2, 1) := by decide +kernel
theorem d_law_707 : decode code 707 = .ok (.aload_n 0, 1) := by decide +kernel
theorem d_law_708 : decode code 708 = .ok (.iload_n 3, 1) := by decide +kernel
theorem d_law_709 : decode code 709 = .ok (.iconst 1, 1) := by decide +kernel
theorem d_law_710 : decode code 710 = .ok (.iadd, 1) := by decide +kernel
theorem d_law_711 : decode code 711 = .ok (.iaload, 1) := by decide +kernel
theorem d_law_712 : decode code 712 = .ok (.invokevirtual 82, 3) := by decide +kernel
theorem d_law_715 : decode code 715 = .ok (.if_icmp .eq 711, 3) := by decide +kernel
theorem d_law_718 : decode code 718 = .ok (.iconst 0, 1) := by decide +kernel
theorem d_law_719 : decode code 719 = .ok (.ireturn, 1) := by decide +kernel
theorem d_law_720 : decode code 720 = .ok (.aload_n 1, 1) := by decide +kernel
theorem d_law_721 : decode code 721 = .ok (.aload_n 0, 1) := by decide +kernel
theorem d_law_722 : decode code 722 = .ok (.iload_n 3, 1) := by decide +kernel
theorem d_law_723 : decode code 723 = .ok (.iconst 1, 1) := by decide +kernel
theorem d_law_724 : decode code 724 = .ok (.iadd, 1) := by decide +kernel
theorem d_law_725 : decode code 725 = .ok (.iaload, 1) := by decide +kernel
theorem d_law_726 : decode code 726 = .ok (.aload_n 0, 1) := by decide +kernel
theorem d_law_727 : decode code 727 = .ok (.iload_n 3, 1) := by decide +kernel
theorem d_law_728 : decode code 728 = .ok (.iconst 2, 1) := by decide +kernel
theorem d_law_729 : decode code 729 = .ok (.iadd, 1) := by decide +kernel
theorem d_law_730 : decode code 730 = .ok (.iaload, 1) := by decide +kernel
theorem d_law_731 : decode code 731 = .ok (.aload_n 0, 1) := by decide +kernel
theorem d_law_732 : decode code 732 = .ok (.iload_n 3, 1) := by decide +kernel
theorem d_law_733 : decode code 733 = .ok (.iconst 3, 1) := by decide +kernel
theorem d_law_734 : decode code 734 = .ok (.iadd, 1) := by decide +kernel
theorem d_law_735 : decode code 735 = .ok (.iaload, 1) := by decide +kernel
theorem d_law_736 : decode code 736 = .ok (.invokevirtual 83, 3) := by decide +kernel
theorem d_law_739 : decode code 739 = .ok (.aload_n 2, 1) := by decide +kernel
theorem d_law_740 : decode code 740 = .ok (.aload_n 0, 1) := by decide +kernel
theorem d_law_741 : decode code 741 = .ok (.iload_n 3, 1) := by decide +kernel
theorem d_law_742 : decode code 742 = .ok (.iconst 1, 1) := by decide +kernel
theorem d_law_743 : decode code 743 = .ok (.iadd, 1) := by decide +kernel
theorem d_law_744 : decode code 744 = .ok (.iaload, 1) := by decide +kernel
theorem d_law_745 : decode code 745 = .ok (.aload_n 0, 1) := by decide +kernel
theorem d_law_746 : decode code 746 = .ok (.iload_n 3, 1) := by decide +kernel
theorem d_law_747 : decode code 747 = .ok (.iconst 2, 1) := by decide +kernel
theorem d_law_748 : decode code 748 = .ok (.iadd, 1) := by decide +kernel
theorem d_law_749 : decode code 749 = .ok (.iaload, 1) := by decide +kernel
theorem d_law_750 : decode code 750 = .ok (.aload_n 0, 1) := by decide +kernel
theorem d_law_751 : decode code 751 = .ok (.iload_n 3, 1) := by decide +kernel
theorem d_law_752 : decode code 752 = .ok (.iconst 3, 1) := by decide +kernel
theorem d_law_753 : decode code 753 = .ok (.iadd, 1) := by decide +kernel
theorem d_law_754 : decode code 754 = .ok (.iaload, 1) := by decide +kernel
theorem d_law_755 : decode code 755 = .ok (.invokevirtual 86, 3) := by decide +kernel
theorem d_law_758 : decode code 758 = .ok (.if_icmp .eq 668, 3) := by decide +kernel
theorem d_law_761 : decode code 761 = .ok (.iconst 0, 1) := by decide +kernel
theorem d_law_762 : decode code 762 = .ok (.ireturn, 1) := by decide +kernel
theorem d_law_763 : decode code 763 = .ok (.aload_n 1, 1) := by decide +kernel
theorem d_law_764 : decode code 764 = .ok (.aload_n 0, 1) := by decide +kernel
theorem d_law_765 : decode code 765 = .ok (.iload_n 3, 1) := by decide +kernel
theorem d_law_766 : decode code 766 = .ok (.iconst 1, 1) := by decide +kernel
theorem d_law_767 : decode code 767 = .ok (.iadd, 1) := by decide +kernel
theorem d_law_768 : decode code 768 = .ok (.iaload, 1) := by decide +kernel
theorem d_law_769 : decode code 769 = .ok (.aload_n 0, 1) := by decide +kernel
theorem d_law_770 : decode code 770 = .ok (.iload_n 3, 1) := by decide +kernel
theorem d_law_771 : decode code 771 = .ok (.iconst 2, 1) := by decide +kernel
theorem d_law_772 : decode code 772 = .ok (.iadd, 1) := by decide +kernel
theorem d_law_773 : decode code 773 = .ok (.iaload, 1) := by decide +kernel
theorem d_law_774 : decode code 774 = .ok (.invokevirtual 87, 3) := by decide +kernel
theorem d_law_777 : decode code 777 = .ok (.aload_n 2, 1) := by decide +kernel
theorem d_law_778 : decode code 778 = .ok (.aload_n 0, 1) := by decide +kernel
theorem d_law_779 : decode code 779 = .ok (.iload_n 3, 1) := by decide +kernel
theorem d_law_780 : decode code 780 = .ok (.iconst 1, 1) := by decide +kernel
theorem d_law_781 : decode code 781 = .ok (.iadd, 1) := by decide +kernel
theorem d_law_782 : decode code 782 = .ok (.iaload, 1) := by decide +kernel
theorem d_law_783 : decode code 783 = .ok (.aload_n 0, 1) := by decide +kernel
theorem d_law_784 : decode code 784 = .ok (.iload_n 3, 1) := by decide +kernel
theorem d_law_785 : decode code 785 = .ok (.iconst 2, 1) := by decide +kernel
theorem d_law_786 : decode code 786 = .ok (.iadd, 1) := by decide +kernel
theorem d_law_787 : decode code 787 = .ok (.iaload, 1) := by decide +kernel
theorem d_law_788 : decode code 788 = .ok (.invokevirtual 90, 3) := by decide +kernel
theorem d_law_791 : decode code 791 = .ok (.if_icmp .eq 635, 3) := by decide +kernel
theorem d_law_794 : decode code 794 = .ok (.iconst 0, 1) := by decide +kernel
theorem d_law_795 : decode code 795 = .ok (.ireturn, 1) := by decide +kernel
theorem d_law_796 : decode code 796 = .ok (.aload_n 1, 1) := by decide +kernel
theorem d_law_797 : decode code 797 = .ok (.aload_n 0, 1) := by decide +kernel
theorem d_law_798 : decode code 798 = .ok (.iload_n 3, 1) := by decide +kernel
theorem d_law_799 : decode code 799 = .ok (.iconst 1, 1) := by decide +kernel
theorem d_law_800 : decode code 800 = .ok (.iadd, 1) := by decide +kernel
theorem d_law_801 : decode code 801 = .ok (.iaload, 1) := by decide +kernel
theorem d_law_802 : decode code 802 = .ok (.aload_n 0, 1) := by decide +kernel
theorem d_law_803 : decode code 803 = .ok (.iload_n 3, 1) := by decide +kernel
theorem d_law_804 : decode code 804 = .ok (.iconst 2, 1) := by decide +kernel
theorem d_law_805 : decode code 805 = .ok (.iadd, 1) := by decide +kernel
theorem d_law_806 : decode code 806 = .ok (.iaload, 1) := by decide +kernel
theorem d_law_807 : decode code 807 = .ok (.invokevirtual 91, 3) := by decide +kernel
theorem d_law_810 : decode code 810 = .ok (.aload_n 2, 1) := by decide +kernel
theorem d_law_811 : decode code 811 = .ok (.aload_n 0, 1) := by decide +kernel
theorem d_law_812 : decode code 812 = .ok (.iload_n 3, 1) := by decide +kernel
theorem d_law_813 : decode code 813 = .ok (.iconst 1, 1) := by decide +kernel
theorem d_law_814 : decode code 814 = .ok (.iadd, 1) := by decide +kernel
theorem d_law_815 : decode code 815 = .ok (.iaload, 1) := by decide +kernel
theorem d_law_816 : decode code 816 = .ok (.aload_n 0, 1) := by decide +kernel
theorem d_law_817 : decode code 817 = .ok (.iload_n 3, 1) := by decide +kernel
theorem d_law_818 : decode code 818 = .ok (.iconst 2, 1) := by decide +kernel
theorem d_law_819 : decode code 819 = .ok (.iadd, 1) := by decide +kernel
theorem d_law_820 : decode code 820 = .ok (.iaload, 1) := by decide +kernel
theorem d_law_821 : decode code 821 = .ok (.invokevirtual 94, 3) := by decide +kernel
theorem d_law_824 : decode code 824 = .ok (.if_icmp .eq 602, 3) := by decide +kernel
theorem d_law_827 : decode code 827 = .ok (.iconst 0, 1) := by decide +kernel
theorem d_law_828 : decode code 828 = .ok (.ireturn, 1) := by decide +kernel
theorem d_law_829 : decode code 829 = .ok (.aload_n 1, 1) := by decide +kernel
theorem d_law_830 : decode code 830 = .ok (.aload_n 0, 1) := by decide +kernel
theorem d_law_831 : decode code 831 = .ok (.iload_n 3, 1) := by decide +kernel
theorem d_law_832 : decode code 832 = .ok (.iconst 1, 1) := by decide +kernel
theorem d_law_833 : decode code 833 = .ok (.iadd, 1) := by decide +kernel
theorem d_law_834 : decode code 834 = .ok (.iaload, 1) := by decide +kernel
theorem d_law_835 : decode code 835 = .ok (.invokevirtual 95, 3) := by decide +kernel
theorem d_law_838 : decode code 838 = .ok (.aload_n 2, 1) := by decide +kernel
theorem d_law_839 : decode code 839 = .ok (.aload_n 0, 1) := by decide +kernel
theorem d_law_840 : decode code 840 = .ok (.iload_n 3, 1) := by decide +kernel
theorem d_law_841 : decode code 841 = .ok (.iconst 1, 1) := by decide +kernel
theorem d_law_842 : decode code 842 = .ok (.iadd, 1) := by decide +kernel
theorem d_law_843 : decode code 843 = .ok (.iaload, 1) := by decide +kernel
theorem d_law_844 : decode code 844 = .ok (.invokevirtual 99, 3) := by decide +kernel
theorem d_law_847 : decode code 847 = .ok (.lcmp, 1) := by decide +kernel
theorem d_law_848 : decode code 848 = .ok (.ifCond .eq 578, 3) := by decide +kernel
theorem d_law_851 : decode code 851 = .ok (.iconst 0, 1) := by decide +kernel
theorem d_law_852 : decode code 852 = .ok (.ireturn, 1) := by decide +kernel
theorem d_law_853 : decode code 853 = .ok (.aload_n 1, 1) := by decide +kernel
theorem d_law_854 : decode code 854 = .ok (.aload_n 0, 1) := by decide +kernel
theorem d_law_855 : decode code 855 = .ok (.iload_n 3, 1) := by decide +kernel
theorem d_law_856 : decode code 856 = .ok (.iconst 1, 1) := by decide +kernel
theorem d_law_857 : decode code 857 = .ok (.iadd, 1) := by decide +kernel
theorem d_law_858 : decode code 858 = .ok (.iaload, 1) := by decide +kernel
theorem d_law_859 : decode code 859 = .ok (.i2l, 1) := by decide +kernel
theorem d_law_860 : decode code 860 = .ok (.bipush 32, 2) := by decide +kernel
theorem d_law_862 : decode code 862 = .ok (.lshl, 1) := by decide +kernel
theorem d_law_863 : decode code 863 = .ok (.aload_n 0, 1) := by decide +kernel
theorem d_law_864 : decode code 864 = .ok (.iload_n 3, 1) := by decide +kernel
theorem d_law_865 : decode code 865 = .ok (.iconst 2, 1) := by decide +kernel
theorem d_law_866 : decode code 866 = .ok (.iadd, 1) := by decide +kernel
theorem d_law_867 : decode code 867 = .ok (.iaload, 1) := by decide +kernel
theorem d_law_868 : decode code 868 = .ok (.i2l, 1) := by decide +kernel
theorem d_law_869 : decode code 869 = .ok (.ldc2_w 100, 3) := by decide +kernel
theorem d_law_872 : decode code 872 = .ok (.land, 1) := by decide +kernel
theorem d_law_873 : decode code 873 = .ok (.lor, 1) := by decide +kernel
theorem d_law_874 : decode code 874 = .ok (.aload_n 0, 1) := by decide +kernel
theorem d_law_875 : decode code 875 = .ok (.iload_n 3, 1) := by decide +kernel
theorem d_law_876 : decode code 876 = .ok (.iconst 3, 1) := by decide +kernel
theorem d_law_877 : decode code 877 = .ok (.iadd, 1) := by decide +kernel
theorem d_law_878 : decode code 878 = .ok (.iaload, 1) := by decide +kernel
theorem d_law_879 : decode code 879 = .ok (.invokevirtual 102, 3) := by decide +kernel
theorem d_law_882 : decode code 882 = .ok (.aload_n 2, 1) := by decide +kernel
theorem d_law_883 : decode code 883 = .ok (.aload_n 0, 1) := by decide +kernel
theorem d_law_884 : decode code 884 = .ok (.iload_n 3, 1) := by decide +kernel
theorem d_law_885 : decode code 885 = .ok (.iconst 1, 1) := by decide +kernel
theorem d_law_886 : decode code 886 = .ok (.iadd, 1) := by decide +kernel
theorem d_law_887 : decode code 887 = .ok (.iaload, 1) := by decide +kernel
theorem d_law_888 : decode code 888 = .ok (.i2l, 1) := by decide +kernel
theorem d_law_889 : decode code 889 = .ok (.bipush 32, 2) := by decide +kernel
theorem d_law_891 : decode code 891 = .ok (.lshl, 1) := by decide +kernel
theorem d_law_892 : decode code 892 = .ok (.aload_n 0, 1) := by decide +kernel
theorem d_law_893 : decode code 893 = .ok (.iload_n 3, 1) := by decide +kernel
theorem d_law_894 : decode code 894 = .ok (.iconst 2, 1) := by decide +kernel
theorem d_law_895 : decode code 895 = .ok (.iadd, 1) := by decide +kernel
theorem d_law_896 : decode code 896 = .ok (.iaload, 1) := by decide +kernel
theorem d_law_897 : decode code 897 = .ok (.i2l, 1) := by decide +kernel
theorem d_law_898 : decode code 898 = .ok (.ldc2_w 100, 3) := by decide +kernel
theorem d_law_901 : decode code 901 = .ok (.land, 1) := by decide +kernel
theorem d_law_902 : decode code 902 = .ok (.lor, 1) := by decide +kernel
theorem d_law_903 : decode code 903 = .ok (.aload_n 0, 1) := by decide +kernel
theorem d_law_904 : decode code 904 = .ok (.iload_n 3, 1) := by decide +kernel
theorem d_law_905 : decode code 905 = .ok (.iconst 3, 1) := by decide +kernel
theorem d_law_906 : decode code 906 = .ok (.iadd, 1) := by decide +kernel
theorem d_law_907 : decode code 907 = .ok (.iaload, 1) := by decide +kernel
theorem d_law_908 : decode code 908 = .ok (.invokevirtual 106, 3) := by decide +kernel
theorem d_law_911 : decode code 911 = .ok (.if_icmp .eq 515, 3) := by decide +kernel
theorem d_law_914 : decode code 914 = .ok (.iconst 0, 1) := by decide +kernel
theorem d_law_915 : decode code 915 = .ok (.ireturn, 1) := by decide +kernel
theorem d_law_916 : decode code 916 = .ok (.aload_n 1, 1) := by decide +kernel
theorem d_law_917 : decode code 917 = .ok (.aload_n 0, 1) := by decide +kernel
theorem d_law_918 : decode code 918 = .ok (.iload_n 3, 1) := by decide +kernel
theorem d_law_919 : decode code 919 = .ok (.iconst 1, 1) := by decide +kernel
theorem d_law_920 : decode code 920 = .ok (.iadd, 1) := by decide +kernel
theorem d_law_921 : decode code 921 = .ok (.iaload, 1) := by decide +kernel
theorem d_law_922 : decode code 922 = .ok (.invokevirtual 107, 3) := by decide +kernel
theorem d_law_925 : decode code 925 = .ok (.aload_n 2, 1) := by decide +kernel
theorem d_law_926 : decode code 926 = .ok (.aload_n 0, 1) := by decide +kernel
theorem d_law_927 : decode code 927 = .ok (.iload_n 3, 1) := by decide +kernel
theorem d_law_928 : decode code 928 = .ok (.iconst 1, 1) := by decide +kernel
theorem d_law_929 : decode code 929 = .ok (.iadd, 1) := by decide +kernel
theorem d_law_930 : decode code 930 = .ok (.iaload, 1) := by decide +kernel
theorem d_law_931 : decode code 931 = .ok (.invokevirtual 110, 3) := by decide +kernel
theorem d_law_934 : decode code 934 = .ok (.if_icmp .eq 492, 3) := by decide +kernel
theorem d_law_937 : decode code 937 = .ok (.iconst 0, 1) := by decide +kernel
theorem d_law_938 : decode code 938 = .ok (.ireturn, 1) := by decide +kernel
theorem d_law_939 : decode code 939 = .ok (.aload_n 1, 1) := by decide +kernel
theorem d_law_940 : decode code 940 = .ok (.aload_n 0, 1) := by decide +kernel
theorem d_law_941 : decode code 941 = .ok (.iload_n 3, 1) := by decide +kernel
theorem d_law_942 : decode code 942 = .ok (.iconst 1, 1) := by decide +kernel
theorem d_law_943 : decode code 943 = .ok (.iadd, 1) := by decide +kernel
theorem d_law_944 : decode code 944 = .ok (.iaload, 1) := by decide +kernel
theorem d_law_945 : decode code 945 = .ok (.invokevirtual 111, 3) := by decide +kernel
theorem d_law_948 : decode code 948 = .ok (.aload_n 2, 1) := by decide +kernel
theorem d_law_949 : decode code 949 = .ok (.aload_n 0, 1) := by decide +kernel
theorem d_law_950 : decode code 950 = .ok (.iload_n 3, 1) := by decide +kernel
theorem d_law_951 : decode code 951 = .ok (.iconst 1, 1) := by decide +kernel
theorem d_law_952 : decode code 952 = .ok (.iadd, 1) := by decide +kernel
theorem d_law_953 : decode code 953 = .ok (.iaload, 1) := by decide +kernel
theorem d_law_954 : decode code 954 = .ok (.invokevirtual 114, 3) := by decide +kernel
theorem d_law_957 : decode code 957 = .ok (.if_icmp .eq 469, 3) := by decide +kernel
theorem d_law_960 : decode code 960 = .ok (.iconst 0, 1) := by decide +kernel
theorem d_law_961 : decode code 961 = .ok (.ireturn, 1) := by decide +kernel
theorem d_law_962 : decode code 962 = .ok (.aload_n 1, 1) := by decide +kernel
theorem d_law_963 : decode code 963 = .ok (.aload_n 0, 1) := by decide +kernel
theorem d_law_964 : decode code 964 = .ok (.iload_n 3, 1) := by decide +kernel
theorem d_law_965 : decode code 965 = .ok (.iconst 1, 1) := by decide +kernel
theorem d_law_966 : decode code 966 = .ok (.iadd, 1) := by decide +kernel
theorem d_law_967 : decode code 967 = .ok (.iaload, 1) := by decide +kernel
theorem d_law_968 : decode code 968 = .ok (.aload_n 0, 1) := by decide +kernel
theorem d_law_969 : decode code 969 = .ok (.iload_n 3, 1) := by decide +kernel
theorem d_law_970 : decode code 970 = .ok (.iconst 2, 1) := by decide +kernel
theorem d_law_971 : decode code 971 = .ok (.iadd, 1) := by decide +kernel
theorem d_law_972 : decode code 972 = .ok (.iaload, 1) := by decide +kernel
theorem d_law_973 : decode code 973 = .ok (.invokevirtual 115, 3) := by decide +kernel
theorem d_law_976 : decode code 976 = .ok (.aload_n 2, 1) := by decide +kernel
theorem d_law_977 : decode code 977 = .ok (.aload_n 0, 1) := by decide +kernel
theorem d_law_978 : decode code 978 = .ok (.iload_n 3, 1) := by decide +kernel
theorem d_law_979 : decode code 979 = .ok (.iconst 1, 1) := by decide +kernel
theorem d_law_980 : decode code 980 = .ok (.iadd, 1) := by decide +kernel
theorem d_law_981 : decode code 981 = .ok (.iaload, 1) := by decide +kernel
theorem d_law_982 : decode code 982 = .ok (.aload_n 0, 1) := by decide +kernel
theorem d_law_983 : decode code 983 = .ok (.iload_n 3, 1) := by decide +kernel
theorem d_law_984 : decode code 984 = .ok (.iconst 2, 1) := by decide +kernel
theorem d_law_985 : decode code 985 = .ok (.iadd, 1) := by decide +kernel
theorem d_law_986 : decode code 986 = .ok (.iaload, 1) := by decide +kernel
theorem d_law_987 : decode code 987 = .ok (.invokevirtual 118, 3) := by decide +kernel
theorem d_law_990 : decode code 990 = .ok (.if_icmp .eq 436, 3) := by decide +kernel
theorem d_law_993 : decode code 993 = .ok (.iconst 0, 1) := by decide +kernel
theorem d_law_994 : decode code 994 = .ok (.ireturn, 1) := by decide +kernel
theorem d_law_995 : decode code 995 = .ok (.aload_n 1, 1) := by decide +kernel
theorem d_law_996 : decode code 996 = .ok (.invokevirtual 119, 3) := by decide +kernel
theorem d_law_999 : decode code 999 = .ok (.aload_n 2, 1) := by decide +kernel
