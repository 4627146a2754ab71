/-! decode rows of the law -/
theorem d_Law_law_551 : decode code 551 = .ok (.iaload, 1) := by decide +kernel
theorem d_Law_law_552 : decode code 552 = .ok (.aload_n 0, 1) := by decide +kernel
theorem d_Law_law_553 : decode code 553 = .ok (.iload 4, 2) := by decide +kernel
theorem d_Law_law_555 : decode code 555 = .ok (.iconst 3, 1) := by decide +kernel
theorem d_Law_law_556 : decode code 556 = .ok (.iadd, 1) := by decide +kernel
theorem d_Law_law_557 : decode code 557 = .ok (.iaload, 1) := by decide +kernel
theorem d_Law_law_558 : decode code 558 = .ok (.aload_n 0, 1) := by decide +kernel
theorem d_Law_law_559 : decode code 559 = .ok (.iload 4, 2) := by decide +kernel
theorem d_Law_law_561 : decode code 561 = .ok (.iconst 4, 1) := by decide +kernel
theorem d_Law_law_562 : decode code 562 = .ok (.iadd, 1) := by decide +kernel
theorem d_Law_law_563 : decode code 563 = .ok (.iaload, 1) := by decide +kernel
theorem d_Law_law_564 : decode code 564 = .ok (.invokevirtual 148, 3) := by decide +kernel
theorem d_Law_law_567 : decode code 567 = .ok (.istore 6, 2) := by decide +kernel
theorem d_Law_law_569 : decode code 569 = .ok (.aload_n 2, 1) := by decide +kernel
theorem d_Law_law_570 : decode code 570 = .ok (.invokevirtual 132, 3) := by decide +kernel
theorem d_Law_law_573 : decode code 573 = .ok (.iload 5, 2) := by decide +kernel
theorem d_Law_law_575 : decode code 575 = .ok (.if_icmp .eq 5, 3) := by decide +kernel
theorem d_Law_law_580 : decode code 580 = .ok (.iload 5, 2) := by decide +kernel
theorem d_Law_law_582 : decode code 582 = .ok (.ifCond .ne 15, 3) := by decide +kernel
theorem d_Law_law_585 : decode code 585 = .ok (.aload_n 3, 1) := by decide +kernel
theorem d_Law_law_586 : decode code 586 = .ok (.iconst 0, 1) := by decide +kernel
theorem d_Law_law_587 : decode code 587 = .ok (.laload, 1) := by decide +kernel
theorem d_Law_law_588 : decode code 588 = .ok (.iload 6, 2) := by decide +kernel
theorem d_Law_law_590 : decode code 590 = .ok (.i2l, 1) := by decide +kernel
theorem d_Law_law_591 : decode code 591 = .ok (.lcmp, 1) := by decide +kernel
theorem d_Law_law_592 : decode code 592 = .ok (.ifCond .eq 5, 3) := by decide +kernel
theorem d_Law_law_597 : decode code 597 = .ok (.goto 1920, 3) := by decide +kernel
theorem d_Law_law_600 : decode code 600 = .ok (.aload_n 1, 1) := by decide +kernel
theorem d_Law_law_601 : decode code 601 = .ok (.aload_n 0, 1) := by decide +kernel
theorem d_Law_law_602 : decode code 602 = .ok (.iload 4, 2) := by decide +kernel
theorem d_Law_law_604 : decode code 604 = .ok (.iconst 1, 1) := by decide +kernel
theorem d_Law_law_605 : decode code 605 = .ok (.iadd, 1) := by decide +kernel
theorem d_Law_law_606 : decode code 606 = .ok (.iaload, 1) := by decide +kernel
theorem d_Law_law_607 : decode code 607 = .ok (.aload_n 0, 1) := by decide +kernel
theorem d_Law_law_608 : decode code 608 = .ok (.iload 4, 2) := by decide +kernel
theorem d_Law_law_610 : decode code 610 = .ok (.iconst 2, 1) := by decide +kernel
theorem d_Law_law_611 : decode code 611 = .ok (.iadd, 1) := by decide +kernel
theorem d_Law_law_612 : decode code 612 = .ok (.iaload, 1) := by decide +kernel
theorem d_Law_law_613 : decode code 613 = .ok (.aload_n 0, 1) := by decide +kernel
theorem d_Law_law_614 : decode code 614 = .ok (.iload 4, 2) := by decide +kernel
theorem d_Law_law_616 : decode code 616 = .ok (.iconst 3, 1) := by decide +kernel
theorem d_Law_law_617 : decode code 617 = .ok (.iadd, 1) := by decide +kernel
theorem d_Law_law_618 : decode code 618 = .ok (.iaload, 1) := by decide +kernel
theorem d_Law_law_619 : decode code 619 = .ok (.aload_n 0, 1) := by decide +kernel
theorem d_Law_law_620 : decode code 620 = .ok (.iload 4, 2) := by decide +kernel
theorem d_Law_law_622 : decode code 622 = .ok (.iconst 4, 1) := by decide +kernel
theorem d_Law_law_623 : decode code 623 = .ok (.iadd, 1) := by decide +kernel
theorem d_Law_law_624 : decode code 624 = .ok (.iaload, 1) := by decide +kernel
theorem d_Law_law_625 : decode code 625 = .ok (.aload_n 3, 1) := by decide +kernel
theorem d_Law_law_626 : decode code 626 = .ok (.invokestatic 149, 3) := by decide +kernel
theorem d_Law_law_629 : decode code 629 = .ok (.istore 5, 2) := by decide +kernel
theorem d_Law_law_631 : decode code 631 = .ok (.aload_n 2, 1) := by decide +kernel
theorem d_Law_law_632 : decode code 632 = .ok (.aload_n 0, 1) := by decide +kernel
theorem d_Law_law_633 : decode code 633 = .ok (.iload 4, 2) := by decide +kernel
theorem d_Law_law_635 : decode code 635 = .ok (.iconst 1, 1) := by decide +kernel
theorem d_Law_law_636 : decode code 636 = .ok (.iadd, 1) := by decide +kernel
theorem d_Law_law_637 : decode code 637 = .ok (.iaload, 1) := by decide +kernel
theorem d_Law_law_638 : decode code 638 = .ok (.aload_n 0, 1) := by decide +kernel
theorem d_Law_law_639 : decode code 639 = .ok (.iload 4, 2) := by decide +kernel
theorem d_Law_law_641 : decode code 641 = .ok (.iconst 2, 1) := by decide +kernel
theorem d_Law_law_642 : decode code 642 = .ok (.iadd, 1) := by decide +kernel
theorem d_Law_law_643 : decode code 643 = .ok (.iaload, 1) := by decide +kernel
theorem d_Law_law_644 : decode code 644 = .ok (.aload_n 0, 1) := by decide +kernel
theorem d_Law_law_645 : decode code 645 = .ok (.iload 4, 2) := by decide +kernel
theorem d_Law_law_647 : decode code 647 = .ok (.iconst 3, 1) := by decide +kernel
theorem d_Law_law_648 : decode code 648 = .ok (.iadd, 1) := by decide +kernel
theorem d_Law_law_649 : decode code 649 = .ok (.iaload, 1) := by decide +kernel
theorem d_Law_law_650 : decode code 650 = .ok (.aload_n 0, 1) := by decide +kernel
theorem d_Law_law_651 : decode code 651 = .ok (.iload 4, 2) := by decide +kernel
theorem d_Law_law_653 : decode code 653 = .ok (.iconst 4, 1) := by decide +kernel
theorem d_Law_law_654 : decode code 654 = .ok (.iadd, 1) := by decide +kernel
theorem d_Law_law_655 : decode code 655 = .ok (.iaload, 1) := by decide +kernel
theorem d_Law_law_656 : decode code 656 = .ok (.invokevirtual 151, 3) := by decide +kernel
theorem d_Law_law_659 : decode code 659 = .ok (.istore 6, 2) := by decide +kernel
theorem d_Law_law_661 : decode code 661 = .ok (.aload_n 2, 1) := by decide +kernel
theorem d_Law_law_662 : decode code 662 = .ok (.invokevirtual 132, 3) := by decide +kernel
theorem d_Law_law_665 : decode code 665 = .ok (.iload 5, 2) := by decide +kernel
theorem d_Law_law_667 : decode code 667 = .ok (.if_icmp .eq 5, 3) := by decide +kernel
theorem d_Law_law_672 : decode code 672 = .ok (.iload 5, 2) := by decide +kernel
theorem d_Law_law_674 : decode code 674 = .ok (.ifCond .ne 15, 3) := by decide +kernel
theorem d_Law_law_677 : decode code 677 = .ok (.aload_n 3, 1) := by decide +kernel
theorem d_Law_law_678 : decode code 678 = .ok (.iconst 0, 1) := by decide +kernel
theorem d_Law_law_679 : decode code 679 = .ok (.laload, 1) := by decide +kernel
theorem d_Law_law_680 : decode code 680 = .ok (.iload 6, 2) := by decide +kernel
theorem d_Law_law_682 : decode code 682 = .ok (.i2l, 1) := by decide +kernel
theorem d_Law_law_683 : decode code 683 = .ok (.lcmp, 1) := by decide +kernel
theorem d_Law_law_684 : decode code 684 = .ok (.ifCond .eq 5, 3) := by decide +kernel
theorem d_Law_law_689 : decode code 689 = .ok (.goto 1828, 3) := by decide +kernel
theorem d_Law_law_692 : decode code 692 = .ok (.aload_n 1, 1) := by decide +kernel
theorem d_Law_law_693 : decode code 693 = .ok (.aload_n 0, 1) := by decide +kernel
theorem d_Law_law_694 : decode code 694 = .ok (.iload 4, 2) := by decide +kernel
theorem d_Law_law_696 : decode code 696 = .ok (.iconst 1, 1) := by decide +kernel
theorem d_Law_law_697 : decode code 697 = .ok (.iadd, 1) := by decide +kernel
theorem d_Law_law_698 : decode code 698 = .ok (.iaload, 1) := by decide +kernel
theorem d_Law_law_699 : decode code 699 = .ok (.aload_n 0, 1) := by decide +kernel
theorem d_Law_law_700 : decode code 700 = .ok (.iload 4, 2) := by decide +kernel
theorem d_Law_law_702 : decode code 702 = .ok (.iconst 2, 1) := by decide +kernel
theorem d_Law_law_703 : decode code 703 = .ok (.iadd, 1) := by decide +kernel
theorem d_Law_law_704 : decode code 704 = .ok (.iaload, 1) := by decide +kernel
theorem d_Law_law_705 : decode code 705 = .ok (.aload_n 0, 1) := by decide +kernel
theorem d_Law_law_706 : decode code 706 = .ok (.iload 4, 2) := by decide +kernel
theorem d_Law_law_708 : decode code 708 = .ok (.iconst 3, 1) := by decide +kernel
theorem d_Law_law_709 : decode code 709 = .ok (.iadd, 1) := by decide +kernel
theorem d_Law_law_710 : decode code 710 = .ok (.iaload, 1) := by decide +kernel
theorem d_Law_law_711 : decode code 711 = .ok (.aload_n 0, 1) := by decide +kernel
theorem d_Law_law_712 : decode code 712 = .ok (.iload 4, 2) := by decide +kernel
theorem d_Law_law_714 : decode code 714 = .ok (.iconst 4, 1) := by decide +kernel
theorem d_Law_law_715 : decode code 715 = .ok (.iadd, 1) := by decide +kernel
theorem d_Law_law_716 : decode code 716 = .ok (.iaload, 1) := by decide +kernel
theorem d_Law_law_717 : decode code 717 = .ok (.aload_n 3, 1) := by decide +kernel
theorem d_Law_law_718 : decode code 718 = .ok (.invokestatic 152, 3) := by decide +kernel
theorem d_Law_law_721 : decode code 721 = .ok (.istore 5, 2) := by decide +kernel
theorem d_Law_law_723 : decode code 723 = .ok (.aload_n 2, 1) := by decide +kernel
theorem d_Law_law_724 : decode code 724 = .ok (.aload_n 0, 1) := by decide +kernel
theorem d_Law_law_725 : decode code 725 = .ok (.iload 4, 2) := by decide +kernel
theorem d_Law_law_727 : decode code 727 = .ok (.iconst 1, 1) := by decide +kernel
theorem d_Law_law_728 : decode code 728 = .ok (.iadd, 1) := by decide +kernel
theorem d_Law_law_729 : decode code 729 = .ok (.iaload, 1) := by decide +kernel
theorem d_Law_law_730 : decode code 730 = .ok (.aload_n 0, 1) := by decide +kernel
theorem d_Law_law_731 : decode code 731 = .ok (.iload 4, 2) := by decide +kernel
theorem d_Law_law_733 : decode code 733 = .ok (.iconst 2, 1) := by decide +kernel
theorem d_Law_law_734 : decode code 734 = .ok (.iadd, 1) := by decide +kernel
theorem d_Law_law_735 : decode code 735 = .ok (.iaload, 1) := by decide +kernel
theorem d_Law_law_736 : decode code 736 = .ok (.aload_n 0, 1) := by decide +kernel
theorem d_Law_law_737 : decode code 737 = .ok (.iload 4, 2) := by decide +kernel
theorem d_Law_law_739 : decode code 739 = .ok (.iconst 3, 1) := by decide +kernel
theorem d_Law_law_740 : decode code 740 = .ok (.iadd, 1) := by decide +kernel
theorem d_Law_law_741 : decode code 741 = .ok (.iaload, 1) := by decide +kernel
theorem d_Law_law_742 : decode code 742 = .ok (.aload_n 0, 1) := by decide +kernel
theorem d_Law_law_743 : decode code 743 = .ok (.iload 4, 2) := by decide +kernel
theorem d_Law_law_745 : decode code 745 = .ok (.iconst 4, 1) := by decide +kernel
theorem d_Law_law_746 : decode code 746 = .ok (.iadd, 1) := by decide +kernel
theorem d_Law_law_747 : decode code 747 = .ok (.iaload, 1) := by decide +kernel
theorem d_Law_law_748 : decode code 748 = .ok (.invokevirtual 154, 3) := by decide +kernel
theorem d_Law_law_751 : decode code 751 = .ok (.istore 6, 2) := by decide +kernel
theorem d_Law_law_753 : decode code 753 = .ok (.aload_n 2, 1) := by decide +kernel
theorem d_Law_law_754 : decode code 754 = .ok (.invokevirtual 132, 3) := by decide +kernel
theorem d_Law_law_757 : decode code 757 = .ok (.iload 5, 2) := by decide +kernel
theorem d_Law_law_759 : decode code 759 = .ok (.if_icmp .eq 5, 3) := by decide +kernel
theorem d_Law_law_764 : decode code 764 = .ok (.iload 5, 2) := by decide +kernel
theorem d_Law_law_766 : decode code 766 = .ok (.ifCond .ne 15, 3) := by decide +kernel
theorem d_Law_law_769 : decode code 769 = .ok (.aload_n 3, 1) := by decide +kernel
theorem d_Law_law_770 : decode code 770 = .ok (.iconst 0, 1) := by decide +kernel
theorem d_Law_law_771 : decode code 771 = .ok (.laload, 1) := by decide +kernel
theorem d_Law_law_772 : decode code 772 = .ok (.iload 6, 2) := by decide +kernel
theorem d_Law_law_774 : decode code 774 = .ok (.i2l, 1) := by decide +kernel
theorem d_Law_law_775 : decode code 775 = .ok (.lcmp, 1) := by decide +kernel
theorem d_Law_law_776 : decode code 776 = .ok (.ifCond .eq 5, 3) := by decide +kernel
theorem d_Law_law_781 : decode code 781 = .ok (.goto 1736, 3) := by decide +kernel
theorem d_Law_law_784 : decode code 784 = .ok (.aload_n 1, 1) := by decide +kernel
theorem d_Law_law_785 : decode code 785 = .ok (.aload_n 0, 1) := by decide +kernel
theorem d_Law_law_786 : decode code 786 = .ok (.iload 4, 2) := by decide +kernel
theorem d_Law_law_788 : decode code 788 = .ok (.iconst 1, 1) := by decide +kernel
theorem d_Law_law_789 : decode code 789 = .ok (.iadd, 1) := by decide +kernel
theorem d_Law_law_790 : decode code 790 = .ok (.iaload, 1) := by decide +kernel
theorem d_Law_law_791 : decode code 791 = .ok (.aload_n 0, 1) := by decide +kernel
theorem d_Law_law_792 : decode code 792 = .ok (.iload 4, 2) := by decide +kernel
theorem d_Law_law_794 : decode code 794 = .ok (.iconst 2, 1) := by decide +kernel
theorem d_Law_law_795 : decode code 795 = .ok (.iadd, 1) := by decide +kernel
theorem d_Law_law_796 : decode code 796 = .ok (.iaload, 1) := by decide +kernel
theorem d_Law_law_797 : decode code 797 = .ok (.aload_n 3, 1) := by decide +kernel
theorem d_Law_law_798 : decode code 798 = .ok (.invokestatic 155, 3) := by decide +kernel
theorem d_Law_law_801 : decode code 801 = .ok (.istore 5, 2) := by decide +kernel
theorem d_Law_law_803 : decode code 803 = .ok (.aload_n 2, 1) := by decide +kernel
theorem d_Law_law_804 : decode code 804 = .ok (.aload_n 0, 1) := by decide +kernel
theorem d_Law_law_805 : decode code 805 = .ok (.iload 4, 2) := by decide +kernel
theorem d_Law_law_807 : decode code 807 = .ok (.iconst 1, 1) := by decide +kernel
theorem d_Law_law_808 : decode code 808 = .ok (.iadd, 1) := by decide +kernel
theorem d_Law_law_809 : decode code 809 = .ok (.iaload, 1) := by decide +kernel
theorem d_Law_law_810 : decode code 810 = .ok (.aload_n 0, 1) := by decide +kernel
theorem d_Law_law_811 : decode code 811 = .ok (.iload 4, 2) := by decide +kernel
theorem d_Law_law_813 : decode code 813 = .ok (.iconst 2, 1) := by decide +kernel
theorem d_Law_law_814 : decode code 814 = .ok (.iadd, 1) := by decide +kernel
theorem d_Law_law_815 : decode code 815 = .ok (.iaload, 1) := by decide +kernel
theorem d_Law_law_816 : decode code 816 = .ok (.invokevirtual 157, 3) := by decide +kernel
theorem d_Law_law_819 : decode code 819 = .ok (.istore 6, 2) := by decide +kernel
theorem d_Law_law_821 : decode code 821 = .ok (.aload_n 2, 1) := by decide +kernel
theorem d_Law_law_822 : decode code 822 = .ok (.invokevirtual 132, 3) := by decide +kernel
theorem d_Law_law_825 : decode code 825 = .ok (.iload 5, 2) := by decide +kernel
theorem d_Law_law_827 : decode code 827 = .ok (.if_icmp .eq 5, 3) := by decide +kernel
theorem d_Law_law_832 : decode code 832 = .ok (.iload 5, 2) := by decide +kernel
theorem d_Law_law_834 : decode code 834 = .ok (.ifCond .ne 15, 3) := by decide +kernel
theorem d_Law_law_837 : decode code 837 = .ok (.aload_n 3, 1) := by decide +kernel
theorem d_Law_law_838 : decode code 838 = .ok (.iconst 0, 1) := by decide +kernel
theorem d_Law_law_839 : decode code 839 = .ok (.laload, 1) := by decide +kernel
theorem d_Law_law_840 : decode code 840 = .ok (.iload 6, 2) := by decide +kernel
theorem d_Law_law_842 : decode code 842 = .ok (.i2l, 1) := by decide +kernel
theorem d_Law_law_843 : decode code 843 = .ok (.lcmp, 1) := by decide +kernel
theorem d_Law_law_844 : decode code 844 = .ok (.ifCond .eq 5, 3) := by decide +kernel
theorem d_Law_law_849 : decode code 849 = .ok (.goto 1668, 3) := by decide +kernel
theorem d_Law_law_852 : decode code 852 = .ok (.aload_n 1, 1) := by decide +kernel
theorem d_Law_law_853 : decode code 853 = .ok (.aload_n 0, 1) := by decide +kernel
theorem d_Law_law_854 : decode code 854 = .ok (.iload 4, 2) := by decide +kernel
theorem d_Law_law_856 : decode code 856 = .ok (.iconst 1, 1) := by decide +kernel
theorem d_Law_law_857 : decode code 857 = .ok (.iadd, 1) := by decide +kernel
theorem d_Law_law_858 : decode code 858 = .ok (.iaload, 1) := by decide +kernel
theorem d_Law_law_859 : decode code 859 = .ok (.aload_n 0, 1) := by decide +kernel
theorem d_Law_law_860 : decode code 860 = .ok (.iload 4, 2) := by decide +kernel
theorem d_Law_law_862 : decode code 862 = .ok (.iconst 2, 1) := by decide +kernel
theorem d_Law_law_863 : decode code 863 = .ok (.iadd, 1) := by decide +kernel
theorem d_Law_law_864 : decode code 864 = .ok (.iaload, 1) := by decide +kernel
theorem d_Law_law_865 : decode code 865 = .ok (.aload_n 0, 1) := by decide +kernel
theorem d_Law_law_866 : decode code 866 = .ok (.iload 4, 2) := by decide +kernel
theorem d_Law_law_868 : decode code 868 = .ok (.iconst 3, 1) := by decide +kernel
theorem d_Law_law_869 : decode code 869 = .ok (.iadd, 1) := by decide +kernel
theorem d_Law_law_870 : decode code 870 = .ok (.iaload, 1) := by decide +kernel
theorem d_Law_law_871 : decode code 871 = .ok (.aload_n 3, 1) := by decide +kernel
theorem d_Law_law_872 : decode code 872 = .ok (.invokestatic 158, 3) := by decide +kernel
theorem d_Law_law_875 : decode code 875 = .ok (.istore 5, 2) := by decide +kernel
theorem d_Law_law_877 : decode code 877 = .ok (.aload_n 2, 1) := by decide +kernel
theorem d_Law_law_878 : decode code 878 = .ok (.aload_n 0, 1) := by decide +kernel
theorem d_Law_law_879 : decode code 879 = .ok (.iload 4, 2) := by decide +kernel
theorem d_Law_law_881 : decode code 881 = .ok (.iconst 1, 1) := by decide +kernel
theorem d_Law_law_882 : decode code 882 = .ok (.iadd, 1) := by decide +kernel
theorem d_Law_law_883 : decode code 883 = .ok (.iaload, 1) := by decide +kernel
theorem d_Law_law_884 : decode code 884 = .ok (.aload_n 0, 1) := by decide +kernel
theorem d_Law_law_885 : decode code 885 = .ok (.iload 4, 2) := by decide +kernel
theorem d_Law_law_887 : decode code 887 = .ok (.iconst 2, 1) := by decide +kernel
theorem d_Law_law_888 : decode code 888 = .ok (.iadd, 1) := by decide +kernel
theorem d_Law_law_889 : decode code 889 = .ok (.iaload, 1) := by decide +kernel
theorem d_Law_law_890 : decode code 890 = .ok (.aload_n 0, 1) := by decide +kernel
theorem d_Law_law_891 : decode code 891 = .ok (.iload 4, 2) := by decide +kernel
theorem d_Law_law_893 : decode code 893 = .ok (.iconst 3, 1) := by decide +kernel
theorem d_Law_law_894 : decode code 894 = .ok (.iadd, 1) := by decide +kernel
theorem d_Law_law_895 : decode code 895 = .ok (.iaload, 1) := by decide +kernel
theorem d_Law_law_896 : decode code 896 = .ok (.invokevirtual 160, 3) := by decide +kernel
theorem d_Law_law_899 : decode code 899 = .ok (.istore 6, 2) := by decide +kernel
theorem d_Law_law_901 : decode code 901 = .ok (.aload_n 2, 1) := by decide +kernel
theorem d_Law_law_902 : decode code 902 = .ok (.invokevirtual 132, 3) := by decide +kernel
theorem d_Law_law_905 : decode code 905 = .ok (.iload 5, 2) := by decide +kernel
theorem d_Law_law_907 : decode code 907 = .ok (.if_icmp .eq 5, 3) := by decide +kernel
theorem d_Law_law_912 : decode code 912 = .ok (.iload 5, 2) := by decide +kernel
theorem d_Law_law_914 : decode code 914 = .ok (.ifCond .ne 15, 3) := by decide +kernel
theorem d_Law_law_917 : decode code 917 = .ok (.aload_n 3, 1) := by decide +kernel
theorem d_Law_law_918 : decode code 918 = .ok (.iconst 0, 1) := by decide +kernel
theorem d_Law_law_919 : decode code 919 = .ok (.laload, 1) := by decide +kernel
theorem d_Law_law_920 : decode code 920 = .ok (.iload 6, 2) := by decide +kernel
theorem d_Law_law_922 : decode code 922 = .ok (.i2l, 1) := by decide +kernel
theorem d_Law_law_923 : decode code 923 = .ok (.lcmp, 1) := by decide +kernel
theorem d_Law_law_924 : decode code 924 = .ok (.ifCond .eq 5, 3) := by decide +kernel
theorem d_Law_law_929 : decode code 929 = .ok (.goto 1588, 3) := by decide +kernel
theorem d_Law_law_932 : decode code 932 = .ok (.aload_n 1, 1) := by decide +kernel
theorem d_Law_law_933 : decode code 933 = .ok (.aload_n 0, 1) := by decide +kernel
theorem d_Law_law_934 : decode code 934 = .ok (.iload 4, 2) := by decide +kernel
theorem d_Law_law_936 : decode code 936 = .ok (.iconst 1, 1) := by decide +kernel
theorem d_Law_law_937 : decode code 937 = .ok (.iadd, 1) := by decide +kernel
theorem d_Law_law_938 : decode code 938 = .ok (.iaload, 1) := by decide +kernel
theorem d_Law_law_939 : decode code 939 = .ok (.aload_n 0, 1) := by decide +kernel
theorem d_Law_law_940 : decode code 940 = .ok (.iload 4, 2) := by decide +kernel
theorem d_Law_law_942 : decode code 942 = .ok (.iconst 2, 1) := by decide +kernel
