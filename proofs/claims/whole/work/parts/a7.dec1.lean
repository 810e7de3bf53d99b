/-! the law, instruction by instruction -/
theorem dL_law_645 : decode code 645 = .ok (.iload 4, 2) := by decide +kernel
theorem dL_law_647 : decode code 647 = .ok (.iconst 2, 1) := by decide +kernel
theorem dL_law_648 : decode code 648 = .ok (.iadd, 1) := by decide +kernel
theorem dL_law_649 : decode code 649 = .ok (.iaload, 1) := by decide +kernel
theorem dL_law_650 : decode code 650 = .ok (.invokevirtual 133, 3) := by decide +kernel
theorem dL_law_653 : decode code 653 = .ok (.istore 6, 2) := by decide +kernel
theorem dL_law_655 : decode code 655 = .ok (.aload_n 2, 1) := by decide +kernel
theorem dL_law_656 : decode code 656 = .ok (.invokevirtual 109, 3) := by decide +kernel
theorem dL_law_659 : decode code 659 = .ok (.iload 5, 2) := by decide +kernel
theorem dL_law_661 : decode code 661 = .ok (.if_icmp .eq 5, 3) := by decide +kernel
theorem dL_law_664 : decode code 664 = .ok (.iconst 0, 1) := by decide +kernel
theorem dL_law_665 : decode code 665 = .ok (.ireturn, 1) := by decide +kernel
theorem dL_law_666 : decode code 666 = .ok (.iload 5, 2) := by decide +kernel
theorem dL_law_668 : decode code 668 = .ok (.ifCond .ne 15, 3) := by decide +kernel
theorem dL_law_671 : decode code 671 = .ok (.aload_n 3, 1) := by decide +kernel
theorem dL_law_672 : decode code 672 = .ok (.iconst 0, 1) := by decide +kernel
theorem dL_law_673 : decode code 673 = .ok (.laload, 1) := by decide +kernel
theorem dL_law_674 : decode code 674 = .ok (.iload 6, 2) := by decide +kernel
theorem dL_law_676 : decode code 676 = .ok (.i2l, 1) := by decide +kernel
theorem dL_law_677 : decode code 677 = .ok (.lcmp, 1) := by decide +kernel
theorem dL_law_678 : decode code 678 = .ok (.ifCond .eq 5, 3) := by decide +kernel
theorem dL_law_681 : decode code 681 = .ok (.iconst 0, 1) := by decide +kernel
theorem dL_law_682 : decode code 682 = .ok (.ireturn, 1) := by decide +kernel
theorem dL_law_683 : decode code 683 = .ok (.goto 1492, 3) := by decide +kernel
theorem dL_law_686 : decode code 686 = .ok (.aload_n 1, 1) := by decide +kernel
theorem dL_law_687 : decode code 687 = .ok (.aload_n 0, 1) := by decide +kernel
theorem dL_law_688 : decode code 688 = .ok (.iload 4, 2) := by decide +kernel
theorem dL_law_690 : decode code 690 = .ok (.iconst 1, 1) := by decide +kernel
theorem dL_law_691 : decode code 691 = .ok (.iadd, 1) := by decide +kernel
theorem dL_law_692 : decode code 692 = .ok (.iaload, 1) := by decide +kernel
theorem dL_law_693 : decode code 693 = .ok (.aload_n 0, 1) := by decide +kernel
theorem dL_law_694 : decode code 694 = .ok (.iload 4, 2) := by decide +kernel
theorem dL_law_696 : decode code 696 = .ok (.iconst 2, 1) := by decide +kernel
theorem dL_law_697 : decode code 697 = .ok (.iadd, 1) := by decide +kernel
theorem dL_law_698 : decode code 698 = .ok (.iaload, 1) := by decide +kernel
theorem dL_law_699 : decode code 699 = .ok (.aload_n 0, 1) := by decide +kernel
theorem dL_law_700 : decode code 700 = .ok (.iload 4, 2) := by decide +kernel
theorem dL_law_702 : decode code 702 = .ok (.iconst 3, 1) := by decide +kernel
theorem dL_law_703 : decode code 703 = .ok (.iadd, 1) := by decide +kernel
theorem dL_law_704 : decode code 704 = .ok (.iaload, 1) := by decide +kernel
theorem dL_law_705 : decode code 705 = .ok (.aload_n 3, 1) := by decide +kernel
theorem dL_law_706 : decode code 706 = .ok (.invokestatic 134, 3) := by decide +kernel
theorem dL_law_709 : decode code 709 = .ok (.istore 5, 2) := by decide +kernel
theorem dL_law_711 : decode code 711 = .ok (.aload_n 2, 1) := by decide +kernel
theorem dL_law_712 : decode code 712 = .ok (.aload_n 0, 1) := by decide +kernel
theorem dL_law_713 : decode code 713 = .ok (.iload 4, 2) := by decide +kernel
theorem dL_law_715 : decode code 715 = .ok (.iconst 1, 1) := by decide +kernel
theorem dL_law_716 : decode code 716 = .ok (.iadd, 1) := by decide +kernel
theorem dL_law_717 : decode code 717 = .ok (.iaload, 1) := by decide +kernel
theorem dL_law_718 : decode code 718 = .ok (.aload_n 0, 1) := by decide +kernel
theorem dL_law_719 : decode code 719 = .ok (.iload 4, 2) := by decide +kernel
theorem dL_law_721 : decode code 721 = .ok (.iconst 2, 1) := by decide +kernel
theorem dL_law_722 : decode code 722 = .ok (.iadd, 1) := by decide +kernel
theorem dL_law_723 : decode code 723 = .ok (.iaload, 1) := by decide +kernel
theorem dL_law_724 : decode code 724 = .ok (.aload_n 0, 1) := by decide +kernel
theorem dL_law_725 : decode code 725 = .ok (.iload 4, 2) := by decide +kernel
theorem dL_law_727 : decode code 727 = .ok (.iconst 3, 1) := by decide +kernel
theorem dL_law_728 : decode code 728 = .ok (.iadd, 1) := by decide +kernel
theorem dL_law_729 : decode code 729 = .ok (.iaload, 1) := by decide +kernel
theorem dL_law_730 : decode code 730 = .ok (.invokevirtual 136, 3) := by decide +kernel
theorem dL_law_733 : decode code 733 = .ok (.istore 6, 2) := by decide +kernel
theorem dL_law_735 : decode code 735 = .ok (.aload_n 2, 1) := by decide +kernel
theorem dL_law_736 : decode code 736 = .ok (.invokevirtual 109, 3) := by decide +kernel
theorem dL_law_739 : decode code 739 = .ok (.iload 5, 2) := by decide +kernel
theorem dL_law_741 : decode code 741 = .ok (.if_icmp .eq 5, 3) := by decide +kernel
theorem dL_law_744 : decode code 744 = .ok (.iconst 0, 1) := by decide +kernel
theorem dL_law_745 : decode code 745 = .ok (.ireturn, 1) := by decide +kernel
theorem dL_law_746 : decode code 746 = .ok (.iload 5, 2) := by decide +kernel
theorem dL_law_748 : decode code 748 = .ok (.ifCond .ne 15, 3) := by decide +kernel
theorem dL_law_751 : decode code 751 = .ok (.aload_n 3, 1) := by decide +kernel
theorem dL_law_752 : decode code 752 = .ok (.iconst 0, 1) := by decide +kernel
theorem dL_law_753 : decode code 753 = .ok (.laload, 1) := by decide +kernel
theorem dL_law_754 : decode code 754 = .ok (.iload 6, 2) := by decide +kernel
theorem dL_law_756 : decode code 756 = .ok (.i2l, 1) := by decide +kernel
theorem dL_law_757 : decode code 757 = .ok (.lcmp, 1) := by decide +kernel
theorem dL_law_758 : decode code 758 = .ok (.ifCond .eq 5, 3) := by decide +kernel
theorem dL_law_761 : decode code 761 = .ok (.iconst 0, 1) := by decide +kernel
theorem dL_law_762 : decode code 762 = .ok (.ireturn, 1) := by decide +kernel
theorem dL_law_763 : decode code 763 = .ok (.goto 1412, 3) := by decide +kernel
theorem dL_law_766 : decode code 766 = .ok (.aload_n 1, 1) := by decide +kernel
theorem dL_law_767 : decode code 767 = .ok (.aload_n 0, 1) := by decide +kernel
theorem dL_law_768 : decode code 768 = .ok (.iload 4, 2) := by decide +kernel
theorem dL_law_770 : decode code 770 = .ok (.iconst 1, 1) := by decide +kernel
theorem dL_law_771 : decode code 771 = .ok (.iadd, 1) := by decide +kernel
theorem dL_law_772 : decode code 772 = .ok (.iaload, 1) := by decide +kernel
theorem dL_law_773 : decode code 773 = .ok (.aload_n 0, 1) := by decide +kernel
theorem dL_law_774 : decode code 774 = .ok (.iload 4, 2) := by decide +kernel
theorem dL_law_776 : decode code 776 = .ok (.iconst 2, 1) := by decide +kernel
theorem dL_law_777 : decode code 777 = .ok (.iadd, 1) := by decide +kernel
theorem dL_law_778 : decode code 778 = .ok (.iaload, 1) := by decide +kernel
theorem dL_law_779 : decode code 779 = .ok (.aload_n 3, 1) := by decide +kernel
theorem dL_law_780 : decode code 780 = .ok (.invokestatic 137, 3) := by decide +kernel
theorem dL_law_783 : decode code 783 = .ok (.istore 5, 2) := by decide +kernel
theorem dL_law_785 : decode code 785 = .ok (.aload_n 2, 1) := by decide +kernel
theorem dL_law_786 : decode code 786 = .ok (.aload_n 0, 1) := by decide +kernel
theorem dL_law_787 : decode code 787 = .ok (.iload 4, 2) := by decide +kernel
theorem dL_law_789 : decode code 789 = .ok (.iconst 1, 1) := by decide +kernel
theorem dL_law_790 : decode code 790 = .ok (.iadd, 1) := by decide +kernel
theorem dL_law_791 : decode code 791 = .ok (.iaload, 1) := by decide +kernel
theorem dL_law_792 : decode code 792 = .ok (.aload_n 0, 1) := by decide +kernel
theorem dL_law_793 : decode code 793 = .ok (.iload 4, 2) := by decide +kernel
theorem dL_law_795 : decode code 795 = .ok (.iconst 2, 1) := by decide +kernel
theorem dL_law_796 : decode code 796 = .ok (.iadd, 1) := by decide +kernel
theorem dL_law_797 : decode code 797 = .ok (.iaload, 1) := by decide +kernel
theorem dL_law_798 : decode code 798 = .ok (.invokevirtual 139, 3) := by decide +kernel
theorem dL_law_801 : decode code 801 = .ok (.istore 6, 2) := by decide +kernel
theorem dL_law_803 : decode code 803 = .ok (.aload_n 2, 1) := by decide +kernel
theorem dL_law_804 : decode code 804 = .ok (.invokevirtual 109, 3) := by decide +kernel
theorem dL_law_807 : decode code 807 = .ok (.iload 5, 2) := by decide +kernel
theorem dL_law_809 : decode code 809 = .ok (.if_icmp .eq 5, 3) := by decide +kernel
theorem dL_law_812 : decode code 812 = .ok (.iconst 0, 1) := by decide +kernel
theorem dL_law_813 : decode code 813 = .ok (.ireturn, 1) := by decide +kernel
theorem dL_law_814 : decode code 814 = .ok (.iload 5, 2) := by decide +kernel
theorem dL_law_816 : decode code 816 = .ok (.ifCond .ne 15, 3) := by decide +kernel
theorem dL_law_819 : decode code 819 = .ok (.aload_n 3, 1) := by decide +kernel
theorem dL_law_820 : decode code 820 = .ok (.iconst 0, 1) := by decide +kernel
theorem dL_law_821 : decode code 821 = .ok (.laload, 1) := by decide +kernel
theorem dL_law_822 : decode code 822 = .ok (.iload 6, 2) := by decide +kernel
theorem dL_law_824 : decode code 824 = .ok (.i2l, 1) := by decide +kernel
theorem dL_law_825 : decode code 825 = .ok (.lcmp, 1) := by decide +kernel
theorem dL_law_826 : decode code 826 = .ok (.ifCond .eq 5, 3) := by decide +kernel
theorem dL_law_829 : decode code 829 = .ok (.iconst 0, 1) := by decide +kernel
theorem dL_law_830 : decode code 830 = .ok (.ireturn, 1) := by decide +kernel
theorem dL_law_831 : decode code 831 = .ok (.goto 1344, 3) := by decide +kernel
theorem dL_law_834 : decode code 834 = .ok (.aload_n 1, 1) := by decide +kernel
theorem dL_law_835 : decode code 835 = .ok (.aload_n 0, 1) := by decide +kernel
theorem dL_law_836 : decode code 836 = .ok (.iload 4, 2) := by decide +kernel
theorem dL_law_838 : decode code 838 = .ok (.iconst 1, 1) := by decide +kernel
theorem dL_law_839 : decode code 839 = .ok (.iadd, 1) := by decide +kernel
theorem dL_law_840 : decode code 840 = .ok (.iaload, 1) := by decide +kernel
theorem dL_law_841 : decode code 841 = .ok (.aload_n 0, 1) := by decide +kernel
theorem dL_law_842 : decode code 842 = .ok (.iload 4, 2) := by decide +kernel
theorem dL_law_844 : decode code 844 = .ok (.iconst 2, 1) := by decide +kernel
theorem dL_law_845 : decode code 845 = .ok (.iadd, 1) := by decide +kernel
theorem dL_law_846 : decode code 846 = .ok (.iaload, 1) := by decide +kernel
theorem dL_law_847 : decode code 847 = .ok (.aload_n 0, 1) := by decide +kernel
theorem dL_law_848 : decode code 848 = .ok (.iload 4, 2) := by decide +kernel
theorem dL_law_850 : decode code 850 = .ok (.iconst 3, 1) := by decide +kernel
theorem dL_law_851 : decode code 851 = .ok (.iadd, 1) := by decide +kernel
theorem dL_law_852 : decode code 852 = .ok (.iaload, 1) := by decide +kernel
theorem dL_law_853 : decode code 853 = .ok (.aload_n 3, 1) := by decide +kernel
theorem dL_law_854 : decode code 854 = .ok (.invokestatic 140, 3) := by decide +kernel
theorem dL_law_857 : decode code 857 = .ok (.istore 5, 2) := by decide +kernel
theorem dL_law_859 : decode code 859 = .ok (.aload_n 2, 1) := by decide +kernel
theorem dL_law_860 : decode code 860 = .ok (.aload_n 0, 1) := by decide +kernel
theorem dL_law_861 : decode code 861 = .ok (.iload 4, 2) := by decide +kernel
theorem dL_law_863 : decode code 863 = .ok (.iconst 1, 1) := by decide +kernel
theorem dL_law_864 : decode code 864 = .ok (.iadd, 1) := by decide +kernel
theorem dL_law_865 : decode code 865 = .ok (.iaload, 1) := by decide +kernel
theorem dL_law_866 : decode code 866 = .ok (.aload_n 0, 1) := by decide +kernel
theorem dL_law_867 : decode code 867 = .ok (.iload 4, 2) := by decide +kernel
theorem dL_law_869 : decode code 869 = .ok (.iconst 2, 1) := by decide +kernel
theorem dL_law_870 : decode code 870 = .ok (.iadd, 1) := by decide +kernel
theorem dL_law_871 : decode code 871 = .ok (.iaload, 1) := by decide +kernel
theorem dL_law_872 : decode code 872 = .ok (.aload_n 0, 1) := by decide +kernel
theorem dL_law_873 : decode code 873 = .ok (.iload 4, 2) := by decide +kernel
theorem dL_law_875 : decode code 875 = .ok (.iconst 3, 1) := by decide +kernel
theorem dL_law_876 : decode code 876 = .ok (.iadd, 1) := by decide +kernel
theorem dL_law_877 : decode code 877 = .ok (.iaload, 1) := by decide +kernel
theorem dL_law_878 : decode code 878 = .ok (.invokevirtual 142, 3) := by decide +kernel
theorem dL_law_881 : decode code 881 = .ok (.istore 6, 2) := by decide +kernel
theorem dL_law_883 : decode code 883 = .ok (.aload_n 2, 1) := by decide +kernel
theorem dL_law_884 : decode code 884 = .ok (.invokevirtual 109, 3) := by decide +kernel
theorem dL_law_887 : decode code 887 = .ok (.iload 5, 2) := by decide +kernel
theorem dL_law_889 : decode code 889 = .ok (.if_icmp .eq 5, 3) := by decide +kernel
theorem dL_law_892 : decode code 892 = .ok (.iconst 0, 1) := by decide +kernel
theorem dL_law_893 : decode code 893 = .ok (.ireturn, 1) := by decide +kernel
theorem dL_law_894 : decode code 894 = .ok (.iload 5, 2) := by decide +kernel
theorem dL_law_896 : decode code 896 = .ok (.ifCond .ne 15, 3) := by decide +kernel
theorem dL_law_899 : decode code 899 = .ok (.aload_n 3, 1) := by decide +kernel
theorem dL_law_900 : decode code 900 = .ok (.iconst 0, 1) := by decide +kernel
theorem dL_law_901 : decode code 901 = .ok (.laload, 1) := by decide +kernel
theorem dL_law_902 : decode code 902 = .ok (.iload 6, 2) := by decide +kernel
theorem dL_law_904 : decode code 904 = .ok (.i2l, 1) := by decide +kernel
theorem dL_law_905 : decode code 905 = .ok (.lcmp, 1) := by decide +kernel
theorem dL_law_906 : decode code 906 = .ok (.ifCond .eq 5, 3) := by decide +kernel
theorem dL_law_909 : decode code 909 = .ok (.iconst 0, 1) := by decide +kernel
theorem dL_law_910 : decode code 910 = .ok (.ireturn, 1) := by decide +kernel
theorem dL_law_911 : decode code 911 = .ok (.goto 1264, 3) := by decide +kernel
theorem dL_law_914 : decode code 914 = .ok (.aload_n 1, 1) := by decide +kernel
theorem dL_law_915 : decode code 915 = .ok (.aload_n 0, 1) := by decide +kernel
theorem dL_law_916 : decode code 916 = .ok (.iload 4, 2) := by decide +kernel
theorem dL_law_918 : decode code 918 = .ok (.iconst 1, 1) := by decide +kernel
theorem dL_law_919 : decode code 919 = .ok (.iadd, 1) := by decide +kernel
theorem dL_law_920 : decode code 920 = .ok (.iaload, 1) := by decide +kernel
theorem dL_law_921 : decode code 921 = .ok (.aload_n 3, 1) := by decide +kernel
theorem dL_law_922 : decode code 922 = .ok (.invokestatic 143, 3) := by decide +kernel
theorem dL_law_925 : decode code 925 = .ok (.istore 5, 2) := by decide +kernel
theorem dL_law_927 : decode code 927 = .ok (.aload_n 2, 1) := by decide +kernel
theorem dL_law_928 : decode code 928 = .ok (.aload_n 0, 1) := by decide +kernel
theorem dL_law_929 : decode code 929 = .ok (.iload 4, 2) := by decide +kernel
theorem dL_law_931 : decode code 931 = .ok (.iconst 1, 1) := by decide +kernel
theorem dL_law_932 : decode code 932 = .ok (.iadd, 1) := by decide +kernel
theorem dL_law_933 : decode code 933 = .ok (.iaload, 1) := by decide +kernel
theorem dL_law_934 : decode code 934 = .ok (.invokevirtual 145, 3) := by decide +kernel
theorem dL_law_937 : decode code 937 = .ok (.istore 6, 2) := by decide +kernel
theorem dL_law_939 : decode code 939 = .ok (.aload_n 2, 1) := by decide +kernel
theorem dL_law_940 : decode code 940 = .ok (.invokevirtual 109, 3) := by decide +kernel
theorem dL_law_943 : decode code 943 = .ok (.iload 5, 2) := by decide +kernel
theorem dL_law_945 : decode code 945 = .ok (.if_icmp .eq 5, 3) := by decide +kernel
theorem dL_law_948 : decode code 948 = .ok (.iconst 0, 1) := by decide +kernel
theorem dL_law_949 : decode code 949 = .ok (.ireturn, 1) := by decide +kernel
theorem dL_law_950 : decode code 950 = .ok (.iload 5, 2) := by decide +kernel
theorem dL_law_952 : decode code 952 = .ok (.ifCond .ne 15, 3) := by decide +kernel
theorem dL_law_955 : decode code 955 = .ok (.aload_n 3, 1) := by decide +kernel
theorem dL_law_956 : decode code 956 = .ok (.iconst 0, 1) := by decide +kernel
theorem dL_law_957 : decode code 957 = .ok (.laload, 1) := by decide +kernel
theorem dL_law_958 : decode code 958 = .ok (.iload 6, 2) := by decide +kernel
theorem dL_law_960 : decode code 960 = .ok (.i2l, 1) := by decide +kernel
theorem dL_law_961 : decode code 961 = .ok (.lcmp, 1) := by decide +kernel
theorem dL_law_962 : decode code 962 = .ok (.ifCond .eq 5, 3) := by decide +kernel
theorem dL_law_965 : decode code 965 = .ok (.iconst 0, 1) := by decide +kernel
theorem dL_law_966 : decode code 966 = .ok (.ireturn, 1) := by decide +kernel
theorem dL_law_967 : decode code 967 = .ok (.goto 1208, 3) := by decide +kernel
theorem dL_law_970 : decode code 970 = .ok (.aload_n 1, 1) := by decide +kernel
theorem dL_law_971 : decode code 971 = .ok (.aload_n 0, 1) := by decide +kernel
theorem dL_law_972 : decode code 972 = .ok (.iload 4, 2) := by decide +kernel
theorem dL_law_974 : decode code 974 = .ok (.iconst 1, 1) := by decide +kernel
theorem dL_law_975 : decode code 975 = .ok (.iadd, 1) := by decide +kernel
theorem dL_law_976 : decode code 976 = .ok (.iaload, 1) := by decide +kernel
theorem dL_law_977 : decode code 977 = .ok (.aload_n 0, 1) := by decide +kernel
theorem dL_law_978 : decode code 978 = .ok (.iload 4, 2) := by decide +kernel
theorem dL_law_980 : decode code 980 = .ok (.iconst 2, 1) := by decide +kernel
theorem dL_law_981 : decode code 981 = .ok (.iadd, 1) := by decide +kernel
theorem dL_law_982 : decode code 982 = .ok (.iaload, 1) := by decide +kernel
theorem dL_law_983 : decode code 983 = .ok (.aload_n 3, 1) := by decide +kernel
theorem dL_law_984 : decode code 984 = .ok (.invokestatic 146, 3) := by decide +kernel
theorem dL_law_987 : decode code 987 = .ok (.istore 5, 2) := by decide +kernel
theorem dL_law_989 : decode code 989 = .ok (.aload_n 2, 1) := by decide +kernel
theorem dL_law_990 : decode code 990 = .ok (.aload_n 0, 1) := by decide +kernel
theorem dL_law_991 : decode code 991 = .ok (.iload 4, 2) := by decide +kernel
theorem dL_law_993 : decode code 993 = .ok (.iconst 1, 1) := by decide +kernel
theorem dL_law_994 : decode code 994 = .ok (.iadd, 1) := by decide +kernel
theorem dL_law_995 : decode code 995 = .ok (.iaload, 1) := by decide +kernel
theorem dL_law_996 : decode code 996 = .ok (.aload_n 0, 1) := by decide +kernel
theorem dL_law_997 : decode code 997 = .ok (.iload 4, 2) := by decide +kernel
theorem dL_law_999 : decode code 999 = .ok (.iconst 2, 1) := by decide +kernel
theorem dL_law_1000 : decode code 1000 = .ok (.iadd, 1) := by decide +kernel
theorem dL_law_1001 : decode code 1001 = .ok (.iaload, 1) := by decide +kernel
theorem dL_law_1002 : decode code 1002 = .ok (.invokevirtual 148, 3) := by decide +kernel
theorem dL_law_1005 : decode code 1005 = .ok (.istore 6, 2) := by decide +kernel
theorem dL_law_1007 : decode code 1007 = .ok (.aload_n 2, 1) := by decide +kernel
theorem dL_law_1008 : decode code 1008 = .ok (.invokevirtual 109, 3) := by decide +kernel
theorem dL_law_1011 : decode code 1011 = .ok (.iload 5, 2) := by decide +kernel
theorem dL_law_1013 : decode code 1013 = .ok (.if_icmp .eq 5, 3) := by decide +kernel
theorem dL_law_1016 : decode code 1016 = .ok (.iconst 0, 1) := by decide +kernel
theorem dL_law_1017 : decode code 1017 = .ok (.ireturn, 1) := by decide +kernel
theorem dL_law_1018 : decode code 1018 = .ok (.iload 5, 2) := by decide +kernel
theorem dL_law_1020 : decode code 1020 = .ok (.ifCond .ne 15, 3) := by decide +kernel
theorem dL_law_1023 : decode code 1023 = .ok (.aload_n 3, 1) := by decide +kernel
theorem dL_law_1024 : decode code 1024 = .ok (.iconst 0, 1) := by decide +kernel
theorem dL_law_1025 : decode code 1025 = .ok (.laload, 1) := by decide +kernel
theorem dL_law_1026 : decode code 1026 = .ok (.iload 6, 2) := by decide +kernel
theorem dL_law_1028 : decode code 1028 = .ok (.i2l, 1) := by decide +kernel
theorem dL_law_1029 : decode code 1029 = .ok (.lcmp, 1) := by decide +kernel
theorem dL_law_1030 : decode code 1030 = .ok (.ifCond .eq 5, 3) := by decide +kernel
theorem dL_law_1033 : decode code 1033 = .ok (.iconst 0, 1) := by decide +kernel
theorem dL_law_1034 : decode code 1034 = .ok (.ireturn, 1) := by decide +kernel
theorem dL_law_1035 : decode code 1035 = .ok (.goto 1140, 3) := by decide +kernel
theorem dL_law_1038 : decode code 1038 = .ok (.aload_n 1, 1) := by decide +kernel
theorem dL_law_1039 : decode code 1039 = .ok (.invokevirtual 149, 3) := by decide +kernel
theorem dL_law_1042 : decode code 1042 = .ok (.aload_n 2, 1) := by decide +kernel
theorem dL_law_1043 : decode code 1043 = .ok (.invokevirtual 152, 3) := by decide +kernel
theorem dL_law_1046 : decode code 1046 = .ok (.if_icmp .eq 1129, 3) := by decide +kernel
theorem dL_law_1049 : decode code 1049 = .ok (.iconst 0, 1) := by decide +kernel
theorem dL_law_1050 : decode code 1050 = .ok (.ireturn, 1) := by decide +kernel
theorem dL_law_1051 : decode code 1051 = .ok (.aload_n 1, 1) := by decide +kernel
theorem dL_law_1052 : decode code 1052 = .ok (.invokevirtual 153, 3) := by decide +kernel
theorem dL_law_1055 : decode code 1055 = .ok (.aload_n 2, 1) := by decide +kernel
theorem dL_law_1056 : decode code 1056 = .ok (.invokevirtual 156, 3) := by decide +kernel
theorem dL_law_1059 : decode code 1059 = .ok (.if_icmp .eq 1116, 3) := by decide +kernel
theorem dL_law_1062 : decode code 1062 = .ok (.iconst 0, 1) := by decide +kernel
theorem dL_law_1063 : decode code 1063 = .ok (.ireturn, 1) := by decide +kernel
theorem dL_law_1064 : decode code 1064 = .ok (.aload_n 1, 1) := by decide +kernel
theorem dL_law_1065 : decode code 1065 = .ok (.aload_n 0, 1) := by decide +kernel
theorem dL_law_1066 : decode code 1066 = .ok (.iload 4, 2) := by decide +kernel
theorem dL_law_1068 : decode code 1068 = .ok (.iconst 1, 1) := by decide +kernel
theorem dL_law_1069 : decode code 1069 = .ok (.iadd, 1) := by decide +kernel
theorem dL_law_1070 : decode code 1070 = .ok (.iaload, 1) := by decide +kernel
theorem dL_law_1071 : decode code 1071 = .ok (.aload_n 3, 1) := by decide +kernel
theorem dL_law_1072 : decode code 1072 = .ok (.invokestatic 157, 3) := by decide +kernel
theorem dL_law_1075 : decode code 1075 = .ok (.istore 5, 2) := by decide +kernel
theorem dL_law_1077 : decode code 1077 = .ok (.aload_n 2, 1) := by decide +kernel
theorem dL_law_1078 : decode code 1078 = .ok (.aload_n 0, 1) := by decide +kernel
theorem dL_law_1079 : decode code 1079 = .ok (.iload 4, 2) := by decide +kernel
theorem dL_law_1081 : decode code 1081 = .ok (.iconst 1, 1) := by decide +kernel
theorem dL_law_1082 : decode code 1082 = .ok (.iadd, 1) := by decide +kernel
theorem dL_law_1083 : decode code 1083 = .ok (.iaload, 1) := by decide +kernel
theorem dL_law_1084 : decode code 1084 = .ok (.invokevirtual 159, 3) := by decide +kernel
theorem dL_law_1087 : decode code 1087 = .ok (.istore 6, 2) := by decide +kernel
theorem dL_law_1089 : decode code 1089 = .ok (.aload_n 2, 1) := by decide +kernel
theorem dL_law_1090 : decode code 1090 = .ok (.invokevirtual 109, 3) := by decide +kernel
theorem dL_law_1093 : decode code 1093 = .ok (.iload 5, 2) := by decide +kernel
theorem dL_law_1095 : decode code 1095 = .ok (.if_icmp .eq 5, 3) := by decide +kernel
theorem dL_law_1098 : decode code 1098 = .ok (.iconst 0, 1) := by decide +kernel
theorem dL_law_1099 : decode code 1099 = .ok (.ireturn, 1) := by decide +kernel
theorem dL_law_1100 : decode code 1100 = .ok (.iload 5, 2) := by decide +kernel
theorem dL_law_1102 : decode code 1102 = .ok (.ifCond .ne 15, 3) := by decide +kernel
theorem dL_law_1105 : decode code 1105 = .ok (.aload_n 3, 1) := by decide +kernel
theorem dL_law_1106 : decode code 1106 = .ok (.iconst 0, 1) := by decide +kernel
theorem dL_law_1107 : decode code 1107 = .ok (.laload, 1) := by decide +kernel
theorem dL_law_1108 : decode code 1108 = .ok (.iload 6, 2) := by decide +kernel
theorem dL_law_1110 : decode code 1110 = .ok (.i2l, 1) := by decide +kernel
theorem dL_law_1111 : decode code 1111 = .ok (.lcmp, 1) := by decide +kernel
theorem dL_law_1112 : decode code 1112 = .ok (.ifCond .eq 5, 3) := by decide +kernel
theorem dL_law_1115 : decode code 1115 = .ok (.iconst 0, 1) := by decide +kernel
theorem dL_law_1116 : decode code 1116 = .ok (.ireturn, 1) := by decide +kernel
theorem dL_law_1117 : decode code 1117 = .ok (.goto 1058, 3) := by decide +kernel
theorem dL_law_1120 : decode code 1120 = .ok (.aload_n 1, 1) := by decide +kernel
theorem dL_law_1121 : decode code 1121 = .ok (.aload_n 0, 1) := by decide +kernel
theorem dL_law_1122 : decode code 1122 = .ok (.iload 4, 2) := by decide +kernel
theorem dL_law_1124 : decode code 1124 = .ok (.iconst 1, 1) := by decide +kernel
theorem dL_law_1125 : decode code 1125 = .ok (.iadd, 1) := by decide +kernel
theorem dL_law_1126 : decode code 1126 = .ok (.iaload, 1) := by decide +kernel
theorem dL_law_1127 : decode code 1127 = .ok (.aload_n 0, 1) := by decide +kernel
theorem dL_law_1128 : decode code 1128 = .ok (.iload 4, 2) := by decide +kernel
theorem dL_law_1130 : decode code 1130 = .ok (.iconst 2, 1) := by decide +kernel
theorem dL_law_1131 : decode code 1131 = .ok (.iadd, 1) := by decide +kernel
theorem dL_law_1132 : decode code 1132 = .ok (.iaload, 1) := by decide +kernel
theorem dL_law_1133 : decode code 1133 = .ok (.aload_n 3, 1) := by decide +kernel
theorem dL_law_1134 : decode code 1134 = .ok (.invokestatic 160, 3) := by decide +kernel
theorem dL_law_1137 : decode code 1137 = .ok (.istore 5, 2) := by decide +kernel
theorem dL_law_1139 : decode code 1139 = .ok (.aload_n 2, 1) := by decide +kernel
theorem dL_law_1140 : decode code 1140 = .ok (.aload_n 0, 1) := by decide +kernel
theorem dL_law_1141 : decode code 1141 = .ok (.iload 4, 2) := by decide +kernel
theorem dL_law_1143 : decode code 1143 = .ok (.iconst 1, 1) := by decide +kernel
theorem dL_law_1144 : decode code 1144 = .ok (.iadd, 1) := by decide +kernel
theorem dL_law_1145 : decode code 1145 = .ok (.iaload, 1) := by decide +kernel
theorem dL_law_1146 : decode code 1146 = .ok (.aload_n 0, 1) := by decide +kernel
theorem dL_law_1147 : decode code 1147 = .ok (.iload 4, 2) := by decide +kernel
theorem dL_law_1149 : decode code 1149 = .ok (.iconst 2, 1) := by decide +kernel
theorem dL_law_1150 : decode code 1150 = .ok (.iadd, 1) := by decide +kernel
theorem dL_law_1151 : decode code 1151 = .ok (.iaload, 1) := by decide +kernel
theorem dL_law_1152 : decode code 1152 = .ok (.invokevirtual 162, 3) := by decide +kernel
theorem dL_law_1155 : decode code 1155 = .ok (.istore 6, 2) := by decide +kernel
theorem dL_law_1157 : decode code 1157 = .ok (.aload_n 2, 1) := by decide +kernel
theorem dL_law_1158 : decode code 1158 = .ok (.invokevirtual 109, 3) := by decide +kernel
theorem dL_law_1161 : decode code 1161 = .ok (.iload 5, 2) := by decide +kernel
theorem dL_law_1163 : decode code 1163 = .ok (.if_icmp .eq 5, 3) := by decide +kernel
theorem dL_law_1166 : decode code 1166 = .ok (.iconst 0, 1) := by decide +kernel
theorem dL_law_1167 : decode code 1167 = .ok (.ireturn, 1) := by decide +kernel
theorem dL_law_1168 : decode code 1168 = .ok (.iload 5, 2) := by decide +kernel
theorem dL_law_1170 : decode code 1170 = .ok (.ifCond .ne 15, 3) := by decide +kernel
theorem dL_law_1173 : decode code 1173 = .ok (.aload_n 3, 1) := by decide +kernel
theorem dL_law_1174 : decode code 1174 = .ok (.iconst 0, 1) := by decide +kernel
