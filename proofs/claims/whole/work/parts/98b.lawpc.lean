/-! ===== equations: LiarsCockLaw, its instructions (printed by wip/whole/gen17.py) ===== -/
theorem D309_708 : decode (mB 309) 708 = .ok (.aload_n 0, 1) := by decide +kernel
theorem D309_709 : decode (mB 309) 709 = .ok (.iload 4, 2) := by decide +kernel
theorem D309_711 : decode (mB 309) 711 = .ok (.iconst 1, 1) := by decide +kernel
theorem D309_712 : decode (mB 309) 712 = .ok (.iadd, 1) := by decide +kernel
theorem D309_713 : decode (mB 309) 713 = .ok (.iaload, 1) := by decide +kernel
theorem D309_714 : CS 309 714 262 0 := ⟨.invokevirtual 75, by decide +kernel, by decide +kernel, by decide +kernel, by decide⟩
theorem D309_717 : BR 309 717 (.if_icmp .eq 1101) (1101) 1818 := ⟨by decide +kernel, by decide, by decide⟩
theorem D309_720 : decode (mB 309) 720 = .ok (.iconst 0, 1) := by decide +kernel
theorem D309_721 : decode (mB 309) 721 = .ok (.ireturn, 1) := by decide +kernel
theorem D309_722 : decode (mB 309) 722 = .ok (.aload_n 1, 1) := by decide +kernel
theorem D309_723 : decode (mB 309) 723 = .ok (.aload_n 0, 1) := by decide +kernel
theorem D309_724 : decode (mB 309) 724 = .ok (.iload 4, 2) := by decide +kernel
theorem D309_726 : decode (mB 309) 726 = .ok (.iconst 1, 1) := by decide +kernel
theorem D309_727 : decode (mB 309) 727 = .ok (.iadd, 1) := by decide +kernel
theorem D309_728 : decode (mB 309) 728 = .ok (.iaload, 1) := by decide +kernel
theorem D309_729 : CS 309 729 123 0 := ⟨.invokevirtual 76, by decide +kernel, by decide +kernel, by decide +kernel, by decide⟩
theorem D309_732 : decode (mB 309) 732 = .ok (.aload_n 2, 1) := by decide +kernel
theorem D309_733 : decode (mB 309) 733 = .ok (.aload_n 0, 1) := by decide +kernel
theorem D309_734 : decode (mB 309) 734 = .ok (.iload 4, 2) := by decide +kernel
theorem D309_736 : decode (mB 309) 736 = .ok (.iconst 1, 1) := by decide +kernel
theorem D309_737 : decode (mB 309) 737 = .ok (.iadd, 1) := by decide +kernel
theorem D309_738 : decode (mB 309) 738 = .ok (.iaload, 1) := by decide +kernel
theorem D309_739 : CS 309 739 264 0 := ⟨.invokevirtual 79, by decide +kernel, by decide +kernel, by decide +kernel, by decide⟩
theorem D309_742 : BR 309 742 (.if_icmp .eq 1076) (1076) 1818 := ⟨by decide +kernel, by decide, by decide⟩
theorem D309_745 : decode (mB 309) 745 = .ok (.iconst 0, 1) := by decide +kernel
theorem D309_746 : decode (mB 309) 746 = .ok (.ireturn, 1) := by decide +kernel
theorem D309_747 : decode (mB 309) 747 = .ok (.aload_n 1, 1) := by decide +kernel
theorem D309_748 : decode (mB 309) 748 = .ok (.aload_n 0, 1) := by decide +kernel
theorem D309_749 : decode (mB 309) 749 = .ok (.iload 4, 2) := by decide +kernel
theorem D309_751 : decode (mB 309) 751 = .ok (.iconst 1, 1) := by decide +kernel
theorem D309_752 : decode (mB 309) 752 = .ok (.iadd, 1) := by decide +kernel
theorem D309_753 : decode (mB 309) 753 = .ok (.iaload, 1) := by decide +kernel
theorem D309_754 : decode (mB 309) 754 = .ok (.aload_n 0, 1) := by decide +kernel
theorem D309_755 : decode (mB 309) 755 = .ok (.iload 4, 2) := by decide +kernel
theorem D309_757 : decode (mB 309) 757 = .ok (.iconst 2, 1) := by decide +kernel
theorem D309_758 : decode (mB 309) 758 = .ok (.iadd, 1) := by decide +kernel
theorem D309_759 : decode (mB 309) 759 = .ok (.iaload, 1) := by decide +kernel
theorem D309_760 : CS 309 760 124 0 := ⟨.invokevirtual 80, by decide +kernel, by decide +kernel, by decide +kernel, by decide⟩
theorem D309_763 : decode (mB 309) 763 = .ok (.aload_n 2, 1) := by decide +kernel
theorem D309_764 : decode (mB 309) 764 = .ok (.aload_n 0, 1) := by decide +kernel
theorem D309_765 : decode (mB 309) 765 = .ok (.iload 4, 2) := by decide +kernel
theorem D309_767 : decode (mB 309) 767 = .ok (.iconst 1, 1) := by decide +kernel
theorem D309_768 : decode (mB 309) 768 = .ok (.iadd, 1) := by decide +kernel
theorem D309_769 : decode (mB 309) 769 = .ok (.iaload, 1) := by decide +kernel
theorem D309_770 : decode (mB 309) 770 = .ok (.aload_n 0, 1) := by decide +kernel
theorem D309_771 : decode (mB 309) 771 = .ok (.iload 4, 2) := by decide +kernel
theorem D309_773 : decode (mB 309) 773 = .ok (.iconst 2, 1) := by decide +kernel
theorem D309_774 : decode (mB 309) 774 = .ok (.iadd, 1) := by decide +kernel
theorem D309_775 : decode (mB 309) 775 = .ok (.iaload, 1) := by decide +kernel
theorem D309_776 : CS 309 776 265 0 := ⟨.invokevirtual 84, by decide +kernel, by decide +kernel, by decide +kernel, by decide⟩
theorem D309_779 : decode (mB 309) 779 = .ok (.lcmp, 1) := by decide +kernel
theorem D309_780 : BR 309 780 (.ifCond .eq 1038) (1038) 1818 := ⟨by decide +kernel, by decide, by decide⟩
theorem D309_783 : decode (mB 309) 783 = .ok (.iconst 0, 1) := by decide +kernel
theorem D309_784 : decode (mB 309) 784 = .ok (.ireturn, 1) := by decide +kernel
theorem D309_785 : decode (mB 309) 785 = .ok (.aload_n 1, 1) := by decide +kernel
theorem D309_786 : decode (mB 309) 786 = .ok (.aload_n 0, 1) := by decide +kernel
theorem D309_787 : decode (mB 309) 787 = .ok (.iload 4, 2) := by decide +kernel
theorem D309_789 : decode (mB 309) 789 = .ok (.iconst 1, 1) := by decide +kernel
theorem D309_790 : decode (mB 309) 790 = .ok (.iadd, 1) := by decide +kernel
theorem D309_791 : decode (mB 309) 791 = .ok (.iaload, 1) := by decide +kernel
theorem D309_792 : decode (mB 309) 792 = .ok (.aload_n 0, 1) := by decide +kernel
theorem D309_793 : decode (mB 309) 793 = .ok (.iload 4, 2) := by decide +kernel
theorem D309_795 : decode (mB 309) 795 = .ok (.iconst 2, 1) := by decide +kernel
theorem D309_796 : decode (mB 309) 796 = .ok (.iadd, 1) := by decide +kernel
theorem D309_797 : decode (mB 309) 797 = .ok (.iaload, 1) := by decide +kernel
theorem D309_798 : CS 309 798 129 0 := ⟨.invokevirtual 85, by decide +kernel, by decide +kernel, by decide +kernel, by decide⟩
theorem D309_801 : decode (mB 309) 801 = .ok (.aload_n 2, 1) := by decide +kernel
theorem D309_802 : decode (mB 309) 802 = .ok (.aload_n 0, 1) := by decide +kernel
theorem D309_803 : decode (mB 309) 803 = .ok (.iload 4, 2) := by decide +kernel
theorem D309_805 : decode (mB 309) 805 = .ok (.iconst 1, 1) := by decide +kernel
theorem D309_806 : decode (mB 309) 806 = .ok (.iadd, 1) := by decide +kernel
theorem D309_807 : decode (mB 309) 807 = .ok (.iaload, 1) := by decide +kernel
theorem D309_808 : decode (mB 309) 808 = .ok (.aload_n 0, 1) := by decide +kernel
theorem D309_809 : decode (mB 309) 809 = .ok (.iload 4, 2) := by decide +kernel
theorem D309_811 : decode (mB 309) 811 = .ok (.iconst 2, 1) := by decide +kernel
theorem D309_812 : decode (mB 309) 812 = .ok (.iadd, 1) := by decide +kernel
theorem D309_813 : decode (mB 309) 813 = .ok (.iaload, 1) := by decide +kernel
theorem D309_814 : CS 309 814 269 0 := ⟨.invokevirtual 88, by decide +kernel, by decide +kernel, by decide +kernel, by decide⟩
theorem D309_817 : BR 309 817 (.if_icmp .eq 1001) (1001) 1818 := ⟨by decide +kernel, by decide, by decide⟩
theorem D309_820 : decode (mB 309) 820 = .ok (.iconst 0, 1) := by decide +kernel
theorem D309_821 : decode (mB 309) 821 = .ok (.ireturn, 1) := by decide +kernel
theorem D309_822 : decode (mB 309) 822 = .ok (.aload_n 1, 1) := by decide +kernel
theorem D309_823 : decode (mB 309) 823 = .ok (.aload_n 0, 1) := by decide +kernel
theorem D309_824 : decode (mB 309) 824 = .ok (.iload 4, 2) := by decide +kernel
theorem D309_826 : decode (mB 309) 826 = .ok (.iconst 1, 1) := by decide +kernel
theorem D309_827 : decode (mB 309) 827 = .ok (.iadd, 1) := by decide +kernel
theorem D309_828 : decode (mB 309) 828 = .ok (.iaload, 1) := by decide +kernel
theorem D309_829 : CS 309 829 136 0 := ⟨.invokevirtual 89, by decide +kernel, by decide +kernel, by decide +kernel, by decide⟩
theorem D309_832 : decode (mB 309) 832 = .ok (.aload_n 2, 1) := by decide +kernel
theorem D309_833 : decode (mB 309) 833 = .ok (.aload_n 0, 1) := by decide +kernel
theorem D309_834 : decode (mB 309) 834 = .ok (.iload 4, 2) := by decide +kernel
theorem D309_836 : decode (mB 309) 836 = .ok (.iconst 1, 1) := by decide +kernel
theorem D309_837 : decode (mB 309) 837 = .ok (.iadd, 1) := by decide +kernel
theorem D309_838 : decode (mB 309) 838 = .ok (.iaload, 1) := by decide +kernel
theorem D309_839 : CS 309 839 271 0 := ⟨.invokevirtual 92, by decide +kernel, by decide +kernel, by decide +kernel, by decide⟩
theorem D309_842 : BR 309 842 (.if_icmp .eq 976) (976) 1818 := ⟨by decide +kernel, by decide, by decide⟩
theorem D309_845 : decode (mB 309) 845 = .ok (.iconst 0, 1) := by decide +kernel
theorem D309_846 : decode (mB 309) 846 = .ok (.ireturn, 1) := by decide +kernel
theorem D309_847 : decode (mB 309) 847 = .ok (.aload_n 1, 1) := by decide +kernel
theorem D309_848 : decode (mB 309) 848 = .ok (.aload_n 0, 1) := by decide +kernel
theorem D309_849 : decode (mB 309) 849 = .ok (.iload 4, 2) := by decide +kernel
theorem D309_851 : decode (mB 309) 851 = .ok (.iconst 1, 1) := by decide +kernel
theorem D309_852 : decode (mB 309) 852 = .ok (.iadd, 1) := by decide +kernel
theorem D309_853 : decode (mB 309) 853 = .ok (.iaload, 1) := by decide +kernel
theorem D309_854 : decode (mB 309) 854 = .ok (.aload_n 0, 1) := by decide +kernel
theorem D309_855 : decode (mB 309) 855 = .ok (.iload 4, 2) := by decide +kernel
theorem D309_857 : decode (mB 309) 857 = .ok (.iconst 2, 1) := by decide +kernel
theorem D309_858 : decode (mB 309) 858 = .ok (.iadd, 1) := by decide +kernel
theorem D309_859 : decode (mB 309) 859 = .ok (.iaload, 1) := by decide +kernel
theorem D309_860 : decode (mB 309) 860 = .ok (.aload_n 0, 1) := by decide +kernel
theorem D309_861 : decode (mB 309) 861 = .ok (.iload 4, 2) := by decide +kernel
theorem D309_863 : decode (mB 309) 863 = .ok (.iconst 3, 1) := by decide +kernel
theorem D309_864 : decode (mB 309) 864 = .ok (.iadd, 1) := by decide +kernel
theorem D309_865 : decode (mB 309) 865 = .ok (.iaload, 1) := by decide +kernel
theorem D309_866 : decode (mB 309) 866 = .ok (.aload_n 0, 1) := by decide +kernel
theorem D309_867 : decode (mB 309) 867 = .ok (.iload 4, 2) := by decide +kernel
theorem D309_869 : decode (mB 309) 869 = .ok (.iconst 4, 1) := by decide +kernel
theorem D309_870 : decode (mB 309) 870 = .ok (.iadd, 1) := by decide +kernel
theorem D309_871 : decode (mB 309) 871 = .ok (.iaload, 1) := by decide +kernel
theorem D309_872 : CS 309 872 137 0 := ⟨.invokevirtual 93, by decide +kernel, by decide +kernel, by decide +kernel, by decide⟩
theorem D309_875 : decode (mB 309) 875 = .ok (.aload_n 2, 1) := by decide +kernel
theorem D309_876 : decode (mB 309) 876 = .ok (.aload_n 0, 1) := by decide +kernel
theorem D309_877 : decode (mB 309) 877 = .ok (.iload 4, 2) := by decide +kernel
theorem D309_879 : decode (mB 309) 879 = .ok (.iconst 1, 1) := by decide +kernel
theorem D309_880 : decode (mB 309) 880 = .ok (.iadd, 1) := by decide +kernel
theorem D309_881 : decode (mB 309) 881 = .ok (.iaload, 1) := by decide +kernel
theorem D309_882 : decode (mB 309) 882 = .ok (.aload_n 0, 1) := by decide +kernel
theorem D309_883 : decode (mB 309) 883 = .ok (.iload 4, 2) := by decide +kernel
theorem D309_885 : decode (mB 309) 885 = .ok (.iconst 2, 1) := by decide +kernel
theorem D309_886 : decode (mB 309) 886 = .ok (.iadd, 1) := by decide +kernel
theorem D309_887 : decode (mB 309) 887 = .ok (.iaload, 1) := by decide +kernel
theorem D309_888 : decode (mB 309) 888 = .ok (.aload_n 0, 1) := by decide +kernel
theorem D309_889 : decode (mB 309) 889 = .ok (.iload 4, 2) := by decide +kernel
theorem D309_891 : decode (mB 309) 891 = .ok (.iconst 3, 1) := by decide +kernel
theorem D309_892 : decode (mB 309) 892 = .ok (.iadd, 1) := by decide +kernel
theorem D309_893 : decode (mB 309) 893 = .ok (.iaload, 1) := by decide +kernel
theorem D309_894 : decode (mB 309) 894 = .ok (.aload_n 0, 1) := by decide +kernel
theorem D309_895 : decode (mB 309) 895 = .ok (.iload 4, 2) := by decide +kernel
theorem D309_897 : decode (mB 309) 897 = .ok (.iconst 4, 1) := by decide +kernel
theorem D309_898 : decode (mB 309) 898 = .ok (.iadd, 1) := by decide +kernel
theorem D309_899 : decode (mB 309) 899 = .ok (.iaload, 1) := by decide +kernel
theorem D309_900 : CS 309 900 272 0 := ⟨.invokevirtual 96, by decide +kernel, by decide +kernel, by decide +kernel, by decide⟩
theorem D309_903 : BR 309 903 (.if_icmp .eq 915) (915) 1818 := ⟨by decide +kernel, by decide, by decide⟩
theorem D309_906 : decode (mB 309) 906 = .ok (.iconst 0, 1) := by decide +kernel
theorem D309_907 : decode (mB 309) 907 = .ok (.ireturn, 1) := by decide +kernel
theorem D309_908 : decode (mB 309) 908 = .ok (.aload_n 1, 1) := by decide +kernel
theorem D309_909 : decode (mB 309) 909 = .ok (.aload_n 0, 1) := by decide +kernel
theorem D309_910 : decode (mB 309) 910 = .ok (.iload 4, 2) := by decide +kernel
theorem D309_912 : decode (mB 309) 912 = .ok (.iconst 1, 1) := by decide +kernel
theorem D309_913 : decode (mB 309) 913 = .ok (.iadd, 1) := by decide +kernel
theorem D309_914 : decode (mB 309) 914 = .ok (.iaload, 1) := by decide +kernel
theorem D309_915 : decode (mB 309) 915 = .ok (.aload_n 0, 1) := by decide +kernel
theorem D309_916 : decode (mB 309) 916 = .ok (.iload 4, 2) := by decide +kernel
theorem D309_918 : decode (mB 309) 918 = .ok (.iconst 2, 1) := by decide +kernel
theorem D309_919 : decode (mB 309) 919 = .ok (.iadd, 1) := by decide +kernel
theorem D309_920 : decode (mB 309) 920 = .ok (.iaload, 1) := by decide +kernel
theorem D309_921 : decode (mB 309) 921 = .ok (.aload_n 0, 1) := by decide +kernel
theorem D309_922 : decode (mB 309) 922 = .ok (.iload 4, 2) := by decide +kernel
theorem D309_924 : decode (mB 309) 924 = .ok (.iconst 3, 1) := by decide +kernel
theorem D309_925 : decode (mB 309) 925 = .ok (.iadd, 1) := by decide +kernel
theorem D309_926 : decode (mB 309) 926 = .ok (.iaload, 1) := by decide +kernel
theorem D309_927 : decode (mB 309) 927 = .ok (.aload_n 0, 1) := by decide +kernel
theorem D309_928 : decode (mB 309) 928 = .ok (.iload 4, 2) := by decide +kernel
theorem D309_930 : decode (mB 309) 930 = .ok (.iconst 4, 1) := by decide +kernel
theorem D309_931 : decode (mB 309) 931 = .ok (.iadd, 1) := by decide +kernel
theorem D309_932 : decode (mB 309) 932 = .ok (.iaload, 1) := by decide +kernel
theorem D309_933 : CS 309 933 143 0 := ⟨.invokevirtual 97, by decide +kernel, by decide +kernel, by decide +kernel, by decide⟩
theorem D309_936 : decode (mB 309) 936 = .ok (.aload_n 2, 1) := by decide +kernel
theorem D309_937 : decode (mB 309) 937 = .ok (.aload_n 0, 1) := by decide +kernel
theorem D309_938 : decode (mB 309) 938 = .ok (.iload 4, 2) := by decide +kernel
theorem D309_940 : decode (mB 309) 940 = .ok (.iconst 1, 1) := by decide +kernel
theorem D309_941 : decode (mB 309) 941 = .ok (.iadd, 1) := by decide +kernel
theorem D309_942 : decode (mB 309) 942 = .ok (.iaload, 1) := by decide +kernel
theorem D309_943 : decode (mB 309) 943 = .ok (.aload_n 0, 1) := by decide +kernel
theorem D309_944 : decode (mB 309) 944 = .ok (.iload 4, 2) := by decide +kernel
theorem D309_946 : decode (mB 309) 946 = .ok (.iconst 2, 1) := by decide +kernel
theorem D309_947 : decode (mB 309) 947 = .ok (.iadd, 1) := by decide +kernel
theorem D309_948 : decode (mB 309) 948 = .ok (.iaload, 1) := by decide +kernel
theorem D309_949 : decode (mB 309) 949 = .ok (.aload_n 0, 1) := by decide +kernel
theorem D309_950 : decode (mB 309) 950 = .ok (.iload 4, 2) := by decide +kernel
theorem D309_952 : decode (mB 309) 952 = .ok (.iconst 3, 1) := by decide +kernel
theorem D309_953 : decode (mB 309) 953 = .ok (.iadd, 1) := by decide +kernel
theorem D309_954 : decode (mB 309) 954 = .ok (.iaload, 1) := by decide +kernel
theorem D309_955 : decode (mB 309) 955 = .ok (.aload_n 0, 1) := by decide +kernel
theorem D309_956 : decode (mB 309) 956 = .ok (.iload 4, 2) := by decide +kernel
theorem D309_958 : decode (mB 309) 958 = .ok (.iconst 4, 1) := by decide +kernel
theorem D309_959 : decode (mB 309) 959 = .ok (.iadd, 1) := by decide +kernel
theorem D309_960 : decode (mB 309) 960 = .ok (.iaload, 1) := by decide +kernel
theorem D309_961 : CS 309 961 276 0 := ⟨.invokevirtual 100, by decide +kernel, by decide +kernel, by decide +kernel, by decide⟩
theorem D309_964 : BR 309 964 (.if_icmp .eq 854) (854) 1818 := ⟨by decide +kernel, by decide, by decide⟩
theorem D309_967 : decode (mB 309) 967 = .ok (.iconst 0, 1) := by decide +kernel
theorem D309_968 : decode (mB 309) 968 = .ok (.ireturn, 1) := by decide +kernel
theorem D309_969 : decode (mB 309) 969 = .ok (.aload_n 1, 1) := by decide +kernel
theorem D309_970 : decode (mB 309) 970 = .ok (.aload_n 0, 1) := by decide +kernel
theorem D309_971 : decode (mB 309) 971 = .ok (.iload 4, 2) := by decide +kernel
theorem D309_973 : decode (mB 309) 973 = .ok (.iconst 1, 1) := by decide +kernel
theorem D309_974 : decode (mB 309) 974 = .ok (.iadd, 1) := by decide +kernel
theorem D309_975 : decode (mB 309) 975 = .ok (.iaload, 1) := by decide +kernel
theorem D309_976 : decode (mB 309) 976 = .ok (.aload_n 0, 1) := by decide +kernel
theorem D309_977 : decode (mB 309) 977 = .ok (.iload 4, 2) := by decide +kernel
theorem D309_979 : decode (mB 309) 979 = .ok (.iconst 2, 1) := by decide +kernel
theorem D309_980 : decode (mB 309) 980 = .ok (.iadd, 1) := by decide +kernel
theorem D309_981 : decode (mB 309) 981 = .ok (.iaload, 1) := by decide +kernel
theorem D309_982 : decode (mB 309) 982 = .ok (.aload_n 0, 1) := by decide +kernel
theorem D309_983 : decode (mB 309) 983 = .ok (.iload 4, 2) := by decide +kernel
theorem D309_985 : decode (mB 309) 985 = .ok (.iconst 3, 1) := by decide +kernel
theorem D309_986 : decode (mB 309) 986 = .ok (.iadd, 1) := by decide +kernel
theorem D309_987 : decode (mB 309) 987 = .ok (.iaload, 1) := by decide +kernel
theorem D309_988 : BR 309 988 (.ifCond .eq 7) (7) 995 := ⟨by decide +kernel, by decide, by decide⟩
theorem D309_995 : decode (mB 309) 995 = .ok (.iconst 0, 1) := by decide +kernel
theorem D309_991 : decode (mB 309) 991 = .ok (.iconst 1, 1) := by decide +kernel
theorem D309_992 : BR 309 992 (.goto 4) (4) 996 := ⟨by decide +kernel, by decide, by decide⟩
theorem D309_996 : decode (mB 309) 996 = .ok (.aload_n 0, 1) := by decide +kernel
theorem D309_997 : decode (mB 309) 997 = .ok (.iload 4, 2) := by decide +kernel
theorem D309_999 : decode (mB 309) 999 = .ok (.iconst 4, 1) := by decide +kernel
theorem D309_1000 : decode (mB 309) 1000 = .ok (.iadd, 1) := by decide +kernel
theorem D309_1001 : decode (mB 309) 1001 = .ok (.iaload, 1) := by decide +kernel
theorem D309_1002 : decode (mB 309) 1002 = .ok (.aload_n 0, 1) := by decide +kernel
theorem D309_1003 : decode (mB 309) 1003 = .ok (.iload 4, 2) := by decide +kernel
theorem D309_1005 : decode (mB 309) 1005 = .ok (.iconst 5, 1) := by decide +kernel
theorem D309_1006 : decode (mB 309) 1006 = .ok (.iadd, 1) := by decide +kernel
theorem D309_1007 : decode (mB 309) 1007 = .ok (.iaload, 1) := by decide +kernel
theorem D309_1008 : CS 309 1008 144 0 := ⟨.invokevirtual 101, by decide +kernel, by decide +kernel, by decide +kernel, by decide⟩
theorem D309_1011 : decode (mB 309) 1011 = .ok (.aload_n 2, 1) := by decide +kernel
theorem D309_1012 : decode (mB 309) 1012 = .ok (.aload_n 0, 1) := by decide +kernel
theorem D309_1013 : decode (mB 309) 1013 = .ok (.iload 4, 2) := by decide +kernel
theorem D309_1015 : decode (mB 309) 1015 = .ok (.iconst 1, 1) := by decide +kernel
theorem D309_1016 : decode (mB 309) 1016 = .ok (.iadd, 1) := by decide +kernel
theorem D309_1017 : decode (mB 309) 1017 = .ok (.iaload, 1) := by decide +kernel
theorem D309_1018 : decode (mB 309) 1018 = .ok (.aload_n 0, 1) := by decide +kernel
theorem D309_1019 : decode (mB 309) 1019 = .ok (.iload 4, 2) := by decide +kernel
theorem D309_1021 : decode (mB 309) 1021 = .ok (.iconst 2, 1) := by decide +kernel
theorem D309_1022 : decode (mB 309) 1022 = .ok (.iadd, 1) := by decide +kernel
theorem D309_1023 : decode (mB 309) 1023 = .ok (.iaload, 1) := by decide +kernel
theorem D309_1024 : decode (mB 309) 1024 = .ok (.aload_n 0, 1) := by decide +kernel
theorem D309_1025 : decode (mB 309) 1025 = .ok (.iload 4, 2) := by decide +kernel
theorem D309_1027 : decode (mB 309) 1027 = .ok (.iconst 3, 1) := by decide +kernel
theorem D309_1028 : decode (mB 309) 1028 = .ok (.iadd, 1) := by decide +kernel
theorem D309_1029 : decode (mB 309) 1029 = .ok (.iaload, 1) := by decide +kernel
theorem D309_1030 : BR 309 1030 (.ifCond .eq 7) (7) 1037 := ⟨by decide +kernel, by decide, by decide⟩
theorem D309_1037 : decode (mB 309) 1037 = .ok (.iconst 0, 1) := by decide +kernel
theorem D309_1038 : decode (mB 309) 1038 = .ok (.aload_n 0, 1) := by decide +kernel
theorem D309_1039 : decode (mB 309) 1039 = .ok (.iload 4, 2) := by decide +kernel
theorem D309_1041 : decode (mB 309) 1041 = .ok (.iconst 4, 1) := by decide +kernel
theorem D309_1042 : decode (mB 309) 1042 = .ok (.iadd, 1) := by decide +kernel
theorem D309_1043 : decode (mB 309) 1043 = .ok (.iaload, 1) := by decide +kernel
theorem D309_1044 : decode (mB 309) 1044 = .ok (.aload_n 0, 1) := by decide +kernel
theorem D309_1045 : decode (mB 309) 1045 = .ok (.iload 4, 2) := by decide +kernel
theorem D309_1047 : decode (mB 309) 1047 = .ok (.iconst 5, 1) := by decide +kernel
theorem D309_1048 : decode (mB 309) 1048 = .ok (.iadd, 1) := by decide +kernel
theorem D309_1049 : decode (mB 309) 1049 = .ok (.iaload, 1) := by decide +kernel
theorem D309_1050 : CS 309 1050 277 0 := ⟨.invokevirtual 105, by decide +kernel, by decide +kernel, by decide +kernel, by decide⟩
theorem D309_1053 : BR 309 1053 (.if_icmp .eq 765) (765) 1818 := ⟨by decide +kernel, by decide, by decide⟩
theorem D309_1056 : decode (mB 309) 1056 = .ok (.iconst 0, 1) := by decide +kernel
theorem D309_1057 : decode (mB 309) 1057 = .ok (.ireturn, 1) := by decide +kernel
theorem D309_1033 : decode (mB 309) 1033 = .ok (.iconst 1, 1) := by decide +kernel
theorem D309_1034 : BR 309 1034 (.goto 4) (4) 1038 := ⟨by decide +kernel, by decide, by decide⟩
theorem D309_1058 : decode (mB 309) 1058 = .ok (.aload_n 1, 1) := by decide +kernel
theorem D309_1059 : CS 309 1059 160 0 := ⟨.invokevirtual 106, by decide +kernel, by decide +kernel, by decide +kernel, by decide⟩
theorem D309_1062 : decode (mB 309) 1062 = .ok (.aload_n 2, 1) := by decide +kernel
theorem D309_1063 : CS 309 1063 278 0 := ⟨.invokevirtual 109, by decide +kernel, by decide +kernel, by decide +kernel, by decide⟩
theorem D309_1066 : BR 309 1066 (.if_icmp .eq 752) (752) 1818 := ⟨by decide +kernel, by decide, by decide⟩
theorem D309_1069 : decode (mB 309) 1069 = .ok (.iconst 0, 1) := by decide +kernel
theorem D309_1070 : decode (mB 309) 1070 = .ok (.ireturn, 1) := by decide +kernel
theorem D309_1071 : decode (mB 309) 1071 = .ok (.aload_n 1, 1) := by decide +kernel
theorem D309_1072 : decode (mB 309) 1072 = .ok (.aload_n 0, 1) := by decide +kernel
theorem D309_1073 : decode (mB 309) 1073 = .ok (.iload 4, 2) := by decide +kernel
theorem D309_1075 : decode (mB 309) 1075 = .ok (.iconst 1, 1) := by decide +kernel
theorem D309_1076 : decode (mB 309) 1076 = .ok (.iadd, 1) := by decide +kernel
theorem D309_1077 : decode (mB 309) 1077 = .ok (.iaload, 1) := by decide +kernel
theorem D309_1078 : decode (mB 309) 1078 = .ok (.aload_n 0, 1) := by decide +kernel
theorem D309_1079 : decode (mB 309) 1079 = .ok (.iload 4, 2) := by decide +kernel
theorem D309_1081 : decode (mB 309) 1081 = .ok (.iconst 2, 1) := by decide +kernel
theorem D309_1082 : decode (mB 309) 1082 = .ok (.iadd, 1) := by decide +kernel
theorem D309_1083 : decode (mB 309) 1083 = .ok (.iaload, 1) := by decide +kernel
theorem D309_1084 : CS 309 1084 161 0 := ⟨.invokevirtual 110, by decide +kernel, by decide +kernel, by decide +kernel, by decide⟩
theorem D309_1087 : decode (mB 309) 1087 = .ok (.aload_n 2, 1) := by decide +kernel
theorem D309_1088 : decode (mB 309) 1088 = .ok (.aload_n 0, 1) := by decide +kernel
theorem D309_1089 : decode (mB 309) 1089 = .ok (.iload 4, 2) := by decide +kernel
theorem D309_1091 : decode (mB 309) 1091 = .ok (.iconst 1, 1) := by decide +kernel
theorem D309_1092 : decode (mB 309) 1092 = .ok (.iadd, 1) := by decide +kernel
theorem D309_1093 : decode (mB 309) 1093 = .ok (.iaload, 1) := by decide +kernel
theorem D309_1094 : decode (mB 309) 1094 = .ok (.aload_n 0, 1) := by decide +kernel
theorem D309_1095 : decode (mB 309) 1095 = .ok (.iload 4, 2) := by decide +kernel
theorem D309_1097 : decode (mB 309) 1097 = .ok (.iconst 2, 1) := by decide +kernel
theorem D309_1098 : decode (mB 309) 1098 = .ok (.iadd, 1) := by decide +kernel
theorem D309_1099 : decode (mB 309) 1099 = .ok (.iaload, 1) := by decide +kernel
theorem D309_1100 : CS 309 1100 279 0 := ⟨.invokevirtual 113, by decide +kernel, by decide +kernel, by decide +kernel, by decide⟩
theorem D309_1103 : BR 309 1103 (.if_icmp .eq 715) (715) 1818 := ⟨by decide +kernel, by decide, by decide⟩
theorem D309_1106 : decode (mB 309) 1106 = .ok (.iconst 0, 1) := by decide +kernel
theorem D309_1107 : decode (mB 309) 1107 = .ok (.ireturn, 1) := by decide +kernel
theorem D309_1108 : decode (mB 309) 1108 = .ok (.aload_n 1, 1) := by decide +kernel
theorem D309_1109 : decode (mB 309) 1109 = .ok (.aload_n 0, 1) := by decide +kernel
theorem D309_1110 : decode (mB 309) 1110 = .ok (.iload 4, 2) := by decide +kernel
theorem D309_1112 : decode (mB 309) 1112 = .ok (.iconst 1, 1) := by decide +kernel
theorem D309_1113 : decode (mB 309) 1113 = .ok (.iadd, 1) := by decide +kernel
theorem D309_1114 : decode (mB 309) 1114 = .ok (.iaload, 1) := by decide +kernel
theorem D309_1115 : decode (mB 309) 1115 = .ok (.aload_n 0, 1) := by decide +kernel
theorem D309_1116 : decode (mB 309) 1116 = .ok (.iload 4, 2) := by decide +kernel
theorem D309_1118 : decode (mB 309) 1118 = .ok (.iconst 2, 1) := by decide +kernel
theorem D309_1119 : decode (mB 309) 1119 = .ok (.iadd, 1) := by decide +kernel
theorem D309_1120 : decode (mB 309) 1120 = .ok (.iaload, 1) := by decide +kernel
theorem D309_1121 : decode (mB 309) 1121 = .ok (.aload_n 0, 1) := by decide +kernel
theorem D309_1122 : decode (mB 309) 1122 = .ok (.iload 4, 2) := by decide +kernel
theorem D309_1124 : decode (mB 309) 1124 = .ok (.iconst 3, 1) := by decide +kernel
theorem D309_1125 : decode (mB 309) 1125 = .ok (.iadd, 1) := by decide +kernel
theorem D309_1126 : decode (mB 309) 1126 = .ok (.iaload, 1) := by decide +kernel
theorem D309_1127 : decode (mB 309) 1127 = .ok (.aload_n 0, 1) := by decide +kernel
theorem D309_1128 : decode (mB 309) 1128 = .ok (.iload 4, 2) := by decide +kernel
theorem D309_1130 : decode (mB 309) 1130 = .ok (.iconst 4, 1) := by decide +kernel
theorem D309_1131 : decode (mB 309) 1131 = .ok (.iadd, 1) := by decide +kernel
theorem D309_1132 : decode (mB 309) 1132 = .ok (.iaload, 1) := by decide +kernel
theorem D309_1133 : CS 309 1133 167 0 := ⟨.invokevirtual 114, by decide +kernel, by decide +kernel, by decide +kernel, by decide⟩
theorem D309_1136 : decode (mB 309) 1136 = .ok (.aload_n 2, 1) := by decide +kernel
theorem D309_1137 : decode (mB 309) 1137 = .ok (.aload_n 0, 1) := by decide +kernel
theorem D309_1138 : decode (mB 309) 1138 = .ok (.iload 4, 2) := by decide +kernel
theorem D309_1140 : decode (mB 309) 1140 = .ok (.iconst 1, 1) := by decide +kernel
theorem D309_1141 : decode (mB 309) 1141 = .ok (.iadd, 1) := by decide +kernel
theorem D309_1142 : decode (mB 309) 1142 = .ok (.iaload, 1) := by decide +kernel
theorem D309_1143 : decode (mB 309) 1143 = .ok (.aload_n 0, 1) := by decide +kernel
theorem D309_1144 : decode (mB 309) 1144 = .ok (.iload 4, 2) := by decide +kernel
theorem D309_1146 : decode (mB 309) 1146 = .ok (.iconst 2, 1) := by decide +kernel
theorem D309_1147 : decode (mB 309) 1147 = .ok (.iadd, 1) := by decide +kernel
theorem D309_1148 : decode (mB 309) 1148 = .ok (.iaload, 1) := by decide +kernel
theorem D309_1149 : decode (mB 309) 1149 = .ok (.aload_n 0, 1) := by decide +kernel
theorem D309_1150 : decode (mB 309) 1150 = .ok (.iload 4, 2) := by decide +kernel
theorem D309_1152 : decode (mB 309) 1152 = .ok (.iconst 3, 1) := by decide +kernel
theorem D309_1153 : decode (mB 309) 1153 = .ok (.iadd, 1) := by decide +kernel
theorem D309_1154 : decode (mB 309) 1154 = .ok (.iaload, 1) := by decide +kernel
theorem D309_1155 : decode (mB 309) 1155 = .ok (.aload_n 0, 1) := by decide +kernel
theorem D309_1156 : decode (mB 309) 1156 = .ok (.iload 4, 2) := by decide +kernel
theorem D309_1158 : decode (mB 309) 1158 = .ok (.iconst 4, 1) := by decide +kernel
theorem D309_1159 : decode (mB 309) 1159 = .ok (.iadd, 1) := by decide +kernel
theorem D309_1160 : decode (mB 309) 1160 = .ok (.iaload, 1) := by decide +kernel
theorem D309_1161 : CS 309 1161 280 0 := ⟨.invokevirtual 117, by decide +kernel, by decide +kernel, by decide +kernel, by decide⟩
theorem D309_1164 : BR 309 1164 (.if_icmp .eq 654) (654) 1818 := ⟨by decide +kernel, by decide, by decide⟩
theorem D309_1167 : decode (mB 309) 1167 = .ok (.iconst 0, 1) := by decide +kernel
theorem D309_1168 : decode (mB 309) 1168 = .ok (.ireturn, 1) := by decide +kernel
theorem D309_1169 : decode (mB 309) 1169 = .ok (.aload_n 1, 1) := by decide +kernel
theorem D309_1170 : decode (mB 309) 1170 = .ok (.aload_n 0, 1) := by decide +kernel
theorem D309_1171 : decode (mB 309) 1171 = .ok (.iload 4, 2) := by decide +kernel
theorem D309_1173 : decode (mB 309) 1173 = .ok (.iconst 1, 1) := by decide +kernel
theorem D309_1174 : decode (mB 309) 1174 = .ok (.iadd, 1) := by decide +kernel
theorem D309_1175 : decode (mB 309) 1175 = .ok (.iaload, 1) := by decide +kernel
theorem D309_1176 : decode (mB 309) 1176 = .ok (.aload_n 0, 1) := by decide +kernel
theorem D309_1177 : decode (mB 309) 1177 = .ok (.iload 4, 2) := by decide +kernel
theorem D309_1179 : decode (mB 309) 1179 = .ok (.iconst 2, 1) := by decide +kernel
theorem D309_1180 : decode (mB 309) 1180 = .ok (.iadd, 1) := by decide +kernel
theorem D309_1181 : decode (mB 309) 1181 = .ok (.iaload, 1) := by decide +kernel
theorem D309_1182 : CS 309 1182 170 0 := ⟨.invokevirtual 118, by decide +kernel, by decide +kernel, by decide +kernel, by decide⟩
theorem D309_1185 : decode (mB 309) 1185 = .ok (.aload_n 2, 1) := by decide +kernel
theorem D309_1186 : decode (mB 309) 1186 = .ok (.aload_n 0, 1) := by decide +kernel
theorem D309_1187 : decode (mB 309) 1187 = .ok (.iload 4, 2) := by decide +kernel
theorem D309_1189 : decode (mB 309) 1189 = .ok (.iconst 1, 1) := by decide +kernel
theorem D309_1190 : decode (mB 309) 1190 = .ok (.iadd, 1) := by decide +kernel
theorem D309_1191 : decode (mB 309) 1191 = .ok (.iaload, 1) := by decide +kernel
theorem D309_1192 : decode (mB 309) 1192 = .ok (.aload_n 0, 1) := by decide +kernel
theorem D309_1193 : decode (mB 309) 1193 = .ok (.iload 4, 2) := by decide +kernel
theorem D309_1195 : decode (mB 309) 1195 = .ok (.iconst 2, 1) := by decide +kernel
theorem D309_1196 : decode (mB 309) 1196 = .ok (.iadd, 1) := by decide +kernel
theorem D309_1197 : decode (mB 309) 1197 = .ok (.iaload, 1) := by decide +kernel
theorem D309_1198 : CS 309 1198 281 0 := ⟨.invokevirtual 121, by decide +kernel, by decide +kernel, by decide +kernel, by decide⟩
theorem D309_1201 : BR 309 1201 (.if_icmp .eq 617) (617) 1818 := ⟨by decide +kernel, by decide, by decide⟩
theorem D309_1204 : decode (mB 309) 1204 = .ok (.iconst 0, 1) := by decide +kernel
theorem D309_1205 : decode (mB 309) 1205 = .ok (.ireturn, 1) := by decide +kernel
theorem D309_1206 : decode (mB 309) 1206 = .ok (.aload_n 1, 1) := by decide +kernel
theorem D309_1207 : decode (mB 309) 1207 = .ok (.aload_n 0, 1) := by decide +kernel
theorem D309_1208 : decode (mB 309) 1208 = .ok (.iload 4, 2) := by decide +kernel
theorem D309_1210 : decode (mB 309) 1210 = .ok (.iconst 1, 1) := by decide +kernel
theorem D309_1211 : decode (mB 309) 1211 = .ok (.iadd, 1) := by decide +kernel
theorem D309_1212 : decode (mB 309) 1212 = .ok (.iaload, 1) := by decide +kernel
theorem D309_1213 : decode (mB 309) 1213 = .ok (.aload_n 0, 1) := by decide +kernel
theorem D309_1214 : decode (mB 309) 1214 = .ok (.iload 4, 2) := by decide +kernel
theorem D309_1216 : decode (mB 309) 1216 = .ok (.iconst 2, 1) := by decide +kernel
theorem D309_1217 : decode (mB 309) 1217 = .ok (.iadd, 1) := by decide +kernel
theorem D309_1218 : decode (mB 309) 1218 = .ok (.iaload, 1) := by decide +kernel
theorem D309_1219 : CS 309 1219 180 0 := ⟨.invokevirtual 122, by decide +kernel, by decide +kernel, by decide +kernel, by decide⟩
theorem D309_1222 : decode (mB 309) 1222 = .ok (.aload_n 2, 1) := by decide +kernel
theorem D309_1223 : decode (mB 309) 1223 = .ok (.aload_n 0, 1) := by decide +kernel
theorem D309_1224 : decode (mB 309) 1224 = .ok (.iload 4, 2) := by decide +kernel
theorem D309_1226 : decode (mB 309) 1226 = .ok (.iconst 1, 1) := by decide +kernel
theorem D309_1227 : decode (mB 309) 1227 = .ok (.iadd, 1) := by decide +kernel
theorem D309_1228 : decode (mB 309) 1228 = .ok (.iaload, 1) := by decide +kernel
theorem D309_1229 : decode (mB 309) 1229 = .ok (.aload_n 0, 1) := by decide +kernel
theorem D309_1230 : decode (mB 309) 1230 = .ok (.iload 4, 2) := by decide +kernel
theorem D309_1232 : decode (mB 309) 1232 = .ok (.iconst 2, 1) := by decide +kernel
theorem D309_1233 : decode (mB 309) 1233 = .ok (.iadd, 1) := by decide +kernel
theorem D309_1234 : decode (mB 309) 1234 = .ok (.iaload, 1) := by decide +kernel
theorem D309_1235 : CS 309 1235 284 0 := ⟨.invokevirtual 125, by decide +kernel, by decide +kernel, by decide +kernel, by decide⟩
theorem D309_1238 : BR 309 1238 (.if_icmp .eq 580) (580) 1818 := ⟨by decide +kernel, by decide, by decide⟩
theorem D309_1241 : decode (mB 309) 1241 = .ok (.iconst 0, 1) := by decide +kernel
theorem D309_1242 : decode (mB 309) 1242 = .ok (.ireturn, 1) := by decide +kernel
theorem D309_1243 : decode (mB 309) 1243 = .ok (.aload_n 1, 1) := by decide +kernel
theorem D309_1244 : decode (mB 309) 1244 = .ok (.aload_n 0, 1) := by decide +kernel
theorem D309_1245 : decode (mB 309) 1245 = .ok (.iload 4, 2) := by decide +kernel
theorem D309_1247 : decode (mB 309) 1247 = .ok (.iconst 1, 1) := by decide +kernel
theorem D309_1248 : decode (mB 309) 1248 = .ok (.iadd, 1) := by decide +kernel
theorem D309_1249 : decode (mB 309) 1249 = .ok (.iaload, 1) := by decide +kernel
theorem D309_1250 : decode (mB 309) 1250 = .ok (.aload_n 0, 1) := by decide +kernel
theorem D309_1251 : decode (mB 309) 1251 = .ok (.iload 4, 2) := by decide +kernel
