/-! ===== the law's instructions, 2 ===== -/
theorem dl_673 : decode code 673 = .ok (.iconst 1, 1) := by decide +kernel
theorem dl_674 : decode code 674 = .ok (.iadd, 1) := by decide +kernel
theorem dl_675 : decode code 675 = .ok (.iaload, 1) := by decide +kernel
theorem dl_676 : decode code 676 = .ok (.invokevirtual 73, 3) := by decide +kernel
theorem dl_679 : decode code 679 = .ok (.aload_n 2, 1) := by decide +kernel
theorem dl_680 : decode code 680 = .ok (.aload_n 0, 1) := by decide +kernel
theorem dl_681 : decode code 681 = .ok (.iload_n 3, 1) := by decide +kernel
theorem dl_682 : decode code 682 = .ok (.iconst 1, 1) := by decide +kernel
theorem dl_683 : decode code 683 = .ok (.iadd, 1) := by decide +kernel
theorem dl_684 : decode code 684 = .ok (.iaload, 1) := by decide +kernel
theorem dl_685 : decode code 685 = .ok (.invokevirtual 76, 3) := by decide +kernel
theorem dl_688 : decode code 688 = .ok (.if_icmp .eq 938, 3) := by decide +kernel
theorem dl_691 : decode code 691 = .ok (.iconst 0, 1) := by decide +kernel
theorem dl_692 : decode code 692 = .ok (.ireturn, 1) := by decide +kernel
theorem dl_693 : decode code 693 = .ok (.aload_n 1, 1) := by decide +kernel
theorem dl_694 : decode code 694 = .ok (.aload_n 0, 1) := by decide +kernel
theorem dl_695 : decode code 695 = .ok (.iload_n 3, 1) := by decide +kernel
theorem dl_696 : decode code 696 = .ok (.iconst 1, 1) := by decide +kernel
theorem dl_697 : decode code 697 = .ok (.iadd, 1) := by decide +kernel
theorem dl_698 : decode code 698 = .ok (.iaload, 1) := by decide +kernel
theorem dl_699 : decode code 699 = .ok (.aload_n 0, 1) := by decide +kernel
theorem dl_700 : decode code 700 = .ok (.iload_n 3, 1) := by decide +kernel
theorem dl_701 : decode code 701 = .ok (.iconst 2, 1) := by decide +kernel
theorem dl_702 : decode code 702 = .ok (.iadd, 1) := by decide +kernel
theorem dl_703 : decode code 703 = .ok (.iaload, 1) := by decide +kernel
theorem dl_704 : decode code 704 = .ok (.invokevirtual 77, 3) := by decide +kernel
theorem dl_707 : decode code 707 = .ok (.aload_n 2, 1) := by decide +kernel
theorem dl_708 : decode code 708 = .ok (.aload_n 0, 1) := by decide +kernel
theorem dl_709 : decode code 709 = .ok (.iload_n 3, 1) := by decide +kernel
theorem dl_710 : decode code 710 = .ok (.iconst 1, 1) := by decide +kernel
theorem dl_711 : decode code 711 = .ok (.iadd, 1) := by decide +kernel
theorem dl_712 : decode code 712 = .ok (.iaload, 1) := by decide +kernel
theorem dl_713 : decode code 713 = .ok (.aload_n 0, 1) := by decide +kernel
theorem dl_714 : decode code 714 = .ok (.iload_n 3, 1) := by decide +kernel
theorem dl_715 : decode code 715 = .ok (.iconst 2, 1) := by decide +kernel
theorem dl_716 : decode code 716 = .ok (.iadd, 1) := by decide +kernel
theorem dl_717 : decode code 717 = .ok (.iaload, 1) := by decide +kernel
theorem dl_718 : decode code 718 = .ok (.invokevirtual 80, 3) := by decide +kernel
theorem dl_721 : decode code 721 = .ok (.if_icmp .eq 905, 3) := by decide +kernel
theorem dl_724 : decode code 724 = .ok (.iconst 0, 1) := by decide +kernel
theorem dl_725 : decode code 725 = .ok (.ireturn, 1) := by decide +kernel
theorem dl_726 : decode code 726 = .ok (.aload_n 1, 1) := by decide +kernel
theorem dl_727 : decode code 727 = .ok (.aload_n 0, 1) := by decide +kernel
theorem dl_728 : decode code 728 = .ok (.iload_n 3, 1) := by decide +kernel
theorem dl_729 : decode code 729 = .ok (.iconst 1, 1) := by decide +kernel
theorem dl_730 : decode code 730 = .ok (.iadd, 1) := by decide +kernel
theorem dl_731 : decode code 731 = .ok (.iaload, 1) := by decide +kernel
theorem dl_732 : decode code 732 = .ok (.aload_n 0, 1) := by decide +kernel
theorem dl_733 : decode code 733 = .ok (.iload_n 3, 1) := by decide +kernel
theorem dl_734 : decode code 734 = .ok (.iconst 2, 1) := by decide +kernel
theorem dl_735 : decode code 735 = .ok (.iadd, 1) := by decide +kernel
theorem dl_736 : decode code 736 = .ok (.iaload, 1) := by decide +kernel
theorem dl_737 : decode code 737 = .ok (.invokevirtual 81, 3) := by decide +kernel
theorem dl_740 : decode code 740 = .ok (.aload_n 2, 1) := by decide +kernel
theorem dl_741 : decode code 741 = .ok (.aload_n 0, 1) := by decide +kernel
theorem dl_742 : decode code 742 = .ok (.iload_n 3, 1) := by decide +kernel
theorem dl_743 : decode code 743 = .ok (.iconst 1, 1) := by decide +kernel
theorem dl_744 : decode code 744 = .ok (.iadd, 1) := by decide +kernel
theorem dl_745 : decode code 745 = .ok (.iaload, 1) := by decide +kernel
theorem dl_746 : decode code 746 = .ok (.aload_n 0, 1) := by decide +kernel
theorem dl_747 : decode code 747 = .ok (.iload_n 3, 1) := by decide +kernel
theorem dl_748 : decode code 748 = .ok (.iconst 2, 1) := by decide +kernel
theorem dl_749 : decode code 749 = .ok (.iadd, 1) := by decide +kernel
theorem dl_750 : decode code 750 = .ok (.iaload, 1) := by decide +kernel
theorem dl_751 : decode code 751 = .ok (.invokevirtual 84, 3) := by decide +kernel
theorem dl_754 : decode code 754 = .ok (.if_icmp .eq 872, 3) := by decide +kernel
theorem dl_757 : decode code 757 = .ok (.iconst 0, 1) := by decide +kernel
theorem dl_758 : decode code 758 = .ok (.ireturn, 1) := by decide +kernel
theorem dl_759 : decode code 759 = .ok (.aload_n 1, 1) := by decide +kernel
theorem dl_760 : decode code 760 = .ok (.aload_n 0, 1) := by decide +kernel
theorem dl_761 : decode code 761 = .ok (.iload_n 3, 1) := by decide +kernel
theorem dl_762 : decode code 762 = .ok (.iconst 1, 1) := by decide +kernel
theorem dl_763 : decode code 763 = .ok (.iadd, 1) := by decide +kernel
theorem dl_764 : decode code 764 = .ok (.iaload, 1) := by decide +kernel
theorem dl_765 : decode code 765 = .ok (.aload_n 0, 1) := by decide +kernel
theorem dl_766 : decode code 766 = .ok (.iload_n 3, 1) := by decide +kernel
theorem dl_767 : decode code 767 = .ok (.iconst 2, 1) := by decide +kernel
theorem dl_768 : decode code 768 = .ok (.iadd, 1) := by decide +kernel
theorem dl_769 : decode code 769 = .ok (.iaload, 1) := by decide +kernel
theorem dl_770 : decode code 770 = .ok (.aload_n 0, 1) := by decide +kernel
theorem dl_771 : decode code 771 = .ok (.iload_n 3, 1) := by decide +kernel
theorem dl_772 : decode code 772 = .ok (.iconst 3, 1) := by decide +kernel
theorem dl_773 : decode code 773 = .ok (.iadd, 1) := by decide +kernel
theorem dl_774 : decode code 774 = .ok (.iaload, 1) := by decide +kernel
theorem dl_775 : decode code 775 = .ok (.invokevirtual 85, 3) := by decide +kernel
theorem dl_778 : decode code 778 = .ok (.aload_n 2, 1) := by decide +kernel
theorem dl_779 : decode code 779 = .ok (.aload_n 0, 1) := by decide +kernel
theorem dl_780 : decode code 780 = .ok (.iload_n 3, 1) := by decide +kernel
theorem dl_781 : decode code 781 = .ok (.iconst 1, 1) := by decide +kernel
theorem dl_782 : decode code 782 = .ok (.iadd, 1) := by decide +kernel
theorem dl_783 : decode code 783 = .ok (.iaload, 1) := by decide +kernel
theorem dl_784 : decode code 784 = .ok (.aload_n 0, 1) := by decide +kernel
theorem dl_785 : decode code 785 = .ok (.iload_n 3, 1) := by decide +kernel
theorem dl_786 : decode code 786 = .ok (.iconst 2, 1) := by decide +kernel
theorem dl_787 : decode code 787 = .ok (.iadd, 1) := by decide +kernel
theorem dl_788 : decode code 788 = .ok (.iaload, 1) := by decide +kernel
theorem dl_789 : decode code 789 = .ok (.aload_n 0, 1) := by decide +kernel
theorem dl_790 : decode code 790 = .ok (.iload_n 3, 1) := by decide +kernel
theorem dl_791 : decode code 791 = .ok (.iconst 3, 1) := by decide +kernel
theorem dl_792 : decode code 792 = .ok (.iadd, 1) := by decide +kernel
theorem dl_793 : decode code 793 = .ok (.iaload, 1) := by decide +kernel
theorem dl_794 : decode code 794 = .ok (.invokevirtual 88, 3) := by decide +kernel
theorem dl_797 : decode code 797 = .ok (.if_icmp .eq 829, 3) := by decide +kernel
theorem dl_800 : decode code 800 = .ok (.iconst 0, 1) := by decide +kernel
theorem dl_801 : decode code 801 = .ok (.ireturn, 1) := by decide +kernel
theorem dl_802 : decode code 802 = .ok (.aload_n 1, 1) := by decide +kernel
theorem dl_803 : decode code 803 = .ok (.aload_n 0, 1) := by decide +kernel
theorem dl_804 : decode code 804 = .ok (.iload_n 3, 1) := by decide +kernel
theorem dl_805 : decode code 805 = .ok (.iconst 1, 1) := by decide +kernel
theorem dl_806 : decode code 806 = .ok (.iadd, 1) := by decide +kernel
theorem dl_807 : decode code 807 = .ok (.iaload, 1) := by decide +kernel
theorem dl_808 : decode code 808 = .ok (.aload_n 0, 1) := by decide +kernel
theorem dl_809 : decode code 809 = .ok (.iload_n 3, 1) := by decide +kernel
theorem dl_810 : decode code 810 = .ok (.iconst 2, 1) := by decide +kernel
theorem dl_811 : decode code 811 = .ok (.iadd, 1) := by decide +kernel
theorem dl_812 : decode code 812 = .ok (.iaload, 1) := by decide +kernel
theorem dl_813 : decode code 813 = .ok (.invokevirtual 89, 3) := by decide +kernel
theorem dl_816 : decode code 816 = .ok (.aload_n 2, 1) := by decide +kernel
theorem dl_817 : decode code 817 = .ok (.aload_n 0, 1) := by decide +kernel
theorem dl_818 : decode code 818 = .ok (.iload_n 3, 1) := by decide +kernel
theorem dl_819 : decode code 819 = .ok (.iconst 1, 1) := by decide +kernel
theorem dl_820 : decode code 820 = .ok (.iadd, 1) := by decide +kernel
theorem dl_821 : decode code 821 = .ok (.iaload, 1) := by decide +kernel
theorem dl_822 : decode code 822 = .ok (.aload_n 0, 1) := by decide +kernel
theorem dl_823 : decode code 823 = .ok (.iload_n 3, 1) := by decide +kernel
theorem dl_824 : decode code 824 = .ok (.iconst 2, 1) := by decide +kernel
theorem dl_825 : decode code 825 = .ok (.iadd, 1) := by decide +kernel
theorem dl_826 : decode code 826 = .ok (.iaload, 1) := by decide +kernel
theorem dl_827 : decode code 827 = .ok (.invokevirtual 92, 3) := by decide +kernel
theorem dl_830 : decode code 830 = .ok (.if_icmp .eq 796, 3) := by decide +kernel
theorem dl_833 : decode code 833 = .ok (.iconst 0, 1) := by decide +kernel
theorem dl_834 : decode code 834 = .ok (.ireturn, 1) := by decide +kernel
theorem dl_835 : decode code 835 = .ok (.aload_n 1, 1) := by decide +kernel
theorem dl_836 : decode code 836 = .ok (.aload_n 0, 1) := by decide +kernel
theorem dl_837 : decode code 837 = .ok (.iload_n 3, 1) := by decide +kernel
theorem dl_838 : decode code 838 = .ok (.iconst 1, 1) := by decide +kernel
theorem dl_839 : decode code 839 = .ok (.iadd, 1) := by decide +kernel
theorem dl_840 : decode code 840 = .ok (.iaload, 1) := by decide +kernel
theorem dl_841 : decode code 841 = .ok (.invokevirtual 93, 3) := by decide +kernel
theorem dl_844 : decode code 844 = .ok (.aload_n 2, 1) := by decide +kernel
theorem dl_845 : decode code 845 = .ok (.aload_n 0, 1) := by decide +kernel
theorem dl_846 : decode code 846 = .ok (.iload_n 3, 1) := by decide +kernel
theorem dl_847 : decode code 847 = .ok (.iconst 1, 1) := by decide +kernel
theorem dl_848 : decode code 848 = .ok (.iadd, 1) := by decide +kernel
theorem dl_849 : decode code 849 = .ok (.iaload, 1) := by decide +kernel
theorem dl_850 : decode code 850 = .ok (.invokevirtual 96, 3) := by decide +kernel
theorem dl_853 : decode code 853 = .ok (.if_icmp .eq 773, 3) := by decide +kernel
theorem dl_856 : decode code 856 = .ok (.iconst 0, 1) := by decide +kernel
theorem dl_857 : decode code 857 = .ok (.ireturn, 1) := by decide +kernel
theorem dl_858 : decode code 858 = .ok (.aload_n 1, 1) := by decide +kernel
theorem dl_859 : decode code 859 = .ok (.aload_n 0, 1) := by decide +kernel
theorem dl_860 : decode code 860 = .ok (.iload_n 3, 1) := by decide +kernel
theorem dl_861 : decode code 861 = .ok (.iconst 1, 1) := by decide +kernel
theorem dl_862 : decode code 862 = .ok (.iadd, 1) := by decide +kernel
theorem dl_863 : decode code 863 = .ok (.iaload, 1) := by decide +kernel
theorem dl_864 : decode code 864 = .ok (.aload_n 0, 1) := by decide +kernel
theorem dl_865 : decode code 865 = .ok (.iload_n 3, 1) := by decide +kernel
theorem dl_866 : decode code 866 = .ok (.iconst 2, 1) := by decide +kernel
theorem dl_867 : decode code 867 = .ok (.iadd, 1) := by decide +kernel
theorem dl_868 : decode code 868 = .ok (.iaload, 1) := by decide +kernel
theorem dl_869 : decode code 869 = .ok (.aload_n 0, 1) := by decide +kernel
theorem dl_870 : decode code 870 = .ok (.iload_n 3, 1) := by decide +kernel
theorem dl_871 : decode code 871 = .ok (.iconst 3, 1) := by decide +kernel
theorem dl_872 : decode code 872 = .ok (.iadd, 1) := by decide +kernel
theorem dl_873 : decode code 873 = .ok (.iaload, 1) := by decide +kernel
theorem dl_874 : decode code 874 = .ok (.invokevirtual 97, 3) := by decide +kernel
theorem dl_877 : decode code 877 = .ok (.aload_n 2, 1) := by decide +kernel
theorem dl_878 : decode code 878 = .ok (.aload_n 0, 1) := by decide +kernel
theorem dl_879 : decode code 879 = .ok (.iload_n 3, 1) := by decide +kernel
theorem dl_880 : decode code 880 = .ok (.iconst 1, 1) := by decide +kernel
theorem dl_881 : decode code 881 = .ok (.iadd, 1) := by decide +kernel
theorem dl_882 : decode code 882 = .ok (.iaload, 1) := by decide +kernel
theorem dl_883 : decode code 883 = .ok (.aload_n 0, 1) := by decide +kernel
theorem dl_884 : decode code 884 = .ok (.iload_n 3, 1) := by decide +kernel
theorem dl_885 : decode code 885 = .ok (.iconst 2, 1) := by decide +kernel
theorem dl_886 : decode code 886 = .ok (.iadd, 1) := by decide +kernel
theorem dl_887 : decode code 887 = .ok (.iaload, 1) := by decide +kernel
theorem dl_888 : decode code 888 = .ok (.aload_n 0, 1) := by decide +kernel
theorem dl_889 : decode code 889 = .ok (.iload_n 3, 1) := by decide +kernel
theorem dl_890 : decode code 890 = .ok (.iconst 3, 1) := by decide +kernel
theorem dl_891 : decode code 891 = .ok (.iadd, 1) := by decide +kernel
theorem dl_892 : decode code 892 = .ok (.iaload, 1) := by decide +kernel
theorem dl_893 : decode code 893 = .ok (.invokevirtual 101, 3) := by decide +kernel
theorem dl_896 : decode code 896 = .ok (.lcmp, 1) := by decide +kernel
theorem dl_897 : decode code 897 = .ok (.ifCond .eq 729, 3) := by decide +kernel
theorem dl_900 : decode code 900 = .ok (.iconst 0, 1) := by decide +kernel
theorem dl_901 : decode code 901 = .ok (.ireturn, 1) := by decide +kernel
theorem dl_902 : decode code 902 = .ok (.aload_n 1, 1) := by decide +kernel
theorem dl_903 : decode code 903 = .ok (.aload_n 0, 1) := by decide +kernel
theorem dl_904 : decode code 904 = .ok (.iload_n 3, 1) := by decide +kernel
theorem dl_905 : decode code 905 = .ok (.iconst 1, 1) := by decide +kernel
theorem dl_906 : decode code 906 = .ok (.iadd, 1) := by decide +kernel
theorem dl_907 : decode code 907 = .ok (.iaload, 1) := by decide +kernel
theorem dl_908 : decode code 908 = .ok (.aload_n 0, 1) := by decide +kernel
theorem dl_909 : decode code 909 = .ok (.iload_n 3, 1) := by decide +kernel
theorem dl_910 : decode code 910 = .ok (.iconst 2, 1) := by decide +kernel
theorem dl_911 : decode code 911 = .ok (.iadd, 1) := by decide +kernel
theorem dl_912 : decode code 912 = .ok (.iaload, 1) := by decide +kernel
theorem dl_913 : decode code 913 = .ok (.invokevirtual 102, 3) := by decide +kernel
theorem dl_916 : decode code 916 = .ok (.aload_n 2, 1) := by decide +kernel
theorem dl_917 : decode code 917 = .ok (.aload_n 0, 1) := by decide +kernel
theorem dl_918 : decode code 918 = .ok (.iload_n 3, 1) := by decide +kernel
theorem dl_919 : decode code 919 = .ok (.iconst 1, 1) := by decide +kernel
theorem dl_920 : decode code 920 = .ok (.iadd, 1) := by decide +kernel
theorem dl_921 : decode code 921 = .ok (.iaload, 1) := by decide +kernel
theorem dl_922 : decode code 922 = .ok (.aload_n 0, 1) := by decide +kernel
theorem dl_923 : decode code 923 = .ok (.iload_n 3, 1) := by decide +kernel
theorem dl_924 : decode code 924 = .ok (.iconst 2, 1) := by decide +kernel
theorem dl_925 : decode code 925 = .ok (.iadd, 1) := by decide +kernel
theorem dl_926 : decode code 926 = .ok (.iaload, 1) := by decide +kernel
theorem dl_927 : decode code 927 = .ok (.invokevirtual 105, 3) := by decide +kernel
theorem dl_930 : decode code 930 = .ok (.if_icmp .eq 696, 3) := by decide +kernel
theorem dl_933 : decode code 933 = .ok (.iconst 0, 1) := by decide +kernel
theorem dl_934 : decode code 934 = .ok (.ireturn, 1) := by decide +kernel
theorem dl_935 : decode code 935 = .ok (.aload_n 1, 1) := by decide +kernel
theorem dl_936 : decode code 936 = .ok (.aload_n 0, 1) := by decide +kernel
theorem dl_937 : decode code 937 = .ok (.iload_n 3, 1) := by decide +kernel
theorem dl_938 : decode code 938 = .ok (.iconst 1, 1) := by decide +kernel
theorem dl_939 : decode code 939 = .ok (.iadd, 1) := by decide +kernel
theorem dl_940 : decode code 940 = .ok (.iaload, 1) := by decide +kernel
theorem dl_941 : decode code 941 = .ok (.aload_n 0, 1) := by decide +kernel
theorem dl_942 : decode code 942 = .ok (.iload_n 3, 1) := by decide +kernel
theorem dl_943 : decode code 943 = .ok (.iconst 2, 1) := by decide +kernel
theorem dl_944 : decode code 944 = .ok (.iadd, 1) := by decide +kernel
theorem dl_945 : decode code 945 = .ok (.iaload, 1) := by decide +kernel
theorem dl_946 : decode code 946 = .ok (.invokevirtual 106, 3) := by decide +kernel
theorem dl_949 : decode code 949 = .ok (.aload_n 2, 1) := by decide +kernel
theorem dl_950 : decode code 950 = .ok (.aload_n 0, 1) := by decide +kernel
theorem dl_951 : decode code 951 = .ok (.iload_n 3, 1) := by decide +kernel
theorem dl_952 : decode code 952 = .ok (.iconst 1, 1) := by decide +kernel
theorem dl_953 : decode code 953 = .ok (.iadd, 1) := by decide +kernel
theorem dl_954 : decode code 954 = .ok (.iaload, 1) := by decide +kernel
theorem dl_955 : decode code 955 = .ok (.aload_n 0, 1) := by decide +kernel
theorem dl_956 : decode code 956 = .ok (.iload_n 3, 1) := by decide +kernel
theorem dl_957 : decode code 957 = .ok (.iconst 2, 1) := by decide +kernel
theorem dl_958 : decode code 958 = .ok (.iadd, 1) := by decide +kernel
theorem dl_959 : decode code 959 = .ok (.iaload, 1) := by decide +kernel
theorem dl_960 : decode code 960 = .ok (.invokevirtual 109, 3) := by decide +kernel
theorem dl_963 : decode code 963 = .ok (.if_icmp .eq 663, 3) := by decide +kernel
theorem dl_966 : decode code 966 = .ok (.iconst 0, 1) := by decide +kernel
theorem dl_967 : decode code 967 = .ok (.ireturn, 1) := by decide +kernel
theorem dl_968 : decode code 968 = .ok (.aload_n 1, 1) := by decide +kernel
theorem dl_969 : decode code 969 = .ok (.aload_n 0, 1) := by decide +kernel
theorem dl_970 : decode code 970 = .ok (.iload_n 3, 1) := by decide +kernel
theorem dl_971 : decode code 971 = .ok (.iconst 1, 1) := by decide +kernel
theorem dl_972 : decode code 972 = .ok (.iadd, 1) := by decide +kernel
theorem dl_973 : decode code 973 = .ok (.iaload, 1) := by decide +kernel
theorem dl_974 : decode code 974 = .ok (.aload_n 0, 1) := by decide +kernel
theorem dl_975 : decode code 975 = .ok (.iload_n 3, 1) := by decide +kernel
theorem dl_976 : decode code 976 = .ok (.iconst 2, 1) := by decide +kernel
theorem dl_977 : decode code 977 = .ok (.iadd, 1) := by decide +kernel
theorem dl_978 : decode code 978 = .ok (.iaload, 1) := by decide +kernel
theorem dl_979 : decode code 979 = .ok (.invokevirtual 110, 3) := by decide +kernel
theorem dl_982 : decode code 982 = .ok (.aload_n 2, 1) := by decide +kernel
theorem dl_983 : decode code 983 = .ok (.aload_n 0, 1) := by decide +kernel
theorem dl_984 : decode code 984 = .ok (.iload_n 3, 1) := by decide +kernel
theorem dl_985 : decode code 985 = .ok (.iconst 1, 1) := by decide +kernel
theorem dl_986 : decode code 986 = .ok (.iadd, 1) := by decide +kernel
theorem dl_987 : decode code 987 = .ok (.iaload, 1) := by decide +kernel
theorem dl_988 : decode code 988 = .ok (.aload_n 0, 1) := by decide +kernel
theorem dl_989 : decode code 989 = .ok (.iload_n 3, 1) := by decide +kernel
theorem dl_990 : decode code 990 = .ok (.iconst 2, 1) := by decide +kernel
theorem dl_991 : decode code 991 = .ok (.iadd, 1) := by decide +kernel
theorem dl_992 : decode code 992 = .ok (.iaload, 1) := by decide +kernel
theorem dl_993 : decode code 993 = .ok (.invokevirtual 113, 3) := by decide +kernel
theorem dl_996 : decode code 996 = .ok (.if_icmp .eq 630, 3) := by decide +kernel
theorem dl_999 : decode code 999 = .ok (.iconst 0, 1) := by decide +kernel
theorem dl_1000 : decode code 1000 = .ok (.ireturn, 1) := by decide +kernel
theorem dl_1001 : decode code 1001 = .ok (.aload_n 1, 1) := by decide +kernel
theorem dl_1002 : decode code 1002 = .ok (.invokevirtual 114, 3) := by decide +kernel
theorem dl_1005 : decode code 1005 = .ok (.aload_n 2, 1) := by decide +kernel
theorem dl_1006 : decode code 1006 = .ok (.invokevirtual 118, 3) := by decide +kernel
theorem dl_1009 : decode code 1009 = .ok (.if_icmp .eq 617, 3) := by decide +kernel
theorem dl_1012 : decode code 1012 = .ok (.iconst 0, 1) := by decide +kernel
theorem dl_1013 : decode code 1013 = .ok (.ireturn, 1) := by decide +kernel
theorem dl_1014 : decode code 1014 = .ok (.aload_n 1, 1) := by decide +kernel
theorem dl_1015 : decode code 1015 = .ok (.aload_n 0, 1) := by decide +kernel
theorem dl_1016 : decode code 1016 = .ok (.iload_n 3, 1) := by decide +kernel
theorem dl_1017 : decode code 1017 = .ok (.iconst 1, 1) := by decide +kernel
theorem dl_1018 : decode code 1018 = .ok (.iadd, 1) := by decide +kernel
theorem dl_1019 : decode code 1019 = .ok (.iaload, 1) := by decide +kernel
theorem dl_1020 : decode code 1020 = .ok (.invokevirtual 119, 3) := by decide +kernel
theorem dl_1023 : decode code 1023 = .ok (.aload_n 2, 1) := by decide +kernel
theorem dl_1024 : decode code 1024 = .ok (.aload_n 0, 1) := by decide +kernel
theorem dl_1025 : decode code 1025 = .ok (.iload_n 3, 1) := by decide +kernel
theorem dl_1026 : decode code 1026 = .ok (.iconst 1, 1) := by decide +kernel
theorem dl_1027 : decode code 1027 = .ok (.iadd, 1) := by decide +kernel
theorem dl_1028 : decode code 1028 = .ok (.iaload, 1) := by decide +kernel
theorem dl_1029 : decode code 1029 = .ok (.invokevirtual 122, 3) := by decide +kernel
theorem dl_1032 : decode code 1032 = .ok (.if_icmp .eq 594, 3) := by decide +kernel
theorem dl_1035 : decode code 1035 = .ok (.iconst 0, 1) := by decide +kernel
theorem dl_1036 : decode code 1036 = .ok (.ireturn, 1) := by decide +kernel
theorem dl_1037 : decode code 1037 = .ok (.aload_n 1, 1) := by decide +kernel
theorem dl_1038 : decode code 1038 = .ok (.invokevirtual 123, 3) := by decide +kernel
theorem dl_1041 : decode code 1041 = .ok (.aload_n 2, 1) := by decide +kernel
theorem dl_1042 : decode code 1042 = .ok (.invokevirtual 126, 3) := by decide +kernel
theorem dl_1045 : decode code 1045 = .ok (.if_icmp .eq 581, 3) := by decide +kernel
theorem dl_1048 : decode code 1048 = .ok (.iconst 0, 1) := by decide +kernel
theorem dl_1049 : decode code 1049 = .ok (.ireturn, 1) := by decide +kernel
theorem dl_1050 : decode code 1050 = .ok (.aload_n 1, 1) := by decide +kernel
theorem dl_1051 : decode code 1051 = .ok (.invokevirtual 127, 3) := by decide +kernel
theorem dl_1054 : decode code 1054 = .ok (.aload_n 2, 1) := by decide +kernel
theorem dl_1055 : decode code 1055 = .ok (.invokevirtual 130, 3) := by decide +kernel
theorem dl_1058 : decode code 1058 = .ok (.if_icmp .eq 568, 3) := by decide +kernel
theorem dl_1061 : decode code 1061 = .ok (.iconst 0, 1) := by decide +kernel
theorem dl_1062 : decode code 1062 = .ok (.ireturn, 1) := by decide +kernel
theorem dl_1063 : decode code 1063 = .ok (.aload_n 1, 1) := by decide +kernel
theorem dl_1064 : decode code 1064 = .ok (.aload_n 0, 1) := by decide +kernel
theorem dl_1065 : decode code 1065 = .ok (.iload_n 3, 1) := by decide +kernel
theorem dl_1066 : decode code 1066 = .ok (.iconst 1, 1) := by decide +kernel
theorem dl_1067 : decode code 1067 = .ok (.iadd, 1) := by decide +kernel
theorem dl_1068 : decode code 1068 = .ok (.iaload, 1) := by decide +kernel
theorem dl_1069 : decode code 1069 = .ok (.invokevirtual 131, 3) := by decide +kernel
theorem dl_1072 : decode code 1072 = .ok (.aload_n 2, 1) := by decide +kernel
theorem dl_1073 : decode code 1073 = .ok (.aload_n 0, 1) := by decide +kernel
theorem dl_1074 : decode code 1074 = .ok (.iload_n 3, 1) := by decide +kernel
theorem dl_1075 : decode code 1075 = .ok (.iconst 1, 1) := by decide +kernel
theorem dl_1076 : decode code 1076 = .ok (.iadd, 1) := by decide +kernel
theorem dl_1077 : decode code 1077 = .ok (.iaload, 1) := by decide +kernel
theorem dl_1078 : decode code 1078 = .ok (.invokevirtual 134, 3) := by decide +kernel
theorem dl_1081 : decode code 1081 = .ok (.if_icmp .eq 545, 3) := by decide +kernel
theorem dl_1084 : decode code 1084 = .ok (.iconst 0, 1) := by decide +kernel
theorem dl_1085 : decode code 1085 = .ok (.ireturn, 1) := by decide +kernel
theorem dl_1086 : decode code 1086 = .ok (.aload_n 1, 1) := by decide +kernel
theorem dl_1087 : decode code 1087 = .ok (.aload_n 0, 1) := by decide +kernel
theorem dl_1088 : decode code 1088 = .ok (.iload_n 3, 1) := by decide +kernel
theorem dl_1089 : decode code 1089 = .ok (.iconst 1, 1) := by decide +kernel
theorem dl_1090 : decode code 1090 = .ok (.iadd, 1) := by decide +kernel
theorem dl_1091 : decode code 1091 = .ok (.iaload, 1) := by decide +kernel
theorem dl_1092 : decode code 1092 = .ok (.aload_n 0, 1) := by decide +kernel
theorem dl_1093 : decode code 1093 = .ok (.iload_n 3, 1) := by decide +kernel
theorem dl_1094 : decode code 1094 = .ok (.iconst 2, 1) := by decide +kernel
theorem dl_1095 : decode code 1095 = .ok (.iadd, 1) := by decide +kernel
theorem dl_1096 : decode code 1096 = .ok (.iaload, 1) := by decide +kernel
theorem dl_1097 : decode code 1097 = .ok (.invokevirtual 135, 3) := by decide +kernel
theorem dl_1100 : decode code 1100 = .ok (.aload_n 2, 1) := by decide +kernel
theorem dl_1101 : decode code 1101 = .ok (.aload_n 0, 1) := by decide +kernel
theorem dl_1102 : decode code 1102 = .ok (.iload_n 3, 1) := by decide +kernel
theorem dl_1103 : decode code 1103 = .ok (.iconst 1, 1) := by decide +kernel
theorem dl_1104 : decode code 1104 = .ok (.iadd, 1) := by decide +kernel
theorem dl_1105 : decode code 1105 = .ok (.iaload, 1) := by decide +kernel
theorem dl_1106 : decode code 1106 = .ok (.aload_n 0, 1) := by decide +kernel
theorem dl_1107 : decode code 1107 = .ok (.iload_n 3, 1) := by decide +kernel
theorem dl_1108 : decode code 1108 = .ok (.iconst 2, 1) := by decide +kernel
theorem dl_1109 : decode code 1109 = .ok (.iadd, 1) := by decide +kernel
theorem dl_1110 : decode code 1110 = .ok (.iaload, 1) := by decide +kernel
theorem dl_1111 : decode code 1111 = .ok (.invokevirtual 138, 3) := by decide +kernel
theorem dl_1114 : decode code 1114 = .ok (.if_icmp .eq 512, 3) := by decide +kernel
theorem dl_1117 : decode code 1117 = .ok (.iconst 0, 1) := by decide +kernel
theorem dl_1118 : decode code 1118 = .ok (.ireturn, 1) := by decide +kernel
theorem dl_1119 : decode code 1119 = .ok (.aload_n 1, 1) := by decide +kernel
theorem dl_1120 : decode code 1120 = .ok (.aload_n 0, 1) := by decide +kernel
theorem dl_1121 : decode code 1121 = .ok (.iload_n 3, 1) := by decide +kernel
theorem dl_1122 : decode code 1122 = .ok (.iconst 1, 1) := by decide +kernel
theorem dl_1123 : decode code 1123 = .ok (.iadd, 1) := by decide +kernel
theorem dl_1124 : decode code 1124 = .ok (.iaload, 1) := by decide +kernel
theorem dl_1125 : decode code 1125 = .ok (.invokevirtual 139, 3) := by decide +kernel
theorem dl_1128 : decode code 1128 = .ok (.aload_n 2, 1) := by decide +kernel
theorem dl_1129 : decode code 1129 = .ok (.aload_n 0, 1) := by decide +kernel
theorem dl_1130 : decode code 1130 = .ok (.iload_n 3, 1) := by decide +kernel
theorem dl_1131 : decode code 1131 = .ok (.iconst 1, 1) := by decide +kernel
theorem dl_1132 : decode code 1132 = .ok (.iadd, 1) := by decide +kernel
theorem dl_1133 : decode code 1133 = .ok (.iaload, 1) := by decide +kernel
theorem dl_1134 : decode code 1134 = .ok (.invokevirtual 142, 3) := by decide +kernel
theorem dl_1137 : decode code 1137 = .ok (.if_icmp .eq 489, 3) := by decide +kernel
theorem dl_1140 : decode code 1140 = .ok (.iconst 0, 1) := by decide +kernel
theorem dl_1141 : decode code 1141 = .ok (.ireturn, 1) := by decide +kernel
theorem dl_1142 : decode code 1142 = .ok (.aload_n 1, 1) := by decide +kernel
theorem dl_1143 : decode code 1143 = .ok (.aload_n 0, 1) := by decide +kernel
theorem dl_1144 : decode code 1144 = .ok (.iload_n 3, 1) := by decide +kernel
theorem dl_1145 : decode code 1145 = .ok (.iconst 1, 1) := by decide +kernel
theorem dl_1146 : decode code 1146 = .ok (.iadd, 1) := by decide +kernel
theorem dl_1147 : decode code 1147 = .ok (.iaload, 1) := by decide +kernel
theorem dl_1148 : decode code 1148 = .ok (.invokevirtual 143, 3) := by decide +kernel
theorem dl_1151 : decode code 1151 = .ok (.aload_n 2, 1) := by decide +kernel
theorem dl_1152 : decode code 1152 = .ok (.aload_n 0, 1) := by decide +kernel
theorem dl_1153 : decode code 1153 = .ok (.iload_n 3, 1) := by decide +kernel
theorem dl_1154 : decode code 1154 = .ok (.iconst 1, 1) := by decide +kernel
theorem dl_1155 : decode code 1155 = .ok (.iadd, 1) := by decide +kernel
theorem dl_1156 : decode code 1156 = .ok (.iaload, 1) := by decide +kernel
theorem dl_1157 : decode code 1157 = .ok (.invokevirtual 146, 3) := by decide +kernel
theorem dl_1160 : decode code 1160 = .ok (.if_icmp .eq 466, 3) := by decide +kernel
theorem dl_1163 : decode code 1163 = .ok (.iconst 0, 1) := by decide +kernel
