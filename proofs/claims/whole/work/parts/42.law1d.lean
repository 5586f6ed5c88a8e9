theorem d_L_law_778 : decode code 778 = .ok (.i2d, 1) := by decide +kernel
theorem d_L_law_779 : decode code 779 = .ok (.ldc2_w 68, 3) := by decide +kernel
theorem d_L_law_782 : decode code 782 = .ok (.dmul, 1) := by decide +kernel
theorem d_L_law_783 : decode code 783 = .ok (.invokevirtual 116, 3) := by decide +kernel
theorem d_L_law_786 : decode code 786 = .ok (.istore 7, 2) := by decide +kernel
theorem d_L_law_788 : decode code 788 = .ok (.aload_n 2, 1) := by decide +kernel
theorem d_L_law_789 : decode code 789 = .ok (.invokevirtual 65, 3) := by decide +kernel
theorem d_L_law_792 : decode code 792 = .ok (.iload 6, 2) := by decide +kernel
theorem d_L_law_794 : decode code 794 = .ok (.if_icmp .eq 5, 3) := by decide +kernel
theorem d_L_law_797 : decode code 797 = .ok (.iconst 0, 1) := by decide +kernel
theorem d_L_law_798 : decode code 798 = .ok (.ireturn, 1) := by decide +kernel
theorem d_L_law_799 : decode code 799 = .ok (.iload 6, 2) := by decide +kernel
theorem d_L_law_801 : decode code 801 = .ok (.ifCond .ne 22, 3) := by decide +kernel
theorem d_L_law_804 : decode code 804 = .ok (.aload_n 3, 1) := by decide +kernel
theorem d_L_law_805 : decode code 805 = .ok (.iconst 0, 1) := by decide +kernel
theorem d_L_law_806 : decode code 806 = .ok (.laload, 1) := by decide +kernel
theorem d_L_law_807 : decode code 807 = .ok (.iload 7, 2) := by decide +kernel
theorem d_L_law_809 : decode code 809 = .ok (.ifCond .eq 7, 3) := by decide +kernel
theorem d_L_law_812 : decode code 812 = .ok (.lconst 1, 1) := by decide +kernel
theorem d_L_law_813 : decode code 813 = .ok (.goto 4, 3) := by decide +kernel
theorem d_L_law_816 : decode code 816 = .ok (.lconst 0, 1) := by decide +kernel
theorem d_L_law_817 : decode code 817 = .ok (.lcmp, 1) := by decide +kernel
theorem d_L_law_818 : decode code 818 = .ok (.ifCond .eq 5, 3) := by decide +kernel
theorem d_L_law_821 : decode code 821 = .ok (.iconst 0, 1) := by decide +kernel
theorem d_L_law_822 : decode code 822 = .ok (.ireturn, 1) := by decide +kernel
theorem d_L_law_823 : decode code 823 = .ok (.goto 148, 3) := by decide +kernel
theorem d_L_law_826 : decode code 826 = .ok (.aload_n 1, 1) := by decide +kernel
theorem d_L_law_827 : decode code 827 = .ok (.aload_n 0, 1) := by decide +kernel
theorem d_L_law_828 : decode code 828 = .ok (.iload 5, 2) := by decide +kernel
theorem d_L_law_830 : decode code 830 = .ok (.iconst 1, 1) := by decide +kernel
theorem d_L_law_831 : decode code 831 = .ok (.iadd, 1) := by decide +kernel
theorem d_L_law_832 : decode code 832 = .ok (.iaload, 1) := by decide +kernel
theorem d_L_law_833 : decode code 833 = .ok (.aload_n 3, 1) := by decide +kernel
theorem d_L_law_834 : decode code 834 = .ok (.invokestatic 117, 3) := by decide +kernel
theorem d_L_law_837 : decode code 837 = .ok (.istore 6, 2) := by decide +kernel
theorem d_L_law_839 : decode code 839 = .ok (.aload_n 2, 1) := by decide +kernel
theorem d_L_law_840 : decode code 840 = .ok (.aload_n 0, 1) := by decide +kernel
theorem d_L_law_841 : decode code 841 = .ok (.iload 5, 2) := by decide +kernel
theorem d_L_law_843 : decode code 843 = .ok (.iconst 1, 1) := by decide +kernel
theorem d_L_law_844 : decode code 844 = .ok (.iadd, 1) := by decide +kernel
theorem d_L_law_845 : decode code 845 = .ok (.iaload, 1) := by decide +kernel
theorem d_L_law_846 : decode code 846 = .ok (.invokevirtual 119, 3) := by decide +kernel
theorem d_L_law_849 : decode code 849 = .ok (.istore 7, 2) := by decide +kernel
theorem d_L_law_851 : decode code 851 = .ok (.aload_n 2, 1) := by decide +kernel
theorem d_L_law_852 : decode code 852 = .ok (.invokevirtual 65, 3) := by decide +kernel
theorem d_L_law_855 : decode code 855 = .ok (.iload 6, 2) := by decide +kernel
theorem d_L_law_857 : decode code 857 = .ok (.if_icmp .eq 5, 3) := by decide +kernel
theorem d_L_law_860 : decode code 860 = .ok (.iconst 0, 1) := by decide +kernel
theorem d_L_law_861 : decode code 861 = .ok (.ireturn, 1) := by decide +kernel
theorem d_L_law_862 : decode code 862 = .ok (.iload 6, 2) := by decide +kernel
theorem d_L_law_864 : decode code 864 = .ok (.ifCond .ne 15, 3) := by decide +kernel
theorem d_L_law_867 : decode code 867 = .ok (.aload_n 3, 1) := by decide +kernel
theorem d_L_law_868 : decode code 868 = .ok (.iconst 0, 1) := by decide +kernel
theorem d_L_law_869 : decode code 869 = .ok (.laload, 1) := by decide +kernel
theorem d_L_law_870 : decode code 870 = .ok (.iload 7, 2) := by decide +kernel
theorem d_L_law_872 : decode code 872 = .ok (.i2l, 1) := by decide +kernel
theorem d_L_law_873 : decode code 873 = .ok (.lcmp, 1) := by decide +kernel
theorem d_L_law_874 : decode code 874 = .ok (.ifCond .eq 5, 3) := by decide +kernel
theorem d_L_law_877 : decode code 877 = .ok (.iconst 0, 1) := by decide +kernel
theorem d_L_law_878 : decode code 878 = .ok (.ireturn, 1) := by decide +kernel
theorem d_L_law_879 : decode code 879 = .ok (.goto 92, 3) := by decide +kernel
theorem d_L_law_882 : decode code 882 = .ok (.aload_n 1, 1) := by decide +kernel
theorem d_L_law_883 : decode code 883 = .ok (.aload_n 0, 1) := by decide +kernel
theorem d_L_law_884 : decode code 884 = .ok (.iload 5, 2) := by decide +kernel
theorem d_L_law_886 : decode code 886 = .ok (.iconst 1, 1) := by decide +kernel
theorem d_L_law_887 : decode code 887 = .ok (.iadd, 1) := by decide +kernel
theorem d_L_law_888 : decode code 888 = .ok (.iaload, 1) := by decide +kernel
theorem d_L_law_889 : decode code 889 = .ok (.aload_n 0, 1) := by decide +kernel
theorem d_L_law_890 : decode code 890 = .ok (.iload 5, 2) := by decide +kernel
theorem d_L_law_892 : decode code 892 = .ok (.iconst 2, 1) := by decide +kernel
theorem d_L_law_893 : decode code 893 = .ok (.iadd, 1) := by decide +kernel
theorem d_L_law_894 : decode code 894 = .ok (.iaload, 1) := by decide +kernel
theorem d_L_law_895 : decode code 895 = .ok (.aload 4, 2) := by decide +kernel
theorem d_L_law_897 : decode code 897 = .ok (.invokestatic 120, 3) := by decide +kernel
theorem d_L_law_900 : decode code 900 = .ok (.istore 6, 2) := by decide +kernel
theorem d_L_law_902 : decode code 902 = .ok (.aload_n 2, 1) := by decide +kernel
theorem d_L_law_903 : decode code 903 = .ok (.aload_n 0, 1) := by decide +kernel
theorem d_L_law_904 : decode code 904 = .ok (.iload 5, 2) := by decide +kernel
theorem d_L_law_906 : decode code 906 = .ok (.iconst 1, 1) := by decide +kernel
theorem d_L_law_907 : decode code 907 = .ok (.iadd, 1) := by decide +kernel
theorem d_L_law_908 : decode code 908 = .ok (.iaload, 1) := by decide +kernel
theorem d_L_law_909 : decode code 909 = .ok (.aload_n 0, 1) := by decide +kernel
theorem d_L_law_910 : decode code 910 = .ok (.iload 5, 2) := by decide +kernel
theorem d_L_law_912 : decode code 912 = .ok (.iconst 2, 1) := by decide +kernel
theorem d_L_law_913 : decode code 913 = .ok (.iadd, 1) := by decide +kernel
theorem d_L_law_914 : decode code 914 = .ok (.iaload, 1) := by decide +kernel
theorem d_L_law_915 : decode code 915 = .ok (.invokevirtual 122, 3) := by decide +kernel
theorem d_L_law_918 : decode code 918 = .ok (.dstore 7, 2) := by decide +kernel
theorem d_L_law_920 : decode code 920 = .ok (.aload_n 2, 1) := by decide +kernel
theorem d_L_law_921 : decode code 921 = .ok (.invokevirtual 65, 3) := by decide +kernel
theorem d_L_law_924 : decode code 924 = .ok (.iload 6, 2) := by decide +kernel
theorem d_L_law_926 : decode code 926 = .ok (.if_icmp .eq 5, 3) := by decide +kernel
theorem d_L_law_929 : decode code 929 = .ok (.iconst 0, 1) := by decide +kernel
theorem d_L_law_930 : decode code 930 = .ok (.ireturn, 1) := by decide +kernel
theorem d_L_law_931 : decode code 931 = .ok (.iload 6, 2) := by decide +kernel
theorem d_L_law_933 : decode code 933 = .ok (.ifCond .ne 35, 3) := by decide +kernel
theorem d_L_law_936 : decode code 936 = .ok (.aload 4, 2) := by decide +kernel
theorem d_L_law_938 : decode code 938 = .ok (.iconst 0, 1) := by decide +kernel
theorem d_L_law_939 : decode code 939 = .ok (.daload, 1) := by decide +kernel
theorem d_L_law_940 : decode code 940 = .ok (.dload 7, 2) := by decide +kernel
theorem d_L_law_942 : decode code 942 = .ok (.dcmp .l, 1) := by decide +kernel
theorem d_L_law_943 : decode code 943 = .ok (.ifCond .eq 25, 3) := by decide +kernel
theorem d_L_law_946 : decode code 946 = .ok (.aload 4, 2) := by decide +kernel
theorem d_L_law_948 : decode code 948 = .ok (.iconst 0, 1) := by decide +kernel
theorem d_L_law_949 : decode code 949 = .ok (.daload, 1) := by decide +kernel
theorem d_L_law_950 : decode code 950 = .ok (.aload 4, 2) := by decide +kernel
theorem d_L_law_952 : decode code 952 = .ok (.iconst 0, 1) := by decide +kernel
theorem d_L_law_953 : decode code 953 = .ok (.daload, 1) := by decide +kernel
theorem d_L_law_954 : decode code 954 = .ok (.dcmp .l, 1) := by decide +kernel
theorem d_L_law_955 : decode code 955 = .ok (.ifCond .eq 11, 3) := by decide +kernel
theorem d_L_law_958 : decode code 958 = .ok (.dload 7, 2) := by decide +kernel
theorem d_L_law_960 : decode code 960 = .ok (.dload 7, 2) := by decide +kernel
theorem d_L_law_962 : decode code 962 = .ok (.dcmp .l, 1) := by decide +kernel
theorem d_L_law_963 : decode code 963 = .ok (.ifCond .ne 5, 3) := by decide +kernel
theorem d_L_law_966 : decode code 966 = .ok (.iconst 0, 1) := by decide +kernel
theorem d_L_law_967 : decode code 967 = .ok (.ireturn, 1) := by decide +kernel
theorem d_L_law_968 : decode code 968 = .ok (.goto 3, 3) := by decide +kernel
theorem d_L_law_971 : decode code 971 = .ok (.iinc 5 5, 3) := by decide +kernel
theorem d_L_law_974 : decode code 974 = .ok (.goto (-946), 3) := by decide +kernel
theorem d_L_law_977 : decode code 977 = .ok (.iconst 1, 1) := by decide +kernel
theorem d_L_law_978 : decode code 978 = .ok (.ireturn, 1) := by decide +kernel
