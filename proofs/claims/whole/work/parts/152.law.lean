theorem svV_X9_merges : SV RX9 yX9_merges cX9_merges 2 (some .int) 1 := ⟨kw794, kw795, kw1, kw796, rfl, by decide, by decide, by decide +kernel⟩
theorem svV_X10_merges : SV RX10 yX10_merges cX10_merges 2 (some .int) 1 := ⟨kw1527, kw1528, kw16, kw1529, rfl, by decide, by decide, by decide +kernel⟩
theorem svV_X9_lineChange : SV RX9 yX9_lineChange cX9_lineChange 3 (some .long) 2 := ⟨kw802, kw803, kw1, kw804, rfl, by decide, by decide, by decide +kernel⟩
theorem svV_X10_lineChange : SV RX10 yX10_lineChange cX10_lineChange 3 (some .long) 2 := ⟨kw1531, kw1532, kw16, kw1533, rfl, by decide, by decide, by decide +kernel⟩
theorem svV_X9_value : SV RX9 yX9_value cX9_value 5 (some .long) 3 := ⟨kw826, kw827, kw1, kw828, rfl, by decide, by decide, by decide +kernel⟩
theorem svV_X10_value : SV RX10 yX10_value cX10_value 4 (some .long) 3 := ⟨kw1545, kw1546, kw16, kw1547, rfl, by decide, by decide, by decide +kernel⟩
theorem svV_X9_grade : SV RX9 yX9_grade cX9_grade 4 (some .int) 2 := ⟨kw898, kw899, kw1, kw900, rfl, by decide, by decide, by decide +kernel⟩
theorem svV_X10_grade : SV RX10 yX10_grade cX10_grade 3 (some .int) 2 := ⟨kw1580, kw1581, kw16, kw1582, rfl, by decide, by decide, by decide +kernel⟩
theorem svV_X9_change : SV RX9 yX9_change cX9_change 3 (some .long) 2 := ⟨kw907, kw908, kw1, kw909, rfl, by decide, by decide, by decide +kernel⟩
theorem svV_X10_change : SV RX10 yX10_change cX10_change 3 (some .long) 2 := ⟨kw1587, kw1588, kw16, kw1589, rfl, by decide, by decide, by decide +kernel⟩
theorem svV_X9_pool : SV RX9 yX9_pool cX9_pool 4 (some .int) 2 := ⟨kw911, kw912, kw1, kw913, rfl, by decide, by decide, by decide +kernel⟩
theorem svV_X10_pool : SV RX10 yX10_pool cX10_pool 3 (some .int) 2 := ⟨kw1597, kw1598, kw16, kw1599, rfl, by decide, by decide, by decide +kernel⟩
theorem svV_X9_binds : SV RX9 yX9_binds cX9_binds 2 (some .int) 1 := ⟨kw926, kw927, kw1, kw928, rfl, by decide, by decide, by decide +kernel⟩
theorem svV_X10_binds : SV RX10 yX10_binds cX10_binds 4 (some .int) 1 := ⟨kw1607, kw1608, kw16, kw1609, rfl, by decide, by decide, by decide +kernel⟩
theorem svV_X9_worth : SV RX9 yX9_worth cX9_worth 8 (some .long) 3 := ⟨kw931, kw932, kw1, kw933, rfl, by decide, by decide, by decide +kernel⟩
theorem svV_X10_worth : SV RX10 yX10_worth cX10_worth 8 (some .long) 3 := ⟨kw1611, kw1612, kw16, kw1613, rfl, by decide, by decide, by decide +kernel⟩
theorem svV_X9_dearest : SV RX9 yX9_dearest cX9_dearest 8 (some .int) 1 := ⟨kw936, kw937, kw1, kw938, rfl, by decide, by decide, by decide +kernel⟩
theorem svV_X10_dearest : SV RX10 yX10_dearest cX10_dearest 8 (some .int) 1 := ⟨kw1615, kw1616, kw16, kw1617, rfl, by decide, by decide, by decide +kernel⟩
theorem dL_law_731 : decode cL_law 731 = .ok (.aload_n 1, 1) := by decide +kernel
theorem dL_law_732 : decode cL_law 732 = .ok (.aload_n 0, 1) := by decide +kernel
theorem dL_law_733 : decode cL_law 733 = .ok (.iload_n 3, 1) := by decide +kernel
theorem dL_law_734 : decode cL_law 734 = .ok (.iconst 1, 1) := by decide +kernel
theorem dL_law_735 : decode cL_law 735 = .ok (.iadd, 1) := by decide +kernel
theorem dL_law_736 : decode cL_law 736 = .ok (.iaload, 1) := by decide +kernel
theorem dL_law_737 : decode cL_law 737 = .ok (.invokevirtual 90, 3) := by decide +kernel
theorem dL_law_740 : decode cL_law 740 = .ok (.aload_n 2, 1) := by decide +kernel
theorem dL_law_741 : decode cL_law 741 = .ok (.aload_n 0, 1) := by decide +kernel
theorem dL_law_742 : decode cL_law 742 = .ok (.iload_n 3, 1) := by decide +kernel
theorem dL_law_743 : decode cL_law 743 = .ok (.iconst 1, 1) := by decide +kernel
theorem dL_law_744 : decode cL_law 744 = .ok (.iadd, 1) := by decide +kernel
theorem dL_law_745 : decode cL_law 745 = .ok (.iaload, 1) := by decide +kernel
theorem dL_law_746 : decode cL_law 746 = .ok (.invokevirtual 93, 3) := by decide +kernel
theorem dL_law_749 : decode cL_law 749 = .ok (.if_icmp .eq 780, 3) := by decide +kernel
theorem dL_law_754 : decode cL_law 754 = .ok (.aload_n 1, 1) := by decide +kernel
theorem dL_law_755 : decode cL_law 755 = .ok (.aload_n 0, 1) := by decide +kernel
theorem dL_law_756 : decode cL_law 756 = .ok (.iload_n 3, 1) := by decide +kernel
theorem dL_law_757 : decode cL_law 757 = .ok (.iconst 1, 1) := by decide +kernel
theorem dL_law_758 : decode cL_law 758 = .ok (.iadd, 1) := by decide +kernel
theorem dL_law_759 : decode cL_law 759 = .ok (.iaload, 1) := by decide +kernel
theorem dL_law_760 : decode cL_law 760 = .ok (.aload_n 0, 1) := by decide +kernel
theorem dL_law_761 : decode cL_law 761 = .ok (.iload_n 3, 1) := by decide +kernel
theorem dL_law_762 : decode cL_law 762 = .ok (.iconst 2, 1) := by decide +kernel
theorem dL_law_763 : decode cL_law 763 = .ok (.iadd, 1) := by decide +kernel
theorem dL_law_764 : decode cL_law 764 = .ok (.iaload, 1) := by decide +kernel
theorem dL_law_765 : decode cL_law 765 = .ok (.invokevirtual 94, 3) := by decide +kernel
theorem dL_law_768 : decode cL_law 768 = .ok (.aload_n 2, 1) := by decide +kernel
theorem dL_law_769 : decode cL_law 769 = .ok (.aload_n 0, 1) := by decide +kernel
theorem dL_law_770 : decode cL_law 770 = .ok (.iload_n 3, 1) := by decide +kernel
theorem dL_law_771 : decode cL_law 771 = .ok (.iconst 1, 1) := by decide +kernel
theorem dL_law_772 : decode cL_law 772 = .ok (.iadd, 1) := by decide +kernel
theorem dL_law_773 : decode cL_law 773 = .ok (.iaload, 1) := by decide +kernel
theorem dL_law_774 : decode cL_law 774 = .ok (.aload_n 0, 1) := by decide +kernel
theorem dL_law_775 : decode cL_law 775 = .ok (.iload_n 3, 1) := by decide +kernel
theorem dL_law_776 : decode cL_law 776 = .ok (.iconst 2, 1) := by decide +kernel
theorem dL_law_777 : decode cL_law 777 = .ok (.iadd, 1) := by decide +kernel
theorem dL_law_778 : decode cL_law 778 = .ok (.iaload, 1) := by decide +kernel
theorem dL_law_779 : decode cL_law 779 = .ok (.invokevirtual 98, 3) := by decide +kernel
theorem dL_law_782 : decode cL_law 782 = .ok (.lcmp, 1) := by decide +kernel
theorem dL_law_783 : decode cL_law 783 = .ok (.ifCond .eq 746, 3) := by decide +kernel
theorem dL_law_788 : decode cL_law 788 = .ok (.aload_n 1, 1) := by decide +kernel
theorem dL_law_789 : decode cL_law 789 = .ok (.aload_n 0, 1) := by decide +kernel
theorem dL_law_790 : decode cL_law 790 = .ok (.iload_n 3, 1) := by decide +kernel
theorem dL_law_791 : decode cL_law 791 = .ok (.iconst 1, 1) := by decide +kernel
theorem dL_law_792 : decode cL_law 792 = .ok (.iadd, 1) := by decide +kernel
theorem dL_law_793 : decode cL_law 793 = .ok (.iaload, 1) := by decide +kernel
theorem dL_law_794 : decode cL_law 794 = .ok (.aload_n 0, 1) := by decide +kernel
theorem dL_law_795 : decode cL_law 795 = .ok (.iload_n 3, 1) := by decide +kernel
theorem dL_law_796 : decode cL_law 796 = .ok (.iconst 2, 1) := by decide +kernel
theorem dL_law_797 : decode cL_law 797 = .ok (.iadd, 1) := by decide +kernel
theorem dL_law_798 : decode cL_law 798 = .ok (.iaload, 1) := by decide +kernel
theorem dL_law_799 : decode cL_law 799 = .ok (.aload_n 0, 1) := by decide +kernel
theorem dL_law_800 : decode cL_law 800 = .ok (.iload_n 3, 1) := by decide +kernel
theorem dL_law_801 : decode cL_law 801 = .ok (.iconst 3, 1) := by decide +kernel
theorem dL_law_802 : decode cL_law 802 = .ok (.iadd, 1) := by decide +kernel
theorem dL_law_803 : decode cL_law 803 = .ok (.iaload, 1) := by decide +kernel
theorem dL_law_804 : decode cL_law 804 = .ok (.invokevirtual 99, 3) := by decide +kernel
theorem dL_law_807 : decode cL_law 807 = .ok (.aload_n 2, 1) := by decide +kernel
theorem dL_law_808 : decode cL_law 808 = .ok (.aload_n 0, 1) := by decide +kernel
theorem dL_law_809 : decode cL_law 809 = .ok (.iload_n 3, 1) := by decide +kernel
theorem dL_law_810 : decode cL_law 810 = .ok (.iconst 1, 1) := by decide +kernel
theorem dL_law_811 : decode cL_law 811 = .ok (.iadd, 1) := by decide +kernel
theorem dL_law_812 : decode cL_law 812 = .ok (.iaload, 1) := by decide +kernel
theorem dL_law_813 : decode cL_law 813 = .ok (.aload_n 0, 1) := by decide +kernel
theorem dL_law_814 : decode cL_law 814 = .ok (.iload_n 3, 1) := by decide +kernel
theorem dL_law_815 : decode cL_law 815 = .ok (.iconst 2, 1) := by decide +kernel
theorem dL_law_816 : decode cL_law 816 = .ok (.iadd, 1) := by decide +kernel
theorem dL_law_817 : decode cL_law 817 = .ok (.iaload, 1) := by decide +kernel
theorem dL_law_818 : decode cL_law 818 = .ok (.aload_n 0, 1) := by decide +kernel
theorem dL_law_819 : decode cL_law 819 = .ok (.iload_n 3, 1) := by decide +kernel
theorem dL_law_820 : decode cL_law 820 = .ok (.iconst 3, 1) := by decide +kernel
theorem dL_law_821 : decode cL_law 821 = .ok (.iadd, 1) := by decide +kernel
theorem dL_law_822 : decode cL_law 822 = .ok (.iaload, 1) := by decide +kernel
theorem dL_law_823 : decode cL_law 823 = .ok (.invokevirtual 102, 3) := by decide +kernel
theorem dL_law_826 : decode cL_law 826 = .ok (.lcmp, 1) := by decide +kernel
theorem dL_law_827 : decode cL_law 827 = .ok (.ifCond .eq 702, 3) := by decide +kernel
theorem dL_law_832 : decode cL_law 832 = .ok (.aload_n 1, 1) := by decide +kernel
theorem dL_law_833 : decode cL_law 833 = .ok (.aload_n 0, 1) := by decide +kernel
theorem dL_law_834 : decode cL_law 834 = .ok (.iload_n 3, 1) := by decide +kernel
theorem dL_law_835 : decode cL_law 835 = .ok (.iconst 1, 1) := by decide +kernel
theorem dL_law_836 : decode cL_law 836 = .ok (.iadd, 1) := by decide +kernel
theorem dL_law_837 : decode cL_law 837 = .ok (.iaload, 1) := by decide +kernel
theorem dL_law_838 : decode cL_law 838 = .ok (.aload_n 0, 1) := by decide +kernel
theorem dL_law_839 : decode cL_law 839 = .ok (.iload_n 3, 1) := by decide +kernel
theorem dL_law_840 : decode cL_law 840 = .ok (.iconst 2, 1) := by decide +kernel
theorem dL_law_841 : decode cL_law 841 = .ok (.iadd, 1) := by decide +kernel
theorem dL_law_842 : decode cL_law 842 = .ok (.iaload, 1) := by decide +kernel
theorem dL_law_843 : decode cL_law 843 = .ok (.invokevirtual 103, 3) := by decide +kernel
theorem dL_law_846 : decode cL_law 846 = .ok (.aload_n 2, 1) := by decide +kernel
theorem dL_law_847 : decode cL_law 847 = .ok (.aload_n 0, 1) := by decide +kernel
theorem dL_law_848 : decode cL_law 848 = .ok (.iload_n 3, 1) := by decide +kernel
theorem dL_law_849 : decode cL_law 849 = .ok (.iconst 1, 1) := by decide +kernel
theorem dL_law_850 : decode cL_law 850 = .ok (.iadd, 1) := by decide +kernel
theorem dL_law_851 : decode cL_law 851 = .ok (.iaload, 1) := by decide +kernel
theorem dL_law_852 : decode cL_law 852 = .ok (.aload_n 0, 1) := by decide +kernel
theorem dL_law_853 : decode cL_law 853 = .ok (.iload_n 3, 1) := by decide +kernel
theorem dL_law_854 : decode cL_law 854 = .ok (.iconst 2, 1) := by decide +kernel
theorem dL_law_855 : decode cL_law 855 = .ok (.iadd, 1) := by decide +kernel
theorem dL_law_856 : decode cL_law 856 = .ok (.iaload, 1) := by decide +kernel
theorem dL_law_857 : decode cL_law 857 = .ok (.invokevirtual 106, 3) := by decide +kernel
theorem dL_law_860 : decode cL_law 860 = .ok (.if_icmp .eq 669, 3) := by decide +kernel
theorem dL_law_865 : decode cL_law 865 = .ok (.aload_n 1, 1) := by decide +kernel
theorem dL_law_866 : decode cL_law 866 = .ok (.aload_n 0, 1) := by decide +kernel
theorem dL_law_867 : decode cL_law 867 = .ok (.iload_n 3, 1) := by decide +kernel
theorem dL_law_868 : decode cL_law 868 = .ok (.iconst 1, 1) := by decide +kernel
theorem dL_law_869 : decode cL_law 869 = .ok (.iadd, 1) := by decide +kernel
theorem dL_law_870 : decode cL_law 870 = .ok (.iaload, 1) := by decide +kernel
theorem dL_law_871 : decode cL_law 871 = .ok (.aload_n 0, 1) := by decide +kernel
theorem dL_law_872 : decode cL_law 872 = .ok (.iload_n 3, 1) := by decide +kernel
theorem dL_law_873 : decode cL_law 873 = .ok (.iconst 2, 1) := by decide +kernel
theorem dL_law_874 : decode cL_law 874 = .ok (.iadd, 1) := by decide +kernel
theorem dL_law_875 : decode cL_law 875 = .ok (.iaload, 1) := by decide +kernel
theorem dL_law_876 : decode cL_law 876 = .ok (.invokevirtual 107, 3) := by decide +kernel
theorem dL_law_879 : decode cL_law 879 = .ok (.aload_n 2, 1) := by decide +kernel
theorem dL_law_880 : decode cL_law 880 = .ok (.aload_n 0, 1) := by decide +kernel
theorem dL_law_881 : decode cL_law 881 = .ok (.iload_n 3, 1) := by decide +kernel
theorem dL_law_882 : decode cL_law 882 = .ok (.iconst 1, 1) := by decide +kernel
theorem dL_law_883 : decode cL_law 883 = .ok (.iadd, 1) := by decide +kernel
theorem dL_law_884 : decode cL_law 884 = .ok (.iaload, 1) := by decide +kernel
theorem dL_law_885 : decode cL_law 885 = .ok (.aload_n 0, 1) := by decide +kernel
theorem dL_law_886 : decode cL_law 886 = .ok (.iload_n 3, 1) := by decide +kernel
theorem dL_law_887 : decode cL_law 887 = .ok (.iconst 2, 1) := by decide +kernel
theorem dL_law_888 : decode cL_law 888 = .ok (.iadd, 1) := by decide +kernel
theorem dL_law_889 : decode cL_law 889 = .ok (.iaload, 1) := by decide +kernel
theorem dL_law_890 : decode cL_law 890 = .ok (.invokevirtual 110, 3) := by decide +kernel
theorem dL_law_893 : decode cL_law 893 = .ok (.lcmp, 1) := by decide +kernel
theorem dL_law_894 : decode cL_law 894 = .ok (.ifCond .eq 635, 3) := by decide +kernel
theorem dL_law_899 : decode cL_law 899 = .ok (.aload_n 1, 1) := by decide +kernel
theorem dL_law_900 : decode cL_law 900 = .ok (.aload_n 0, 1) := by decide +kernel
theorem dL_law_901 : decode cL_law 901 = .ok (.iload_n 3, 1) := by decide +kernel
theorem dL_law_902 : decode cL_law 902 = .ok (.iconst 1, 1) := by decide +kernel
theorem dL_law_903 : decode cL_law 903 = .ok (.iadd, 1) := by decide +kernel
theorem dL_law_904 : decode cL_law 904 = .ok (.iaload, 1) := by decide +kernel
theorem dL_law_905 : decode cL_law 905 = .ok (.aload_n 0, 1) := by decide +kernel
theorem dL_law_906 : decode cL_law 906 = .ok (.iload_n 3, 1) := by decide +kernel
theorem dL_law_907 : decode cL_law 907 = .ok (.iconst 2, 1) := by decide +kernel
theorem dL_law_908 : decode cL_law 908 = .ok (.iadd, 1) := by decide +kernel
theorem dL_law_909 : decode cL_law 909 = .ok (.iaload, 1) := by decide +kernel
theorem dL_law_910 : decode cL_law 910 = .ok (.invokevirtual 111, 3) := by decide +kernel
theorem dL_law_913 : decode cL_law 913 = .ok (.aload_n 2, 1) := by decide +kernel
theorem dL_law_914 : decode cL_law 914 = .ok (.aload_n 0, 1) := by decide +kernel
theorem dL_law_915 : decode cL_law 915 = .ok (.iload_n 3, 1) := by decide +kernel
theorem dL_law_916 : decode cL_law 916 = .ok (.iconst 1, 1) := by decide +kernel
theorem dL_law_917 : decode cL_law 917 = .ok (.iadd, 1) := by decide +kernel
theorem dL_law_918 : decode cL_law 918 = .ok (.iaload, 1) := by decide +kernel
theorem dL_law_919 : decode cL_law 919 = .ok (.aload_n 0, 1) := by decide +kernel
theorem dL_law_920 : decode cL_law 920 = .ok (.iload_n 3, 1) := by decide +kernel
theorem dL_law_921 : decode cL_law 921 = .ok (.iconst 2, 1) := by decide +kernel
theorem dL_law_922 : decode cL_law 922 = .ok (.iadd, 1) := by decide +kernel
theorem dL_law_923 : decode cL_law 923 = .ok (.iaload, 1) := by decide +kernel
theorem dL_law_924 : decode cL_law 924 = .ok (.invokevirtual 114, 3) := by decide +kernel
theorem dL_law_927 : decode cL_law 927 = .ok (.if_icmp .eq 602, 3) := by decide +kernel
theorem dL_law_932 : decode cL_law 932 = .ok (.aload_n 1, 1) := by decide +kernel
theorem dL_law_933 : decode cL_law 933 = .ok (.aload_n 0, 1) := by decide +kernel
theorem dL_law_934 : decode cL_law 934 = .ok (.iload_n 3, 1) := by decide +kernel
theorem dL_law_935 : decode cL_law 935 = .ok (.iconst 1, 1) := by decide +kernel
theorem dL_law_936 : decode cL_law 936 = .ok (.iadd, 1) := by decide +kernel
theorem dL_law_937 : decode cL_law 937 = .ok (.iaload, 1) := by decide +kernel
theorem dL_law_938 : decode cL_law 938 = .ok (.invokevirtual 115, 3) := by decide +kernel
theorem dL_law_941 : decode cL_law 941 = .ok (.aload_n 2, 1) := by decide +kernel
theorem dL_law_942 : decode cL_law 942 = .ok (.aload_n 0, 1) := by decide +kernel
theorem dL_law_943 : decode cL_law 943 = .ok (.iload_n 3, 1) := by decide +kernel
theorem dL_law_944 : decode cL_law 944 = .ok (.iconst 1, 1) := by decide +kernel
theorem dL_law_945 : decode cL_law 945 = .ok (.iadd, 1) := by decide +kernel
theorem dL_law_946 : decode cL_law 946 = .ok (.iaload, 1) := by decide +kernel
theorem dL_law_947 : decode cL_law 947 = .ok (.invokevirtual 118, 3) := by decide +kernel
theorem dL_law_950 : decode cL_law 950 = .ok (.if_icmp .eq 579, 3) := by decide +kernel
theorem dL_law_955 : decode cL_law 955 = .ok (.aload_n 1, 1) := by decide +kernel
theorem dL_law_956 : decode cL_law 956 = .ok (.aload_n 0, 1) := by decide +kernel
theorem dL_law_957 : decode cL_law 957 = .ok (.iload_n 3, 1) := by decide +kernel
theorem dL_law_958 : decode cL_law 958 = .ok (.iconst 1, 1) := by decide +kernel
theorem dL_law_959 : decode cL_law 959 = .ok (.iadd, 1) := by decide +kernel
theorem dL_law_960 : decode cL_law 960 = .ok (.iaload, 1) := by decide +kernel
theorem dL_law_961 : decode cL_law 961 = .ok (.aload_n 0, 1) := by decide +kernel
theorem dL_law_962 : decode cL_law 962 = .ok (.iload_n 3, 1) := by decide +kernel
theorem dL_law_963 : decode cL_law 963 = .ok (.iconst 2, 1) := by decide +kernel
theorem dL_law_964 : decode cL_law 964 = .ok (.iadd, 1) := by decide +kernel
theorem dL_law_965 : decode cL_law 965 = .ok (.iaload, 1) := by decide +kernel
theorem dL_law_966 : decode cL_law 966 = .ok (.aload_n 0, 1) := by decide +kernel
theorem dL_law_967 : decode cL_law 967 = .ok (.iload_n 3, 1) := by decide +kernel
theorem dL_law_968 : decode cL_law 968 = .ok (.iconst 3, 1) := by decide +kernel
theorem dL_law_969 : decode cL_law 969 = .ok (.iadd, 1) := by decide +kernel
theorem dL_law_970 : decode cL_law 970 = .ok (.iaload, 1) := by decide +kernel
theorem dL_law_971 : decode cL_law 971 = .ok (.invokevirtual 119, 3) := by decide +kernel
theorem dL_law_974 : decode cL_law 974 = .ok (.aload_n 2, 1) := by decide +kernel
theorem dL_law_975 : decode cL_law 975 = .ok (.aload_n 0, 1) := by decide +kernel
theorem dL_law_976 : decode cL_law 976 = .ok (.iload_n 3, 1) := by decide +kernel
theorem dL_law_977 : decode cL_law 977 = .ok (.iconst 1, 1) := by decide +kernel
theorem dL_law_978 : decode cL_law 978 = .ok (.iadd, 1) := by decide +kernel
theorem dL_law_979 : decode cL_law 979 = .ok (.iaload, 1) := by decide +kernel
theorem dL_law_980 : decode cL_law 980 = .ok (.aload_n 0, 1) := by decide +kernel
theorem dL_law_981 : decode cL_law 981 = .ok (.iload_n 3, 1) := by decide +kernel
theorem dL_law_982 : decode cL_law 982 = .ok (.iconst 2, 1) := by decide +kernel
theorem dL_law_983 : decode cL_law 983 = .ok (.iadd, 1) := by decide +kernel
theorem dL_law_984 : decode cL_law 984 = .ok (.iaload, 1) := by decide +kernel
theorem dL_law_985 : decode cL_law 985 = .ok (.aload_n 0, 1) := by decide +kernel
theorem dL_law_986 : decode cL_law 986 = .ok (.iload_n 3, 1) := by decide +kernel
theorem dL_law_987 : decode cL_law 987 = .ok (.iconst 3, 1) := by decide +kernel
theorem dL_law_988 : decode cL_law 988 = .ok (.iadd, 1) := by decide +kernel
theorem dL_law_989 : decode cL_law 989 = .ok (.iaload, 1) := by decide +kernel
theorem dL_law_990 : decode cL_law 990 = .ok (.invokevirtual 122, 3) := by decide +kernel
theorem dL_law_993 : decode cL_law 993 = .ok (.lcmp, 1) := by decide +kernel
theorem dL_law_994 : decode cL_law 994 = .ok (.ifCond .eq 535, 3) := by decide +kernel
theorem dL_law_999 : decode cL_law 999 = .ok (.aload_n 1, 1) := by decide +kernel
theorem dL_law_1000 : decode cL_law 1000 = .ok (.aload_n 0, 1) := by decide +kernel
theorem dL_law_1001 : decode cL_law 1001 = .ok (.iload_n 3, 1) := by decide +kernel
theorem dL_law_1002 : decode cL_law 1002 = .ok (.iconst 1, 1) := by decide +kernel
theorem dL_law_1003 : decode cL_law 1003 = .ok (.iadd, 1) := by decide +kernel
theorem dL_law_1004 : decode cL_law 1004 = .ok (.iaload, 1) := by decide +kernel
theorem dL_law_1005 : decode cL_law 1005 = .ok (.invokevirtual 123, 3) := by decide +kernel
theorem dL_law_1008 : decode cL_law 1008 = .ok (.aload_n 2, 1) := by decide +kernel
theorem dL_law_1009 : decode cL_law 1009 = .ok (.aload_n 0, 1) := by decide +kernel
theorem dL_law_1010 : decode cL_law 1010 = .ok (.iload_n 3, 1) := by decide +kernel
theorem dL_law_1011 : decode cL_law 1011 = .ok (.iconst 1, 1) := by decide +kernel
theorem dL_law_1012 : decode cL_law 1012 = .ok (.iadd, 1) := by decide +kernel
theorem dL_law_1013 : decode cL_law 1013 = .ok (.iaload, 1) := by decide +kernel
theorem dL_law_1014 : decode cL_law 1014 = .ok (.invokevirtual 126, 3) := by decide +kernel
theorem dL_law_1017 : decode cL_law 1017 = .ok (.if_icmp .eq 512, 3) := by decide +kernel
/-- merges -/
abbrev OP_merges (Rel : T9 → T10 → Prop) : Prop := ∀ (s9 : T9) (s10 : T10) (p1 : Int32), Rel s9 s10 → ∃ u v, m_X9_merges s9 p1 = some u ∧ m_X10_merges s10 p1 = some v ∧ u.1 = v.1 ∧ Rel (st_X9_merges s9 u) (st_X10_merges s10 v)
set_option maxHeartbeats 4000000 in
set_option maxRecDepth 100000 in
theorem law_merges {p : Program} {e : Env} {s : State} {m : MethodId} {below : List Frame} {meth : Method} {c : Code} (l : Launch) (g : GG) (Rel : T9 → T10 → Prop) (hop : OP_merges Rel) {b L : Nat} {xs : Nat → Int32} (hL : L ≤ 2560) (hx : p.tables.exec = Jvm.exec) (hb : c.code = code) (hml : c.maxLocals = 4) (hown : s.vm.findClass RL = some m.cls) (hts : ∀ w ∈ G, w.before #[Value.ref b] s = true) (hX : va_X b L xs s s.heap) (hbl : b < s.heap.size) (hK : NK g s) (hE : SK g (fun q : Nat => s.heap.size ≤ q) s s.heap) (a0 a1 : Nat → Nat) (i : Nat) (hi : i + 5 ≤ L) (s9 : T9) (s10 : T10) (hR : Rel s9 s10) {H : Heap} {locs : List Loc} {ls : Array Slot} {cells slots : Nat} (hcl0 : cells + 24 ≤ 600000) (hsl0 : slots + 7200 ≤ 7302250) (hP : va_P g.1 vwCl (w9s a0 g s9 ++ w10s a1 g s10) H) (hD : va_D (fun q : Nat => s.heap.size ≤ q) (w9s a0 g s9 ++ w10s a1 g s10)) (hS : va_S (fun q : Nat => s.heap.size ≤ q) s.heap H locs) (hl : lv_has ls 4 [(3, .int (nI i)), (0, .ref b), (1, .ref (a0 0)), (2, .ref (a1 0))])
    (kk : ∀ (s9 : T9) (s10 : T10) (H : Heap) (locs : List Loc), Rel s9 s10 → va_P g.1 vwCl (w9s a0 g s9 ++ w10s a1 g s10) H → va_D (fun q : Nat => s.heap.size ≤ q) (w9s a0 g s9 ++ w10s a1 g s10) → va_S (fun q : Nat => s.heap.size ≤ q) s.heap H locs → W p l e room_1 s m #[Value.ref b] below meth c H locs (cells + 24) (slots + 7200) (lw_Z below #[Value.ref b] s) (F0 m 1529 ls [])) :
    W p l e room_1 s m #[Value.ref b] below meth c H locs cells slots (lw_Z below #[Value.ref b] s) (F0 m 731 ls []) := by
  have hA : ∀ q : Nat, s.heap.size ≤ q → (fun q : Nat => s.heap.size ≤ q) q := fun _ h => h
  have hbA : ¬ (fun q : Nat => s.heap.size ≤ q) b := Nat.not_le.mpr hbl
  have hcl : cells + 0 ≤ room_1.cells := by show cells + 0 ≤ 600000; omega
  have hsl : slots + 0 ≤ room_1.slots := by show slots + 0 ≤ 7302250; omega
  obtain ⟨u, v, hu, hv, he, hR⟩ := hop s9 s10 (xs (i + 1)) hR
  refine lv_aload_n hx hb dL_law_731 rfl (lv_at hl 2 rfl) ?_
  refine lv_aload_n hx hb dL_law_732 rfl (lv_at hl 1 rfl) ?_
  refine lv_iload_n hx hb dL_law_733 rfl (lv_at hl 0 rfl) ?_
  refine lv_iconst (v := 1) hx hb dL_law_734 (by decide) ?_
  refine lv_iadd hx hb dL_law_735 ?_
  refine nmI (nI_p i 1 (by decide)) ?_
  refine va_sld hx hb hX hbl hbA hS (vp_in_nI (show i + 1 < L by omega) (by omega)) dL_law_736 ?_
  refine nmI (z := xs (i + 1)) (by rw [nI_clamp (by omega)]) ?_
  refine cI hP hD hS hA hE (fun hPc hDc hSc => rV (As := [.int (xs (i + 1))]) (rest := []) hx hb hml hown hts hK (c_X9_merges l g a0 (p6_raws (p9_now s9)) (p6_kinds (p9_now s9)) (p6_figures (p9_now s9)) (p6_heavies (p9_now s9)) (p6_places (p9_now s9)) (p6_papers (p9_now s9)) (p6_lowers (p9_now s9)) (p6_uppers (p9_now s9)) (p6_rules (p9_now s9)) (p6_bounds (p9_now s9)) (p6_boundCount (p9_now s9)) (p6_tieWay (p9_now s9)) (p6_reached (p9_now s9)) (p6_raws (p9_kept s9)) (p6_kinds (p9_kept s9)) (p6_figures (p9_kept s9)) (p6_heavies (p9_kept s9)) (p6_places (p9_kept s9)) (p6_papers (p9_kept s9)) (p6_lowers (p9_kept s9)) (p6_uppers (p9_kept s9)) (p6_rules (p9_kept s9)) (p6_bounds (p9_kept s9)) (p6_boundCount (p9_kept s9)) (p6_tieWay (p9_kept s9)) (p6_reached (p9_kept s9)) (p6_raws (p9_spare s9)) (p6_kinds (p9_spare s9)) (p6_figures (p9_spare s9)) (p6_heavies (p9_spare s9)) (p6_places (p9_spare s9)) (p6_papers (p9_spare s9)) (p6_lowers (p9_spare s9)) (p6_uppers (p9_spare s9)) (p6_rules (p9_spare s9)) (p6_bounds (p9_spare s9)) (p6_boundCount (p9_spare s9)) (p6_tieWay (p9_spare s9)) (p6_reached (p9_spare s9)) (p9_isKept s9) (p3_signs (p9_letters s9)) (p3_numbers (p9_letters s9)) (p3_size (p9_letters s9)) (p3_at (p9_letters s9)) (p3_word (p9_letters s9)) (p9_told s9) (p9_toldCount s9) (p7_cells (p9_shelves s9)) (p7_sizes (p9_shelves s9)) (p7_made (p9_shelves s9)) (p9_refusals s9) (p5_overs (p9_order s9)) (p5_unders (p9_order s9)) (p5_marks (p9_order s9)) (p5_wrongs (p9_order s9)) (p5_papers (p9_order s9)) (p8_marks (p4_values (p9_standing s9))) (p8_weights (p4_values (p9_standing s9))) (p8_places (p4_values (p9_standing s9))) (p8_aboves (p4_values (p9_standing s9))) (p8_belows (p4_values (p9_standing s9))) (p1_above (p8_reduced (p4_values (p9_standing s9)))) (p1_below (p8_reduced (p4_values (p9_standing s9)))) (p8_papers (p4_values (p9_standing s9))) (p4_blocks (p9_standing s9)) (p4_tops (p9_standing s9)) (p4_bottoms (p9_standing s9)) (p4_blocksNow (p9_standing s9)) (p4_mergesDone (p9_standing s9)) (p4_loss (p9_standing s9)) (p8_marks (p0_values (p9_byRules s9))) (p8_weights (p0_values (p9_byRules s9))) (p8_places (p0_values (p9_byRules s9))) (p8_aboves (p0_values (p9_byRules s9))) (p8_belows (p0_values (p9_byRules s9))) (p1_above (p8_reduced (p0_values (p9_byRules s9)))) (p1_below (p8_reduced (p0_values (p9_byRules s9)))) (p8_papers (p0_values (p9_byRules s9))) (p5_overs (p0_order (p9_byRules s9))) (p5_unders (p0_order (p9_byRules s9))) (p5_marks (p0_order (p9_byRules s9))) (p5_wrongs (p0_order (p9_byRules s9))) (p5_papers (p0_order (p9_byRules s9))) (p0_sums (p9_byRules s9)) (p0_weighs (p9_byRules s9)) (p0_downs (p9_byRules s9)) (p1_above (p9_fraction s9)) (p1_below (p9_fraction s9)) (pSB_a (p9_said s9)) (pSB_m (p9_said s9)) (pSB_f (p9_said s9)) (pSB_l (p9_said s9)) (pSB_n (p9_said s9)) (xs (i + 1)) (by rw [hu]; exact Option.some_ne_none _)) svV_X9_merges kw793 rfl rfl hPc hDc hSc rfl rfl hl.1 (Nat.le_of_ble_eq_true rfl) dL_law_737 ⟨Nat.le_of_ble_eq_true rfl, Nat.le_of_ble_eq_true rfl, rfl, rfl, hcl, hsl⟩) [(0, 132)] rfl rfl rfl (fun _ => rfl) (fun w H locs ew nw hP hD hS => ?_)
  obtain rfl := Option.some.inj (hu.symm.trans ew)
  have hP : va_P g.1 vwCl (w9s a0 g (st_X9_merges s9 u) ++ w10s a1 g s10) H := hP
  have hD : va_D (fun q : Nat => s.heap.size ≤ q) (w9s a0 g (st_X9_merges s9 u) ++ w10s a1 g s10) := hD
  refine lv_aload_n hx hb dL_law_740 rfl (lv_at hl 3 rfl) ?_
  refine lv_aload_n hx hb dL_law_741 rfl (lv_at hl 1 rfl) ?_
  refine lv_iload_n hx hb dL_law_742 rfl (lv_at hl 0 rfl) ?_
  refine lv_iconst (v := 1) hx hb dL_law_743 (by decide) ?_
  refine lv_iadd hx hb dL_law_744 ?_
  refine nmI (nI_p i 1 (by decide)) ?_
  refine va_sld hx hb hX hbl hbA hS (vp_in_nI (show i + 1 < L by omega) (by omega)) dL_law_745 ?_
  refine nmI (z := xs (i + 1)) (by rw [nI_clamp (by omega)]) ?_
  refine cI hP hD hS hA hE (fun hPc hDc hSc => rV (As := [.int (xs (i + 1))]) (rest := [.int u.1]) hx hb hml hown hts hK (c_X10_merges l g a1 (p10_papers s10) (p10_raw s10) (p10_kind s10) (p10_figure s10) (p10_heavy s10) (p10_place s10) (p10_rules s10) (p10_lower s10) (p10_upper s10) (p10_limits s10) (p10_limit s10) (p10_ties s10) (p10_letter s10) (p10_letters s10) (p10_told s10) (p10_tolds s10) (p10_places s10) (p10_cell s10) (p10_refusals s10) (p10_imaged s10) (p10_hasImage s10) (p10_before s10) (p10_up s10) (p10_down s10) (p10_beneath s10) (p10_numberUp s10) (p10_numberDown s10) (p10_block s10) (p10_blocks s10) (p10_merged s10) (p10_valueUp s10) (p10_valueDown s10) (p10_said s10) (p10_saids s10) (p10_at s10) (p10_number s10) (xs (i + 1)) (by rw [hv]; exact Option.some_ne_none _)) svV_X10_merges kw1526 rfl rfl hPc hDc hSc rfl rfl hl.1 (Nat.le_of_ble_eq_true rfl) dL_law_746 ⟨Nat.le_of_ble_eq_true rfl, Nat.le_of_ble_eq_true rfl, rfl, rfl, hcl, hsl⟩) [(132, 22)] rfl rfl rfl (fun _ => rfl) (fun w H locs ew nw hP hD hS => ?_)
  obtain rfl := Option.some.inj (hv.symm.trans ew)
  have hP : va_P g.1 vwCl (w9s a0 g (st_X9_merges s9 u) ++ w10s a1 g (st_X10_merges s10 v)) H := hP
  have hD : va_D (fun q : Nat => s.heap.size ≤ q) (w9s a0 g (st_X9_merges s9 u) ++ w10s a1 g (st_X10_merges s10 v)) := hD
  refine lv_icmp_eq (tgt := 1529) hx hb dL_law_749 (by decide) (fun _ => ?_) (fun c => absurd he c)
  refine W.widen (k := cells + 24) (n := slots + 7200) (by omega) (by omega) ?_
  exact kk (st_X9_merges s9 u) (st_X10_merges s10 v) _ _ hR hP hD hS
/-- lineChange -/
abbrev OP_lineChange (Rel : T9 → T10 → Prop) : Prop := ∀ (s9 : T9) (s10 : T10) (p1 p2 : Int32), Rel s9 s10 → ∃ u v, m_X9_lineChange s9 p1 p2 = some u ∧ m_X10_lineChange s10 p1 p2 = some v ∧ u.1 = v.1 ∧ Rel (st_X9_lineChange s9 u) (st_X10_lineChange s10 v)
set_option maxHeartbeats 4000000 in
set_option maxRecDepth 100000 in
theorem law_lineChange {p : Program} {e : Env} {s : State} {m : MethodId} {below : List Frame} {meth : Method} {c : Code} (l : Launch) (g : GG) (Rel : T9 → T10 → Prop) (hop : OP_lineChange Rel) {b L : Nat} {xs : Nat → Int32} (hL : L ≤ 2560) (hx : p.tables.exec = Jvm.exec) (hb : c.code = code) (hml : c.maxLocals = 4) (hown : s.vm.findClass RL = some m.cls) (hts : ∀ w ∈ G, w.before #[Value.ref b] s = true) (hX : va_X b L xs s s.heap) (hbl : b < s.heap.size) (hK : NK g s) (hE : SK g (fun q : Nat => s.heap.size ≤ q) s s.heap) (a0 a1 : Nat → Nat) (i : Nat) (hi : i + 5 ≤ L) (s9 : T9) (s10 : T10) (hR : Rel s9 s10) {H : Heap} {locs : List Loc} {ls : Array Slot} {cells slots : Nat} (hcl0 : cells + 24 ≤ 600000) (hsl0 : slots + 7200 ≤ 7302250) (hP : va_P g.1 vwCl (w9s a0 g s9 ++ w10s a1 g s10) H) (hD : va_D (fun q : Nat => s.heap.size ≤ q) (w9s a0 g s9 ++ w10s a1 g s10)) (hS : va_S (fun q : Nat => s.heap.size ≤ q) s.heap H locs) (hl : lv_has ls 4 [(3, .int (nI i)), (0, .ref b), (1, .ref (a0 0)), (2, .ref (a1 0))])
    (kk : ∀ (s9 : T9) (s10 : T10) (H : Heap) (locs : List Loc), Rel s9 s10 → va_P g.1 vwCl (w9s a0 g s9 ++ w10s a1 g s10) H → va_D (fun q : Nat => s.heap.size ≤ q) (w9s a0 g s9 ++ w10s a1 g s10) → va_S (fun q : Nat => s.heap.size ≤ q) s.heap H locs → W p l e room_1 s m #[Value.ref b] below meth c H locs (cells + 24) (slots + 7200) (lw_Z below #[Value.ref b] s) (F0 m 1529 ls [])) :
    W p l e room_1 s m #[Value.ref b] below meth c H locs cells slots (lw_Z below #[Value.ref b] s) (F0 m 754 ls []) := by
  have hA : ∀ q : Nat, s.heap.size ≤ q → (fun q : Nat => s.heap.size ≤ q) q := fun _ h => h
  have hbA : ¬ (fun q : Nat => s.heap.size ≤ q) b := Nat.not_le.mpr hbl
  have hcl : cells + 0 ≤ room_1.cells := by show cells + 0 ≤ 600000; omega
  have hsl : slots + 0 ≤ room_1.slots := by show slots + 0 ≤ 7302250; omega
  obtain ⟨u, v, hu, hv, he, hR⟩ := hop s9 s10 (xs (i + 1)) (xs (i + 2)) hR
  refine lv_aload_n hx hb dL_law_754 rfl (lv_at hl 2 rfl) ?_
  refine lv_aload_n hx hb dL_law_755 rfl (lv_at hl 1 rfl) ?_
  refine lv_iload_n hx hb dL_law_756 rfl (lv_at hl 0 rfl) ?_
  refine lv_iconst (v := 1) hx hb dL_law_757 (by decide) ?_
  refine lv_iadd hx hb dL_law_758 ?_
  refine nmI (nI_p i 1 (by decide)) ?_
  refine va_sld hx hb hX hbl hbA hS (vp_in_nI (show i + 1 < L by omega) (by omega)) dL_law_759 ?_
  refine nmI (z := xs (i + 1)) (by rw [nI_clamp (by omega)]) ?_
  refine lv_aload_n hx hb dL_law_760 rfl (lv_at hl 1 rfl) ?_
  refine lv_iload_n hx hb dL_law_761 rfl (lv_at hl 0 rfl) ?_
  refine lv_iconst (v := 2) hx hb dL_law_762 (by decide) ?_
  refine lv_iadd hx hb dL_law_763 ?_
  refine nmI (nI_p i 2 (by decide)) ?_
  refine va_sld hx hb hX hbl hbA hS (vp_in_nI (show i + 2 < L by omega) (by omega)) dL_law_764 ?_
  refine nmI (z := xs (i + 2)) (by rw [nI_clamp (by omega)]) ?_
  refine cL hP hD hS hA hE (fun hPc hDc hSc => rV (As := [.int (xs (i + 1)), .int (xs (i + 2))]) (rest := []) hx hb hml hown hts hK (c_X9_lineChange l g a0 (p6_raws (p9_now s9)) (p6_kinds (p9_now s9)) (p6_figures (p9_now s9)) (p6_heavies (p9_now s9)) (p6_places (p9_now s9)) (p6_papers (p9_now s9)) (p6_lowers (p9_now s9)) (p6_uppers (p9_now s9)) (p6_rules (p9_now s9)) (p6_bounds (p9_now s9)) (p6_boundCount (p9_now s9)) (p6_tieWay (p9_now s9)) (p6_reached (p9_now s9)) (p6_raws (p9_kept s9)) (p6_kinds (p9_kept s9)) (p6_figures (p9_kept s9)) (p6_heavies (p9_kept s9)) (p6_places (p9_kept s9)) (p6_papers (p9_kept s9)) (p6_lowers (p9_kept s9)) (p6_uppers (p9_kept s9)) (p6_rules (p9_kept s9)) (p6_bounds (p9_kept s9)) (p6_boundCount (p9_kept s9)) (p6_tieWay (p9_kept s9)) (p6_reached (p9_kept s9)) (p6_raws (p9_spare s9)) (p6_kinds (p9_spare s9)) (p6_figures (p9_spare s9)) (p6_heavies (p9_spare s9)) (p6_places (p9_spare s9)) (p6_papers (p9_spare s9)) (p6_lowers (p9_spare s9)) (p6_uppers (p9_spare s9)) (p6_rules (p9_spare s9)) (p6_bounds (p9_spare s9)) (p6_boundCount (p9_spare s9)) (p6_tieWay (p9_spare s9)) (p6_reached (p9_spare s9)) (p9_isKept s9) (p3_signs (p9_letters s9)) (p3_numbers (p9_letters s9)) (p3_size (p9_letters s9)) (p3_at (p9_letters s9)) (p3_word (p9_letters s9)) (p9_told s9) (p9_toldCount s9) (p7_cells (p9_shelves s9)) (p7_sizes (p9_shelves s9)) (p7_made (p9_shelves s9)) (p9_refusals s9) (p5_overs (p9_order s9)) (p5_unders (p9_order s9)) (p5_marks (p9_order s9)) (p5_wrongs (p9_order s9)) (p5_papers (p9_order s9)) (p8_marks (p4_values (p9_standing s9))) (p8_weights (p4_values (p9_standing s9))) (p8_places (p4_values (p9_standing s9))) (p8_aboves (p4_values (p9_standing s9))) (p8_belows (p4_values (p9_standing s9))) (p1_above (p8_reduced (p4_values (p9_standing s9)))) (p1_below (p8_reduced (p4_values (p9_standing s9)))) (p8_papers (p4_values (p9_standing s9))) (p4_blocks (p9_standing s9)) (p4_tops (p9_standing s9)) (p4_bottoms (p9_standing s9)) (p4_blocksNow (p9_standing s9)) (p4_mergesDone (p9_standing s9)) (p4_loss (p9_standing s9)) (p8_marks (p0_values (p9_byRules s9))) (p8_weights (p0_values (p9_byRules s9))) (p8_places (p0_values (p9_byRules s9))) (p8_aboves (p0_values (p9_byRules s9))) (p8_belows (p0_values (p9_byRules s9))) (p1_above (p8_reduced (p0_values (p9_byRules s9)))) (p1_below (p8_reduced (p0_values (p9_byRules s9)))) (p8_papers (p0_values (p9_byRules s9))) (p5_overs (p0_order (p9_byRules s9))) (p5_unders (p0_order (p9_byRules s9))) (p5_marks (p0_order (p9_byRules s9))) (p5_wrongs (p0_order (p9_byRules s9))) (p5_papers (p0_order (p9_byRules s9))) (p0_sums (p9_byRules s9)) (p0_weighs (p9_byRules s9)) (p0_downs (p9_byRules s9)) (p1_above (p9_fraction s9)) (p1_below (p9_fraction s9)) (pSB_a (p9_said s9)) (pSB_m (p9_said s9)) (pSB_f (p9_said s9)) (pSB_l (p9_said s9)) (pSB_n (p9_said s9)) (xs (i + 1)) (xs (i + 2)) (by rw [hu]; exact Option.some_ne_none _)) svV_X9_lineChange kw801 rfl rfl hPc hDc hSc rfl rfl hl.1 (Nat.le_of_ble_eq_true rfl) dL_law_765 ⟨Nat.le_of_ble_eq_true rfl, Nat.le_of_ble_eq_true rfl, rfl, rfl, hcl, hsl⟩) [(0, 132)] rfl rfl rfl (fun _ => rfl) (fun w H locs ew hP hD hS => ?_)
  obtain rfl := Option.some.inj (hu.symm.trans ew)
  have hP : va_P g.1 vwCl (w9s a0 g (st_X9_lineChange s9 u) ++ w10s a1 g s10) H := hP
  have hD : va_D (fun q : Nat => s.heap.size ≤ q) (w9s a0 g (st_X9_lineChange s9 u) ++ w10s a1 g s10) := hD
  refine lv_aload_n hx hb dL_law_768 rfl (lv_at hl 3 rfl) ?_
  refine lv_aload_n hx hb dL_law_769 rfl (lv_at hl 1 rfl) ?_
  refine lv_iload_n hx hb dL_law_770 rfl (lv_at hl 0 rfl) ?_
  refine lv_iconst (v := 1) hx hb dL_law_771 (by decide) ?_
  refine lv_iadd hx hb dL_law_772 ?_
  refine nmI (nI_p i 1 (by decide)) ?_
  refine va_sld hx hb hX hbl hbA hS (vp_in_nI (show i + 1 < L by omega) (by omega)) dL_law_773 ?_
  refine nmI (z := xs (i + 1)) (by rw [nI_clamp (by omega)]) ?_
  refine lv_aload_n hx hb dL_law_774 rfl (lv_at hl 1 rfl) ?_
  refine lv_iload_n hx hb dL_law_775 rfl (lv_at hl 0 rfl) ?_
  refine lv_iconst (v := 2) hx hb dL_law_776 (by decide) ?_
  refine lv_iadd hx hb dL_law_777 ?_
  refine nmI (nI_p i 2 (by decide)) ?_
  refine va_sld hx hb hX hbl hbA hS (vp_in_nI (show i + 2 < L by omega) (by omega)) dL_law_778 ?_
  refine nmI (z := xs (i + 2)) (by rw [nI_clamp (by omega)]) ?_
  refine cL hP hD hS hA hE (fun hPc hDc hSc => rV (As := [.int (xs (i + 1)), .int (xs (i + 2))]) (rest := [.long u.1]) hx hb hml hown hts hK (c_X10_lineChange l g a1 (p10_papers s10) (p10_raw s10) (p10_kind s10) (p10_figure s10) (p10_heavy s10) (p10_place s10) (p10_rules s10) (p10_lower s10) (p10_upper s10) (p10_limits s10) (p10_limit s10) (p10_ties s10) (p10_letter s10) (p10_letters s10) (p10_told s10) (p10_tolds s10) (p10_places s10) (p10_cell s10) (p10_refusals s10) (p10_imaged s10) (p10_hasImage s10) (p10_before s10) (p10_up s10) (p10_down s10) (p10_beneath s10) (p10_numberUp s10) (p10_numberDown s10) (p10_block s10) (p10_blocks s10) (p10_merged s10) (p10_valueUp s10) (p10_valueDown s10) (p10_said s10) (p10_saids s10) (p10_at s10) (p10_number s10) (xs (i + 1)) (xs (i + 2)) (by rw [hv]; exact Option.some_ne_none _)) svV_X10_lineChange kw1530 rfl rfl hPc hDc hSc rfl rfl hl.1 (Nat.le_of_ble_eq_true rfl) dL_law_779 ⟨Nat.le_of_ble_eq_true rfl, Nat.le_of_ble_eq_true rfl, rfl, rfl, hcl, hsl⟩) [(132, 22)] rfl rfl rfl (fun _ => rfl) (fun w H locs ew hP hD hS => ?_)
  obtain rfl := Option.some.inj (hv.symm.trans ew)
  have hP : va_P g.1 vwCl (w9s a0 g (st_X9_lineChange s9 u) ++ w10s a1 g (st_X10_lineChange s10 v)) H := hP
  have hD : va_D (fun q : Nat => s.heap.size ≤ q) (w9s a0 g (st_X9_lineChange s9 u) ++ w10s a1 g (st_X10_lineChange s10 v)) := hD
  refine lc_eq (tgt := 1529) hx hb dL_law_782 dL_law_783 (by decide) (fun _ => ?_) (fun c => absurd he c)
  refine W.widen (k := cells + 24) (n := slots + 7200) (by omega) (by omega) ?_
  exact kk (st_X9_lineChange s9 u) (st_X10_lineChange s10 v) _ _ hR hP hD hS
/-- value -/
abbrev OP_value (Rel : T9 → T10 → Prop) : Prop := ∀ (s9 : T9) (s10 : T10) (p1 p2 p3 : Int32), Rel s9 s10 → ∃ u v, m_X9_value s9 p1 p2 p3 = some u ∧ m_X10_value s10 p1 p2 p3 = some v ∧ u.1 = v.1 ∧ Rel (st_X9_value s9 u) (st_X10_value s10 v)
set_option maxHeartbeats 4000000 in
set_option maxRecDepth 100000 in
theorem law_value {p : Program} {e : Env} {s : State} {m : MethodId} {below : List Frame} {meth : Method} {c : Code} (l : Launch) (g : GG) (Rel : T9 → T10 → Prop) (hop : OP_value Rel) {b L : Nat} {xs : Nat → Int32} (hL : L ≤ 2560) (hx : p.tables.exec = Jvm.exec) (hb : c.code = code) (hml : c.maxLocals = 4) (hown : s.vm.findClass RL = some m.cls) (hts : ∀ w ∈ G, w.before #[Value.ref b] s = true) (hX : va_X b L xs s s.heap) (hbl : b < s.heap.size) (hK : NK g s) (hE : SK g (fun q : Nat => s.heap.size ≤ q) s s.heap) (a0 a1 : Nat → Nat) (i : Nat) (hi : i + 5 ≤ L) (s9 : T9) (s10 : T10) (hR : Rel s9 s10) {H : Heap} {locs : List Loc} {ls : Array Slot} {cells slots : Nat} (hcl0 : cells + 24 ≤ 600000) (hsl0 : slots + 7200 ≤ 7302250) (hP : va_P g.1 vwCl (w9s a0 g s9 ++ w10s a1 g s10) H) (hD : va_D (fun q : Nat => s.heap.size ≤ q) (w9s a0 g s9 ++ w10s a1 g s10)) (hS : va_S (fun q : Nat => s.heap.size ≤ q) s.heap H locs) (hl : lv_has ls 4 [(3, .int (nI i)), (0, .ref b), (1, .ref (a0 0)), (2, .ref (a1 0))])
    (kk : ∀ (s9 : T9) (s10 : T10) (H : Heap) (locs : List Loc), Rel s9 s10 → va_P g.1 vwCl (w9s a0 g s9 ++ w10s a1 g s10) H → va_D (fun q : Nat => s.heap.size ≤ q) (w9s a0 g s9 ++ w10s a1 g s10) → va_S (fun q : Nat => s.heap.size ≤ q) s.heap H locs → W p l e room_1 s m #[Value.ref b] below meth c H locs (cells + 24) (slots + 7200) (lw_Z below #[Value.ref b] s) (F0 m 1529 ls [])) :
    W p l e room_1 s m #[Value.ref b] below meth c H locs cells slots (lw_Z below #[Value.ref b] s) (F0 m 788 ls []) := by
  have hA : ∀ q : Nat, s.heap.size ≤ q → (fun q : Nat => s.heap.size ≤ q) q := fun _ h => h
  have hbA : ¬ (fun q : Nat => s.heap.size ≤ q) b := Nat.not_le.mpr hbl
  have hcl : cells + 0 ≤ room_1.cells := by show cells + 0 ≤ 600000; omega
  have hsl : slots + 0 ≤ room_1.slots := by show slots + 0 ≤ 7302250; omega
  obtain ⟨u, v, hu, hv, he, hR⟩ := hop s9 s10 (xs (i + 1)) (xs (i + 2)) (xs (i + 3)) hR
  refine lv_aload_n hx hb dL_law_788 rfl (lv_at hl 2 rfl) ?_
  refine lv_aload_n hx hb dL_law_789 rfl (lv_at hl 1 rfl) ?_
  refine lv_iload_n hx hb dL_law_790 rfl (lv_at hl 0 rfl) ?_
  refine lv_iconst (v := 1) hx hb dL_law_791 (by decide) ?_
  refine lv_iadd hx hb dL_law_792 ?_
  refine nmI (nI_p i 1 (by decide)) ?_
  refine va_sld hx hb hX hbl hbA hS (vp_in_nI (show i + 1 < L by omega) (by omega)) dL_law_793 ?_
  refine nmI (z := xs (i + 1)) (by rw [nI_clamp (by omega)]) ?_
  refine lv_aload_n hx hb dL_law_794 rfl (lv_at hl 1 rfl) ?_
  refine lv_iload_n hx hb dL_law_795 rfl (lv_at hl 0 rfl) ?_
  refine lv_iconst (v := 2) hx hb dL_law_796 (by decide) ?_
  refine lv_iadd hx hb dL_law_797 ?_
  refine nmI (nI_p i 2 (by decide)) ?_
  refine va_sld hx hb hX hbl hbA hS (vp_in_nI (show i + 2 < L by omega) (by omega)) dL_law_798 ?_
  refine nmI (z := xs (i + 2)) (by rw [nI_clamp (by omega)]) ?_
  refine lv_aload_n hx hb dL_law_799 rfl (lv_at hl 1 rfl) ?_
  refine lv_iload_n hx hb dL_law_800 rfl (lv_at hl 0 rfl) ?_
  refine lv_iconst (v := 3) hx hb dL_law_801 (by decide) ?_
  refine lv_iadd hx hb dL_law_802 ?_
  refine nmI (nI_p i 3 (by decide)) ?_
  refine va_sld hx hb hX hbl hbA hS (vp_in_nI (show i + 3 < L by omega) (by omega)) dL_law_803 ?_
  refine nmI (z := xs (i + 3)) (by rw [nI_clamp (by omega)]) ?_
  refine cL hP hD hS hA hE (fun hPc hDc hSc => rV (As := [.int (xs (i + 1)), .int (xs (i + 2)), .int (xs (i + 3))]) (rest := []) hx hb hml hown hts hK (c_X9_value l g a0 (p6_raws (p9_now s9)) (p6_kinds (p9_now s9)) (p6_figures (p9_now s9)) (p6_heavies (p9_now s9)) (p6_places (p9_now s9)) (p6_papers (p9_now s9)) (p6_lowers (p9_now s9)) (p6_uppers (p9_now s9)) (p6_rules (p9_now s9)) (p6_bounds (p9_now s9)) (p6_boundCount (p9_now s9)) (p6_tieWay (p9_now s9)) (p6_reached (p9_now s9)) (p6_raws (p9_kept s9)) (p6_kinds (p9_kept s9)) (p6_figures (p9_kept s9)) (p6_heavies (p9_kept s9)) (p6_places (p9_kept s9)) (p6_papers (p9_kept s9)) (p6_lowers (p9_kept s9)) (p6_uppers (p9_kept s9)) (p6_rules (p9_kept s9)) (p6_bounds (p9_kept s9)) (p6_boundCount (p9_kept s9)) (p6_tieWay (p9_kept s9)) (p6_reached (p9_kept s9)) (p6_raws (p9_spare s9)) (p6_kinds (p9_spare s9)) (p6_figures (p9_spare s9)) (p6_heavies (p9_spare s9)) (p6_places (p9_spare s9)) (p6_papers (p9_spare s9)) (p6_lowers (p9_spare s9)) (p6_uppers (p9_spare s9)) (p6_rules (p9_spare s9)) (p6_bounds (p9_spare s9)) (p6_boundCount (p9_spare s9)) (p6_tieWay (p9_spare s9)) (p6_reached (p9_spare s9)) (p9_isKept s9) (p3_signs (p9_letters s9)) (p3_numbers (p9_letters s9)) (p3_size (p9_letters s9)) (p3_at (p9_letters s9)) (p3_word (p9_letters s9)) (p9_told s9) (p9_toldCount s9) (p7_cells (p9_shelves s9)) (p7_sizes (p9_shelves s9)) (p7_made (p9_shelves s9)) (p9_refusals s9) (p5_overs (p9_order s9)) (p5_unders (p9_order s9)) (p5_marks (p9_order s9)) (p5_wrongs (p9_order s9)) (p5_papers (p9_order s9)) (p8_marks (p4_values (p9_standing s9))) (p8_weights (p4_values (p9_standing s9))) (p8_places (p4_values (p9_standing s9))) (p8_aboves (p4_values (p9_standing s9))) (p8_belows (p4_values (p9_standing s9))) (p1_above (p8_reduced (p4_values (p9_standing s9)))) (p1_below (p8_reduced (p4_values (p9_standing s9)))) (p8_papers (p4_values (p9_standing s9))) (p4_blocks (p9_standing s9)) (p4_tops (p9_standing s9)) (p4_bottoms (p9_standing s9)) (p4_blocksNow (p9_standing s9)) (p4_mergesDone (p9_standing s9)) (p4_loss (p9_standing s9)) (p8_marks (p0_values (p9_byRules s9))) (p8_weights (p0_values (p9_byRules s9))) (p8_places (p0_values (p9_byRules s9))) (p8_aboves (p0_values (p9_byRules s9))) (p8_belows (p0_values (p9_byRules s9))) (p1_above (p8_reduced (p0_values (p9_byRules s9)))) (p1_below (p8_reduced (p0_values (p9_byRules s9)))) (p8_papers (p0_values (p9_byRules s9))) (p5_overs (p0_order (p9_byRules s9))) (p5_unders (p0_order (p9_byRules s9))) (p5_marks (p0_order (p9_byRules s9))) (p5_wrongs (p0_order (p9_byRules s9))) (p5_papers (p0_order (p9_byRules s9))) (p0_sums (p9_byRules s9)) (p0_weighs (p9_byRules s9)) (p0_downs (p9_byRules s9)) (p1_above (p9_fraction s9)) (p1_below (p9_fraction s9)) (pSB_a (p9_said s9)) (pSB_m (p9_said s9)) (pSB_f (p9_said s9)) (pSB_l (p9_said s9)) (pSB_n (p9_said s9)) (xs (i + 1)) (xs (i + 2)) (xs (i + 3)) (by rw [hu]; exact Option.some_ne_none _)) svV_X9_value kw825 rfl rfl hPc hDc hSc rfl rfl hl.1 (Nat.le_of_ble_eq_true rfl) dL_law_804 ⟨Nat.le_of_ble_eq_true rfl, Nat.le_of_ble_eq_true rfl, rfl, rfl, hcl, hsl⟩) [(0, 132)] rfl rfl rfl (fun _ => rfl) (fun w H locs ew hP hD hS => ?_)
  obtain rfl := Option.some.inj (hu.symm.trans ew)
  have hP : va_P g.1 vwCl (w9s a0 g (st_X9_value s9 u) ++ w10s a1 g s10) H := hP
  have hD : va_D (fun q : Nat => s.heap.size ≤ q) (w9s a0 g (st_X9_value s9 u) ++ w10s a1 g s10) := hD
  refine lv_aload_n hx hb dL_law_807 rfl (lv_at hl 3 rfl) ?_
  refine lv_aload_n hx hb dL_law_808 rfl (lv_at hl 1 rfl) ?_
  refine lv_iload_n hx hb dL_law_809 rfl (lv_at hl 0 rfl) ?_
  refine lv_iconst (v := 1) hx hb dL_law_810 (by decide) ?_
  refine lv_iadd hx hb dL_law_811 ?_
  refine nmI (nI_p i 1 (by decide)) ?_
  refine va_sld hx hb hX hbl hbA hS (vp_in_nI (show i + 1 < L by omega) (by omega)) dL_law_812 ?_
  refine nmI (z := xs (i + 1)) (by rw [nI_clamp (by omega)]) ?_
  refine lv_aload_n hx hb dL_law_813 rfl (lv_at hl 1 rfl) ?_
  refine lv_iload_n hx hb dL_law_814 rfl (lv_at hl 0 rfl) ?_
  refine lv_iconst (v := 2) hx hb dL_law_815 (by decide) ?_
  refine lv_iadd hx hb dL_law_816 ?_
  refine nmI (nI_p i 2 (by decide)) ?_
  refine va_sld hx hb hX hbl hbA hS (vp_in_nI (show i + 2 < L by omega) (by omega)) dL_law_817 ?_
  refine nmI (z := xs (i + 2)) (by rw [nI_clamp (by omega)]) ?_
  refine lv_aload_n hx hb dL_law_818 rfl (lv_at hl 1 rfl) ?_
  refine lv_iload_n hx hb dL_law_819 rfl (lv_at hl 0 rfl) ?_
  refine lv_iconst (v := 3) hx hb dL_law_820 (by decide) ?_
  refine lv_iadd hx hb dL_law_821 ?_
  refine nmI (nI_p i 3 (by decide)) ?_
  refine va_sld hx hb hX hbl hbA hS (vp_in_nI (show i + 3 < L by omega) (by omega)) dL_law_822 ?_
  refine nmI (z := xs (i + 3)) (by rw [nI_clamp (by omega)]) ?_
  refine cL hP hD hS hA hE (fun hPc hDc hSc => rV (As := [.int (xs (i + 1)), .int (xs (i + 2)), .int (xs (i + 3))]) (rest := [.long u.1]) hx hb hml hown hts hK (c_X10_value l g a1 (p10_papers s10) (p10_raw s10) (p10_kind s10) (p10_figure s10) (p10_heavy s10) (p10_place s10) (p10_rules s10) (p10_lower s10) (p10_upper s10) (p10_limits s10) (p10_limit s10) (p10_ties s10) (p10_letter s10) (p10_letters s10) (p10_told s10) (p10_tolds s10) (p10_places s10) (p10_cell s10) (p10_refusals s10) (p10_imaged s10) (p10_hasImage s10) (p10_before s10) (p10_up s10) (p10_down s10) (p10_beneath s10) (p10_numberUp s10) (p10_numberDown s10) (p10_block s10) (p10_blocks s10) (p10_merged s10) (p10_valueUp s10) (p10_valueDown s10) (p10_said s10) (p10_saids s10) (p10_at s10) (p10_number s10) (xs (i + 1)) (xs (i + 2)) (xs (i + 3)) (by rw [hv]; exact Option.some_ne_none _)) svV_X10_value kw1544 rfl rfl hPc hDc hSc rfl rfl hl.1 (Nat.le_of_ble_eq_true rfl) dL_law_823 ⟨Nat.le_of_ble_eq_true rfl, Nat.le_of_ble_eq_true rfl, rfl, rfl, hcl, hsl⟩) [(132, 22)] rfl rfl rfl (fun _ => rfl) (fun w H locs ew hP hD hS => ?_)
  obtain rfl := Option.some.inj (hv.symm.trans ew)
  have hP : va_P g.1 vwCl (w9s a0 g (st_X9_value s9 u) ++ w10s a1 g (st_X10_value s10 v)) H := hP
  have hD : va_D (fun q : Nat => s.heap.size ≤ q) (w9s a0 g (st_X9_value s9 u) ++ w10s a1 g (st_X10_value s10 v)) := hD
  refine lc_eq (tgt := 1529) hx hb dL_law_826 dL_law_827 (by decide) (fun _ => ?_) (fun c => absurd he c)
  refine W.widen (k := cells + 24) (n := slots + 7200) (by omega) (by omega) ?_
  exact kk (st_X9_value s9 u) (st_X10_value s10 v) _ _ hR hP hD hS
/-- grade -/
abbrev OP_grade (Rel : T9 → T10 → Prop) : Prop := ∀ (s9 : T9) (s10 : T10) (p1 p2 : Int32), Rel s9 s10 → ∃ u v, m_X9_grade s9 p1 p2 = some u ∧ m_X10_grade s10 p1 p2 = some v ∧ u.1 = v.1 ∧ Rel (st_X9_grade s9 u) (st_X10_grade s10 v)
set_option maxHeartbeats 4000000 in
set_option maxRecDepth 100000 in
theorem law_grade {p : Program} {e : Env} {s : State} {m : MethodId} {below : List Frame} {meth : Method} {c : Code} (l : Launch) (g : GG) (Rel : T9 → T10 → Prop) (hop : OP_grade Rel) {b L : Nat} {xs : Nat → Int32} (hL : L ≤ 2560) (hx : p.tables.exec = Jvm.exec) (hb : c.code = code) (hml : c.maxLocals = 4) (hown : s.vm.findClass RL = some m.cls) (hts : ∀ w ∈ G, w.before #[Value.ref b] s = true) (hX : va_X b L xs s s.heap) (hbl : b < s.heap.size) (hK : NK g s) (hE : SK g (fun q : Nat => s.heap.size ≤ q) s s.heap) (a0 a1 : Nat → Nat) (i : Nat) (hi : i + 5 ≤ L) (s9 : T9) (s10 : T10) (hR : Rel s9 s10) {H : Heap} {locs : List Loc} {ls : Array Slot} {cells slots : Nat} (hcl0 : cells + 24 ≤ 600000) (hsl0 : slots + 7200 ≤ 7302250) (hP : va_P g.1 vwCl (w9s a0 g s9 ++ w10s a1 g s10) H) (hD : va_D (fun q : Nat => s.heap.size ≤ q) (w9s a0 g s9 ++ w10s a1 g s10)) (hS : va_S (fun q : Nat => s.heap.size ≤ q) s.heap H locs) (hl : lv_has ls 4 [(3, .int (nI i)), (0, .ref b), (1, .ref (a0 0)), (2, .ref (a1 0))])
    (kk : ∀ (s9 : T9) (s10 : T10) (H : Heap) (locs : List Loc), Rel s9 s10 → va_P g.1 vwCl (w9s a0 g s9 ++ w10s a1 g s10) H → va_D (fun q : Nat => s.heap.size ≤ q) (w9s a0 g s9 ++ w10s a1 g s10) → va_S (fun q : Nat => s.heap.size ≤ q) s.heap H locs → W p l e room_1 s m #[Value.ref b] below meth c H locs (cells + 24) (slots + 7200) (lw_Z below #[Value.ref b] s) (F0 m 1529 ls [])) :
    W p l e room_1 s m #[Value.ref b] below meth c H locs cells slots (lw_Z below #[Value.ref b] s) (F0 m 832 ls []) := by
  have hA : ∀ q : Nat, s.heap.size ≤ q → (fun q : Nat => s.heap.size ≤ q) q := fun _ h => h
  have hbA : ¬ (fun q : Nat => s.heap.size ≤ q) b := Nat.not_le.mpr hbl
  have hcl : cells + 0 ≤ room_1.cells := by show cells + 0 ≤ 600000; omega
  have hsl : slots + 0 ≤ room_1.slots := by show slots + 0 ≤ 7302250; omega
  obtain ⟨u, v, hu, hv, he, hR⟩ := hop s9 s10 (xs (i + 1)) (xs (i + 2)) hR
  refine lv_aload_n hx hb dL_law_832 rfl (lv_at hl 2 rfl) ?_
  refine lv_aload_n hx hb dL_law_833 rfl (lv_at hl 1 rfl) ?_
  refine lv_iload_n hx hb dL_law_834 rfl (lv_at hl 0 rfl) ?_
  refine lv_iconst (v := 1) hx hb dL_law_835 (by decide) ?_
  refine lv_iadd hx hb dL_law_836 ?_
  refine nmI (nI_p i 1 (by decide)) ?_
  refine va_sld hx hb hX hbl hbA hS (vp_in_nI (show i + 1 < L by omega) (by omega)) dL_law_837 ?_
  refine nmI (z := xs (i + 1)) (by rw [nI_clamp (by omega)]) ?_
  refine lv_aload_n hx hb dL_law_838 rfl (lv_at hl 1 rfl) ?_
  refine lv_iload_n hx hb dL_law_839 rfl (lv_at hl 0 rfl) ?_
  refine lv_iconst (v := 2) hx hb dL_law_840 (by decide) ?_
  refine lv_iadd hx hb dL_law_841 ?_
  refine nmI (nI_p i 2 (by decide)) ?_
  refine va_sld hx hb hX hbl hbA hS (vp_in_nI (show i + 2 < L by omega) (by omega)) dL_law_842 ?_
  refine nmI (z := xs (i + 2)) (by rw [nI_clamp (by omega)]) ?_
  refine cI hP hD hS hA hE (fun hPc hDc hSc => rV (As := [.int (xs (i + 1)), .int (xs (i + 2))]) (rest := []) hx hb hml hown hts hK (c_X9_grade l g a0 (p6_raws (p9_now s9)) (p6_kinds (p9_now s9)) (p6_figures (p9_now s9)) (p6_heavies (p9_now s9)) (p6_places (p9_now s9)) (p6_papers (p9_now s9)) (p6_lowers (p9_now s9)) (p6_uppers (p9_now s9)) (p6_rules (p9_now s9)) (p6_bounds (p9_now s9)) (p6_boundCount (p9_now s9)) (p6_tieWay (p9_now s9)) (p6_reached (p9_now s9)) (p6_raws (p9_kept s9)) (p6_kinds (p9_kept s9)) (p6_figures (p9_kept s9)) (p6_heavies (p9_kept s9)) (p6_places (p9_kept s9)) (p6_papers (p9_kept s9)) (p6_lowers (p9_kept s9)) (p6_uppers (p9_kept s9)) (p6_rules (p9_kept s9)) (p6_bounds (p9_kept s9)) (p6_boundCount (p9_kept s9)) (p6_tieWay (p9_kept s9)) (p6_reached (p9_kept s9)) (p6_raws (p9_spare s9)) (p6_kinds (p9_spare s9)) (p6_figures (p9_spare s9)) (p6_heavies (p9_spare s9)) (p6_places (p9_spare s9)) (p6_papers (p9_spare s9)) (p6_lowers (p9_spare s9)) (p6_uppers (p9_spare s9)) (p6_rules (p9_spare s9)) (p6_bounds (p9_spare s9)) (p6_boundCount (p9_spare s9)) (p6_tieWay (p9_spare s9)) (p6_reached (p9_spare s9)) (p9_isKept s9) (p3_signs (p9_letters s9)) (p3_numbers (p9_letters s9)) (p3_size (p9_letters s9)) (p3_at (p9_letters s9)) (p3_word (p9_letters s9)) (p9_told s9) (p9_toldCount s9) (p7_cells (p9_shelves s9)) (p7_sizes (p9_shelves s9)) (p7_made (p9_shelves s9)) (p9_refusals s9) (p5_overs (p9_order s9)) (p5_unders (p9_order s9)) (p5_marks (p9_order s9)) (p5_wrongs (p9_order s9)) (p5_papers (p9_order s9)) (p8_marks (p4_values (p9_standing s9))) (p8_weights (p4_values (p9_standing s9))) (p8_places (p4_values (p9_standing s9))) (p8_aboves (p4_values (p9_standing s9))) (p8_belows (p4_values (p9_standing s9))) (p1_above (p8_reduced (p4_values (p9_standing s9)))) (p1_below (p8_reduced (p4_values (p9_standing s9)))) (p8_papers (p4_values (p9_standing s9))) (p4_blocks (p9_standing s9)) (p4_tops (p9_standing s9)) (p4_bottoms (p9_standing s9)) (p4_blocksNow (p9_standing s9)) (p4_mergesDone (p9_standing s9)) (p4_loss (p9_standing s9)) (p8_marks (p0_values (p9_byRules s9))) (p8_weights (p0_values (p9_byRules s9))) (p8_places (p0_values (p9_byRules s9))) (p8_aboves (p0_values (p9_byRules s9))) (p8_belows (p0_values (p9_byRules s9))) (p1_above (p8_reduced (p0_values (p9_byRules s9)))) (p1_below (p8_reduced (p0_values (p9_byRules s9)))) (p8_papers (p0_values (p9_byRules s9))) (p5_overs (p0_order (p9_byRules s9))) (p5_unders (p0_order (p9_byRules s9))) (p5_marks (p0_order (p9_byRules s9))) (p5_wrongs (p0_order (p9_byRules s9))) (p5_papers (p0_order (p9_byRules s9))) (p0_sums (p9_byRules s9)) (p0_weighs (p9_byRules s9)) (p0_downs (p9_byRules s9)) (p1_above (p9_fraction s9)) (p1_below (p9_fraction s9)) (pSB_a (p9_said s9)) (pSB_m (p9_said s9)) (pSB_f (p9_said s9)) (pSB_l (p9_said s9)) (pSB_n (p9_said s9)) (xs (i + 1)) (xs (i + 2)) (by rw [hu]; exact Option.some_ne_none _)) svV_X9_grade kw897 rfl rfl hPc hDc hSc rfl rfl hl.1 (Nat.le_of_ble_eq_true rfl) dL_law_843 ⟨Nat.le_of_ble_eq_true rfl, Nat.le_of_ble_eq_true rfl, rfl, rfl, hcl, hsl⟩) [(0, 132)] rfl rfl rfl (fun _ => rfl) (fun w H locs ew nw hP hD hS => ?_)
  obtain rfl := Option.some.inj (hu.symm.trans ew)
  have hP : va_P g.1 vwCl (w9s a0 g (st_X9_grade s9 u) ++ w10s a1 g s10) H := hP
  have hD : va_D (fun q : Nat => s.heap.size ≤ q) (w9s a0 g (st_X9_grade s9 u) ++ w10s a1 g s10) := hD
  refine lv_aload_n hx hb dL_law_846 rfl (lv_at hl 3 rfl) ?_
  refine lv_aload_n hx hb dL_law_847 rfl (lv_at hl 1 rfl) ?_
  refine lv_iload_n hx hb dL_law_848 rfl (lv_at hl 0 rfl) ?_
  refine lv_iconst (v := 1) hx hb dL_law_849 (by decide) ?_
  refine lv_iadd hx hb dL_law_850 ?_
  refine nmI (nI_p i 1 (by decide)) ?_
  refine va_sld hx hb hX hbl hbA hS (vp_in_nI (show i + 1 < L by omega) (by omega)) dL_law_851 ?_
  refine nmI (z := xs (i + 1)) (by rw [nI_clamp (by omega)]) ?_
  refine lv_aload_n hx hb dL_law_852 rfl (lv_at hl 1 rfl) ?_
  refine lv_iload_n hx hb dL_law_853 rfl (lv_at hl 0 rfl) ?_
  refine lv_iconst (v := 2) hx hb dL_law_854 (by decide) ?_
  refine lv_iadd hx hb dL_law_855 ?_
  refine nmI (nI_p i 2 (by decide)) ?_
  refine va_sld hx hb hX hbl hbA hS (vp_in_nI (show i + 2 < L by omega) (by omega)) dL_law_856 ?_
  refine nmI (z := xs (i + 2)) (by rw [nI_clamp (by omega)]) ?_
  refine cI hP hD hS hA hE (fun hPc hDc hSc => rV (As := [.int (xs (i + 1)), .int (xs (i + 2))]) (rest := [.int u.1]) hx hb hml hown hts hK (c_X10_grade l g a1 (p10_papers s10) (p10_raw s10) (p10_kind s10) (p10_figure s10) (p10_heavy s10) (p10_place s10) (p10_rules s10) (p10_lower s10) (p10_upper s10) (p10_limits s10) (p10_limit s10) (p10_ties s10) (p10_letter s10) (p10_letters s10) (p10_told s10) (p10_tolds s10) (p10_places s10) (p10_cell s10) (p10_refusals s10) (p10_imaged s10) (p10_hasImage s10) (p10_before s10) (p10_up s10) (p10_down s10) (p10_beneath s10) (p10_numberUp s10) (p10_numberDown s10) (p10_block s10) (p10_blocks s10) (p10_merged s10) (p10_valueUp s10) (p10_valueDown s10) (p10_said s10) (p10_saids s10) (p10_at s10) (p10_number s10) (xs (i + 1)) (xs (i + 2)) (by rw [hv]; exact Option.some_ne_none _)) svV_X10_grade kw1579 rfl rfl hPc hDc hSc rfl rfl hl.1 (Nat.le_of_ble_eq_true rfl) dL_law_857 ⟨Nat.le_of_ble_eq_true rfl, Nat.le_of_ble_eq_true rfl, rfl, rfl, hcl, hsl⟩) [(132, 22)] rfl rfl rfl (fun _ => rfl) (fun w H locs ew nw hP hD hS => ?_)
  obtain rfl := Option.some.inj (hv.symm.trans ew)
  have hP : va_P g.1 vwCl (w9s a0 g (st_X9_grade s9 u) ++ w10s a1 g (st_X10_grade s10 v)) H := hP
  have hD : va_D (fun q : Nat => s.heap.size ≤ q) (w9s a0 g (st_X9_grade s9 u) ++ w10s a1 g (st_X10_grade s10 v)) := hD
  refine lv_icmp_eq (tgt := 1529) hx hb dL_law_860 (by decide) (fun _ => ?_) (fun c => absurd he c)
  refine W.widen (k := cells + 24) (n := slots + 7200) (by omega) (by omega) ?_
  exact kk (st_X9_grade s9 u) (st_X10_grade s10 v) _ _ hR hP hD hS
/-- change -/
abbrev OP_change (Rel : T9 → T10 → Prop) : Prop := ∀ (s9 : T9) (s10 : T10) (p1 p2 : Int32), Rel s9 s10 → ∃ u v, m_X9_change s9 p1 p2 = some u ∧ m_X10_change s10 p1 p2 = some v ∧ u.1 = v.1 ∧ Rel (st_X9_change s9 u) (st_X10_change s10 v)
set_option maxHeartbeats 4000000 in
set_option maxRecDepth 100000 in
theorem law_change {p : Program} {e : Env} {s : State} {m : MethodId} {below : List Frame} {meth : Method} {c : Code} (l : Launch) (g : GG) (Rel : T9 → T10 → Prop) (hop : OP_change Rel) {b L : Nat} {xs : Nat → Int32} (hL : L ≤ 2560) (hx : p.tables.exec = Jvm.exec) (hb : c.code = code) (hml : c.maxLocals = 4) (hown : s.vm.findClass RL = some m.cls) (hts : ∀ w ∈ G, w.before #[Value.ref b] s = true) (hX : va_X b L xs s s.heap) (hbl : b < s.heap.size) (hK : NK g s) (hE : SK g (fun q : Nat => s.heap.size ≤ q) s s.heap) (a0 a1 : Nat → Nat) (i : Nat) (hi : i + 5 ≤ L) (s9 : T9) (s10 : T10) (hR : Rel s9 s10) {H : Heap} {locs : List Loc} {ls : Array Slot} {cells slots : Nat} (hcl0 : cells + 24 ≤ 600000) (hsl0 : slots + 7200 ≤ 7302250) (hP : va_P g.1 vwCl (w9s a0 g s9 ++ w10s a1 g s10) H) (hD : va_D (fun q : Nat => s.heap.size ≤ q) (w9s a0 g s9 ++ w10s a1 g s10)) (hS : va_S (fun q : Nat => s.heap.size ≤ q) s.heap H locs) (hl : lv_has ls 4 [(3, .int (nI i)), (0, .ref b), (1, .ref (a0 0)), (2, .ref (a1 0))])
    (kk : ∀ (s9 : T9) (s10 : T10) (H : Heap) (locs : List Loc), Rel s9 s10 → va_P g.1 vwCl (w9s a0 g s9 ++ w10s a1 g s10) H → va_D (fun q : Nat => s.heap.size ≤ q) (w9s a0 g s9 ++ w10s a1 g s10) → va_S (fun q : Nat => s.heap.size ≤ q) s.heap H locs → W p l e room_1 s m #[Value.ref b] below meth c H locs (cells + 24) (slots + 7200) (lw_Z below #[Value.ref b] s) (F0 m 1529 ls [])) :
    W p l e room_1 s m #[Value.ref b] below meth c H locs cells slots (lw_Z below #[Value.ref b] s) (F0 m 865 ls []) := by
  have hA : ∀ q : Nat, s.heap.size ≤ q → (fun q : Nat => s.heap.size ≤ q) q := fun _ h => h
  have hbA : ¬ (fun q : Nat => s.heap.size ≤ q) b := Nat.not_le.mpr hbl
  have hcl : cells + 0 ≤ room_1.cells := by show cells + 0 ≤ 600000; omega
  have hsl : slots + 0 ≤ room_1.slots := by show slots + 0 ≤ 7302250; omega
  obtain ⟨u, v, hu, hv, he, hR⟩ := hop s9 s10 (xs (i + 1)) (xs (i + 2)) hR
  refine lv_aload_n hx hb dL_law_865 rfl (lv_at hl 2 rfl) ?_
  refine lv_aload_n hx hb dL_law_866 rfl (lv_at hl 1 rfl) ?_
  refine lv_iload_n hx hb dL_law_867 rfl (lv_at hl 0 rfl) ?_
  refine lv_iconst (v := 1) hx hb dL_law_868 (by decide) ?_
  refine lv_iadd hx hb dL_law_869 ?_
  refine nmI (nI_p i 1 (by decide)) ?_
  refine va_sld hx hb hX hbl hbA hS (vp_in_nI (show i + 1 < L by omega) (by omega)) dL_law_870 ?_
  refine nmI (z := xs (i + 1)) (by rw [nI_clamp (by omega)]) ?_
  refine lv_aload_n hx hb dL_law_871 rfl (lv_at hl 1 rfl) ?_
  refine lv_iload_n hx hb dL_law_872 rfl (lv_at hl 0 rfl) ?_
  refine lv_iconst (v := 2) hx hb dL_law_873 (by decide) ?_
  refine lv_iadd hx hb dL_law_874 ?_
  refine nmI (nI_p i 2 (by decide)) ?_
  refine va_sld hx hb hX hbl hbA hS (vp_in_nI (show i + 2 < L by omega) (by omega)) dL_law_875 ?_
  refine nmI (z := xs (i + 2)) (by rw [nI_clamp (by omega)]) ?_
  refine cL hP hD hS hA hE (fun hPc hDc hSc => rV (As := [.int (xs (i + 1)), .int (xs (i + 2))]) (rest := []) hx hb hml hown hts hK (c_X9_change l g a0 (p6_raws (p9_now s9)) (p6_kinds (p9_now s9)) (p6_figures (p9_now s9)) (p6_heavies (p9_now s9)) (p6_places (p9_now s9)) (p6_papers (p9_now s9)) (p6_lowers (p9_now s9)) (p6_uppers (p9_now s9)) (p6_rules (p9_now s9)) (p6_bounds (p9_now s9)) (p6_boundCount (p9_now s9)) (p6_tieWay (p9_now s9)) (p6_reached (p9_now s9)) (p6_raws (p9_kept s9)) (p6_kinds (p9_kept s9)) (p6_figures (p9_kept s9)) (p6_heavies (p9_kept s9)) (p6_places (p9_kept s9)) (p6_papers (p9_kept s9)) (p6_lowers (p9_kept s9)) (p6_uppers (p9_kept s9)) (p6_rules (p9_kept s9)) (p6_bounds (p9_kept s9)) (p6_boundCount (p9_kept s9)) (p6_tieWay (p9_kept s9)) (p6_reached (p9_kept s9)) (p6_raws (p9_spare s9)) (p6_kinds (p9_spare s9)) (p6_figures (p9_spare s9)) (p6_heavies (p9_spare s9)) (p6_places (p9_spare s9)) (p6_papers (p9_spare s9)) (p6_lowers (p9_spare s9)) (p6_uppers (p9_spare s9)) (p6_rules (p9_spare s9)) (p6_bounds (p9_spare s9)) (p6_boundCount (p9_spare s9)) (p6_tieWay (p9_spare s9)) (p6_reached (p9_spare s9)) (p9_isKept s9) (p3_signs (p9_letters s9)) (p3_numbers (p9_letters s9)) (p3_size (p9_letters s9)) (p3_at (p9_letters s9)) (p3_word (p9_letters s9)) (p9_told s9) (p9_toldCount s9) (p7_cells (p9_shelves s9)) (p7_sizes (p9_shelves s9)) (p7_made (p9_shelves s9)) (p9_refusals s9) (p5_overs (p9_order s9)) (p5_unders (p9_order s9)) (p5_marks (p9_order s9)) (p5_wrongs (p9_order s9)) (p5_papers (p9_order s9)) (p8_marks (p4_values (p9_standing s9))) (p8_weights (p4_values (p9_standing s9))) (p8_places (p4_values (p9_standing s9))) (p8_aboves (p4_values (p9_standing s9))) (p8_belows (p4_values (p9_standing s9))) (p1_above (p8_reduced (p4_values (p9_standing s9)))) (p1_below (p8_reduced (p4_values (p9_standing s9)))) (p8_papers (p4_values (p9_standing s9))) (p4_blocks (p9_standing s9)) (p4_tops (p9_standing s9)) (p4_bottoms (p9_standing s9)) (p4_blocksNow (p9_standing s9)) (p4_mergesDone (p9_standing s9)) (p4_loss (p9_standing s9)) (p8_marks (p0_values (p9_byRules s9))) (p8_weights (p0_values (p9_byRules s9))) (p8_places (p0_values (p9_byRules s9))) (p8_aboves (p0_values (p9_byRules s9))) (p8_belows (p0_values (p9_byRules s9))) (p1_above (p8_reduced (p0_values (p9_byRules s9)))) (p1_below (p8_reduced (p0_values (p9_byRules s9)))) (p8_papers (p0_values (p9_byRules s9))) (p5_overs (p0_order (p9_byRules s9))) (p5_unders (p0_order (p9_byRules s9))) (p5_marks (p0_order (p9_byRules s9))) (p5_wrongs (p0_order (p9_byRules s9))) (p5_papers (p0_order (p9_byRules s9))) (p0_sums (p9_byRules s9)) (p0_weighs (p9_byRules s9)) (p0_downs (p9_byRules s9)) (p1_above (p9_fraction s9)) (p1_below (p9_fraction s9)) (pSB_a (p9_said s9)) (pSB_m (p9_said s9)) (pSB_f (p9_said s9)) (pSB_l (p9_said s9)) (pSB_n (p9_said s9)) (xs (i + 1)) (xs (i + 2)) (by rw [hu]; exact Option.some_ne_none _)) svV_X9_change kw906 rfl rfl hPc hDc hSc rfl rfl hl.1 (Nat.le_of_ble_eq_true rfl) dL_law_876 ⟨Nat.le_of_ble_eq_true rfl, Nat.le_of_ble_eq_true rfl, rfl, rfl, hcl, hsl⟩) [(0, 132)] rfl rfl rfl (fun _ => rfl) (fun w H locs ew hP hD hS => ?_)
  obtain rfl := Option.some.inj (hu.symm.trans ew)
  have hP : va_P g.1 vwCl (w9s a0 g (st_X9_change s9 u) ++ w10s a1 g s10) H := hP
  have hD : va_D (fun q : Nat => s.heap.size ≤ q) (w9s a0 g (st_X9_change s9 u) ++ w10s a1 g s10) := hD
  refine lv_aload_n hx hb dL_law_879 rfl (lv_at hl 3 rfl) ?_
  refine lv_aload_n hx hb dL_law_880 rfl (lv_at hl 1 rfl) ?_
  refine lv_iload_n hx hb dL_law_881 rfl (lv_at hl 0 rfl) ?_
  refine lv_iconst (v := 1) hx hb dL_law_882 (by decide) ?_
  refine lv_iadd hx hb dL_law_883 ?_
  refine nmI (nI_p i 1 (by decide)) ?_
  refine va_sld hx hb hX hbl hbA hS (vp_in_nI (show i + 1 < L by omega) (by omega)) dL_law_884 ?_
  refine nmI (z := xs (i + 1)) (by rw [nI_clamp (by omega)]) ?_
  refine lv_aload_n hx hb dL_law_885 rfl (lv_at hl 1 rfl) ?_
  refine lv_iload_n hx hb dL_law_886 rfl (lv_at hl 0 rfl) ?_
  refine lv_iconst (v := 2) hx hb dL_law_887 (by decide) ?_
  refine lv_iadd hx hb dL_law_888 ?_
  refine nmI (nI_p i 2 (by decide)) ?_
  refine va_sld hx hb hX hbl hbA hS (vp_in_nI (show i + 2 < L by omega) (by omega)) dL_law_889 ?_
  refine nmI (z := xs (i + 2)) (by rw [nI_clamp (by omega)]) ?_
  refine cL hP hD hS hA hE (fun hPc hDc hSc => rV (As := [.int (xs (i + 1)), .int (xs (i + 2))]) (rest := [.long u.1]) hx hb hml hown hts hK (c_X10_change l g a1 (p10_papers s10) (p10_raw s10) (p10_kind s10) (p10_figure s10) (p10_heavy s10) (p10_place s10) (p10_rules s10) (p10_lower s10) (p10_upper s10) (p10_limits s10) (p10_limit s10) (p10_ties s10) (p10_letter s10) (p10_letters s10) (p10_told s10) (p10_tolds s10) (p10_places s10) (p10_cell s10) (p10_refusals s10) (p10_imaged s10) (p10_hasImage s10) (p10_before s10) (p10_up s10) (p10_down s10) (p10_beneath s10) (p10_numberUp s10) (p10_numberDown s10) (p10_block s10) (p10_blocks s10) (p10_merged s10) (p10_valueUp s10) (p10_valueDown s10) (p10_said s10) (p10_saids s10) (p10_at s10) (p10_number s10) (xs (i + 1)) (xs (i + 2)) (by rw [hv]; exact Option.some_ne_none _)) svV_X10_change kw1586 rfl rfl hPc hDc hSc rfl rfl hl.1 (Nat.le_of_ble_eq_true rfl) dL_law_890 ⟨Nat.le_of_ble_eq_true rfl, Nat.le_of_ble_eq_true rfl, rfl, rfl, hcl, hsl⟩) [(132, 22)] rfl rfl rfl (fun _ => rfl) (fun w H locs ew hP hD hS => ?_)
  obtain rfl := Option.some.inj (hv.symm.trans ew)
  have hP : va_P g.1 vwCl (w9s a0 g (st_X9_change s9 u) ++ w10s a1 g (st_X10_change s10 v)) H := hP
  have hD : va_D (fun q : Nat => s.heap.size ≤ q) (w9s a0 g (st_X9_change s9 u) ++ w10s a1 g (st_X10_change s10 v)) := hD
  refine lc_eq (tgt := 1529) hx hb dL_law_893 dL_law_894 (by decide) (fun _ => ?_) (fun c => absurd he c)
  refine W.widen (k := cells + 24) (n := slots + 7200) (by omega) (by omega) ?_
  exact kk (st_X9_change s9 u) (st_X10_change s10 v) _ _ hR hP hD hS
/-- pool -/
abbrev OP_pool (Rel : T9 → T10 → Prop) : Prop := ∀ (s9 : T9) (s10 : T10) (p1 p2 : Int32), Rel s9 s10 → ∃ u v, m_X9_pool s9 p1 p2 = some u ∧ m_X10_pool s10 p1 p2 = some v ∧ u.1 = v.1 ∧ Rel (st_X9_pool s9 u) (st_X10_pool s10 v)
set_option maxHeartbeats 4000000 in
set_option maxRecDepth 100000 in
theorem law_pool {p : Program} {e : Env} {s : State} {m : MethodId} {below : List Frame} {meth : Method} {c : Code} (l : Launch) (g : GG) (Rel : T9 → T10 → Prop) (hop : OP_pool Rel) {b L : Nat} {xs : Nat → Int32} (hL : L ≤ 2560) (hx : p.tables.exec = Jvm.exec) (hb : c.code = code) (hml : c.maxLocals = 4) (hown : s.vm.findClass RL = some m.cls) (hts : ∀ w ∈ G, w.before #[Value.ref b] s = true) (hX : va_X b L xs s s.heap) (hbl : b < s.heap.size) (hK : NK g s) (hE : SK g (fun q : Nat => s.heap.size ≤ q) s s.heap) (a0 a1 : Nat → Nat) (i : Nat) (hi : i + 5 ≤ L) (s9 : T9) (s10 : T10) (hR : Rel s9 s10) {H : Heap} {locs : List Loc} {ls : Array Slot} {cells slots : Nat} (hcl0 : cells + 24 ≤ 600000) (hsl0 : slots + 7200 ≤ 7302250) (hP : va_P g.1 vwCl (w9s a0 g s9 ++ w10s a1 g s10) H) (hD : va_D (fun q : Nat => s.heap.size ≤ q) (w9s a0 g s9 ++ w10s a1 g s10)) (hS : va_S (fun q : Nat => s.heap.size ≤ q) s.heap H locs) (hl : lv_has ls 4 [(3, .int (nI i)), (0, .ref b), (1, .ref (a0 0)), (2, .ref (a1 0))])
    (kk : ∀ (s9 : T9) (s10 : T10) (H : Heap) (locs : List Loc), Rel s9 s10 → va_P g.1 vwCl (w9s a0 g s9 ++ w10s a1 g s10) H → va_D (fun q : Nat => s.heap.size ≤ q) (w9s a0 g s9 ++ w10s a1 g s10) → va_S (fun q : Nat => s.heap.size ≤ q) s.heap H locs → W p l e room_1 s m #[Value.ref b] below meth c H locs (cells + 24) (slots + 7200) (lw_Z below #[Value.ref b] s) (F0 m 1529 ls [])) :
    W p l e room_1 s m #[Value.ref b] below meth c H locs cells slots (lw_Z below #[Value.ref b] s) (F0 m 899 ls []) := by
  have hA : ∀ q : Nat, s.heap.size ≤ q → (fun q : Nat => s.heap.size ≤ q) q := fun _ h => h
  have hbA : ¬ (fun q : Nat => s.heap.size ≤ q) b := Nat.not_le.mpr hbl
  have hcl : cells + 0 ≤ room_1.cells := by show cells + 0 ≤ 600000; omega
  have hsl : slots + 0 ≤ room_1.slots := by show slots + 0 ≤ 7302250; omega
  obtain ⟨u, v, hu, hv, he, hR⟩ := hop s9 s10 (xs (i + 1)) (xs (i + 2)) hR
  refine lv_aload_n hx hb dL_law_899 rfl (lv_at hl 2 rfl) ?_
  refine lv_aload_n hx hb dL_law_900 rfl (lv_at hl 1 rfl) ?_
  refine lv_iload_n hx hb dL_law_901 rfl (lv_at hl 0 rfl) ?_
  refine lv_iconst (v := 1) hx hb dL_law_902 (by decide) ?_
  refine lv_iadd hx hb dL_law_903 ?_
  refine nmI (nI_p i 1 (by decide)) ?_
  refine va_sld hx hb hX hbl hbA hS (vp_in_nI (show i + 1 < L by omega) (by omega)) dL_law_904 ?_
  refine nmI (z := xs (i + 1)) (by rw [nI_clamp (by omega)]) ?_
  refine lv_aload_n hx hb dL_law_905 rfl (lv_at hl 1 rfl) ?_
  refine lv_iload_n hx hb dL_law_906 rfl (lv_at hl 0 rfl) ?_
  refine lv_iconst (v := 2) hx hb dL_law_907 (by decide) ?_
  refine lv_iadd hx hb dL_law_908 ?_
  refine nmI (nI_p i 2 (by decide)) ?_
  refine va_sld hx hb hX hbl hbA hS (vp_in_nI (show i + 2 < L by omega) (by omega)) dL_law_909 ?_
  refine nmI (z := xs (i + 2)) (by rw [nI_clamp (by omega)]) ?_
  refine cI hP hD hS hA hE (fun hPc hDc hSc => rV (As := [.int (xs (i + 1)), .int (xs (i + 2))]) (rest := []) hx hb hml hown hts hK (c_X9_pool l g a0 (p6_raws (p9_now s9)) (p6_kinds (p9_now s9)) (p6_figures (p9_now s9)) (p6_heavies (p9_now s9)) (p6_places (p9_now s9)) (p6_papers (p9_now s9)) (p6_lowers (p9_now s9)) (p6_uppers (p9_now s9)) (p6_rules (p9_now s9)) (p6_bounds (p9_now s9)) (p6_boundCount (p9_now s9)) (p6_tieWay (p9_now s9)) (p6_reached (p9_now s9)) (p6_raws (p9_kept s9)) (p6_kinds (p9_kept s9)) (p6_figures (p9_kept s9)) (p6_heavies (p9_kept s9)) (p6_places (p9_kept s9)) (p6_papers (p9_kept s9)) (p6_lowers (p9_kept s9)) (p6_uppers (p9_kept s9)) (p6_rules (p9_kept s9)) (p6_bounds (p9_kept s9)) (p6_boundCount (p9_kept s9)) (p6_tieWay (p9_kept s9)) (p6_reached (p9_kept s9)) (p6_raws (p9_spare s9)) (p6_kinds (p9_spare s9)) (p6_figures (p9_spare s9)) (p6_heavies (p9_spare s9)) (p6_places (p9_spare s9)) (p6_papers (p9_spare s9)) (p6_lowers (p9_spare s9)) (p6_uppers (p9_spare s9)) (p6_rules (p9_spare s9)) (p6_bounds (p9_spare s9)) (p6_boundCount (p9_spare s9)) (p6_tieWay (p9_spare s9)) (p6_reached (p9_spare s9)) (p9_isKept s9) (p3_signs (p9_letters s9)) (p3_numbers (p9_letters s9)) (p3_size (p9_letters s9)) (p3_at (p9_letters s9)) (p3_word (p9_letters s9)) (p9_told s9) (p9_toldCount s9) (p7_cells (p9_shelves s9)) (p7_sizes (p9_shelves s9)) (p7_made (p9_shelves s9)) (p9_refusals s9) (p5_overs (p9_order s9)) (p5_unders (p9_order s9)) (p5_marks (p9_order s9)) (p5_wrongs (p9_order s9)) (p5_papers (p9_order s9)) (p8_marks (p4_values (p9_standing s9))) (p8_weights (p4_values (p9_standing s9))) (p8_places (p4_values (p9_standing s9))) (p8_aboves (p4_values (p9_standing s9))) (p8_belows (p4_values (p9_standing s9))) (p1_above (p8_reduced (p4_values (p9_standing s9)))) (p1_below (p8_reduced (p4_values (p9_standing s9)))) (p8_papers (p4_values (p9_standing s9))) (p4_blocks (p9_standing s9)) (p4_tops (p9_standing s9)) (p4_bottoms (p9_standing s9)) (p4_blocksNow (p9_standing s9)) (p4_mergesDone (p9_standing s9)) (p4_loss (p9_standing s9)) (p8_marks (p0_values (p9_byRules s9))) (p8_weights (p0_values (p9_byRules s9))) (p8_places (p0_values (p9_byRules s9))) (p8_aboves (p0_values (p9_byRules s9))) (p8_belows (p0_values (p9_byRules s9))) (p1_above (p8_reduced (p0_values (p9_byRules s9)))) (p1_below (p8_reduced (p0_values (p9_byRules s9)))) (p8_papers (p0_values (p9_byRules s9))) (p5_overs (p0_order (p9_byRules s9))) (p5_unders (p0_order (p9_byRules s9))) (p5_marks (p0_order (p9_byRules s9))) (p5_wrongs (p0_order (p9_byRules s9))) (p5_papers (p0_order (p9_byRules s9))) (p0_sums (p9_byRules s9)) (p0_weighs (p9_byRules s9)) (p0_downs (p9_byRules s9)) (p1_above (p9_fraction s9)) (p1_below (p9_fraction s9)) (pSB_a (p9_said s9)) (pSB_m (p9_said s9)) (pSB_f (p9_said s9)) (pSB_l (p9_said s9)) (pSB_n (p9_said s9)) (xs (i + 1)) (xs (i + 2)) (by rw [hu]; exact Option.some_ne_none _)) svV_X9_pool kw910 rfl rfl hPc hDc hSc rfl rfl hl.1 (Nat.le_of_ble_eq_true rfl) dL_law_910 ⟨Nat.le_of_ble_eq_true rfl, Nat.le_of_ble_eq_true rfl, rfl, rfl, hcl, hsl⟩) [(0, 132)] rfl rfl rfl (fun _ => rfl) (fun w H locs ew nw hP hD hS => ?_)
  obtain rfl := Option.some.inj (hu.symm.trans ew)
  have hP : va_P g.1 vwCl (w9s a0 g (st_X9_pool s9 u) ++ w10s a1 g s10) H := hP
  have hD : va_D (fun q : Nat => s.heap.size ≤ q) (w9s a0 g (st_X9_pool s9 u) ++ w10s a1 g s10) := hD
  refine lv_aload_n hx hb dL_law_913 rfl (lv_at hl 3 rfl) ?_
  refine lv_aload_n hx hb dL_law_914 rfl (lv_at hl 1 rfl) ?_
  refine lv_iload_n hx hb dL_law_915 rfl (lv_at hl 0 rfl) ?_
  refine lv_iconst (v := 1) hx hb dL_law_916 (by decide) ?_
  refine lv_iadd hx hb dL_law_917 ?_
  refine nmI (nI_p i 1 (by decide)) ?_
  refine va_sld hx hb hX hbl hbA hS (vp_in_nI (show i + 1 < L by omega) (by omega)) dL_law_918 ?_
  refine nmI (z := xs (i + 1)) (by rw [nI_clamp (by omega)]) ?_
  refine lv_aload_n hx hb dL_law_919 rfl (lv_at hl 1 rfl) ?_
  refine lv_iload_n hx hb dL_law_920 rfl (lv_at hl 0 rfl) ?_
  refine lv_iconst (v := 2) hx hb dL_law_921 (by decide) ?_
  refine lv_iadd hx hb dL_law_922 ?_
  refine nmI (nI_p i 2 (by decide)) ?_
  refine va_sld hx hb hX hbl hbA hS (vp_in_nI (show i + 2 < L by omega) (by omega)) dL_law_923 ?_
  refine nmI (z := xs (i + 2)) (by rw [nI_clamp (by omega)]) ?_
  refine cI hP hD hS hA hE (fun hPc hDc hSc => rV (As := [.int (xs (i + 1)), .int (xs (i + 2))]) (rest := [.int u.1]) hx hb hml hown hts hK (c_X10_pool l g a1 (p10_papers s10) (p10_raw s10) (p10_kind s10) (p10_figure s10) (p10_heavy s10) (p10_place s10) (p10_rules s10) (p10_lower s10) (p10_upper s10) (p10_limits s10) (p10_limit s10) (p10_ties s10) (p10_letter s10) (p10_letters s10) (p10_told s10) (p10_tolds s10) (p10_places s10) (p10_cell s10) (p10_refusals s10) (p10_imaged s10) (p10_hasImage s10) (p10_before s10) (p10_up s10) (p10_down s10) (p10_beneath s10) (p10_numberUp s10) (p10_numberDown s10) (p10_block s10) (p10_blocks s10) (p10_merged s10) (p10_valueUp s10) (p10_valueDown s10) (p10_said s10) (p10_saids s10) (p10_at s10) (p10_number s10) (xs (i + 1)) (xs (i + 2)) (by rw [hv]; exact Option.some_ne_none _)) svV_X10_pool kw1596 rfl rfl hPc hDc hSc rfl rfl hl.1 (Nat.le_of_ble_eq_true rfl) dL_law_924 ⟨Nat.le_of_ble_eq_true rfl, Nat.le_of_ble_eq_true rfl, rfl, rfl, hcl, hsl⟩) [(132, 22)] rfl rfl rfl (fun _ => rfl) (fun w H locs ew nw hP hD hS => ?_)
  obtain rfl := Option.some.inj (hv.symm.trans ew)
  have hP : va_P g.1 vwCl (w9s a0 g (st_X9_pool s9 u) ++ w10s a1 g (st_X10_pool s10 v)) H := hP
  have hD : va_D (fun q : Nat => s.heap.size ≤ q) (w9s a0 g (st_X9_pool s9 u) ++ w10s a1 g (st_X10_pool s10 v)) := hD
  refine lv_icmp_eq (tgt := 1529) hx hb dL_law_927 (by decide) (fun _ => ?_) (fun c => absurd he c)
  refine W.widen (k := cells + 24) (n := slots + 7200) (by omega) (by omega) ?_
  exact kk (st_X9_pool s9 u) (st_X10_pool s10 v) _ _ hR hP hD hS
/-- binds -/
abbrev OP_binds (Rel : T9 → T10 → Prop) : Prop := ∀ (s9 : T9) (s10 : T10) (p1 : Int32), Rel s9 s10 → ∃ u v, m_X9_binds s9 p1 = some u ∧ m_X10_binds s10 p1 = some v ∧ u.1 = v.1 ∧ Rel (st_X9_binds s9 u) (st_X10_binds s10 v)
set_option maxHeartbeats 4000000 in
set_option maxRecDepth 100000 in
theorem law_binds {p : Program} {e : Env} {s : State} {m : MethodId} {below : List Frame} {meth : Method} {c : Code} (l : Launch) (g : GG) (Rel : T9 → T10 → Prop) (hop : OP_binds Rel) {b L : Nat} {xs : Nat → Int32} (hL : L ≤ 2560) (hx : p.tables.exec = Jvm.exec) (hb : c.code = code) (hml : c.maxLocals = 4) (hown : s.vm.findClass RL = some m.cls) (hts : ∀ w ∈ G, w.before #[Value.ref b] s = true) (hX : va_X b L xs s s.heap) (hbl : b < s.heap.size) (hK : NK g s) (hE : SK g (fun q : Nat => s.heap.size ≤ q) s s.heap) (a0 a1 : Nat → Nat) (i : Nat) (hi : i + 5 ≤ L) (s9 : T9) (s10 : T10) (hR : Rel s9 s10) {H : Heap} {locs : List Loc} {ls : Array Slot} {cells slots : Nat} (hcl0 : cells + 24 ≤ 600000) (hsl0 : slots + 7200 ≤ 7302250) (hP : va_P g.1 vwCl (w9s a0 g s9 ++ w10s a1 g s10) H) (hD : va_D (fun q : Nat => s.heap.size ≤ q) (w9s a0 g s9 ++ w10s a1 g s10)) (hS : va_S (fun q : Nat => s.heap.size ≤ q) s.heap H locs) (hl : lv_has ls 4 [(3, .int (nI i)), (0, .ref b), (1, .ref (a0 0)), (2, .ref (a1 0))])
    (kk : ∀ (s9 : T9) (s10 : T10) (H : Heap) (locs : List Loc), Rel s9 s10 → va_P g.1 vwCl (w9s a0 g s9 ++ w10s a1 g s10) H → va_D (fun q : Nat => s.heap.size ≤ q) (w9s a0 g s9 ++ w10s a1 g s10) → va_S (fun q : Nat => s.heap.size ≤ q) s.heap H locs → W p l e room_1 s m #[Value.ref b] below meth c H locs (cells + 24) (slots + 7200) (lw_Z below #[Value.ref b] s) (F0 m 1529 ls [])) :
    W p l e room_1 s m #[Value.ref b] below meth c H locs cells slots (lw_Z below #[Value.ref b] s) (F0 m 932 ls []) := by
  have hA : ∀ q : Nat, s.heap.size ≤ q → (fun q : Nat => s.heap.size ≤ q) q := fun _ h => h
  have hbA : ¬ (fun q : Nat => s.heap.size ≤ q) b := Nat.not_le.mpr hbl
  have hcl : cells + 0 ≤ room_1.cells := by show cells + 0 ≤ 600000; omega
  have hsl : slots + 0 ≤ room_1.slots := by show slots + 0 ≤ 7302250; omega
  obtain ⟨u, v, hu, hv, he, hR⟩ := hop s9 s10 (xs (i + 1)) hR
  refine lv_aload_n hx hb dL_law_932 rfl (lv_at hl 2 rfl) ?_
  refine lv_aload_n hx hb dL_law_933 rfl (lv_at hl 1 rfl) ?_
  refine lv_iload_n hx hb dL_law_934 rfl (lv_at hl 0 rfl) ?_
  refine lv_iconst (v := 1) hx hb dL_law_935 (by decide) ?_
  refine lv_iadd hx hb dL_law_936 ?_
  refine nmI (nI_p i 1 (by decide)) ?_
  refine va_sld hx hb hX hbl hbA hS (vp_in_nI (show i + 1 < L by omega) (by omega)) dL_law_937 ?_
  refine nmI (z := xs (i + 1)) (by rw [nI_clamp (by omega)]) ?_
  refine cI hP hD hS hA hE (fun hPc hDc hSc => rV (As := [.int (xs (i + 1))]) (rest := []) hx hb hml hown hts hK (c_X9_binds l g a0 (p6_raws (p9_now s9)) (p6_kinds (p9_now s9)) (p6_figures (p9_now s9)) (p6_heavies (p9_now s9)) (p6_places (p9_now s9)) (p6_papers (p9_now s9)) (p6_lowers (p9_now s9)) (p6_uppers (p9_now s9)) (p6_rules (p9_now s9)) (p6_bounds (p9_now s9)) (p6_boundCount (p9_now s9)) (p6_tieWay (p9_now s9)) (p6_reached (p9_now s9)) (p6_raws (p9_kept s9)) (p6_kinds (p9_kept s9)) (p6_figures (p9_kept s9)) (p6_heavies (p9_kept s9)) (p6_places (p9_kept s9)) (p6_papers (p9_kept s9)) (p6_lowers (p9_kept s9)) (p6_uppers (p9_kept s9)) (p6_rules (p9_kept s9)) (p6_bounds (p9_kept s9)) (p6_boundCount (p9_kept s9)) (p6_tieWay (p9_kept s9)) (p6_reached (p9_kept s9)) (p6_raws (p9_spare s9)) (p6_kinds (p9_spare s9)) (p6_figures (p9_spare s9)) (p6_heavies (p9_spare s9)) (p6_places (p9_spare s9)) (p6_papers (p9_spare s9)) (p6_lowers (p9_spare s9)) (p6_uppers (p9_spare s9)) (p6_rules (p9_spare s9)) (p6_bounds (p9_spare s9)) (p6_boundCount (p9_spare s9)) (p6_tieWay (p9_spare s9)) (p6_reached (p9_spare s9)) (p9_isKept s9) (p3_signs (p9_letters s9)) (p3_numbers (p9_letters s9)) (p3_size (p9_letters s9)) (p3_at (p9_letters s9)) (p3_word (p9_letters s9)) (p9_told s9) (p9_toldCount s9) (p7_cells (p9_shelves s9)) (p7_sizes (p9_shelves s9)) (p7_made (p9_shelves s9)) (p9_refusals s9) (p5_overs (p9_order s9)) (p5_unders (p9_order s9)) (p5_marks (p9_order s9)) (p5_wrongs (p9_order s9)) (p5_papers (p9_order s9)) (p8_marks (p4_values (p9_standing s9))) (p8_weights (p4_values (p9_standing s9))) (p8_places (p4_values (p9_standing s9))) (p8_aboves (p4_values (p9_standing s9))) (p8_belows (p4_values (p9_standing s9))) (p1_above (p8_reduced (p4_values (p9_standing s9)))) (p1_below (p8_reduced (p4_values (p9_standing s9)))) (p8_papers (p4_values (p9_standing s9))) (p4_blocks (p9_standing s9)) (p4_tops (p9_standing s9)) (p4_bottoms (p9_standing s9)) (p4_blocksNow (p9_standing s9)) (p4_mergesDone (p9_standing s9)) (p4_loss (p9_standing s9)) (p8_marks (p0_values (p9_byRules s9))) (p8_weights (p0_values (p9_byRules s9))) (p8_places (p0_values (p9_byRules s9))) (p8_aboves (p0_values (p9_byRules s9))) (p8_belows (p0_values (p9_byRules s9))) (p1_above (p8_reduced (p0_values (p9_byRules s9)))) (p1_below (p8_reduced (p0_values (p9_byRules s9)))) (p8_papers (p0_values (p9_byRules s9))) (p5_overs (p0_order (p9_byRules s9))) (p5_unders (p0_order (p9_byRules s9))) (p5_marks (p0_order (p9_byRules s9))) (p5_wrongs (p0_order (p9_byRules s9))) (p5_papers (p0_order (p9_byRules s9))) (p0_sums (p9_byRules s9)) (p0_weighs (p9_byRules s9)) (p0_downs (p9_byRules s9)) (p1_above (p9_fraction s9)) (p1_below (p9_fraction s9)) (pSB_a (p9_said s9)) (pSB_m (p9_said s9)) (pSB_f (p9_said s9)) (pSB_l (p9_said s9)) (pSB_n (p9_said s9)) (xs (i + 1)) (by rw [hu]; exact Option.some_ne_none _)) svV_X9_binds kw925 rfl rfl hPc hDc hSc rfl rfl hl.1 (Nat.le_of_ble_eq_true rfl) dL_law_938 ⟨Nat.le_of_ble_eq_true rfl, Nat.le_of_ble_eq_true rfl, rfl, rfl, hcl, hsl⟩) [(0, 132)] rfl rfl rfl (fun _ => rfl) (fun w H locs ew nw hP hD hS => ?_)
  obtain rfl := Option.some.inj (hu.symm.trans ew)
  have hP : va_P g.1 vwCl (w9s a0 g (st_X9_binds s9 u) ++ w10s a1 g s10) H := hP
  have hD : va_D (fun q : Nat => s.heap.size ≤ q) (w9s a0 g (st_X9_binds s9 u) ++ w10s a1 g s10) := hD
  refine lv_aload_n hx hb dL_law_941 rfl (lv_at hl 3 rfl) ?_
  refine lv_aload_n hx hb dL_law_942 rfl (lv_at hl 1 rfl) ?_
  refine lv_iload_n hx hb dL_law_943 rfl (lv_at hl 0 rfl) ?_
  refine lv_iconst (v := 1) hx hb dL_law_944 (by decide) ?_
  refine lv_iadd hx hb dL_law_945 ?_
  refine nmI (nI_p i 1 (by decide)) ?_
  refine va_sld hx hb hX hbl hbA hS (vp_in_nI (show i + 1 < L by omega) (by omega)) dL_law_946 ?_
  refine nmI (z := xs (i + 1)) (by rw [nI_clamp (by omega)]) ?_
  refine cI hP hD hS hA hE (fun hPc hDc hSc => rV (As := [.int (xs (i + 1))]) (rest := [.int u.1]) hx hb hml hown hts hK (c_X10_binds l g a1 (p10_papers s10) (p10_raw s10) (p10_kind s10) (p10_figure s10) (p10_heavy s10) (p10_place s10) (p10_rules s10) (p10_lower s10) (p10_upper s10) (p10_limits s10) (p10_limit s10) (p10_ties s10) (p10_letter s10) (p10_letters s10) (p10_told s10) (p10_tolds s10) (p10_places s10) (p10_cell s10) (p10_refusals s10) (p10_imaged s10) (p10_hasImage s10) (p10_before s10) (p10_up s10) (p10_down s10) (p10_beneath s10) (p10_numberUp s10) (p10_numberDown s10) (p10_block s10) (p10_blocks s10) (p10_merged s10) (p10_valueUp s10) (p10_valueDown s10) (p10_said s10) (p10_saids s10) (p10_at s10) (p10_number s10) (xs (i + 1)) (by rw [hv]; exact Option.some_ne_none _)) svV_X10_binds kw1606 rfl rfl hPc hDc hSc rfl rfl hl.1 (Nat.le_of_ble_eq_true rfl) dL_law_947 ⟨Nat.le_of_ble_eq_true rfl, Nat.le_of_ble_eq_true rfl, rfl, rfl, hcl, hsl⟩) [(132, 22)] rfl rfl rfl (fun _ => rfl) (fun w H locs ew nw hP hD hS => ?_)
  obtain rfl := Option.some.inj (hv.symm.trans ew)
  have hP : va_P g.1 vwCl (w9s a0 g (st_X9_binds s9 u) ++ w10s a1 g (st_X10_binds s10 v)) H := hP
  have hD : va_D (fun q : Nat => s.heap.size ≤ q) (w9s a0 g (st_X9_binds s9 u) ++ w10s a1 g (st_X10_binds s10 v)) := hD
  refine lv_icmp_eq (tgt := 1529) hx hb dL_law_950 (by decide) (fun _ => ?_) (fun c => absurd he c)
  refine W.widen (k := cells + 24) (n := slots + 7200) (by omega) (by omega) ?_
  exact kk (st_X9_binds s9 u) (st_X10_binds s10 v) _ _ hR hP hD hS
/-- worth -/
abbrev OP_worth (Rel : T9 → T10 → Prop) : Prop := ∀ (s9 : T9) (s10 : T10) (p1 p2 p3 : Int32), Rel s9 s10 → ∃ u v, m_X9_worth s9 p1 p2 p3 = some u ∧ m_X10_worth s10 p1 p2 p3 = some v ∧ u.1 = v.1 ∧ Rel (st_X9_worth s9 u) (st_X10_worth s10 v)
set_option maxHeartbeats 4000000 in
set_option maxRecDepth 100000 in
theorem law_worth {p : Program} {e : Env} {s : State} {m : MethodId} {below : List Frame} {meth : Method} {c : Code} (l : Launch) (g : GG) (Rel : T9 → T10 → Prop) (hop : OP_worth Rel) {b L : Nat} {xs : Nat → Int32} (hL : L ≤ 2560) (hx : p.tables.exec = Jvm.exec) (hb : c.code = code) (hml : c.maxLocals = 4) (hown : s.vm.findClass RL = some m.cls) (hts : ∀ w ∈ G, w.before #[Value.ref b] s = true) (hX : va_X b L xs s s.heap) (hbl : b < s.heap.size) (hK : NK g s) (hE : SK g (fun q : Nat => s.heap.size ≤ q) s s.heap) (a0 a1 : Nat → Nat) (i : Nat) (hi : i + 5 ≤ L) (s9 : T9) (s10 : T10) (hR : Rel s9 s10) {H : Heap} {locs : List Loc} {ls : Array Slot} {cells slots : Nat} (hcl0 : cells + 24 ≤ 600000) (hsl0 : slots + 7200 ≤ 7302250) (hP : va_P g.1 vwCl (w9s a0 g s9 ++ w10s a1 g s10) H) (hD : va_D (fun q : Nat => s.heap.size ≤ q) (w9s a0 g s9 ++ w10s a1 g s10)) (hS : va_S (fun q : Nat => s.heap.size ≤ q) s.heap H locs) (hl : lv_has ls 4 [(3, .int (nI i)), (0, .ref b), (1, .ref (a0 0)), (2, .ref (a1 0))])
    (kk : ∀ (s9 : T9) (s10 : T10) (H : Heap) (locs : List Loc), Rel s9 s10 → va_P g.1 vwCl (w9s a0 g s9 ++ w10s a1 g s10) H → va_D (fun q : Nat => s.heap.size ≤ q) (w9s a0 g s9 ++ w10s a1 g s10) → va_S (fun q : Nat => s.heap.size ≤ q) s.heap H locs → W p l e room_1 s m #[Value.ref b] below meth c H locs (cells + 24) (slots + 7200) (lw_Z below #[Value.ref b] s) (F0 m 1529 ls [])) :
    W p l e room_1 s m #[Value.ref b] below meth c H locs cells slots (lw_Z below #[Value.ref b] s) (F0 m 955 ls []) := by
  have hA : ∀ q : Nat, s.heap.size ≤ q → (fun q : Nat => s.heap.size ≤ q) q := fun _ h => h
  have hbA : ¬ (fun q : Nat => s.heap.size ≤ q) b := Nat.not_le.mpr hbl
  have hcl : cells + 0 ≤ room_1.cells := by show cells + 0 ≤ 600000; omega
  have hsl : slots + 0 ≤ room_1.slots := by show slots + 0 ≤ 7302250; omega
  obtain ⟨u, v, hu, hv, he, hR⟩ := hop s9 s10 (xs (i + 1)) (xs (i + 2)) (xs (i + 3)) hR
  refine lv_aload_n hx hb dL_law_955 rfl (lv_at hl 2 rfl) ?_
  refine lv_aload_n hx hb dL_law_956 rfl (lv_at hl 1 rfl) ?_
  refine lv_iload_n hx hb dL_law_957 rfl (lv_at hl 0 rfl) ?_
  refine lv_iconst (v := 1) hx hb dL_law_958 (by decide) ?_
  refine lv_iadd hx hb dL_law_959 ?_
  refine nmI (nI_p i 1 (by decide)) ?_
  refine va_sld hx hb hX hbl hbA hS (vp_in_nI (show i + 1 < L by omega) (by omega)) dL_law_960 ?_
  refine nmI (z := xs (i + 1)) (by rw [nI_clamp (by omega)]) ?_
  refine lv_aload_n hx hb dL_law_961 rfl (lv_at hl 1 rfl) ?_
  refine lv_iload_n hx hb dL_law_962 rfl (lv_at hl 0 rfl) ?_
  refine lv_iconst (v := 2) hx hb dL_law_963 (by decide) ?_
  refine lv_iadd hx hb dL_law_964 ?_
  refine nmI (nI_p i 2 (by decide)) ?_
  refine va_sld hx hb hX hbl hbA hS (vp_in_nI (show i + 2 < L by omega) (by omega)) dL_law_965 ?_
  refine nmI (z := xs (i + 2)) (by rw [nI_clamp (by omega)]) ?_
  refine lv_aload_n hx hb dL_law_966 rfl (lv_at hl 1 rfl) ?_
  refine lv_iload_n hx hb dL_law_967 rfl (lv_at hl 0 rfl) ?_
  refine lv_iconst (v := 3) hx hb dL_law_968 (by decide) ?_
  refine lv_iadd hx hb dL_law_969 ?_
  refine nmI (nI_p i 3 (by decide)) ?_
  refine va_sld hx hb hX hbl hbA hS (vp_in_nI (show i + 3 < L by omega) (by omega)) dL_law_970 ?_
  refine nmI (z := xs (i + 3)) (by rw [nI_clamp (by omega)]) ?_
  refine cL hP hD hS hA hE (fun hPc hDc hSc => rV (As := [.int (xs (i + 1)), .int (xs (i + 2)), .int (xs (i + 3))]) (rest := []) hx hb hml hown hts hK (c_X9_worth l g a0 (p6_raws (p9_now s9)) (p6_kinds (p9_now s9)) (p6_figures (p9_now s9)) (p6_heavies (p9_now s9)) (p6_places (p9_now s9)) (p6_papers (p9_now s9)) (p6_lowers (p9_now s9)) (p6_uppers (p9_now s9)) (p6_rules (p9_now s9)) (p6_bounds (p9_now s9)) (p6_boundCount (p9_now s9)) (p6_tieWay (p9_now s9)) (p6_reached (p9_now s9)) (p6_raws (p9_kept s9)) (p6_kinds (p9_kept s9)) (p6_figures (p9_kept s9)) (p6_heavies (p9_kept s9)) (p6_places (p9_kept s9)) (p6_papers (p9_kept s9)) (p6_lowers (p9_kept s9)) (p6_uppers (p9_kept s9)) (p6_rules (p9_kept s9)) (p6_bounds (p9_kept s9)) (p6_boundCount (p9_kept s9)) (p6_tieWay (p9_kept s9)) (p6_reached (p9_kept s9)) (p6_raws (p9_spare s9)) (p6_kinds (p9_spare s9)) (p6_figures (p9_spare s9)) (p6_heavies (p9_spare s9)) (p6_places (p9_spare s9)) (p6_papers (p9_spare s9)) (p6_lowers (p9_spare s9)) (p6_uppers (p9_spare s9)) (p6_rules (p9_spare s9)) (p6_bounds (p9_spare s9)) (p6_boundCount (p9_spare s9)) (p6_tieWay (p9_spare s9)) (p6_reached (p9_spare s9)) (p9_isKept s9) (p3_signs (p9_letters s9)) (p3_numbers (p9_letters s9)) (p3_size (p9_letters s9)) (p3_at (p9_letters s9)) (p3_word (p9_letters s9)) (p9_told s9) (p9_toldCount s9) (p7_cells (p9_shelves s9)) (p7_sizes (p9_shelves s9)) (p7_made (p9_shelves s9)) (p9_refusals s9) (p5_overs (p9_order s9)) (p5_unders (p9_order s9)) (p5_marks (p9_order s9)) (p5_wrongs (p9_order s9)) (p5_papers (p9_order s9)) (p8_marks (p4_values (p9_standing s9))) (p8_weights (p4_values (p9_standing s9))) (p8_places (p4_values (p9_standing s9))) (p8_aboves (p4_values (p9_standing s9))) (p8_belows (p4_values (p9_standing s9))) (p1_above (p8_reduced (p4_values (p9_standing s9)))) (p1_below (p8_reduced (p4_values (p9_standing s9)))) (p8_papers (p4_values (p9_standing s9))) (p4_blocks (p9_standing s9)) (p4_tops (p9_standing s9)) (p4_bottoms (p9_standing s9)) (p4_blocksNow (p9_standing s9)) (p4_mergesDone (p9_standing s9)) (p4_loss (p9_standing s9)) (p8_marks (p0_values (p9_byRules s9))) (p8_weights (p0_values (p9_byRules s9))) (p8_places (p0_values (p9_byRules s9))) (p8_aboves (p0_values (p9_byRules s9))) (p8_belows (p0_values (p9_byRules s9))) (p1_above (p8_reduced (p0_values (p9_byRules s9)))) (p1_below (p8_reduced (p0_values (p9_byRules s9)))) (p8_papers (p0_values (p9_byRules s9))) (p5_overs (p0_order (p9_byRules s9))) (p5_unders (p0_order (p9_byRules s9))) (p5_marks (p0_order (p9_byRules s9))) (p5_wrongs (p0_order (p9_byRules s9))) (p5_papers (p0_order (p9_byRules s9))) (p0_sums (p9_byRules s9)) (p0_weighs (p9_byRules s9)) (p0_downs (p9_byRules s9)) (p1_above (p9_fraction s9)) (p1_below (p9_fraction s9)) (pSB_a (p9_said s9)) (pSB_m (p9_said s9)) (pSB_f (p9_said s9)) (pSB_l (p9_said s9)) (pSB_n (p9_said s9)) (xs (i + 1)) (xs (i + 2)) (xs (i + 3)) (by rw [hu]; exact Option.some_ne_none _)) svV_X9_worth kw930 rfl rfl hPc hDc hSc rfl rfl hl.1 (Nat.le_of_ble_eq_true rfl) dL_law_971 ⟨Nat.le_of_ble_eq_true rfl, Nat.le_of_ble_eq_true rfl, rfl, rfl, hcl, hsl⟩) [(0, 132)] rfl rfl rfl (fun _ => rfl) (fun w H locs ew hP hD hS => ?_)
  obtain rfl := Option.some.inj (hu.symm.trans ew)
  have hP : va_P g.1 vwCl (w9s a0 g (st_X9_worth s9 u) ++ w10s a1 g s10) H := hP
  have hD : va_D (fun q : Nat => s.heap.size ≤ q) (w9s a0 g (st_X9_worth s9 u) ++ w10s a1 g s10) := hD
  refine lv_aload_n hx hb dL_law_974 rfl (lv_at hl 3 rfl) ?_
  refine lv_aload_n hx hb dL_law_975 rfl (lv_at hl 1 rfl) ?_
  refine lv_iload_n hx hb dL_law_976 rfl (lv_at hl 0 rfl) ?_
  refine lv_iconst (v := 1) hx hb dL_law_977 (by decide) ?_
  refine lv_iadd hx hb dL_law_978 ?_
  refine nmI (nI_p i 1 (by decide)) ?_
  refine va_sld hx hb hX hbl hbA hS (vp_in_nI (show i + 1 < L by omega) (by omega)) dL_law_979 ?_
  refine nmI (z := xs (i + 1)) (by rw [nI_clamp (by omega)]) ?_
  refine lv_aload_n hx hb dL_law_980 rfl (lv_at hl 1 rfl) ?_
  refine lv_iload_n hx hb dL_law_981 rfl (lv_at hl 0 rfl) ?_
  refine lv_iconst (v := 2) hx hb dL_law_982 (by decide) ?_
  refine lv_iadd hx hb dL_law_983 ?_
  refine nmI (nI_p i 2 (by decide)) ?_
  refine va_sld hx hb hX hbl hbA hS (vp_in_nI (show i + 2 < L by omega) (by omega)) dL_law_984 ?_
  refine nmI (z := xs (i + 2)) (by rw [nI_clamp (by omega)]) ?_
  refine lv_aload_n hx hb dL_law_985 rfl (lv_at hl 1 rfl) ?_
  refine lv_iload_n hx hb dL_law_986 rfl (lv_at hl 0 rfl) ?_
  refine lv_iconst (v := 3) hx hb dL_law_987 (by decide) ?_
  refine lv_iadd hx hb dL_law_988 ?_
  refine nmI (nI_p i 3 (by decide)) ?_
  refine va_sld hx hb hX hbl hbA hS (vp_in_nI (show i + 3 < L by omega) (by omega)) dL_law_989 ?_
  refine nmI (z := xs (i + 3)) (by rw [nI_clamp (by omega)]) ?_
  refine cL hP hD hS hA hE (fun hPc hDc hSc => rV (As := [.int (xs (i + 1)), .int (xs (i + 2)), .int (xs (i + 3))]) (rest := [.long u.1]) hx hb hml hown hts hK (c_X10_worth l g a1 (p10_papers s10) (p10_raw s10) (p10_kind s10) (p10_figure s10) (p10_heavy s10) (p10_place s10) (p10_rules s10) (p10_lower s10) (p10_upper s10) (p10_limits s10) (p10_limit s10) (p10_ties s10) (p10_letter s10) (p10_letters s10) (p10_told s10) (p10_tolds s10) (p10_places s10) (p10_cell s10) (p10_refusals s10) (p10_imaged s10) (p10_hasImage s10) (p10_before s10) (p10_up s10) (p10_down s10) (p10_beneath s10) (p10_numberUp s10) (p10_numberDown s10) (p10_block s10) (p10_blocks s10) (p10_merged s10) (p10_valueUp s10) (p10_valueDown s10) (p10_said s10) (p10_saids s10) (p10_at s10) (p10_number s10) (xs (i + 1)) (xs (i + 2)) (xs (i + 3)) (by rw [hv]; exact Option.some_ne_none _)) svV_X10_worth kw1610 rfl rfl hPc hDc hSc rfl rfl hl.1 (Nat.le_of_ble_eq_true rfl) dL_law_990 ⟨Nat.le_of_ble_eq_true rfl, Nat.le_of_ble_eq_true rfl, rfl, rfl, hcl, hsl⟩) [(132, 22)] rfl rfl rfl (fun _ => rfl) (fun w H locs ew hP hD hS => ?_)
  obtain rfl := Option.some.inj (hv.symm.trans ew)
  have hP : va_P g.1 vwCl (w9s a0 g (st_X9_worth s9 u) ++ w10s a1 g (st_X10_worth s10 v)) H := hP
  have hD : va_D (fun q : Nat => s.heap.size ≤ q) (w9s a0 g (st_X9_worth s9 u) ++ w10s a1 g (st_X10_worth s10 v)) := hD
  refine lc_eq (tgt := 1529) hx hb dL_law_993 dL_law_994 (by decide) (fun _ => ?_) (fun c => absurd he c)
  refine W.widen (k := cells + 24) (n := slots + 7200) (by omega) (by omega) ?_
  exact kk (st_X9_worth s9 u) (st_X10_worth s10 v) _ _ hR hP hD hS
/-- dearest -/
abbrev OP_dearest (Rel : T9 → T10 → Prop) : Prop := ∀ (s9 : T9) (s10 : T10) (p1 : Int32), Rel s9 s10 → ∃ u v, m_X9_dearest s9 p1 = some u ∧ m_X10_dearest s10 p1 = some v ∧ u.1 = v.1 ∧ Rel (st_X9_dearest s9 u) (st_X10_dearest s10 v)
set_option maxHeartbeats 4000000 in
set_option maxRecDepth 100000 in
theorem law_dearest {p : Program} {e : Env} {s : State} {m : MethodId} {below : List Frame} {meth : Method} {c : Code} (l : Launch) (g : GG) (Rel : T9 → T10 → Prop) (hop : OP_dearest Rel) {b L : Nat} {xs : Nat → Int32} (hL : L ≤ 2560) (hx : p.tables.exec = Jvm.exec) (hb : c.code = code) (hml : c.maxLocals = 4) (hown : s.vm.findClass RL = some m.cls) (hts : ∀ w ∈ G, w.before #[Value.ref b] s = true) (hX : va_X b L xs s s.heap) (hbl : b < s.heap.size) (hK : NK g s) (hE : SK g (fun q : Nat => s.heap.size ≤ q) s s.heap) (a0 a1 : Nat → Nat) (i : Nat) (hi : i + 5 ≤ L) (s9 : T9) (s10 : T10) (hR : Rel s9 s10) {H : Heap} {locs : List Loc} {ls : Array Slot} {cells slots : Nat} (hcl0 : cells + 24 ≤ 600000) (hsl0 : slots + 7200 ≤ 7302250) (hP : va_P g.1 vwCl (w9s a0 g s9 ++ w10s a1 g s10) H) (hD : va_D (fun q : Nat => s.heap.size ≤ q) (w9s a0 g s9 ++ w10s a1 g s10)) (hS : va_S (fun q : Nat => s.heap.size ≤ q) s.heap H locs) (hl : lv_has ls 4 [(3, .int (nI i)), (0, .ref b), (1, .ref (a0 0)), (2, .ref (a1 0))])
    (kk : ∀ (s9 : T9) (s10 : T10) (H : Heap) (locs : List Loc), Rel s9 s10 → va_P g.1 vwCl (w9s a0 g s9 ++ w10s a1 g s10) H → va_D (fun q : Nat => s.heap.size ≤ q) (w9s a0 g s9 ++ w10s a1 g s10) → va_S (fun q : Nat => s.heap.size ≤ q) s.heap H locs → W p l e room_1 s m #[Value.ref b] below meth c H locs (cells + 24) (slots + 7200) (lw_Z below #[Value.ref b] s) (F0 m 1529 ls [])) :
    W p l e room_1 s m #[Value.ref b] below meth c H locs cells slots (lw_Z below #[Value.ref b] s) (F0 m 999 ls []) := by
  have hA : ∀ q : Nat, s.heap.size ≤ q → (fun q : Nat => s.heap.size ≤ q) q := fun _ h => h
  have hbA : ¬ (fun q : Nat => s.heap.size ≤ q) b := Nat.not_le.mpr hbl
  have hcl : cells + 0 ≤ room_1.cells := by show cells + 0 ≤ 600000; omega
  have hsl : slots + 0 ≤ room_1.slots := by show slots + 0 ≤ 7302250; omega
  obtain ⟨u, v, hu, hv, he, hR⟩ := hop s9 s10 (xs (i + 1)) hR
  refine lv_aload_n hx hb dL_law_999 rfl (lv_at hl 2 rfl) ?_
  refine lv_aload_n hx hb dL_law_1000 rfl (lv_at hl 1 rfl) ?_
  refine lv_iload_n hx hb dL_law_1001 rfl (lv_at hl 0 rfl) ?_
  refine lv_iconst (v := 1) hx hb dL_law_1002 (by decide) ?_
  refine lv_iadd hx hb dL_law_1003 ?_
  refine nmI (nI_p i 1 (by decide)) ?_
  refine va_sld hx hb hX hbl hbA hS (vp_in_nI (show i + 1 < L by omega) (by omega)) dL_law_1004 ?_
  refine nmI (z := xs (i + 1)) (by rw [nI_clamp (by omega)]) ?_
  refine cI hP hD hS hA hE (fun hPc hDc hSc => rV (As := [.int (xs (i + 1))]) (rest := []) hx hb hml hown hts hK (c_X9_dearest l g a0 (p6_raws (p9_now s9)) (p6_kinds (p9_now s9)) (p6_figures (p9_now s9)) (p6_heavies (p9_now s9)) (p6_places (p9_now s9)) (p6_papers (p9_now s9)) (p6_lowers (p9_now s9)) (p6_uppers (p9_now s9)) (p6_rules (p9_now s9)) (p6_bounds (p9_now s9)) (p6_boundCount (p9_now s9)) (p6_tieWay (p9_now s9)) (p6_reached (p9_now s9)) (p6_raws (p9_kept s9)) (p6_kinds (p9_kept s9)) (p6_figures (p9_kept s9)) (p6_heavies (p9_kept s9)) (p6_places (p9_kept s9)) (p6_papers (p9_kept s9)) (p6_lowers (p9_kept s9)) (p6_uppers (p9_kept s9)) (p6_rules (p9_kept s9)) (p6_bounds (p9_kept s9)) (p6_boundCount (p9_kept s9)) (p6_tieWay (p9_kept s9)) (p6_reached (p9_kept s9)) (p6_raws (p9_spare s9)) (p6_kinds (p9_spare s9)) (p6_figures (p9_spare s9)) (p6_heavies (p9_spare s9)) (p6_places (p9_spare s9)) (p6_papers (p9_spare s9)) (p6_lowers (p9_spare s9)) (p6_uppers (p9_spare s9)) (p6_rules (p9_spare s9)) (p6_bounds (p9_spare s9)) (p6_boundCount (p9_spare s9)) (p6_tieWay (p9_spare s9)) (p6_reached (p9_spare s9)) (p9_isKept s9) (p3_signs (p9_letters s9)) (p3_numbers (p9_letters s9)) (p3_size (p9_letters s9)) (p3_at (p9_letters s9)) (p3_word (p9_letters s9)) (p9_told s9) (p9_toldCount s9) (p7_cells (p9_shelves s9)) (p7_sizes (p9_shelves s9)) (p7_made (p9_shelves s9)) (p9_refusals s9) (p5_overs (p9_order s9)) (p5_unders (p9_order s9)) (p5_marks (p9_order s9)) (p5_wrongs (p9_order s9)) (p5_papers (p9_order s9)) (p8_marks (p4_values (p9_standing s9))) (p8_weights (p4_values (p9_standing s9))) (p8_places (p4_values (p9_standing s9))) (p8_aboves (p4_values (p9_standing s9))) (p8_belows (p4_values (p9_standing s9))) (p1_above (p8_reduced (p4_values (p9_standing s9)))) (p1_below (p8_reduced (p4_values (p9_standing s9)))) (p8_papers (p4_values (p9_standing s9))) (p4_blocks (p9_standing s9)) (p4_tops (p9_standing s9)) (p4_bottoms (p9_standing s9)) (p4_blocksNow (p9_standing s9)) (p4_mergesDone (p9_standing s9)) (p4_loss (p9_standing s9)) (p8_marks (p0_values (p9_byRules s9))) (p8_weights (p0_values (p9_byRules s9))) (p8_places (p0_values (p9_byRules s9))) (p8_aboves (p0_values (p9_byRules s9))) (p8_belows (p0_values (p9_byRules s9))) (p1_above (p8_reduced (p0_values (p9_byRules s9)))) (p1_below (p8_reduced (p0_values (p9_byRules s9)))) (p8_papers (p0_values (p9_byRules s9))) (p5_overs (p0_order (p9_byRules s9))) (p5_unders (p0_order (p9_byRules s9))) (p5_marks (p0_order (p9_byRules s9))) (p5_wrongs (p0_order (p9_byRules s9))) (p5_papers (p0_order (p9_byRules s9))) (p0_sums (p9_byRules s9)) (p0_weighs (p9_byRules s9)) (p0_downs (p9_byRules s9)) (p1_above (p9_fraction s9)) (p1_below (p9_fraction s9)) (pSB_a (p9_said s9)) (pSB_m (p9_said s9)) (pSB_f (p9_said s9)) (pSB_l (p9_said s9)) (pSB_n (p9_said s9)) (xs (i + 1)) (by rw [hu]; exact Option.some_ne_none _)) svV_X9_dearest kw935 rfl rfl hPc hDc hSc rfl rfl hl.1 (Nat.le_of_ble_eq_true rfl) dL_law_1005 ⟨Nat.le_of_ble_eq_true rfl, Nat.le_of_ble_eq_true rfl, rfl, rfl, hcl, hsl⟩) [(0, 132)] rfl rfl rfl (fun _ => rfl) (fun w H locs ew nw hP hD hS => ?_)
  obtain rfl := Option.some.inj (hu.symm.trans ew)
  have hP : va_P g.1 vwCl (w9s a0 g (st_X9_dearest s9 u) ++ w10s a1 g s10) H := hP
  have hD : va_D (fun q : Nat => s.heap.size ≤ q) (w9s a0 g (st_X9_dearest s9 u) ++ w10s a1 g s10) := hD
  refine lv_aload_n hx hb dL_law_1008 rfl (lv_at hl 3 rfl) ?_
  refine lv_aload_n hx hb dL_law_1009 rfl (lv_at hl 1 rfl) ?_
  refine lv_iload_n hx hb dL_law_1010 rfl (lv_at hl 0 rfl) ?_
  refine lv_iconst (v := 1) hx hb dL_law_1011 (by decide) ?_
  refine lv_iadd hx hb dL_law_1012 ?_
  refine nmI (nI_p i 1 (by decide)) ?_
  refine va_sld hx hb hX hbl hbA hS (vp_in_nI (show i + 1 < L by omega) (by omega)) dL_law_1013 ?_
  refine nmI (z := xs (i + 1)) (by rw [nI_clamp (by omega)]) ?_
  refine cI hP hD hS hA hE (fun hPc hDc hSc => rV (As := [.int (xs (i + 1))]) (rest := [.int u.1]) hx hb hml hown hts hK (c_X10_dearest l g a1 (p10_papers s10) (p10_raw s10) (p10_kind s10) (p10_figure s10) (p10_heavy s10) (p10_place s10) (p10_rules s10) (p10_lower s10) (p10_upper s10) (p10_limits s10) (p10_limit s10) (p10_ties s10) (p10_letter s10) (p10_letters s10) (p10_told s10) (p10_tolds s10) (p10_places s10) (p10_cell s10) (p10_refusals s10) (p10_imaged s10) (p10_hasImage s10) (p10_before s10) (p10_up s10) (p10_down s10) (p10_beneath s10) (p10_numberUp s10) (p10_numberDown s10) (p10_block s10) (p10_blocks s10) (p10_merged s10) (p10_valueUp s10) (p10_valueDown s10) (p10_said s10) (p10_saids s10) (p10_at s10) (p10_number s10) (xs (i + 1)) (by rw [hv]; exact Option.some_ne_none _)) svV_X10_dearest kw1614 rfl rfl hPc hDc hSc rfl rfl hl.1 (Nat.le_of_ble_eq_true rfl) dL_law_1014 ⟨Nat.le_of_ble_eq_true rfl, Nat.le_of_ble_eq_true rfl, rfl, rfl, hcl, hsl⟩) [(132, 22)] rfl rfl rfl (fun _ => rfl) (fun w H locs ew nw hP hD hS => ?_)
  obtain rfl := Option.some.inj (hv.symm.trans ew)
  have hP : va_P g.1 vwCl (w9s a0 g (st_X9_dearest s9 u) ++ w10s a1 g (st_X10_dearest s10 v)) H := hP
  have hD : va_D (fun q : Nat => s.heap.size ≤ q) (w9s a0 g (st_X9_dearest s9 u) ++ w10s a1 g (st_X10_dearest s10 v)) := hD
  refine lv_icmp_eq (tgt := 1529) hx hb dL_law_1017 (by decide) (fun _ => ?_) (fun c => absurd he c)
  refine W.widen (k := cells + 24) (n := slots + 7200) (by omega) (by omega) ?_
  exact kk (st_X9_dearest s9 u) (st_X10_dearest s10 v) _ _ hR hP hD hS
