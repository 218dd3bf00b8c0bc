/-! the law's own code, on -/
theorem a_718 : qA 718 1 := by decide +kernel
theorem a_723 : qA 723 2 := by decide +kernel
theorem d_law_728 : decode code 728 = .ok (.invokevirtual 86, 3) := by decide +kernel
theorem d_law_731 : decode code 731 = .ok (.aload_n 2, 1) := by decide +kernel
theorem a_732 : qA 732 1 := by decide +kernel
theorem a_737 : qA 737 2 := by decide +kernel
theorem d_law_742 : decode code 742 = .ok (.invokevirtual 89, 3) := by decide +kernel
theorem d_law_745 : decode code 745 = .ok (.if_icmp .eq 373, 3) := by decide +kernel
theorem d_law_748 : decode code 748 = .ok (.iconst 0, 1) := by decide +kernel
theorem d_law_749 : decode code 749 = .ok (.ireturn, 1) := by decide +kernel
theorem d_law_750 : decode code 750 = .ok (.aload_n 1, 1) := by decide +kernel
theorem a_751 : qA 751 1 := by decide +kernel
theorem a_756 : qA 756 2 := by decide +kernel
theorem a_761 : qA 761 3 := by decide +kernel
theorem d_law_766 : decode code 766 = .ok (.invokevirtual 90, 3) := by decide +kernel
theorem d_law_769 : decode code 769 = .ok (.aload_n 2, 1) := by decide +kernel
theorem a_770 : qA 770 1 := by decide +kernel
theorem a_775 : qA 775 2 := by decide +kernel
theorem a_780 : qA 780 3 := by decide +kernel
theorem d_law_785 : decode code 785 = .ok (.invokevirtual 93, 3) := by decide +kernel
theorem d_law_788 : decode code 788 = .ok (.if_icmp .eq 330, 3) := by decide +kernel
theorem d_law_791 : decode code 791 = .ok (.iconst 0, 1) := by decide +kernel
theorem d_law_792 : decode code 792 = .ok (.ireturn, 1) := by decide +kernel
theorem d_law_793 : decode code 793 = .ok (.aload_n 1, 1) := by decide +kernel
theorem a_794 : qA 794 1 := by decide +kernel
theorem d_law_799 : decode code 799 = .ok (.invokevirtual 94, 3) := by decide +kernel
theorem d_law_802 : decode code 802 = .ok (.aload_n 2, 1) := by decide +kernel
theorem a_803 : qA 803 1 := by decide +kernel
theorem d_law_808 : decode code 808 = .ok (.invokevirtual 97, 3) := by decide +kernel
theorem d_law_811 : decode code 811 = .ok (.if_icmp .eq 307, 3) := by decide +kernel
theorem d_law_814 : decode code 814 = .ok (.iconst 0, 1) := by decide +kernel
theorem d_law_815 : decode code 815 = .ok (.ireturn, 1) := by decide +kernel
theorem d_law_816 : decode code 816 = .ok (.aload_n 1, 1) := by decide +kernel
theorem a_817 : qA 817 1 := by decide +kernel
theorem a_822 : qA 822 2 := by decide +kernel
theorem d_law_827 : decode code 827 = .ok (.invokevirtual 98, 3) := by decide +kernel
theorem d_law_830 : decode code 830 = .ok (.aload_n 2, 1) := by decide +kernel
theorem a_831 : qA 831 1 := by decide +kernel
theorem a_836 : qA 836 2 := by decide +kernel
theorem d_law_841 : decode code 841 = .ok (.invokevirtual 101, 3) := by decide +kernel
theorem d_law_844 : decode code 844 = .ok (.if_icmp .eq 274, 3) := by decide +kernel
theorem d_law_847 : decode code 847 = .ok (.iconst 0, 1) := by decide +kernel
theorem d_law_848 : decode code 848 = .ok (.ireturn, 1) := by decide +kernel
theorem d_law_849 : decode code 849 = .ok (.aload_n 1, 1) := by decide +kernel
theorem a_850 : qA 850 1 := by decide +kernel
theorem a_855 : qA 855 2 := by decide +kernel
theorem a_860 : qA 860 3 := by decide +kernel
theorem d_law_865 : decode code 865 = .ok (.invokevirtual 102, 3) := by decide +kernel
theorem d_law_868 : decode code 868 = .ok (.aload_n 2, 1) := by decide +kernel
theorem a_869 : qA 869 1 := by decide +kernel
theorem a_874 : qA 874 2 := by decide +kernel
theorem a_879 : qA 879 3 := by decide +kernel
theorem d_law_884 : decode code 884 = .ok (.invokevirtual 105, 3) := by decide +kernel
theorem d_law_887 : decode code 887 = .ok (.if_icmp .eq 231, 3) := by decide +kernel
theorem d_law_890 : decode code 890 = .ok (.iconst 0, 1) := by decide +kernel
theorem d_law_891 : decode code 891 = .ok (.ireturn, 1) := by decide +kernel
theorem d_law_892 : decode code 892 = .ok (.aload_n 1, 1) := by decide +kernel
theorem a_893 : qA 893 1 := by decide +kernel
theorem a_898 : qA 898 2 := by decide +kernel
theorem a_903 : qA 903 3 := by decide +kernel
theorem d_law_908 : decode code 908 = .ok (.i2l, 1) := by decide +kernel
theorem d_law_909 : decode code 909 = .ok (.bipush 32, 2) := by decide +kernel
theorem d_law_911 : decode code 911 = .ok (.lshl, 1) := by decide +kernel
theorem a_912 : qA 912 4 := by decide +kernel
theorem d_law_917 : decode code 917 = .ok (.i2l, 1) := by decide +kernel
theorem d_law_918 : decode code 918 = .ok (.ldc2_w 106, 3) := by decide +kernel
theorem d_law_921 : decode code 921 = .ok (.land, 1) := by decide +kernel
theorem d_law_922 : decode code 922 = .ok (.lor, 1) := by decide +kernel
theorem d_law_923 : decode code 923 = .ok (.invokevirtual 108, 3) := by decide +kernel
theorem d_law_926 : decode code 926 = .ok (.aload_n 2, 1) := by decide +kernel
