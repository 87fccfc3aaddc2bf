theorem d_Mo_champion_27 : decode b_Mo_champion 27 = .ok (.if_icmp .ge 41, 3) := by decide +kernel
theorem d_Mo_champion_30 : decode b_Mo_champion 30 = .ok (.iload_n 2, 1) := by decide +kernel
theorem d_Mo_champion_31 : decode b_Mo_champion 31 = .ok (.ifCond .eq 29, 3) := by decide +kernel
theorem d_Mo_champion_34 : decode b_Mo_champion 34 = .ok (.iload_n 3, 1) := by decide +kernel
theorem d_Mo_champion_35 : decode b_Mo_champion 35 = .ok (.iload_n 1, 1) := by decide +kernel
theorem d_Mo_champion_36 : decode b_Mo_champion 36 = .ok (.if_icmp .eq 20, 3) := by decide +kernel
theorem d_Mo_champion_39 : decode b_Mo_champion 39 = .ok (.aload_n 0, 1) := by decide +kernel
theorem d_Mo_champion_40 : decode b_Mo_champion 40 = .ok (.iload_n 3, 1) := by decide +kernel
theorem d_Mo_champion_41 : decode b_Mo_champion 41 = .ok (.invokevirtual 154, 3) := by decide +kernel
theorem d_Mo_champion_44 : decode b_Mo_champion 44 = .ok (.ifCond .eq 12, 3) := by decide +kernel
theorem d_Mo_champion_47 : decode b_Mo_champion 47 = .ok (.aload_n 0, 1) := by decide +kernel
theorem d_Mo_champion_48 : decode b_Mo_champion 48 = .ok (.iload_n 1, 1) := by decide +kernel
theorem d_Mo_champion_49 : decode b_Mo_champion 49 = .ok (.iload_n 3, 1) := by decide +kernel
theorem d_Mo_champion_50 : decode b_Mo_champion 50 = .ok (.invokevirtual 157, 3) := by decide +kernel
theorem d_Mo_champion_53 : decode b_Mo_champion 53 = .ok (.ifCond .le 7, 3) := by decide +kernel
theorem d_Mo_champion_56 : decode b_Mo_champion 56 = .ok (.iconst 1, 1) := by decide +kernel
theorem d_Mo_champion_57 : decode b_Mo_champion 57 = .ok (.goto 4, 3) := by decide +kernel
theorem d_Mo_champion_60 : decode b_Mo_champion 60 = .ok (.iconst 0, 1) := by decide +kernel
theorem d_Mo_champion_61 : decode b_Mo_champion 61 = .ok (.istore_n 2, 1) := by decide +kernel
theorem d_Mo_champion_62 : decode b_Mo_champion 62 = .ok (.iinc 3 1, 3) := by decide +kernel
theorem d_Mo_champion_65 : decode b_Mo_champion 65 = .ok (.goto (-45), 3) := by decide +kernel
theorem d_Mo_champion_68 : decode b_Mo_champion 68 = .ok (.iload_n 2, 1) := by decide +kernel
theorem d_Mo_champion_69 : decode b_Mo_champion 69 = .ok (.ifCond .eq 5, 3) := by decide +kernel
theorem d_Mo_champion_72 : decode b_Mo_champion 72 = .ok (.iload_n 1, 1) := by decide +kernel
theorem d_Mo_champion_73 : decode b_Mo_champion 73 = .ok (.ireturn, 1) := by decide +kernel
theorem d_Mo_champion_74 : decode b_Mo_champion 74 = .ok (.iinc 1 1, 3) := by decide +kernel
theorem d_Mo_champion_77 : decode b_Mo_champion 77 = .ok (.goto (-75), 3) := by decide +kernel
theorem d_Mo_champion_80 : decode b_Mo_champion 80 = .ok (.bipush (-4), 2) := by decide +kernel
theorem d_Mo_champion_82 : decode b_Mo_champion 82 = .ok (.ireturn, 1) := by decide +kernel
theorem d_Mo_middle_0 : decode b_Mo_middle 0 = .ok (.aload_n 0, 1) := by decide +kernel
theorem d_Mo_middle_1 : decode b_Mo_middle 1 = .ok (.aload_n 0, 1) := by decide +kernel
theorem d_Mo_middle_2 : decode b_Mo_middle 2 = .ok (.getfield 19, 3) := by decide +kernel
theorem d_Mo_middle_5 : decode b_Mo_middle 5 = .ok (.iconst 1, 1) := by decide +kernel
theorem d_Mo_middle_6 : decode b_Mo_middle 6 = .ok (.iaload, 1) := by decide +kernel
theorem d_Mo_middle_7 : decode b_Mo_middle 7 = .ok (.invokevirtual 118, 3) := by decide +kernel
theorem d_Mo_middle_10 : decode b_Mo_middle 10 = .ok (.istore_n 1, 1) := by decide +kernel
theorem d_Mo_middle_11 : decode b_Mo_middle 11 = .ok (.iload_n 1, 1) := by decide +kernel
theorem d_Mo_middle_12 : decode b_Mo_middle 12 = .ok (.invokestatic 142, 3) := by decide +kernel
theorem d_Mo_middle_15 : decode b_Mo_middle 15 = .ok (.iconst 1, 1) := by decide +kernel
theorem d_Mo_middle_16 : decode b_Mo_middle 16 = .ok (.if_icmp .ne 5, 3) := by decide +kernel
theorem d_Mo_middle_19 : decode b_Mo_middle 19 = .ok (.iload_n 1, 1) := by decide +kernel
theorem d_Mo_middle_20 : decode b_Mo_middle 20 = .ok (.ireturn, 1) := by decide +kernel
theorem d_Mo_middle_21 : decode b_Mo_middle 21 = .ok (.iload_n 1, 1) := by decide +kernel
theorem d_Mo_middle_22 : decode b_Mo_middle 22 = .ok (.istore_n 2, 1) := by decide +kernel
theorem d_Mo_middle_23 : decode b_Mo_middle 23 = .ok (.iconst 0, 1) := by decide +kernel
theorem d_Mo_middle_24 : decode b_Mo_middle 24 = .ok (.istore_n 3, 1) := by decide +kernel
theorem d_Mo_middle_25 : decode b_Mo_middle 25 = .ok (.iload_n 3, 1) := by decide +kernel
theorem d_Mo_middle_26 : decode b_Mo_middle 26 = .ok (.aload_n 0, 1) := by decide +kernel
theorem d_Mo_middle_27 : decode b_Mo_middle 27 = .ok (.getfield 13, 3) := by decide +kernel
theorem d_Mo_middle_30 : decode b_Mo_middle 30 = .ok (.iconst 1, 1) := by decide +kernel
theorem d_Mo_middle_31 : decode b_Mo_middle 31 = .ok (.iaload, 1) := by decide +kernel
theorem d_Mo_middle_32 : decode b_Mo_middle 32 = .ok (.if_icmp .ge 132, 3) := by decide +kernel
theorem d_Mo_middle_35 : decode b_Mo_middle 35 = .ok (.iconst 0, 1) := by decide +kernel
theorem d_Mo_middle_36 : decode b_Mo_middle 36 = .ok (.istore 4, 2) := by decide +kernel
theorem d_Mo_middle_38 : decode b_Mo_middle 38 = .ok (.iload 4, 2) := by decide +kernel
theorem d_Mo_middle_40 : decode b_Mo_middle 40 = .ok (.aload_n 0, 1) := by decide +kernel
theorem d_Mo_middle_41 : decode b_Mo_middle 41 = .ok (.getfield 13, 3) := by decide +kernel
theorem d_Mo_middle_44 : decode b_Mo_middle 44 = .ok (.iconst 0, 1) := by decide +kernel
theorem d_Mo_middle_45 : decode b_Mo_middle 45 = .ok (.iaload, 1) := by decide +kernel
theorem d_Mo_middle_46 : decode b_Mo_middle 46 = .ok (.if_icmp .ge 112, 3) := by decide +kernel
theorem d_Mo_middle_49 : decode b_Mo_middle 49 = .ok (.iload_n 2, 1) := by decide +kernel
theorem d_Mo_middle_50 : decode b_Mo_middle 50 = .ok (.iload 4, 2) := by decide +kernel
theorem d_Mo_middle_52 : decode b_Mo_middle 52 = .ok (.invokestatic 110, 3) := by decide +kernel
theorem d_Mo_middle_55 : decode b_Mo_middle 55 = .ok (.istore 5, 2) := by decide +kernel
theorem d_Mo_middle_57 : decode b_Mo_middle 57 = .ok (.iconst 0, 1) := by decide +kernel
theorem d_Mo_middle_58 : decode b_Mo_middle 58 = .ok (.istore 6, 2) := by decide +kernel
theorem d_Mo_middle_60 : decode b_Mo_middle 60 = .ok (.iload 6, 2) := by decide +kernel
theorem d_Mo_middle_62 : decode b_Mo_middle 62 = .ok (.aload_n 0, 1) := by decide +kernel
theorem d_Mo_middle_63 : decode b_Mo_middle 63 = .ok (.getfield 13, 3) := by decide +kernel
theorem d_Mo_middle_66 : decode b_Mo_middle 66 = .ok (.iconst 0, 1) := by decide +kernel
theorem d_Mo_middle_67 : decode b_Mo_middle 67 = .ok (.iaload, 1) := by decide +kernel
theorem d_Mo_middle_68 : decode b_Mo_middle 68 = .ok (.if_icmp .ge 66, 3) := by decide +kernel
theorem d_Mo_middle_71 : decode b_Mo_middle 71 = .ok (.iload 5, 2) := by decide +kernel
theorem d_Mo_middle_73 : decode b_Mo_middle 73 = .ok (.ifCond .eq 52, 3) := by decide +kernel
theorem d_Mo_middle_76 : decode b_Mo_middle 76 = .ok (.iload 6, 2) := by decide +kernel
theorem d_Mo_middle_78 : decode b_Mo_middle 78 = .ok (.iload 4, 2) := by decide +kernel
theorem d_Mo_middle_80 : decode b_Mo_middle 80 = .ok (.if_icmp .eq 41, 3) := by decide +kernel
theorem d_Mo_middle_83 : decode b_Mo_middle 83 = .ok (.iload_n 2, 1) := by decide +kernel
theorem d_Mo_middle_84 : decode b_Mo_middle 84 = .ok (.iload 6, 2) := by decide +kernel
theorem d_Mo_middle_86 : decode b_Mo_middle 86 = .ok (.invokestatic 110, 3) := by decide +kernel
theorem d_Mo_middle_89 : decode b_Mo_middle 89 = .ok (.ifCond .eq 32, 3) := by decide +kernel
theorem d_Mo_middle_92 : decode b_Mo_middle 92 = .ok (.aload_n 0, 1) := by decide +kernel
theorem d_Mo_middle_93 : decode b_Mo_middle 93 = .ok (.iload_n 3, 1) := by decide +kernel
theorem d_Mo_middle_94 : decode b_Mo_middle 94 = .ok (.iload 4, 2) := by decide +kernel
theorem d_Mo_middle_96 : decode b_Mo_middle 96 = .ok (.aload_n 0, 1) := by decide +kernel
theorem d_Mo_middle_97 : decode b_Mo_middle 97 = .ok (.getfield 19, 3) := by decide +kernel
theorem d_Mo_middle_100 : decode b_Mo_middle 100 = .ok (.iconst 0, 1) := by decide +kernel
theorem d_Mo_middle_101 : decode b_Mo_middle 101 = .ok (.iaload, 1) := by decide +kernel
theorem d_Mo_middle_102 : decode b_Mo_middle 102 = .ok (.invokevirtual 114, 3) := by decide +kernel
theorem d_Mo_middle_105 : decode b_Mo_middle 105 = .ok (.aload_n 0, 1) := by decide +kernel
theorem d_Mo_middle_106 : decode b_Mo_middle 106 = .ok (.iload_n 3, 1) := by decide +kernel
theorem d_Mo_middle_107 : decode b_Mo_middle 107 = .ok (.iload 6, 2) := by decide +kernel
theorem d_Mo_middle_109 : decode b_Mo_middle 109 = .ok (.aload_n 0, 1) := by decide +kernel
theorem d_Mo_middle_110 : decode b_Mo_middle 110 = .ok (.getfield 19, 3) := by decide +kernel
theorem d_Mo_middle_113 : decode b_Mo_middle 113 = .ok (.iconst 0, 1) := by decide +kernel
theorem d_Mo_middle_114 : decode b_Mo_middle 114 = .ok (.iaload, 1) := by decide +kernel
theorem d_Mo_middle_115 : decode b_Mo_middle 115 = .ok (.invokevirtual 114, 3) := by decide +kernel
theorem d_Mo_middle_118 : decode b_Mo_middle 118 = .ok (.if_icmp .ge 7, 3) := by decide +kernel
theorem d_Mo_middle_121 : decode b_Mo_middle 121 = .ok (.iconst 1, 1) := by decide +kernel
theorem d_Mo_middle_122 : decode b_Mo_middle 122 = .ok (.goto 4, 3) := by decide +kernel
theorem d_Mo_middle_125 : decode b_Mo_middle 125 = .ok (.iconst 0, 1) := by decide +kernel
theorem d_Mo_middle_126 : decode b_Mo_middle 126 = .ok (.istore 5, 2) := by decide +kernel
theorem d_Mo_middle_128 : decode b_Mo_middle 128 = .ok (.iinc 6 1, 3) := by decide +kernel
theorem d_Mo_middle_131 : decode b_Mo_middle 131 = .ok (.goto (-71), 3) := by decide +kernel
theorem d_Mo_middle_134 : decode b_Mo_middle 134 = .ok (.iload_n 1, 1) := by decide +kernel
theorem d_Mo_middle_135 : decode b_Mo_middle 135 = .ok (.iload 5, 2) := by decide +kernel
theorem d_Mo_middle_137 : decode b_Mo_middle 137 = .ok (.ifCond .eq 12, 3) := by decide +kernel
theorem d_Mo_middle_140 : decode b_Mo_middle 140 = .ok (.iconst 1, 1) := by decide +kernel
theorem d_Mo_middle_141 : decode b_Mo_middle 141 = .ok (.iload 4, 2) := by decide +kernel
theorem d_Mo_middle_143 : decode b_Mo_middle 143 = .ok (.ishl, 1) := by decide +kernel
theorem d_Mo_middle_144 : decode b_Mo_middle 144 = .ok (.iconst (-1), 1) := by decide +kernel
theorem d_Mo_middle_145 : decode b_Mo_middle 145 = .ok (.ixor, 1) := by decide +kernel
theorem d_Mo_middle_146 : decode b_Mo_middle 146 = .ok (.goto 4, 3) := by decide +kernel
theorem d_Mo_middle_149 : decode b_Mo_middle 149 = .ok (.iconst (-1), 1) := by decide +kernel
theorem d_Mo_middle_150 : decode b_Mo_middle 150 = .ok (.iand, 1) := by decide +kernel
theorem d_Mo_middle_151 : decode b_Mo_middle 151 = .ok (.istore_n 1, 1) := by decide +kernel
theorem d_Mo_middle_152 : decode b_Mo_middle 152 = .ok (.iinc 4 1, 3) := by decide +kernel
theorem d_Mo_middle_155 : decode b_Mo_middle 155 = .ok (.goto (-117), 3) := by decide +kernel
theorem d_Mo_middle_158 : decode b_Mo_middle 158 = .ok (.iinc 3 1, 3) := by decide +kernel
theorem d_Mo_middle_161 : decode b_Mo_middle 161 = .ok (.goto (-136), 3) := by decide +kernel
theorem d_Mo_middle_164 : decode b_Mo_middle 164 = .ok (.iload_n 1, 1) := by decide +kernel
theorem d_Mo_middle_165 : decode b_Mo_middle 165 = .ok (.ireturn, 1) := by decide +kernel
theorem d_Mo_struck_0 : decode b_Mo_struck 0 = .ok (.aload_n 0, 1) := by decide +kernel
theorem d_Mo_struck_1 : decode b_Mo_struck 1 = .ok (.iload_n 1, 1) := by decide +kernel
theorem d_Mo_struck_2 : decode b_Mo_struck 2 = .ok (.invokevirtual 127, 3) := by decide +kernel
theorem d_Mo_struck_5 : decode b_Mo_struck 5 = .ok (.ifCond .ne 5, 3) := by decide +kernel
theorem d_Mo_struck_8 : decode b_Mo_struck 8 = .ok (.iconst (-1), 1) := by decide +kernel
theorem d_Mo_struck_9 : decode b_Mo_struck 9 = .ok (.ireturn, 1) := by decide +kernel
theorem d_Mo_struck_10 : decode b_Mo_struck 10 = .ok (.aload_n 0, 1) := by decide +kernel
theorem d_Mo_struck_11 : decode b_Mo_struck 11 = .ok (.aload_n 0, 1) := by decide +kernel
theorem d_Mo_struck_12 : decode b_Mo_struck 12 = .ok (.getfield 19, 3) := by decide +kernel
theorem d_Mo_struck_15 : decode b_Mo_struck 15 = .ok (.iconst 1, 1) := by decide +kernel
theorem d_Mo_struck_16 : decode b_Mo_struck 16 = .ok (.iaload, 1) := by decide +kernel
theorem d_Mo_struck_17 : decode b_Mo_struck 17 = .ok (.invokevirtual 118, 3) := by decide +kernel
theorem d_Mo_struck_20 : decode b_Mo_struck 20 = .ok (.istore_n 2, 1) := by decide +kernel
theorem d_Mo_struck_21 : decode b_Mo_struck 21 = .ok (.iload_n 1, 1) := by decide +kernel
theorem d_Mo_struck_22 : decode b_Mo_struck 22 = .ok (.istore_n 3, 1) := by decide +kernel
theorem d_Mo_struck_23 : decode b_Mo_struck 23 = .ok (.iload_n 2, 1) := by decide +kernel
theorem d_Mo_struck_24 : decode b_Mo_struck 24 = .ok (.invokestatic 142, 3) := by decide +kernel
theorem d_Mo_struck_27 : decode b_Mo_struck 27 = .ok (.iconst 1, 1) := by decide +kernel
theorem d_Mo_struck_28 : decode b_Mo_struck 28 = .ok (.if_icmp .le 36, 3) := by decide +kernel
theorem d_Mo_struck_31 : decode b_Mo_struck 31 = .ok (.iload_n 2, 1) := by decide +kernel
theorem d_Mo_struck_32 : decode b_Mo_struck 32 = .ok (.iconst 1, 1) := by decide +kernel
theorem d_Mo_struck_33 : decode b_Mo_struck 33 = .ok (.aload_n 0, 1) := by decide +kernel
theorem d_Mo_struck_34 : decode b_Mo_struck 34 = .ok (.iload_n 3, 1) := by decide +kernel
theorem d_Mo_struck_35 : decode b_Mo_struck 35 = .ok (.iload_n 2, 1) := by decide +kernel
theorem d_Mo_struck_36 : decode b_Mo_struck 36 = .ok (.aload_n 0, 1) := by decide +kernel
theorem d_Mo_struck_37 : decode b_Mo_struck 37 = .ok (.getfield 19, 3) := by decide +kernel
theorem d_Mo_struck_40 : decode b_Mo_struck 40 = .ok (.iconst 0, 1) := by decide +kernel
theorem d_Mo_struck_41 : decode b_Mo_struck 41 = .ok (.iaload, 1) := by decide +kernel
theorem d_Mo_struck_42 : decode b_Mo_struck 42 = .ok (.invokevirtual 161, 3) := by decide +kernel
theorem d_Mo_struck_45 : decode b_Mo_struck 45 = .ok (.ishl, 1) := by decide +kernel
theorem d_Mo_struck_46 : decode b_Mo_struck 46 = .ok (.iconst (-1), 1) := by decide +kernel
theorem d_Mo_struck_47 : decode b_Mo_struck 47 = .ok (.ixor, 1) := by decide +kernel
theorem d_Mo_struck_48 : decode b_Mo_struck 48 = .ok (.iand, 1) := by decide +kernel
theorem d_Mo_struck_49 : decode b_Mo_struck 49 = .ok (.istore_n 2, 1) := by decide +kernel
theorem d_Mo_struck_50 : decode b_Mo_struck 50 = .ok (.iload_n 3, 1) := by decide +kernel
theorem d_Mo_struck_51 : decode b_Mo_struck 51 = .ok (.iconst 1, 1) := by decide +kernel
theorem d_Mo_struck_52 : decode b_Mo_struck 52 = .ok (.iadd, 1) := by decide +kernel
theorem d_Mo_struck_53 : decode b_Mo_struck 53 = .ok (.aload_n 0, 1) := by decide +kernel
theorem d_Mo_struck_54 : decode b_Mo_struck 54 = .ok (.getfield 13, 3) := by decide +kernel
theorem d_Mo_struck_57 : decode b_Mo_struck 57 = .ok (.iconst 1, 1) := by decide +kernel
theorem d_Mo_struck_58 : decode b_Mo_struck 58 = .ok (.iaload, 1) := by decide +kernel
theorem d_Mo_struck_59 : decode b_Mo_struck 59 = .ok (.irem, 1) := by decide +kernel
theorem d_Mo_struck_60 : decode b_Mo_struck 60 = .ok (.istore_n 3, 1) := by decide +kernel
theorem d_Mo_struck_61 : decode b_Mo_struck 61 = .ok (.goto (-38), 3) := by decide +kernel
theorem d_Mo_struck_64 : decode b_Mo_struck 64 = .ok (.aload_n 0, 1) := by decide +kernel
theorem d_Mo_struck_65 : decode b_Mo_struck 65 = .ok (.iload_n 1, 1) := by decide +kernel
theorem d_Mo_struck_66 : decode b_Mo_struck 66 = .ok (.iload_n 2, 1) := by decide +kernel
theorem d_Mo_struck_67 : decode b_Mo_struck 67 = .ok (.aload_n 0, 1) := by decide +kernel
theorem d_Mo_struck_68 : decode b_Mo_struck 68 = .ok (.getfield 19, 3) := by decide +kernel
theorem d_Mo_struck_71 : decode b_Mo_struck 71 = .ok (.iconst 0, 1) := by decide +kernel
theorem d_Mo_struck_72 : decode b_Mo_struck 72 = .ok (.iaload, 1) := by decide +kernel
theorem d_Mo_struck_73 : decode b_Mo_struck 73 = .ok (.invokevirtual 161, 3) := by decide +kernel
theorem d_Mo_struck_76 : decode b_Mo_struck 76 = .ok (.ireturn, 1) := by decide +kernel
theorem d_Mo_both_0 : decode b_Mo_both 0 = .ok (.iconst 0, 1) := by decide +kernel
theorem d_Mo_both_1 : decode b_Mo_both 1 = .ok (.istore_n 3, 1) := by decide +kernel
theorem d_Mo_both_2 : decode b_Mo_both 2 = .ok (.iconst 0, 1) := by decide +kernel
theorem d_Mo_both_3 : decode b_Mo_both 3 = .ok (.istore 4, 2) := by decide +kernel
theorem d_Mo_both_5 : decode b_Mo_both 5 = .ok (.iload 4, 2) := by decide +kernel
theorem d_Mo_both_7 : decode b_Mo_both 7 = .ok (.aload_n 0, 1) := by decide +kernel
theorem d_Mo_both_8 : decode b_Mo_both 8 = .ok (.getfield 13, 3) := by decide +kernel
theorem d_Mo_both_11 : decode b_Mo_both 11 = .ok (.iconst 1, 1) := by decide +kernel
theorem d_Mo_both_12 : decode b_Mo_both 12 = .ok (.iaload, 1) := by decide +kernel
theorem d_Mo_both_13 : decode b_Mo_both 13 = .ok (.if_icmp .ge 56, 3) := by decide +kernel
theorem d_Mo_both_16 : decode b_Mo_both 16 = .ok (.aload_n 0, 1) := by decide +kernel
theorem d_Mo_both_17 : decode b_Mo_both 17 = .ok (.iload 4, 2) := by decide +kernel
theorem d_Mo_both_19 : decode b_Mo_both 19 = .ok (.iload_n 1, 1) := by decide +kernel
theorem d_Mo_both_20 : decode b_Mo_both 20 = .ok (.aload_n 0, 1) := by decide +kernel
theorem d_Mo_both_21 : decode b_Mo_both 21 = .ok (.getfield 19, 3) := by decide +kernel
theorem d_Mo_both_24 : decode b_Mo_both 24 = .ok (.iconst 0, 1) := by decide +kernel
theorem d_Mo_both_25 : decode b_Mo_both 25 = .ok (.iaload, 1) := by decide +kernel
theorem d_Mo_both_26 : decode b_Mo_both 26 = .ok (.invokevirtual 114, 3) := by decide +kernel
theorem d_Mo_both_29 : decode b_Mo_both 29 = .ok (.istore 5, 2) := by decide +kernel
theorem d_Mo_both_31 : decode b_Mo_both 31 = .ok (.aload_n 0, 1) := by decide +kernel
theorem d_Mo_both_32 : decode b_Mo_both 32 = .ok (.iload 4, 2) := by decide +kernel
theorem d_Mo_both_34 : decode b_Mo_both 34 = .ok (.iload_n 2, 1) := by decide +kernel
theorem d_Mo_both_35 : decode b_Mo_both 35 = .ok (.aload_n 0, 1) := by decide +kernel
theorem d_Mo_both_36 : decode b_Mo_both 36 = .ok (.getfield 19, 3) := by decide +kernel
theorem d_Mo_both_39 : decode b_Mo_both 39 = .ok (.iconst 0, 1) := by decide +kernel
theorem d_Mo_both_40 : decode b_Mo_both 40 = .ok (.iaload, 1) := by decide +kernel
theorem d_Mo_both_41 : decode b_Mo_both 41 = .ok (.invokevirtual 114, 3) := by decide +kernel
theorem d_Mo_both_44 : decode b_Mo_both 44 = .ok (.istore 6, 2) := by decide +kernel
theorem d_Mo_both_46 : decode b_Mo_both 46 = .ok (.iload_n 3, 1) := by decide +kernel
theorem d_Mo_both_47 : decode b_Mo_both 47 = .ok (.iload 5, 2) := by decide +kernel
theorem d_Mo_both_49 : decode b_Mo_both 49 = .ok (.iload 6, 2) := by decide +kernel
theorem d_Mo_both_51 : decode b_Mo_both 51 = .ok (.if_icmp .le 8, 3) := by decide +kernel
theorem d_Mo_both_54 : decode b_Mo_both 54 = .ok (.iload 5, 2) := by decide +kernel
theorem d_Mo_both_56 : decode b_Mo_both 56 = .ok (.goto 5, 3) := by decide +kernel
theorem d_Mo_both_59 : decode b_Mo_both 59 = .ok (.iload 6, 2) := by decide +kernel
theorem d_Mo_both_61 : decode b_Mo_both 61 = .ok (.iadd, 1) := by decide +kernel
theorem d_Mo_both_62 : decode b_Mo_both 62 = .ok (.istore_n 3, 1) := by decide +kernel
theorem d_Mo_both_63 : decode b_Mo_both 63 = .ok (.iinc 4 1, 3) := by decide +kernel
theorem d_Mo_both_66 : decode b_Mo_both 66 = .ok (.goto (-61), 3) := by decide +kernel
theorem d_Mo_both_69 : decode b_Mo_both 69 = .ok (.iload_n 3, 1) := by decide +kernel
theorem d_Mo_both_70 : decode b_Mo_both 70 = .ok (.ireturn, 1) := by decide +kernel
theorem d_Mo_bestTwo_0 : decode b_Mo_bestTwo 0 = .ok (.bipush (-4), 2) := by decide +kernel
theorem d_Mo_bestTwo_2 : decode b_Mo_bestTwo 2 = .ok (.istore_n 1, 1) := by decide +kernel
theorem d_Mo_bestTwo_3 : decode b_Mo_bestTwo 3 = .ok (.bipush (-4), 2) := by decide +kernel
theorem d_Mo_bestTwo_5 : decode b_Mo_bestTwo 5 = .ok (.istore_n 2, 1) := by decide +kernel
theorem d_Mo_bestTwo_6 : decode b_Mo_bestTwo 6 = .ok (.iconst 0, 1) := by decide +kernel
theorem d_Mo_bestTwo_7 : decode b_Mo_bestTwo 7 = .ok (.istore_n 3, 1) := by decide +kernel
theorem d_Mo_bestTwo_8 : decode b_Mo_bestTwo 8 = .ok (.iload_n 3, 1) := by decide +kernel
theorem d_Mo_bestTwo_9 : decode b_Mo_bestTwo 9 = .ok (.bipush 64, 2) := by decide +kernel
theorem d_Mo_bestTwo_11 : decode b_Mo_bestTwo 11 = .ok (.if_icmp .ge 86, 3) := by decide +kernel
theorem d_Mo_bestTwo_14 : decode b_Mo_bestTwo 14 = .ok (.iload_n 3, 1) := by decide +kernel
theorem d_Mo_bestTwo_15 : decode b_Mo_bestTwo 15 = .ok (.bipush 8, 2) := by decide +kernel
theorem d_Mo_bestTwo_17 : decode b_Mo_bestTwo 17 = .ok (.idiv, 1) := by decide +kernel
theorem d_Mo_bestTwo_18 : decode b_Mo_bestTwo 18 = .ok (.istore 4, 2) := by decide +kernel
theorem d_Mo_bestTwo_20 : decode b_Mo_bestTwo 20 = .ok (.iload_n 3, 1) := by decide +kernel
theorem d_Mo_bestTwo_21 : decode b_Mo_bestTwo 21 = .ok (.bipush 8, 2) := by decide +kernel
theorem d_Mo_bestTwo_23 : decode b_Mo_bestTwo 23 = .ok (.irem, 1) := by decide +kernel
theorem d_Mo_bestTwo_24 : decode b_Mo_bestTwo 24 = .ok (.istore 5, 2) := by decide +kernel
theorem d_Mo_bestTwo_26 : decode b_Mo_bestTwo 26 = .ok (.iload 4, 2) := by decide +kernel
theorem d_Mo_bestTwo_28 : decode b_Mo_bestTwo 28 = .ok (.iload 5, 2) := by decide +kernel
theorem d_Mo_bestTwo_30 : decode b_Mo_bestTwo 30 = .ok (.if_icmp .ge 32, 3) := by decide +kernel
theorem d_Mo_bestTwo_33 : decode b_Mo_bestTwo 33 = .ok (.aload_n 0, 1) := by decide +kernel
theorem d_Mo_bestTwo_34 : decode b_Mo_bestTwo 34 = .ok (.iload 4, 2) := by decide +kernel
theorem d_Mo_bestTwo_36 : decode b_Mo_bestTwo 36 = .ok (.invokevirtual 154, 3) := by decide +kernel
theorem d_Mo_bestTwo_39 : decode b_Mo_bestTwo 39 = .ok (.ifCond .eq 23, 3) := by decide +kernel
theorem d_Mo_bestTwo_42 : decode b_Mo_bestTwo 42 = .ok (.aload_n 0, 1) := by decide +kernel
theorem d_Mo_bestTwo_43 : decode b_Mo_bestTwo 43 = .ok (.iload 5, 2) := by decide +kernel
theorem d_Mo_bestTwo_45 : decode b_Mo_bestTwo 45 = .ok (.invokevirtual 154, 3) := by decide +kernel
theorem d_Mo_bestTwo_48 : decode b_Mo_bestTwo 48 = .ok (.ifCond .eq 14, 3) := by decide +kernel
theorem d_Mo_bestTwo_51 : decode b_Mo_bestTwo 51 = .ok (.aload_n 0, 1) := by decide +kernel
theorem d_Mo_bestTwo_52 : decode b_Mo_bestTwo 52 = .ok (.iload 4, 2) := by decide +kernel
theorem d_Mo_bestTwo_54 : decode b_Mo_bestTwo 54 = .ok (.iload 5, 2) := by decide +kernel
theorem d_Mo_bestTwo_56 : decode b_Mo_bestTwo 56 = .ok (.invokevirtual 164, 3) := by decide +kernel
theorem d_Mo_bestTwo_59 : decode b_Mo_bestTwo 59 = .ok (.goto 5, 3) := by decide +kernel
theorem d_Mo_bestTwo_62 : decode b_Mo_bestTwo 62 = .ok (.bipush (-4), 2) := by decide +kernel
theorem d_Mo_bestTwo_64 : decode b_Mo_bestTwo 64 = .ok (.istore 6, 2) := by decide +kernel
theorem d_Mo_bestTwo_66 : decode b_Mo_bestTwo 66 = .ok (.iload 6, 2) := by decide +kernel
theorem d_Mo_bestTwo_68 : decode b_Mo_bestTwo 68 = .ok (.iload_n 2, 1) := by decide +kernel
theorem d_Mo_bestTwo_69 : decode b_Mo_bestTwo 69 = .ok (.if_icmp .le 7, 3) := by decide +kernel
theorem d_Mo_bestTwo_72 : decode b_Mo_bestTwo 72 = .ok (.iload_n 3, 1) := by decide +kernel
theorem d_Mo_bestTwo_73 : decode b_Mo_bestTwo 73 = .ok (.goto 4, 3) := by decide +kernel
theorem d_Mo_bestTwo_76 : decode b_Mo_bestTwo 76 = .ok (.iload_n 1, 1) := by decide +kernel
theorem d_Mo_bestTwo_77 : decode b_Mo_bestTwo 77 = .ok (.istore_n 1, 1) := by decide +kernel
theorem d_Mo_bestTwo_78 : decode b_Mo_bestTwo 78 = .ok (.iload 6, 2) := by decide +kernel
theorem d_Mo_bestTwo_80 : decode b_Mo_bestTwo 80 = .ok (.iload_n 2, 1) := by decide +kernel
theorem d_Mo_bestTwo_81 : decode b_Mo_bestTwo 81 = .ok (.if_icmp .le 8, 3) := by decide +kernel
theorem d_Mo_bestTwo_84 : decode b_Mo_bestTwo 84 = .ok (.iload 6, 2) := by decide +kernel
theorem d_Mo_bestTwo_86 : decode b_Mo_bestTwo 86 = .ok (.goto 4, 3) := by decide +kernel
theorem d_Mo_bestTwo_89 : decode b_Mo_bestTwo 89 = .ok (.iload_n 2, 1) := by decide +kernel
theorem d_Mo_bestTwo_90 : decode b_Mo_bestTwo 90 = .ok (.istore_n 2, 1) := by decide +kernel
theorem d_Mo_bestTwo_91 : decode b_Mo_bestTwo 91 = .ok (.iinc 3 1, 3) := by decide +kernel
theorem d_Mo_bestTwo_94 : decode b_Mo_bestTwo 94 = .ok (.goto (-86), 3) := by decide +kernel
theorem d_Mo_bestTwo_97 : decode b_Mo_bestTwo 97 = .ok (.iload_n 1, 1) := by decide +kernel
theorem d_Mo_bestTwo_98 : decode b_Mo_bestTwo 98 = .ok (.ireturn, 1) := by decide +kernel
theorem d_Mo_two_0 : decode b_Mo_two 0 = .ok (.iload_n 1, 1) := by decide +kernel
theorem d_Mo_two_1 : decode b_Mo_two 1 = .ok (.i2l, 1) := by decide +kernel
theorem d_Mo_two_2 : decode b_Mo_two 2 = .ok (.lconst 0, 1) := by decide +kernel
theorem d_Mo_two_3 : decode b_Mo_two 3 = .ok (.lconst 1, 1) := by decide +kernel
theorem d_Mo_two_4 : decode b_Mo_two 4 = .ok (.invokestatic 55, 3) := by decide +kernel
theorem d_Mo_two_7 : decode b_Mo_two 7 = .ok (.ifCond .ne 5, 3) := by decide +kernel
theorem d_Mo_two_10 : decode b_Mo_two 10 = .ok (.iconst (-1), 1) := by decide +kernel
theorem d_Mo_two_11 : decode b_Mo_two 11 = .ok (.ireturn, 1) := by decide +kernel
theorem d_Mo_two_12 : decode b_Mo_two 12 = .ok (.aload_n 0, 1) := by decide +kernel
theorem d_Mo_two_13 : decode b_Mo_two 13 = .ok (.invokevirtual 167, 3) := by decide +kernel
theorem d_Mo_two_16 : decode b_Mo_two 16 = .ok (.istore_n 2, 1) := by decide +kernel
theorem d_Mo_two_17 : decode b_Mo_two 17 = .ok (.iload_n 2, 1) := by decide +kernel
theorem d_Mo_two_18 : decode b_Mo_two 18 = .ok (.ifCond .lt 7, 3) := by decide +kernel
theorem d_Mo_two_21 : decode b_Mo_two 21 = .ok (.iload_n 1, 1) := by decide +kernel
theorem d_Mo_two_22 : decode b_Mo_two 22 = .ok (.ifCond .ne 7, 3) := by decide +kernel
theorem d_Mo_two_25 : decode b_Mo_two 25 = .ok (.iload_n 2, 1) := by decide +kernel
theorem d_Mo_two_26 : decode b_Mo_two 26 = .ok (.goto 15, 3) := by decide +kernel
theorem d_Mo_two_29 : decode b_Mo_two 29 = .ok (.aload_n 0, 1) := by decide +kernel
theorem d_Mo_two_30 : decode b_Mo_two 30 = .ok (.iload_n 2, 1) := by decide +kernel
theorem d_Mo_two_31 : decode b_Mo_two 31 = .ok (.bipush 8, 2) := by decide +kernel
theorem d_Mo_two_33 : decode b_Mo_two 33 = .ok (.idiv, 1) := by decide +kernel
theorem d_Mo_two_34 : decode b_Mo_two 34 = .ok (.iload_n 2, 1) := by decide +kernel
theorem d_Mo_two_35 : decode b_Mo_two 35 = .ok (.bipush 8, 2) := by decide +kernel
theorem d_Mo_two_37 : decode b_Mo_two 37 = .ok (.irem, 1) := by decide +kernel
theorem d_Mo_two_38 : decode b_Mo_two 38 = .ok (.invokevirtual 164, 3) := by decide +kernel
theorem d_Mo_two_41 : decode b_Mo_two 41 = .ok (.ireturn, 1) := by decide +kernel
theorem d_Mo_houses_0 : decode b_Mo_houses 0 = .ok (.iload_n 1, 1) := by decide +kernel
theorem d_Mo_houses_1 : decode b_Mo_houses 1 = .ok (.i2l, 1) := by decide +kernel
theorem d_Mo_houses_2 : decode b_Mo_houses 2 = .ok (.lconst 0, 1) := by decide +kernel
theorem d_Mo_houses_3 : decode b_Mo_houses 3 = .ok (.ldc2_w 170, 3) := by decide +kernel
theorem d_Mo_houses_6 : decode b_Mo_houses 6 = .ok (.invokestatic 55, 3) := by decide +kernel
theorem d_Mo_houses_9 : decode b_Mo_houses 9 = .ok (.ifCond .ne 5, 3) := by decide +kernel
theorem d_Mo_houses_12 : decode b_Mo_houses 12 = .ok (.iconst (-1), 1) := by decide +kernel
theorem d_Mo_houses_13 : decode b_Mo_houses 13 = .ok (.ireturn, 1) := by decide +kernel
theorem d_Mo_houses_14 : decode b_Mo_houses 14 = .ok (.aload_n 0, 1) := by decide +kernel
theorem d_Mo_houses_15 : decode b_Mo_houses 15 = .ok (.invokevirtual 167, 3) := by decide +kernel
theorem d_Mo_houses_18 : decode b_Mo_houses 18 = .ok (.istore_n 2, 1) := by decide +kernel
theorem d_Mo_houses_19 : decode b_Mo_houses 19 = .ok (.iload_n 2, 1) := by decide +kernel
theorem d_Mo_houses_20 : decode b_Mo_houses 20 = .ok (.ifCond .lt 29, 3) := by decide +kernel
theorem d_Mo_houses_23 : decode b_Mo_houses 23 = .ok (.aload_n 0, 1) := by decide +kernel
theorem d_Mo_houses_24 : decode b_Mo_houses 24 = .ok (.iload_n 2, 1) := by decide +kernel
theorem d_Mo_houses_25 : decode b_Mo_houses 25 = .ok (.bipush 8, 2) := by decide +kernel
theorem d_Mo_houses_27 : decode b_Mo_houses 27 = .ok (.idiv, 1) := by decide +kernel
theorem d_Mo_houses_28 : decode b_Mo_houses 28 = .ok (.iload_n 2, 1) := by decide +kernel
theorem d_Mo_houses_29 : decode b_Mo_houses 29 = .ok (.bipush 8, 2) := by decide +kernel
theorem d_Mo_houses_31 : decode b_Mo_houses 31 = .ok (.irem, 1) := by decide +kernel
theorem d_Mo_houses_32 : decode b_Mo_houses 32 = .ok (.invokevirtual 164, 3) := by decide +kernel
theorem d_Mo_houses_35 : decode b_Mo_houses 35 = .ok (.iload_n 1, 1) := by decide +kernel
theorem d_Mo_houses_36 : decode b_Mo_houses 36 = .ok (.isub, 1) := by decide +kernel
theorem d_Mo_houses_37 : decode b_Mo_houses 37 = .ok (.aload_n 0, 1) := by decide +kernel
theorem d_Mo_houses_38 : decode b_Mo_houses 38 = .ok (.iconst 1, 1) := by decide +kernel
theorem d_Mo_houses_39 : decode b_Mo_houses 39 = .ok (.invokevirtual 172, 3) := by decide +kernel
theorem d_Mo_houses_42 : decode b_Mo_houses 42 = .ok (.if_icmp .le 7, 3) := by decide +kernel
theorem d_Mo_houses_45 : decode b_Mo_houses 45 = .ok (.iconst 1, 1) := by decide +kernel
theorem d_Mo_houses_46 : decode b_Mo_houses 46 = .ok (.goto 4, 3) := by decide +kernel
theorem d_Mo_houses_49 : decode b_Mo_houses 49 = .ok (.iconst 2, 1) := by decide +kernel
theorem d_Mo_houses_50 : decode b_Mo_houses 50 = .ok (.ireturn, 1) := by decide +kernel
theorem d_Mo_waits_0 : decode b_Mo_waits 0 = .ok (.aload_n 0, 1) := by decide +kernel
theorem d_Mo_waits_1 : decode b_Mo_waits 1 = .ok (.iload_n 1, 1) := by decide +kernel
theorem d_Mo_waits_2 : decode b_Mo_waits 2 = .ok (.invokevirtual 134, 3) := by decide +kernel
theorem d_Mo_waits_5 : decode b_Mo_waits 5 = .ok (.ifCond .eq 13, 3) := by decide +kernel
theorem d_Mo_waits_8 : decode b_Mo_waits 8 = .ok (.iload_n 2, 1) := by decide +kernel
theorem d_Mo_waits_9 : decode b_Mo_waits 9 = .ok (.i2l, 1) := by decide +kernel
theorem d_Mo_waits_10 : decode b_Mo_waits 10 = .ok (.lconst 0, 1) := by decide +kernel
theorem d_Mo_waits_11 : decode b_Mo_waits 11 = .ok (.lconst 1, 1) := by decide +kernel
theorem d_Mo_waits_12 : decode b_Mo_waits 12 = .ok (.invokestatic 55, 3) := by decide +kernel
theorem d_Mo_waits_15 : decode b_Mo_waits 15 = .ok (.ifCond .ne 5, 3) := by decide +kernel
theorem d_Mo_waits_18 : decode b_Mo_waits 18 = .ok (.iconst (-1), 1) := by decide +kernel
theorem d_Mo_waits_19 : decode b_Mo_waits 19 = .ok (.ireturn, 1) := by decide +kernel
theorem d_Mo_waits_20 : decode b_Mo_waits 20 = .ok (.bipush (-4), 2) := by decide +kernel
theorem d_Mo_waits_22 : decode b_Mo_waits 22 = .ok (.istore_n 3, 1) := by decide +kernel
theorem d_Mo_waits_23 : decode b_Mo_waits 23 = .ok (.bipush (-4), 2) := by decide +kernel
theorem d_Mo_waits_25 : decode b_Mo_waits 25 = .ok (.istore 4, 2) := by decide +kernel
theorem d_Mo_waits_27 : decode b_Mo_waits 27 = .ok (.aload_n 0, 1) := by decide +kernel
theorem d_Mo_waits_28 : decode b_Mo_waits 28 = .ok (.getfield 19, 3) := by decide +kernel
theorem d_Mo_waits_31 : decode b_Mo_waits 31 = .ok (.iconst 0, 1) := by decide +kernel
theorem d_Mo_waits_32 : decode b_Mo_waits 32 = .ok (.iaload, 1) := by decide +kernel
theorem d_Mo_waits_33 : decode b_Mo_waits 33 = .ok (.istore 5, 2) := by decide +kernel
theorem d_Mo_waits_35 : decode b_Mo_waits 35 = .ok (.iload 5, 2) := by decide +kernel
theorem d_Mo_waits_37 : decode b_Mo_waits 37 = .ok (.bipush 100, 2) := by decide +kernel
theorem d_Mo_waits_39 : decode b_Mo_waits 39 = .ok (.if_icmp .ge 65, 3) := by decide +kernel
theorem d_Mo_waits_42 : decode b_Mo_waits 42 = .ok (.aload_n 0, 1) := by decide +kernel
theorem d_Mo_waits_43 : decode b_Mo_waits 43 = .ok (.iload_n 1, 1) := by decide +kernel
theorem d_Mo_waits_44 : decode b_Mo_waits 44 = .ok (.iload 5, 2) := by decide +kernel
theorem d_Mo_waits_46 : decode b_Mo_waits 46 = .ok (.invokevirtual 145, 3) := by decide +kernel
theorem d_Mo_waits_49 : decode b_Mo_waits 49 = .ok (.ifCond .eq 15, 3) := by decide +kernel
theorem d_Mo_waits_52 : decode b_Mo_waits 52 = .ok (.aload_n 0, 1) := by decide +kernel
theorem d_Mo_waits_53 : decode b_Mo_waits 53 = .ok (.iload_n 1, 1) := by decide +kernel
theorem d_Mo_waits_54 : decode b_Mo_waits 54 = .ok (.iload 5, 2) := by decide +kernel
theorem d_Mo_waits_56 : decode b_Mo_waits 56 = .ok (.bipush (-4), 2) := by decide +kernel
theorem d_Mo_waits_58 : decode b_Mo_waits 58 = .ok (.invokevirtual 124, 3) := by decide +kernel
theorem d_Mo_waits_61 : decode b_Mo_waits 61 = .ok (.goto 5, 3) := by decide +kernel
theorem d_Mo_waits_64 : decode b_Mo_waits 64 = .ok (.bipush (-4), 2) := by decide +kernel
theorem d_Mo_waits_66 : decode b_Mo_waits 66 = .ok (.istore 6, 2) := by decide +kernel
theorem d_Mo_waits_68 : decode b_Mo_waits 68 = .ok (.iload 6, 2) := by decide +kernel
theorem d_Mo_waits_70 : decode b_Mo_waits 70 = .ok (.iload 4, 2) := by decide +kernel
theorem d_Mo_waits_72 : decode b_Mo_waits 72 = .ok (.if_icmp .le 8, 3) := by decide +kernel
theorem d_Mo_waits_75 : decode b_Mo_waits 75 = .ok (.iload 5, 2) := by decide +kernel
theorem d_Mo_waits_77 : decode b_Mo_waits 77 = .ok (.goto 4, 3) := by decide +kernel
theorem d_Mo_waits_80 : decode b_Mo_waits 80 = .ok (.iload_n 3, 1) := by decide +kernel
theorem d_Mo_waits_81 : decode b_Mo_waits 81 = .ok (.istore_n 3, 1) := by decide +kernel
theorem d_Mo_waits_82 : decode b_Mo_waits 82 = .ok (.iload 6, 2) := by decide +kernel
theorem d_Mo_waits_84 : decode b_Mo_waits 84 = .ok (.iload 4, 2) := by decide +kernel
theorem d_Mo_waits_86 : decode b_Mo_waits 86 = .ok (.if_icmp .le 8, 3) := by decide +kernel
theorem d_Mo_waits_89 : decode b_Mo_waits 89 = .ok (.iload 6, 2) := by decide +kernel
theorem d_Mo_waits_91 : decode b_Mo_waits 91 = .ok (.goto 5, 3) := by decide +kernel
theorem d_Mo_waits_94 : decode b_Mo_waits 94 = .ok (.iload 4, 2) := by decide +kernel
theorem d_Mo_waits_96 : decode b_Mo_waits 96 = .ok (.istore 4, 2) := by decide +kernel
theorem d_Mo_waits_98 : decode b_Mo_waits 98 = .ok (.iinc 5 1, 3) := by decide +kernel
theorem d_Mo_waits_101 : decode b_Mo_waits 101 = .ok (.goto (-66), 3) := by decide +kernel
theorem d_Mo_waits_104 : decode b_Mo_waits 104 = .ok (.iload_n 2, 1) := by decide +kernel
theorem d_Mo_waits_105 : decode b_Mo_waits 105 = .ok (.ifCond .ne 7, 3) := by decide +kernel
theorem d_Mo_waits_108 : decode b_Mo_waits 108 = .ok (.iload_n 3, 1) := by decide +kernel
theorem d_Mo_waits_109 : decode b_Mo_waits 109 = .ok (.goto 5, 3) := by decide +kernel
theorem d_Mo_waits_112 : decode b_Mo_waits 112 = .ok (.iload 4, 2) := by decide +kernel
theorem d_Mo_waits_114 : decode b_Mo_waits 114 = .ok (.ireturn, 1) := by decide +kernel
theorem d_Mo_heard_0 : decode b_Mo_heard 0 = .ok (.aload_n 0, 1) := by decide +kernel
theorem d_Mo_heard_1 : decode b_Mo_heard 1 = .ok (.iload_n 1, 1) := by decide +kernel
theorem d_Mo_heard_2 : decode b_Mo_heard 2 = .ok (.invokevirtual 127, 3) := by decide +kernel
theorem d_Mo_heard_5 : decode b_Mo_heard 5 = .ok (.ifCond .eq 21, 3) := by decide +kernel
theorem d_Mo_heard_8 : decode b_Mo_heard 8 = .ok (.aload_n 0, 1) := by decide +kernel
theorem d_Mo_heard_9 : decode b_Mo_heard 9 = .ok (.iload_n 2, 1) := by decide +kernel
theorem d_Mo_heard_10 : decode b_Mo_heard 10 = .ok (.invokevirtual 134, 3) := by decide +kernel
theorem d_Mo_heard_13 : decode b_Mo_heard 13 = .ok (.ifCond .eq 13, 3) := by decide +kernel
theorem d_Mo_heard_16 : decode b_Mo_heard 16 = .ok (.iload_n 3, 1) := by decide +kernel
theorem d_Mo_heard_17 : decode b_Mo_heard 17 = .ok (.i2l, 1) := by decide +kernel
theorem d_Mo_heard_18 : decode b_Mo_heard 18 = .ok (.lconst 0, 1) := by decide +kernel
theorem d_Mo_heard_19 : decode b_Mo_heard 19 = .ok (.lconst 1, 1) := by decide +kernel
theorem d_Mo_heard_20 : decode b_Mo_heard 20 = .ok (.invokestatic 55, 3) := by decide +kernel
theorem d_Mo_heard_23 : decode b_Mo_heard 23 = .ok (.ifCond .ne 5, 3) := by decide +kernel
theorem d_Mo_heard_26 : decode b_Mo_heard 26 = .ok (.iconst (-1), 1) := by decide +kernel
theorem d_Mo_heard_27 : decode b_Mo_heard 27 = .ok (.ireturn, 1) := by decide +kernel
theorem d_Mo_heard_28 : decode b_Mo_heard 28 = .ok (.aload_n 0, 1) := by decide +kernel
theorem d_Mo_heard_29 : decode b_Mo_heard 29 = .ok (.getfield 101, 3) := by decide +kernel
theorem d_Mo_heard_32 : decode b_Mo_heard 32 = .ok (.bipush 8, 2) := by decide +kernel
theorem d_Mo_heard_34 : decode b_Mo_heard 34 = .ok (.if_icmp .ne 6, 3) := by decide +kernel
theorem d_Mo_heard_37 : decode b_Mo_heard 37 = .ok (.bipush (-3), 2) := by decide +kernel
theorem d_Mo_heard_39 : decode b_Mo_heard 39 = .ok (.ireturn, 1) := by decide +kernel
theorem d_Mo_heard_40 : decode b_Mo_heard 40 = .ok (.aload_n 0, 1) := by decide +kernel
theorem d_Mo_heard_41 : decode b_Mo_heard 41 = .ok (.getfield 28, 3) := by decide +kernel
theorem d_Mo_heard_44 : decode b_Mo_heard 44 = .ok (.iconst 5, 1) := by decide +kernel
theorem d_Mo_heard_45 : decode b_Mo_heard 45 = .ok (.aload_n 0, 1) := by decide +kernel
theorem d_Mo_heard_46 : decode b_Mo_heard 46 = .ok (.getfield 101, 3) := by decide +kernel
theorem d_Mo_heard_49 : decode b_Mo_heard 49 = .ok (.imul, 1) := by decide +kernel
theorem d_Mo_heard_50 : decode b_Mo_heard 50 = .ok (.iload_n 1, 1) := by decide +kernel
theorem d_Mo_heard_51 : decode b_Mo_heard 51 = .ok (.iastore, 1) := by decide +kernel
theorem d_Mo_heard_52 : decode b_Mo_heard 52 = .ok (.aload_n 0, 1) := by decide +kernel
theorem d_Mo_heard_53 : decode b_Mo_heard 53 = .ok (.getfield 28, 3) := by decide +kernel
theorem d_Mo_heard_56 : decode b_Mo_heard 56 = .ok (.iconst 5, 1) := by decide +kernel
theorem d_Mo_heard_57 : decode b_Mo_heard 57 = .ok (.aload_n 0, 1) := by decide +kernel
theorem d_Mo_heard_58 : decode b_Mo_heard 58 = .ok (.getfield 101, 3) := by decide +kernel
theorem d_Mo_heard_61 : decode b_Mo_heard 61 = .ok (.imul, 1) := by decide +kernel
theorem d_Mo_heard_62 : decode b_Mo_heard 62 = .ok (.iconst 1, 1) := by decide +kernel
theorem d_Mo_heard_63 : decode b_Mo_heard 63 = .ok (.iadd, 1) := by decide +kernel
theorem d_Mo_heard_64 : decode b_Mo_heard 64 = .ok (.iload_n 2, 1) := by decide +kernel
theorem d_Mo_heard_65 : decode b_Mo_heard 65 = .ok (.iastore, 1) := by decide +kernel
theorem d_Mo_heard_66 : decode b_Mo_heard 66 = .ok (.aload_n 0, 1) := by decide +kernel
theorem d_Mo_heard_67 : decode b_Mo_heard 67 = .ok (.getfield 28, 3) := by decide +kernel
theorem d_Mo_heard_70 : decode b_Mo_heard 70 = .ok (.iconst 5, 1) := by decide +kernel
theorem d_Mo_heard_71 : decode b_Mo_heard 71 = .ok (.aload_n 0, 1) := by decide +kernel
theorem d_Mo_heard_72 : decode b_Mo_heard 72 = .ok (.getfield 101, 3) := by decide +kernel
theorem d_Mo_heard_75 : decode b_Mo_heard 75 = .ok (.imul, 1) := by decide +kernel
theorem d_Mo_heard_76 : decode b_Mo_heard 76 = .ok (.iconst 2, 1) := by decide +kernel
theorem d_Mo_heard_77 : decode b_Mo_heard 77 = .ok (.iadd, 1) := by decide +kernel
theorem d_Mo_heard_78 : decode b_Mo_heard 78 = .ok (.iload_n 3, 1) := by decide +kernel
theorem d_Mo_heard_79 : decode b_Mo_heard 79 = .ok (.iastore, 1) := by decide +kernel
theorem d_Mo_heard_80 : decode b_Mo_heard 80 = .ok (.aload_n 0, 1) := by decide +kernel
theorem d_Mo_heard_81 : decode b_Mo_heard 81 = .ok (.getfield 28, 3) := by decide +kernel
theorem d_Mo_heard_84 : decode b_Mo_heard 84 = .ok (.iconst 5, 1) := by decide +kernel
theorem d_Mo_heard_85 : decode b_Mo_heard 85 = .ok (.aload_n 0, 1) := by decide +kernel
theorem d_Mo_heard_86 : decode b_Mo_heard 86 = .ok (.getfield 101, 3) := by decide +kernel
theorem d_Mo_heard_89 : decode b_Mo_heard 89 = .ok (.imul, 1) := by decide +kernel
theorem d_Mo_heard_90 : decode b_Mo_heard 90 = .ok (.iconst 3, 1) := by decide +kernel
theorem d_Mo_heard_91 : decode b_Mo_heard 91 = .ok (.iadd, 1) := by decide +kernel
theorem d_Mo_heard_92 : decode b_Mo_heard 92 = .ok (.aload_n 0, 1) := by decide +kernel
theorem d_Mo_heard_93 : decode b_Mo_heard 93 = .ok (.getfield 19, 3) := by decide +kernel
theorem d_Mo_heard_96 : decode b_Mo_heard 96 = .ok (.iconst 0, 1) := by decide +kernel
theorem d_Mo_heard_97 : decode b_Mo_heard 97 = .ok (.iaload, 1) := by decide +kernel
theorem d_Mo_heard_98 : decode b_Mo_heard 98 = .ok (.iastore, 1) := by decide +kernel
theorem d_Mo_heard_99 : decode b_Mo_heard 99 = .ok (.aload_n 0, 1) := by decide +kernel
theorem d_Mo_heard_100 : decode b_Mo_heard 100 = .ok (.getfield 28, 3) := by decide +kernel
theorem d_Mo_heard_103 : decode b_Mo_heard 103 = .ok (.iconst 5, 1) := by decide +kernel
theorem d_Mo_heard_104 : decode b_Mo_heard 104 = .ok (.aload_n 0, 1) := by decide +kernel
theorem d_Mo_heard_105 : decode b_Mo_heard 105 = .ok (.getfield 101, 3) := by decide +kernel
theorem d_Mo_heard_108 : decode b_Mo_heard 108 = .ok (.imul, 1) := by decide +kernel
theorem d_Mo_heard_109 : decode b_Mo_heard 109 = .ok (.iconst 4, 1) := by decide +kernel
theorem d_Mo_heard_110 : decode b_Mo_heard 110 = .ok (.iadd, 1) := by decide +kernel
theorem d_Mo_heard_111 : decode b_Mo_heard 111 = .ok (.aload_n 0, 1) := by decide +kernel
theorem d_Mo_heard_112 : decode b_Mo_heard 112 = .ok (.getfield 19, 3) := by decide +kernel
theorem d_Mo_heard_115 : decode b_Mo_heard 115 = .ok (.iconst 1, 1) := by decide +kernel
theorem d_Mo_heard_116 : decode b_Mo_heard 116 = .ok (.iaload, 1) := by decide +kernel
theorem d_Mo_heard_117 : decode b_Mo_heard 117 = .ok (.iastore, 1) := by decide +kernel
theorem d_Mo_heard_118 : decode b_Mo_heard 118 = .ok (.aload_n 0, 1) := by decide +kernel
theorem d_Mo_heard_119 : decode b_Mo_heard 119 = .ok (.dup, 1) := by decide +kernel
theorem d_Mo_heard_120 : decode b_Mo_heard 120 = .ok (.getfield 101, 3) := by decide +kernel
theorem d_Mo_heard_123 : decode b_Mo_heard 123 = .ok (.iconst 1, 1) := by decide +kernel
theorem d_Mo_heard_124 : decode b_Mo_heard 124 = .ok (.iadd, 1) := by decide +kernel
theorem d_Mo_heard_125 : decode b_Mo_heard 125 = .ok (.putfield 101, 3) := by decide +kernel
theorem d_Mo_heard_128 : decode b_Mo_heard 128 = .ok (.aload_n 0, 1) := by decide +kernel
theorem d_Mo_heard_129 : decode b_Mo_heard 129 = .ok (.getfield 101, 3) := by decide +kernel
theorem d_Mo_heard_132 : decode b_Mo_heard 132 = .ok (.ireturn, 1) := by decide +kernel
theorem d_Mo_forget_0 : decode b_Mo_forget 0 = .ok (.aload_n 0, 1) := by decide +kernel
theorem d_Mo_forget_1 : decode b_Mo_forget 1 = .ok (.getfield 101, 3) := by decide +kernel
theorem d_Mo_forget_4 : decode b_Mo_forget 4 = .ok (.istore_n 1, 1) := by decide +kernel
theorem d_Mo_forget_5 : decode b_Mo_forget 5 = .ok (.aload_n 0, 1) := by decide +kernel
theorem d_Mo_forget_6 : decode b_Mo_forget 6 = .ok (.iconst 0, 1) := by decide +kernel
theorem d_Mo_forget_7 : decode b_Mo_forget 7 = .ok (.putfield 101, 3) := by decide +kernel
theorem d_Mo_forget_10 : decode b_Mo_forget 10 = .ok (.iload_n 1, 1) := by decide +kernel
theorem d_Mo_forget_11 : decode b_Mo_forget 11 = .ok (.ireturn, 1) := by decide +kernel
theorem d_Mo_may_0 : decode b_Mo_may 0 = .ok (.aload_n 0, 1) := by decide +kernel
theorem d_Mo_may_1 : decode b_Mo_may 1 = .ok (.iload_n 1, 1) := by decide +kernel
theorem d_Mo_may_2 : decode b_Mo_may 2 = .ok (.invokevirtual 127, 3) := by decide +kernel
theorem d_Mo_may_5 : decode b_Mo_may 5 = .ok (.ifCond .ne 5, 3) := by decide +kernel
theorem d_Mo_may_8 : decode b_Mo_may 8 = .ok (.iconst (-1), 1) := by decide +kernel
theorem d_Mo_may_9 : decode b_Mo_may 9 = .ok (.ireturn, 1) := by decide +kernel
theorem d_Mo_may_10 : decode b_Mo_may 10 = .ok (.iconst 0, 1) := by decide +kernel
theorem d_Mo_may_11 : decode b_Mo_may 11 = .ok (.istore_n 2, 1) := by decide +kernel
theorem d_Mo_may_12 : decode b_Mo_may 12 = .ok (.iconst 0, 1) := by decide +kernel
theorem d_Mo_may_13 : decode b_Mo_may 13 = .ok (.istore_n 3, 1) := by decide +kernel
theorem d_Mo_may_14 : decode b_Mo_may 14 = .ok (.iload_n 3, 1) := by decide +kernel
theorem d_Mo_may_15 : decode b_Mo_may 15 = .ok (.iconst 4, 1) := by decide +kernel
theorem d_Mo_may_16 : decode b_Mo_may 16 = .ok (.if_icmp .ge 136, 3) := by decide +kernel
theorem d_Mo_may_19 : decode b_Mo_may 19 = .ok (.iconst 1, 1) := by decide +kernel
theorem d_Mo_may_20 : decode b_Mo_may 20 = .ok (.istore 4, 2) := by decide +kernel
theorem d_Mo_may_22 : decode b_Mo_may 22 = .ok (.iconst 0, 1) := by decide +kernel
theorem d_Mo_may_23 : decode b_Mo_may 23 = .ok (.istore 5, 2) := by decide +kernel
theorem d_Mo_may_25 : decode b_Mo_may 25 = .ok (.iload 5, 2) := by decide +kernel
theorem d_Mo_may_27 : decode b_Mo_may 27 = .ok (.aload_n 0, 1) := by decide +kernel
theorem d_Mo_may_28 : decode b_Mo_may 28 = .ok (.getfield 101, 3) := by decide +kernel
theorem d_Mo_may_31 : decode b_Mo_may 31 = .ok (.if_icmp .ge 100, 3) := by decide +kernel
theorem d_Mo_may_34 : decode b_Mo_may 34 = .ok (.aload_n 0, 1) := by decide +kernel
theorem d_Mo_may_35 : decode b_Mo_may 35 = .ok (.iload_n 3, 1) := by decide +kernel
theorem d_Mo_may_36 : decode b_Mo_may 36 = .ok (.iload_n 1, 1) := by decide +kernel
theorem d_Mo_may_37 : decode b_Mo_may 37 = .ok (.aload_n 0, 1) := by decide +kernel
theorem d_Mo_may_38 : decode b_Mo_may 38 = .ok (.getfield 28, 3) := by decide +kernel
theorem d_Mo_may_41 : decode b_Mo_may 41 = .ok (.iconst 5, 1) := by decide +kernel
theorem d_Mo_may_42 : decode b_Mo_may 42 = .ok (.iload 5, 2) := by decide +kernel
theorem d_Mo_may_44 : decode b_Mo_may 44 = .ok (.imul, 1) := by decide +kernel
theorem d_Mo_may_45 : decode b_Mo_may 45 = .ok (.iconst 1, 1) := by decide +kernel
theorem d_Mo_may_46 : decode b_Mo_may 46 = .ok (.iadd, 1) := by decide +kernel
theorem d_Mo_may_47 : decode b_Mo_may 47 = .ok (.iaload, 1) := by decide +kernel
theorem d_Mo_may_48 : decode b_Mo_may 48 = .ok (.aload_n 0, 1) := by decide +kernel
theorem d_Mo_may_49 : decode b_Mo_may 49 = .ok (.getfield 28, 3) := by decide +kernel
theorem d_Mo_may_52 : decode b_Mo_may 52 = .ok (.iconst 5, 1) := by decide +kernel
theorem d_Mo_may_53 : decode b_Mo_may 53 = .ok (.iload 5, 2) := by decide +kernel
theorem d_Mo_may_55 : decode b_Mo_may 55 = .ok (.imul, 1) := by decide +kernel
theorem d_Mo_may_56 : decode b_Mo_may 56 = .ok (.iconst 3, 1) := by decide +kernel
theorem d_Mo_may_57 : decode b_Mo_may 57 = .ok (.iadd, 1) := by decide +kernel
theorem d_Mo_may_58 : decode b_Mo_may 58 = .ok (.iaload, 1) := by decide +kernel
theorem d_Mo_may_59 : decode b_Mo_may 59 = .ok (.aload_n 0, 1) := by decide +kernel
theorem d_Mo_may_60 : decode b_Mo_may 60 = .ok (.getfield 28, 3) := by decide +kernel
theorem d_Mo_may_63 : decode b_Mo_may 63 = .ok (.iconst 5, 1) := by decide +kernel
theorem d_Mo_may_64 : decode b_Mo_may 64 = .ok (.iload 5, 2) := by decide +kernel
theorem d_Mo_may_66 : decode b_Mo_may 66 = .ok (.imul, 1) := by decide +kernel
theorem d_Mo_may_67 : decode b_Mo_may 67 = .ok (.iconst 4, 1) := by decide +kernel
theorem d_Mo_may_68 : decode b_Mo_may 68 = .ok (.iadd, 1) := by decide +kernel
theorem d_Mo_may_69 : decode b_Mo_may 69 = .ok (.iaload, 1) := by decide +kernel
theorem d_Mo_may_70 : decode b_Mo_may 70 = .ok (.invokevirtual 130, 3) := by decide +kernel
theorem d_Mo_may_73 : decode b_Mo_may 73 = .ok (.istore 6, 2) := by decide +kernel
theorem d_Mo_may_75 : decode b_Mo_may 75 = .ok (.iload 4, 2) := by decide +kernel
theorem d_Mo_may_77 : decode b_Mo_may 77 = .ok (.ifCond .eq 45, 3) := by decide +kernel
theorem d_Mo_may_80 : decode b_Mo_may 80 = .ok (.aload_n 0, 1) := by decide +kernel
theorem d_Mo_may_81 : decode b_Mo_may 81 = .ok (.getfield 28, 3) := by decide +kernel
theorem d_Mo_may_84 : decode b_Mo_may 84 = .ok (.iconst 5, 1) := by decide +kernel
theorem d_Mo_may_85 : decode b_Mo_may 85 = .ok (.iload 5, 2) := by decide +kernel
theorem d_Mo_may_87 : decode b_Mo_may 87 = .ok (.imul, 1) := by decide +kernel
theorem d_Mo_may_88 : decode b_Mo_may 88 = .ok (.iaload, 1) := by decide +kernel
theorem d_Mo_may_89 : decode b_Mo_may 89 = .ok (.iload_n 1, 1) := by decide +kernel
theorem d_Mo_may_90 : decode b_Mo_may 90 = .ok (.if_icmp .ne 28, 3) := by decide +kernel
theorem d_Mo_may_93 : decode b_Mo_may 93 = .ok (.iload 6, 2) := by decide +kernel
theorem d_Mo_may_95 : decode b_Mo_may 95 = .ok (.aload_n 0, 1) := by decide +kernel
theorem d_Mo_may_96 : decode b_Mo_may 96 = .ok (.getfield 28, 3) := by decide +kernel
theorem d_Mo_may_99 : decode b_Mo_may 99 = .ok (.iconst 5, 1) := by decide +kernel
theorem d_Mo_may_100 : decode b_Mo_may 100 = .ok (.iload 5, 2) := by decide +kernel
theorem d_Mo_may_102 : decode b_Mo_may 102 = .ok (.imul, 1) := by decide +kernel
theorem d_Mo_may_103 : decode b_Mo_may 103 = .ok (.iconst 2, 1) := by decide +kernel
theorem d_Mo_may_104 : decode b_Mo_may 104 = .ok (.iadd, 1) := by decide +kernel
theorem d_Mo_may_105 : decode b_Mo_may 105 = .ok (.iaload, 1) := by decide +kernel
theorem d_Mo_may_106 : decode b_Mo_may 106 = .ok (.iconst 1, 1) := by decide +kernel
theorem d_Mo_may_107 : decode b_Mo_may 107 = .ok (.if_icmp .ne 7, 3) := by decide +kernel
theorem d_Mo_may_110 : decode b_Mo_may 110 = .ok (.iconst 1, 1) := by decide +kernel
theorem d_Mo_may_111 : decode b_Mo_may 111 = .ok (.goto 4, 3) := by decide +kernel
theorem d_Mo_may_114 : decode b_Mo_may 114 = .ok (.iconst 0, 1) := by decide +kernel
theorem d_Mo_may_115 : decode b_Mo_may 115 = .ok (.if_icmp .ne 7, 3) := by decide +kernel
theorem d_Mo_may_118 : decode b_Mo_may 118 = .ok (.iconst 1, 1) := by decide +kernel
theorem d_Mo_may_119 : decode b_Mo_may 119 = .ok (.goto 4, 3) := by decide +kernel
theorem d_Mo_may_122 : decode b_Mo_may 122 = .ok (.iconst 0, 1) := by decide +kernel
theorem d_Mo_may_123 : decode b_Mo_may 123 = .ok (.istore 4, 2) := by decide +kernel
theorem d_Mo_may_125 : decode b_Mo_may 125 = .ok (.iinc 5 1, 3) := by decide +kernel
theorem d_Mo_may_128 : decode b_Mo_may 128 = .ok (.goto (-103), 3) := by decide +kernel
theorem d_Mo_may_131 : decode b_Mo_may 131 = .ok (.iload_n 2, 1) := by decide +kernel
theorem d_Mo_may_132 : decode b_Mo_may 132 = .ok (.iload 4, 2) := by decide +kernel
theorem d_Mo_may_134 : decode b_Mo_may 134 = .ok (.ifCond .eq 9, 3) := by decide +kernel
theorem d_Mo_may_137 : decode b_Mo_may 137 = .ok (.iconst 1, 1) := by decide +kernel
theorem d_Mo_may_138 : decode b_Mo_may 138 = .ok (.iload_n 3, 1) := by decide +kernel
theorem d_Mo_may_139 : decode b_Mo_may 139 = .ok (.ishl, 1) := by decide +kernel
theorem d_Mo_may_140 : decode b_Mo_may 140 = .ok (.goto 4, 3) := by decide +kernel
theorem d_Mo_may_143 : decode b_Mo_may 143 = .ok (.iconst 0, 1) := by decide +kernel
theorem d_Mo_may_144 : decode b_Mo_may 144 = .ok (.ior, 1) := by decide +kernel
theorem d_Mo_may_145 : decode b_Mo_may 145 = .ok (.istore_n 2, 1) := by decide +kernel
theorem d_Mo_may_146 : decode b_Mo_may 146 = .ok (.iinc 3 1, 3) := by decide +kernel
theorem d_Mo_may_149 : decode b_Mo_may 149 = .ok (.goto (-135), 3) := by decide +kernel
theorem d_Mo_may_152 : decode b_Mo_may 152 = .ok (.iload_n 2, 1) := by decide +kernel
theorem d_Mo_may_153 : decode b_Mo_may 153 = .ok (.ireturn, 1) := by decide +kernel
theorem d_Mo_suits_0 : decode b_Mo_suits 0 = .ok (.aload_n 0, 1) := by decide +kernel
theorem d_Mo_suits_1 : decode b_Mo_suits 1 = .ok (.iload_n 1, 1) := by decide +kernel
theorem d_Mo_suits_2 : decode b_Mo_suits 2 = .ok (.invokevirtual 154, 3) := by decide +kernel
theorem d_Mo_suits_5 : decode b_Mo_suits 5 = .ok (.ifCond .ne 5, 3) := by decide +kernel
theorem d_Mo_suits_8 : decode b_Mo_suits 8 = .ok (.iconst (-1), 1) := by decide +kernel
theorem d_Mo_suits_9 : decode b_Mo_suits 9 = .ok (.ireturn, 1) := by decide +kernel
theorem d_Mo_suits_10 : decode b_Mo_suits 10 = .ok (.aload_n 0, 1) := by decide +kernel
theorem d_Mo_suits_11 : decode b_Mo_suits 11 = .ok (.iconst 0, 1) := by decide +kernel
theorem d_Mo_suits_12 : decode b_Mo_suits 12 = .ok (.invokevirtual 172, 3) := by decide +kernel
theorem d_Mo_suits_15 : decode b_Mo_suits 15 = .ok (.istore_n 2, 1) := by decide +kernel
theorem d_Mo_suits_16 : decode b_Mo_suits 16 = .ok (.iconst 0, 1) := by decide +kernel
theorem d_Mo_suits_17 : decode b_Mo_suits 17 = .ok (.istore_n 3, 1) := by decide +kernel
theorem d_Mo_suits_18 : decode b_Mo_suits 18 = .ok (.iconst 0, 1) := by decide +kernel
theorem d_Mo_suits_19 : decode b_Mo_suits 19 = .ok (.istore 4, 2) := by decide +kernel
theorem d_Mo_suits_21 : decode b_Mo_suits 21 = .ok (.iload 4, 2) := by decide +kernel
theorem d_Mo_suits_23 : decode b_Mo_suits 23 = .ok (.aload_n 0, 1) := by decide +kernel
theorem d_Mo_suits_24 : decode b_Mo_suits 24 = .ok (.getfield 13, 3) := by decide +kernel
theorem d_Mo_suits_27 : decode b_Mo_suits 27 = .ok (.iconst 1, 1) := by decide +kernel
theorem d_Mo_suits_28 : decode b_Mo_suits 28 = .ok (.iaload, 1) := by decide +kernel
theorem d_Mo_suits_29 : decode b_Mo_suits 29 = .ok (.if_icmp .ge 49, 3) := by decide +kernel
theorem d_Mo_suits_32 : decode b_Mo_suits 32 = .ok (.iload_n 3, 1) := by decide +kernel
theorem d_Mo_suits_33 : decode b_Mo_suits 33 = .ok (.aload_n 0, 1) := by decide +kernel
theorem d_Mo_suits_34 : decode b_Mo_suits 34 = .ok (.iload 4, 2) := by decide +kernel
theorem d_Mo_suits_36 : decode b_Mo_suits 36 = .ok (.iload_n 1, 1) := by decide +kernel
theorem d_Mo_suits_37 : decode b_Mo_suits 37 = .ok (.aload_n 0, 1) := by decide +kernel
theorem d_Mo_suits_38 : decode b_Mo_suits 38 = .ok (.getfield 19, 3) := by decide +kernel
theorem d_Mo_suits_41 : decode b_Mo_suits 41 = .ok (.iconst 0, 1) := by decide +kernel
theorem d_Mo_suits_42 : decode b_Mo_suits 42 = .ok (.iaload, 1) := by decide +kernel
theorem d_Mo_suits_43 : decode b_Mo_suits 43 = .ok (.invokevirtual 114, 3) := by decide +kernel
theorem d_Mo_suits_46 : decode b_Mo_suits 46 = .ok (.aload_n 0, 1) := by decide +kernel
theorem d_Mo_suits_47 : decode b_Mo_suits 47 = .ok (.iload 4, 2) := by decide +kernel
theorem d_Mo_suits_49 : decode b_Mo_suits 49 = .ok (.iload_n 2, 1) := by decide +kernel
theorem d_Mo_suits_50 : decode b_Mo_suits 50 = .ok (.aload_n 0, 1) := by decide +kernel
theorem d_Mo_suits_51 : decode b_Mo_suits 51 = .ok (.getfield 19, 3) := by decide +kernel
theorem d_Mo_suits_54 : decode b_Mo_suits 54 = .ok (.iconst 0, 1) := by decide +kernel
theorem d_Mo_suits_55 : decode b_Mo_suits 55 = .ok (.iaload, 1) := by decide +kernel
theorem d_Mo_suits_56 : decode b_Mo_suits 56 = .ok (.invokevirtual 114, 3) := by decide +kernel
theorem d_Mo_suits_59 : decode b_Mo_suits 59 = .ok (.if_icmp .lt 10, 3) := by decide +kernel
theorem d_Mo_suits_62 : decode b_Mo_suits 62 = .ok (.iconst 1, 1) := by decide +kernel
theorem d_Mo_suits_63 : decode b_Mo_suits 63 = .ok (.iload 4, 2) := by decide +kernel
theorem d_Mo_suits_65 : decode b_Mo_suits 65 = .ok (.ishl, 1) := by decide +kernel
theorem d_Mo_suits_66 : decode b_Mo_suits 66 = .ok (.goto 4, 3) := by decide +kernel
theorem d_Mo_suits_69 : decode b_Mo_suits 69 = .ok (.iconst 0, 1) := by decide +kernel
theorem d_Mo_suits_70 : decode b_Mo_suits 70 = .ok (.ior, 1) := by decide +kernel
theorem d_Mo_suits_71 : decode b_Mo_suits 71 = .ok (.istore_n 3, 1) := by decide +kernel
theorem d_Mo_suits_72 : decode b_Mo_suits 72 = .ok (.iinc 4 1, 3) := by decide +kernel
theorem d_Mo_suits_75 : decode b_Mo_suits 75 = .ok (.goto (-54), 3) := by decide +kernel
theorem d_Mo_suits_78 : decode b_Mo_suits 78 = .ok (.iload_n 3, 1) := by decide +kernel
theorem d_Mo_suits_79 : decode b_Mo_suits 79 = .ok (.ireturn, 1) := by decide +kernel
theorem d_Mo_against_0 : decode b_Mo_against 0 = .ok (.aload_n 0, 1) := by decide +kernel
theorem d_Mo_against_1 : decode b_Mo_against 1 = .ok (.iload_n 1, 1) := by decide +kernel
theorem d_Mo_against_2 : decode b_Mo_against 2 = .ok (.invokevirtual 134, 3) := by decide +kernel
theorem d_Mo_against_5 : decode b_Mo_against 5 = .ok (.ifCond .eq 13, 3) := by decide +kernel
theorem d_Mo_against_8 : decode b_Mo_against 8 = .ok (.iload_n 2, 1) := by decide +kernel
theorem d_Mo_against_9 : decode b_Mo_against 9 = .ok (.i2l, 1) := by decide +kernel
theorem d_Mo_against_10 : decode b_Mo_against 10 = .ok (.lconst 0, 1) := by decide +kernel
theorem d_Mo_against_11 : decode b_Mo_against 11 = .ok (.lconst 1, 1) := by decide +kernel
theorem d_Mo_against_12 : decode b_Mo_against 12 = .ok (.invokestatic 55, 3) := by decide +kernel
theorem d_Mo_against_15 : decode b_Mo_against 15 = .ok (.ifCond .ne 5, 3) := by decide +kernel
theorem d_Mo_against_18 : decode b_Mo_against 18 = .ok (.iconst (-1), 1) := by decide +kernel
theorem d_Mo_against_19 : decode b_Mo_against 19 = .ok (.ireturn, 1) := by decide +kernel
theorem d_Mo_against_20 : decode b_Mo_against 20 = .ok (.aload_n 0, 1) := by decide +kernel
theorem d_Mo_against_21 : decode b_Mo_against 21 = .ok (.iload_n 1, 1) := by decide +kernel
theorem d_Mo_against_22 : decode b_Mo_against 22 = .ok (.invokevirtual 151, 3) := by decide +kernel
theorem d_Mo_against_25 : decode b_Mo_against 25 = .ok (.istore_n 3, 1) := by decide +kernel
theorem d_Mo_against_26 : decode b_Mo_against 26 = .ok (.iload_n 2, 1) := by decide +kernel
theorem d_Mo_against_27 : decode b_Mo_against 27 = .ok (.ifCond .ne 7, 3) := by decide +kernel
theorem d_Mo_against_30 : decode b_Mo_against 30 = .ok (.iload_n 3, 1) := by decide +kernel
theorem d_Mo_against_31 : decode b_Mo_against 31 = .ok (.goto 15, 3) := by decide +kernel
theorem d_Mo_against_34 : decode b_Mo_against 34 = .ok (.aload_n 0, 1) := by decide +kernel
theorem d_Mo_against_35 : decode b_Mo_against 35 = .ok (.iload_n 3, 1) := by decide +kernel
theorem d_Mo_against_36 : decode b_Mo_against 36 = .ok (.iload_n 1, 1) := by decide +kernel
theorem d_Mo_against_37 : decode b_Mo_against 37 = .ok (.aload_n 0, 1) := by decide +kernel
theorem d_Mo_against_38 : decode b_Mo_against 38 = .ok (.getfield 19, 3) := by decide +kernel
theorem d_Mo_against_41 : decode b_Mo_against 41 = .ok (.iconst 0, 1) := by decide +kernel
theorem d_Mo_against_42 : decode b_Mo_against 42 = .ok (.iaload, 1) := by decide +kernel
theorem d_Mo_against_43 : decode b_Mo_against 43 = .ok (.invokevirtual 114, 3) := by decide +kernel
theorem d_Mo_against_46 : decode b_Mo_against 46 = .ok (.ireturn, 1) := by decide +kernel
theorem d_Mo_ask_0 : decode b_Mo_ask 0 = .ok (.iload_n 1, 1) := by decide +kernel
theorem d_Mo_ask_1 : decode b_Mo_ask 1 = .ok (.i2l, 1) := by decide +kernel
theorem d_Mo_ask_2 : decode b_Mo_ask 2 = .ok (.lconst 1, 1) := by decide +kernel
theorem d_Mo_ask_3 : decode b_Mo_ask 3 = .ok (.ldc2_w 78, 3) := by decide +kernel
theorem d_Mo_ask_6 : decode b_Mo_ask 6 = .ok (.invokestatic 55, 3) := by decide +kernel
theorem d_Mo_ask_9 : decode b_Mo_ask 9 = .ok (.ifCond .ne 5, 3) := by decide +kernel
theorem d_Mo_ask_12 : decode b_Mo_ask 12 = .ok (.iconst (-1), 1) := by decide +kernel
theorem d_Mo_ask_13 : decode b_Mo_ask 13 = .ok (.ireturn, 1) := by decide +kernel
theorem d_Mo_ask_14 : decode b_Mo_ask 14 = .ok (.aload_n 0, 1) := by decide +kernel
theorem d_Mo_ask_15 : decode b_Mo_ask 15 = .ok (.iconst 0, 1) := by decide +kernel
theorem d_Mo_ask_16 : decode b_Mo_ask 16 = .ok (.invokevirtual 172, 3) := by decide +kernel
theorem d_Mo_ask_19 : decode b_Mo_ask 19 = .ok (.istore_n 2, 1) := by decide +kernel
theorem d_Mo_ask_20 : decode b_Mo_ask 20 = .ok (.iconst 0, 1) := by decide +kernel
theorem d_Mo_ask_21 : decode b_Mo_ask 21 = .ok (.istore_n 3, 1) := by decide +kernel
theorem d_Mo_ask_22 : decode b_Mo_ask 22 = .ok (.iload_n 3, 1) := by decide +kernel
theorem d_Mo_ask_23 : decode b_Mo_ask 23 = .ok (.iload_n 1, 1) := by decide +kernel
theorem d_Mo_ask_24 : decode b_Mo_ask 24 = .ok (.if_icmp .ge 46, 3) := by decide +kernel
theorem d_Mo_ask_27 : decode b_Mo_ask 27 = .ok (.iload_n 3, 1) := by decide +kernel
theorem d_Mo_ask_28 : decode b_Mo_ask 28 = .ok (.aload_n 0, 1) := by decide +kernel
theorem d_Mo_ask_29 : decode b_Mo_ask 29 = .ok (.getfield 13, 3) := by decide +kernel
theorem d_Mo_ask_32 : decode b_Mo_ask 32 = .ok (.iconst 1, 1) := by decide +kernel
theorem d_Mo_ask_33 : decode b_Mo_ask 33 = .ok (.iaload, 1) := by decide +kernel
theorem d_Mo_ask_34 : decode b_Mo_ask 34 = .ok (.if_icmp .ge 36, 3) := by decide +kernel
theorem d_Mo_ask_37 : decode b_Mo_ask 37 = .ok (.aload_n 0, 1) := by decide +kernel
theorem d_Mo_ask_38 : decode b_Mo_ask 38 = .ok (.aload_n 0, 1) := by decide +kernel
theorem d_Mo_ask_39 : decode b_Mo_ask 39 = .ok (.aload_n 0, 1) := by decide +kernel
theorem d_Mo_ask_40 : decode b_Mo_ask 40 = .ok (.getfield 19, 3) := by decide +kernel
theorem d_Mo_ask_43 : decode b_Mo_ask 43 = .ok (.iconst 1, 1) := by decide +kernel
theorem d_Mo_ask_44 : decode b_Mo_ask 44 = .ok (.iaload, 1) := by decide +kernel
theorem d_Mo_ask_45 : decode b_Mo_ask 45 = .ok (.invokevirtual 118, 3) := by decide +kernel
theorem d_Mo_ask_48 : decode b_Mo_ask 48 = .ok (.aload_n 0, 1) := by decide +kernel
theorem d_Mo_ask_49 : decode b_Mo_ask 49 = .ok (.getfield 19, 3) := by decide +kernel
theorem d_Mo_ask_52 : decode b_Mo_ask 52 = .ok (.iconst 0, 1) := by decide +kernel
theorem d_Mo_ask_53 : decode b_Mo_ask 53 = .ok (.iaload, 1) := by decide +kernel
theorem d_Mo_ask_54 : decode b_Mo_ask 54 = .ok (.iload_n 3, 1) := by decide +kernel
theorem d_Mo_ask_55 : decode b_Mo_ask 55 = .ok (.invokevirtual 148, 3) := by decide +kernel
theorem d_Mo_ask_58 : decode b_Mo_ask 58 = .ok (.iload_n 2, 1) := by decide +kernel
theorem d_Mo_ask_59 : decode b_Mo_ask 59 = .ok (.if_icmp .eq 5, 3) := by decide +kernel
theorem d_Mo_ask_62 : decode b_Mo_ask 62 = .ok (.iload_n 3, 1) := by decide +kernel
theorem d_Mo_ask_63 : decode b_Mo_ask 63 = .ok (.ireturn, 1) := by decide +kernel
theorem d_Mo_ask_64 : decode b_Mo_ask 64 = .ok (.iinc 3 1, 3) := by decide +kernel
theorem d_Mo_ask_67 : decode b_Mo_ask 67 = .ok (.goto (-45), 3) := by decide +kernel
theorem d_Mo_ask_70 : decode b_Mo_ask 70 = .ok (.bipush (-4), 2) := by decide +kernel
theorem d_Mo_ask_72 : decode b_Mo_ask 72 = .ok (.ireturn, 1) := by decide +kernel
theorem d_Mo_wheel_0 : decode b_Mo_wheel 0 = .ok (.iload_n 1, 1) := by decide +kernel
theorem d_Mo_wheel_1 : decode b_Mo_wheel 1 = .ok (.i2l, 1) := by decide +kernel
theorem d_Mo_wheel_2 : decode b_Mo_wheel 2 = .ok (.lconst 0, 1) := by decide +kernel
theorem d_Mo_wheel_3 : decode b_Mo_wheel 3 = .ok (.ldc2_w 175, 3) := by decide +kernel
theorem d_Mo_wheel_6 : decode b_Mo_wheel 6 = .ok (.invokestatic 55, 3) := by decide +kernel
theorem d_Mo_wheel_9 : decode b_Mo_wheel 9 = .ok (.ifCond .eq 13, 3) := by decide +kernel
theorem d_Mo_wheel_12 : decode b_Mo_wheel 12 = .ok (.iload_n 2, 1) := by decide +kernel
theorem d_Mo_wheel_13 : decode b_Mo_wheel 13 = .ok (.i2l, 1) := by decide +kernel
theorem d_Mo_wheel_14 : decode b_Mo_wheel 14 = .ok (.lconst 0, 1) := by decide +kernel
theorem d_Mo_wheel_15 : decode b_Mo_wheel 15 = .ok (.lconst 1, 1) := by decide +kernel
theorem d_Mo_wheel_16 : decode b_Mo_wheel 16 = .ok (.invokestatic 55, 3) := by decide +kernel
theorem d_Mo_wheel_19 : decode b_Mo_wheel 19 = .ok (.ifCond .ne 5, 3) := by decide +kernel
theorem d_Mo_wheel_22 : decode b_Mo_wheel 22 = .ok (.iconst (-1), 1) := by decide +kernel
theorem d_Mo_wheel_23 : decode b_Mo_wheel 23 = .ok (.ireturn, 1) := by decide +kernel
theorem d_Mo_wheel_24 : decode b_Mo_wheel 24 = .ok (.aload_n 0, 1) := by decide +kernel
theorem d_Mo_wheel_25 : decode b_Mo_wheel 25 = .ok (.aload_n 0, 1) := by decide +kernel
theorem d_Mo_wheel_26 : decode b_Mo_wheel 26 = .ok (.getfield 19, 3) := by decide +kernel
theorem d_Mo_wheel_29 : decode b_Mo_wheel 29 = .ok (.iconst 1, 1) := by decide +kernel
theorem d_Mo_wheel_30 : decode b_Mo_wheel 30 = .ok (.iaload, 1) := by decide +kernel
theorem d_Mo_wheel_31 : decode b_Mo_wheel 31 = .ok (.invokevirtual 118, 3) := by decide +kernel
theorem d_Mo_wheel_34 : decode b_Mo_wheel 34 = .ok (.istore_n 3, 1) := by decide +kernel
theorem d_Mo_wheel_35 : decode b_Mo_wheel 35 = .ok (.iconst 0, 1) := by decide +kernel
theorem d_Mo_wheel_36 : decode b_Mo_wheel 36 = .ok (.istore 4, 2) := by decide +kernel
theorem d_Mo_wheel_38 : decode b_Mo_wheel 38 = .ok (.iconst 0, 1) := by decide +kernel
theorem d_Mo_wheel_39 : decode b_Mo_wheel 39 = .ok (.istore 5, 2) := by decide +kernel
theorem d_Mo_wheel_41 : decode b_Mo_wheel 41 = .ok (.iload 5, 2) := by decide +kernel
theorem d_Mo_wheel_43 : decode b_Mo_wheel 43 = .ok (.aload_n 0, 1) := by decide +kernel
theorem d_Mo_wheel_44 : decode b_Mo_wheel 44 = .ok (.getfield 13, 3) := by decide +kernel
theorem d_Mo_wheel_47 : decode b_Mo_wheel 47 = .ok (.iconst 0, 1) := by decide +kernel
theorem d_Mo_wheel_48 : decode b_Mo_wheel 48 = .ok (.iaload, 1) := by decide +kernel
theorem d_Mo_wheel_49 : decode b_Mo_wheel 49 = .ok (.if_icmp .ge 49, 3) := by decide +kernel
theorem d_Mo_wheel_52 : decode b_Mo_wheel 52 = .ok (.iload 4, 2) := by decide +kernel
theorem d_Mo_wheel_54 : decode b_Mo_wheel 54 = .ok (.iload_n 3, 1) := by decide +kernel
theorem d_Mo_wheel_55 : decode b_Mo_wheel 55 = .ok (.iload 5, 2) := by decide +kernel
theorem d_Mo_wheel_57 : decode b_Mo_wheel 57 = .ok (.invokestatic 110, 3) := by decide +kernel
theorem d_Mo_wheel_60 : decode b_Mo_wheel 60 = .ok (.ifCond .eq 28, 3) := by decide +kernel
theorem d_Mo_wheel_63 : decode b_Mo_wheel 63 = .ok (.aload_n 0, 1) := by decide +kernel
theorem d_Mo_wheel_64 : decode b_Mo_wheel 64 = .ok (.aload_n 0, 1) := by decide +kernel
theorem d_Mo_wheel_65 : decode b_Mo_wheel 65 = .ok (.iload 5, 2) := by decide +kernel
theorem d_Mo_wheel_67 : decode b_Mo_wheel 67 = .ok (.invokevirtual 151, 3) := by decide +kernel
theorem d_Mo_wheel_70 : decode b_Mo_wheel 70 = .ok (.iload 5, 2) := by decide +kernel
theorem d_Mo_wheel_72 : decode b_Mo_wheel 72 = .ok (.aload_n 0, 1) := by decide +kernel
theorem d_Mo_wheel_73 : decode b_Mo_wheel 73 = .ok (.getfield 19, 3) := by decide +kernel
theorem d_Mo_wheel_76 : decode b_Mo_wheel 76 = .ok (.iconst 0, 1) := by decide +kernel
theorem d_Mo_wheel_77 : decode b_Mo_wheel 77 = .ok (.iaload, 1) := by decide +kernel
theorem d_Mo_wheel_78 : decode b_Mo_wheel 78 = .ok (.invokevirtual 114, 3) := by decide +kernel
theorem d_Mo_wheel_81 : decode b_Mo_wheel 81 = .ok (.ifCond .ne 7, 3) := by decide +kernel
theorem d_Mo_wheel_84 : decode b_Mo_wheel 84 = .ok (.iconst 1, 1) := by decide +kernel
theorem d_Mo_wheel_85 : decode b_Mo_wheel 85 = .ok (.goto 4, 3) := by decide +kernel
theorem d_Mo_wheel_88 : decode b_Mo_wheel 88 = .ok (.iconst 0, 1) := by decide +kernel
theorem d_Mo_wheel_89 : decode b_Mo_wheel 89 = .ok (.iadd, 1) := by decide +kernel
theorem d_Mo_wheel_90 : decode b_Mo_wheel 90 = .ok (.istore 4, 2) := by decide +kernel
theorem d_Mo_wheel_92 : decode b_Mo_wheel 92 = .ok (.iinc 5 1, 3) := by decide +kernel
theorem d_Mo_wheel_95 : decode b_Mo_wheel 95 = .ok (.goto (-54), 3) := by decide +kernel
theorem d_Mo_wheel_98 : decode b_Mo_wheel 98 = .ok (.iconst 1, 1) := by decide +kernel
theorem d_Mo_wheel_99 : decode b_Mo_wheel 99 = .ok (.istore 5, 2) := by decide +kernel
theorem d_Mo_wheel_101 : decode b_Mo_wheel 101 = .ok (.iconst 1, 1) := by decide +kernel
theorem d_Mo_wheel_102 : decode b_Mo_wheel 102 = .ok (.istore 6, 2) := by decide +kernel
theorem d_Mo_wheel_104 : decode b_Mo_wheel 104 = .ok (.iconst 0, 1) := by decide +kernel
theorem d_Mo_wheel_105 : decode b_Mo_wheel 105 = .ok (.istore 7, 2) := by decide +kernel
theorem d_Mo_wheel_107 : decode b_Mo_wheel 107 = .ok (.iload 7, 2) := by decide +kernel
theorem d_Mo_wheel_109 : decode b_Mo_wheel 109 = .ok (.iload_n 1, 1) := by decide +kernel
theorem d_Mo_wheel_110 : decode b_Mo_wheel 110 = .ok (.if_icmp .ge 25, 3) := by decide +kernel
theorem d_Mo_wheel_113 : decode b_Mo_wheel 113 = .ok (.iload 5, 2) := by decide +kernel
theorem d_Mo_wheel_115 : decode b_Mo_wheel 115 = .ok (.iload_n 3, 1) := by decide +kernel
theorem d_Mo_wheel_116 : decode b_Mo_wheel 116 = .ok (.invokestatic 142, 3) := by decide +kernel
theorem d_Mo_wheel_119 : decode b_Mo_wheel 119 = .ok (.imul, 1) := by decide +kernel
theorem d_Mo_wheel_120 : decode b_Mo_wheel 120 = .ok (.istore 5, 2) := by decide +kernel
theorem d_Mo_wheel_122 : decode b_Mo_wheel 122 = .ok (.iload 6, 2) := by decide +kernel
theorem d_Mo_wheel_124 : decode b_Mo_wheel 124 = .ok (.iload 4, 2) := by decide +kernel
theorem d_Mo_wheel_126 : decode b_Mo_wheel 126 = .ok (.imul, 1) := by decide +kernel
theorem d_Mo_wheel_127 : decode b_Mo_wheel 127 = .ok (.istore 6, 2) := by decide +kernel
theorem d_Mo_wheel_129 : decode b_Mo_wheel 129 = .ok (.iinc 7 1, 3) := by decide +kernel
theorem d_Mo_wheel_132 : decode b_Mo_wheel 132 = .ok (.goto (-25), 3) := by decide +kernel
theorem d_Mo_wheel_135 : decode b_Mo_wheel 135 = .ok (.iload 5, 2) := by decide +kernel
theorem d_Mo_wheel_137 : decode b_Mo_wheel 137 = .ok (.iload 6, 2) := by decide +kernel
theorem d_Mo_wheel_139 : decode b_Mo_wheel 139 = .ok (.isub, 1) := by decide +kernel
theorem d_Mo_wheel_140 : decode b_Mo_wheel 140 = .ok (.istore 7, 2) := by decide +kernel
theorem d_Mo_wheel_142 : decode b_Mo_wheel 142 = .ok (.iload 5, 2) := by decide +kernel
theorem d_Mo_wheel_144 : decode b_Mo_wheel 144 = .ok (.istore 8, 2) := by decide +kernel
theorem d_Mo_wheel_146 : decode b_Mo_wheel 146 = .ok (.iload 8, 2) := by decide +kernel
theorem d_Mo_wheel_148 : decode b_Mo_wheel 148 = .ok (.ifCond .eq 21, 3) := by decide +kernel
theorem d_Mo_wheel_151 : decode b_Mo_wheel 151 = .ok (.iload 7, 2) := by decide +kernel
theorem d_Mo_wheel_153 : decode b_Mo_wheel 153 = .ok (.iload 8, 2) := by decide +kernel
theorem d_Mo_wheel_155 : decode b_Mo_wheel 155 = .ok (.irem, 1) := by decide +kernel
theorem d_Mo_wheel_156 : decode b_Mo_wheel 156 = .ok (.istore 9, 2) := by decide +kernel
theorem d_Mo_wheel_158 : decode b_Mo_wheel 158 = .ok (.iload 8, 2) := by decide +kernel
theorem d_Mo_wheel_160 : decode b_Mo_wheel 160 = .ok (.istore 7, 2) := by decide +kernel
theorem d_Mo_wheel_162 : decode b_Mo_wheel 162 = .ok (.iload 9, 2) := by decide +kernel
theorem d_Mo_wheel_164 : decode b_Mo_wheel 164 = .ok (.istore 8, 2) := by decide +kernel
theorem d_Mo_wheel_166 : decode b_Mo_wheel 166 = .ok (.goto (-20), 3) := by decide +kernel
theorem d_Mo_wheel_169 : decode b_Mo_wheel 169 = .ok (.iload_n 2, 1) := by decide +kernel
theorem d_Mo_wheel_170 : decode b_Mo_wheel 170 = .ok (.ifCond .ne 14, 3) := by decide +kernel
theorem d_Mo_wheel_173 : decode b_Mo_wheel 173 = .ok (.iload 5, 2) := by decide +kernel
theorem d_Mo_wheel_175 : decode b_Mo_wheel 175 = .ok (.iload 6, 2) := by decide +kernel
theorem d_Mo_wheel_177 : decode b_Mo_wheel 177 = .ok (.isub, 1) := by decide +kernel
theorem d_Mo_wheel_178 : decode b_Mo_wheel 178 = .ok (.iload 7, 2) := by decide +kernel
theorem d_Mo_wheel_180 : decode b_Mo_wheel 180 = .ok (.idiv, 1) := by decide +kernel
theorem d_Mo_wheel_181 : decode b_Mo_wheel 181 = .ok (.goto 8, 3) := by decide +kernel
theorem d_Mo_wheel_184 : decode b_Mo_wheel 184 = .ok (.iload 5, 2) := by decide +kernel
theorem d_Mo_wheel_186 : decode b_Mo_wheel 186 = .ok (.iload 7, 2) := by decide +kernel
theorem d_Mo_wheel_188 : decode b_Mo_wheel 188 = .ok (.idiv, 1) := by decide +kernel
theorem d_Mo_wheel_189 : decode b_Mo_wheel 189 = .ok (.ireturn, 1) := by decide +kernel
theorem d_Mo_evening_0 : decode b_Mo_evening 0 = .ok (.iload_n 1, 1) := by decide +kernel
theorem d_Mo_evening_1 : decode b_Mo_evening 1 = .ok (.i2l, 1) := by decide +kernel
theorem d_Mo_evening_2 : decode b_Mo_evening 2 = .ok (.lconst 0, 1) := by decide +kernel
theorem d_Mo_evening_3 : decode b_Mo_evening 3 = .ok (.ldc2_w 177, 3) := by decide +kernel
theorem d_Mo_evening_6 : decode b_Mo_evening 6 = .ok (.invokestatic 55, 3) := by decide +kernel
theorem d_Mo_evening_9 : decode b_Mo_evening 9 = .ok (.ifCond .eq 25, 3) := by decide +kernel
theorem d_Mo_evening_12 : decode b_Mo_evening 12 = .ok (.iload_n 2, 1) := by decide +kernel
theorem d_Mo_evening_13 : decode b_Mo_evening 13 = .ok (.i2l, 1) := by decide +kernel
theorem d_Mo_evening_14 : decode b_Mo_evening 14 = .ok (.lconst 1, 1) := by decide +kernel
theorem d_Mo_evening_15 : decode b_Mo_evening 15 = .ok (.ldc2_w 179, 3) := by decide +kernel
theorem d_Mo_evening_18 : decode b_Mo_evening 18 = .ok (.invokestatic 55, 3) := by decide +kernel
theorem d_Mo_evening_21 : decode b_Mo_evening 21 = .ok (.ifCond .eq 13, 3) := by decide +kernel
theorem d_Mo_evening_24 : decode b_Mo_evening 24 = .ok (.iload_n 3, 1) := by decide +kernel
theorem d_Mo_evening_25 : decode b_Mo_evening 25 = .ok (.i2l, 1) := by decide +kernel
theorem d_Mo_evening_26 : decode b_Mo_evening 26 = .ok (.lconst 0, 1) := by decide +kernel
theorem d_Mo_evening_27 : decode b_Mo_evening 27 = .ok (.lconst 1, 1) := by decide +kernel
theorem d_Mo_evening_28 : decode b_Mo_evening 28 = .ok (.invokestatic 55, 3) := by decide +kernel
theorem d_Mo_evening_31 : decode b_Mo_evening 31 = .ok (.ifCond .ne 5, 3) := by decide +kernel
theorem d_Mo_evening_34 : decode b_Mo_evening 34 = .ok (.iconst (-1), 1) := by decide +kernel
theorem d_Mo_evening_35 : decode b_Mo_evening 35 = .ok (.ireturn, 1) := by decide +kernel
theorem d_Mo_evening_36 : decode b_Mo_evening 36 = .ok (.aload_n 0, 1) := by decide +kernel
theorem d_Mo_evening_37 : decode b_Mo_evening 37 = .ok (.getfield 19, 3) := by decide +kernel
theorem d_Mo_evening_40 : decode b_Mo_evening 40 = .ok (.iconst 2, 1) := by decide +kernel
theorem d_Mo_evening_41 : decode b_Mo_evening 41 = .ok (.iaload, 1) := by decide +kernel
theorem d_Mo_evening_42 : decode b_Mo_evening 42 = .ok (.ifCond .lt 6, 3) := by decide +kernel
theorem d_Mo_evening_45 : decode b_Mo_evening 45 = .ok (.bipush (-2), 2) := by decide +kernel
theorem d_Mo_evening_47 : decode b_Mo_evening 47 = .ok (.ireturn, 1) := by decide +kernel
theorem d_Mo_evening_48 : decode b_Mo_evening 48 = .ok (.aload_n 0, 1) := by decide +kernel
theorem d_Mo_evening_49 : decode b_Mo_evening 49 = .ok (.getfield 19, 3) := by decide +kernel
theorem d_Mo_evening_52 : decode b_Mo_evening 52 = .ok (.iconst 0, 1) := by decide +kernel
theorem d_Mo_evening_53 : decode b_Mo_evening 53 = .ok (.iaload, 1) := by decide +kernel
theorem d_Mo_evening_54 : decode b_Mo_evening 54 = .ok (.istore 4, 2) := by decide +kernel
theorem d_Mo_evening_56 : decode b_Mo_evening 56 = .ok (.aload_n 0, 1) := by decide +kernel
theorem d_Mo_evening_57 : decode b_Mo_evening 57 = .ok (.getfield 19, 3) := by decide +kernel
theorem d_Mo_evening_60 : decode b_Mo_evening 60 = .ok (.iconst 1, 1) := by decide +kernel
theorem d_Mo_evening_61 : decode b_Mo_evening 61 = .ok (.iaload, 1) := by decide +kernel
theorem d_Mo_evening_62 : decode b_Mo_evening 62 = .ok (.istore 5, 2) := by decide +kernel
theorem d_Mo_evening_64 : decode b_Mo_evening 64 = .ok (.iconst 0, 1) := by decide +kernel
theorem d_Mo_evening_65 : decode b_Mo_evening 65 = .ok (.istore 6, 2) := by decide +kernel
theorem d_Mo_evening_67 : decode b_Mo_evening 67 = .ok (.iload 6, 2) := by decide +kernel
theorem d_Mo_evening_69 : decode b_Mo_evening 69 = .ok (.bipush 9, 2) := by decide +kernel
theorem d_Mo_evening_71 : decode b_Mo_evening 71 = .ok (.if_icmp .ge 25, 3) := by decide +kernel
theorem d_Mo_evening_74 : decode b_Mo_evening 74 = .ok (.aload_n 0, 1) := by decide +kernel
theorem d_Mo_evening_75 : decode b_Mo_evening 75 = .ok (.getfield 34, 3) := by decide +kernel
theorem d_Mo_evening_78 : decode b_Mo_evening 78 = .ok (.iload 6, 2) := by decide +kernel
theorem d_Mo_evening_80 : decode b_Mo_evening 80 = .ok (.aload_n 0, 1) := by decide +kernel
theorem d_Mo_evening_81 : decode b_Mo_evening 81 = .ok (.getfield 19, 3) := by decide +kernel
theorem d_Mo_evening_84 : decode b_Mo_evening 84 = .ok (.iconst 3, 1) := by decide +kernel
theorem d_Mo_evening_85 : decode b_Mo_evening 85 = .ok (.iload 6, 2) := by decide +kernel
theorem d_Mo_evening_87 : decode b_Mo_evening 87 = .ok (.iadd, 1) := by decide +kernel
theorem d_Mo_evening_88 : decode b_Mo_evening 88 = .ok (.iaload, 1) := by decide +kernel
theorem d_Mo_evening_89 : decode b_Mo_evening 89 = .ok (.iastore, 1) := by decide +kernel
theorem d_Mo_evening_90 : decode b_Mo_evening 90 = .ok (.iinc 6 1, 3) := by decide +kernel
theorem d_Mo_evening_93 : decode b_Mo_evening 93 = .ok (.goto (-26), 3) := by decide +kernel
theorem d_Mo_evening_96 : decode b_Mo_evening 96 = .ok (.iconst 0, 1) := by decide +kernel
theorem d_Mo_evening_97 : decode b_Mo_evening 97 = .ok (.istore 6, 2) := by decide +kernel
theorem d_Mo_evening_99 : decode b_Mo_evening 99 = .ok (.iload 6, 2) := by decide +kernel
theorem d_Mo_evening_101 : decode b_Mo_evening 101 = .ok (.iload_n 2, 1) := by decide +kernel
theorem d_Mo_evening_102 : decode b_Mo_evening 102 = .ok (.if_icmp .ge 150, 3) := by decide +kernel
theorem d_Mo_evening_105 : decode b_Mo_evening 105 = .ok (.ldc2_w 181, 3) := by decide +kernel
theorem d_Mo_evening_108 : decode b_Mo_evening 108 = .ok (.iload_n 1, 1) := by decide +kernel
theorem d_Mo_evening_109 : decode b_Mo_evening 109 = .ok (.i2l, 1) := by decide +kernel
theorem d_Mo_evening_110 : decode b_Mo_evening 110 = .ok (.lmul, 1) := by decide +kernel
theorem d_Mo_evening_111 : decode b_Mo_evening 111 = .ok (.ldc2_w 183, 3) := by decide +kernel
theorem d_Mo_evening_114 : decode b_Mo_evening 114 = .ok (.iload 6, 2) := by decide +kernel
theorem d_Mo_evening_116 : decode b_Mo_evening 116 = .ok (.i2l, 1) := by decide +kernel
theorem d_Mo_evening_117 : decode b_Mo_evening 117 = .ok (.lmul, 1) := by decide +kernel
theorem d_Mo_evening_118 : decode b_Mo_evening 118 = .ok (.ladd, 1) := by decide +kernel
theorem d_Mo_evening_119 : decode b_Mo_evening 119 = .ok (.lconst 1, 1) := by decide +kernel
theorem d_Mo_evening_120 : decode b_Mo_evening 120 = .ok (.ladd, 1) := by decide +kernel
theorem d_Mo_evening_121 : decode b_Mo_evening 121 = .ok (.lstore 7, 2) := by decide +kernel
theorem d_Mo_evening_123 : decode b_Mo_evening 123 = .ok (.lload 7, 2) := by decide +kernel
theorem d_Mo_evening_125 : decode b_Mo_evening 125 = .ok (.lload 7, 2) := by decide +kernel
theorem d_Mo_evening_127 : decode b_Mo_evening 127 = .ok (.lmul, 1) := by decide +kernel
theorem d_Mo_evening_128 : decode b_Mo_evening 128 = .ok (.ldc2_w 185, 3) := by decide +kernel
theorem d_Mo_evening_131 : decode b_Mo_evening 131 = .ok (.lrem, 1) := by decide +kernel
theorem d_Mo_evening_132 : decode b_Mo_evening 132 = .ok (.l2i, 1) := by decide +kernel
theorem d_Mo_evening_133 : decode b_Mo_evening 133 = .ok (.iconst 2, 1) := by decide +kernel
theorem d_Mo_evening_134 : decode b_Mo_evening 134 = .ok (.idiv, 1) := by decide +kernel
theorem d_Mo_evening_135 : decode b_Mo_evening 135 = .ok (.istore 9, 2) := by decide +kernel
theorem d_Mo_evening_137 : decode b_Mo_evening 137 = .ok (.iload 4, 2) := by decide +kernel
theorem d_Mo_evening_139 : decode b_Mo_evening 139 = .ok (.iload 4, 2) := by decide +kernel
theorem d_Mo_evening_141 : decode b_Mo_evening 141 = .ok (.iconst 1, 1) := by decide +kernel
theorem d_Mo_evening_142 : decode b_Mo_evening 142 = .ok (.iadd, 1) := by decide +kernel
theorem d_Mo_evening_143 : decode b_Mo_evening 143 = .ok (.iload 9, 2) := by decide +kernel
theorem d_Mo_evening_145 : decode b_Mo_evening 145 = .ok (.iconst 5, 1) := by decide +kernel
theorem d_Mo_evening_146 : decode b_Mo_evening 146 = .ok (.irem, 1) := by decide +kernel
theorem d_Mo_evening_147 : decode b_Mo_evening 147 = .ok (.iadd, 1) := by decide +kernel
theorem d_Mo_evening_148 : decode b_Mo_evening 148 = .ok (.bipush 99, 2) := by decide +kernel
theorem d_Mo_evening_150 : decode b_Mo_evening 150 = .ok (.if_icmp .le 7, 3) := by decide +kernel
theorem d_Mo_evening_153 : decode b_Mo_evening 153 = .ok (.iconst 0, 1) := by decide +kernel
theorem d_Mo_evening_154 : decode b_Mo_evening 154 = .ok (.goto 9, 3) := by decide +kernel
theorem d_Mo_evening_157 : decode b_Mo_evening 157 = .ok (.iconst 1, 1) := by decide +kernel
theorem d_Mo_evening_158 : decode b_Mo_evening 158 = .ok (.iload 9, 2) := by decide +kernel
theorem d_Mo_evening_160 : decode b_Mo_evening 160 = .ok (.iconst 5, 1) := by decide +kernel
theorem d_Mo_evening_161 : decode b_Mo_evening 161 = .ok (.irem, 1) := by decide +kernel
theorem d_Mo_evening_162 : decode b_Mo_evening 162 = .ok (.iadd, 1) := by decide +kernel
theorem d_Mo_evening_163 : decode b_Mo_evening 163 = .ok (.iadd, 1) := by decide +kernel
theorem d_Mo_evening_164 : decode b_Mo_evening 164 = .ok (.istore 4, 2) := by decide +kernel
theorem d_Mo_evening_166 : decode b_Mo_evening 166 = .ok (.iload 9, 2) := by decide +kernel
theorem d_Mo_evening_168 : decode b_Mo_evening 168 = .ok (.bipush 8, 2) := by decide +kernel
theorem d_Mo_evening_170 : decode b_Mo_evening 170 = .ok (.idiv, 1) := by decide +kernel
theorem d_Mo_evening_171 : decode b_Mo_evening 171 = .ok (.aload_n 0, 1) := by decide +kernel
theorem d_Mo_evening_172 : decode b_Mo_evening 172 = .ok (.getfield 13, 3) := by decide +kernel
theorem d_Mo_evening_175 : decode b_Mo_evening 175 = .ok (.iconst 1, 1) := by decide +kernel
theorem d_Mo_evening_176 : decode b_Mo_evening 176 = .ok (.iaload, 1) := by decide +kernel
theorem d_Mo_evening_177 : decode b_Mo_evening 177 = .ok (.irem, 1) := by decide +kernel
theorem d_Mo_evening_178 : decode b_Mo_evening 178 = .ok (.istore 10, 2) := by decide +kernel
theorem d_Mo_evening_180 : decode b_Mo_evening 180 = .ok (.aload_n 0, 1) := by decide +kernel
theorem d_Mo_evening_181 : decode b_Mo_evening 181 = .ok (.getfield 34, 3) := by decide +kernel
theorem d_Mo_evening_184 : decode b_Mo_evening 184 = .ok (.iload 10, 2) := by decide +kernel
theorem d_Mo_evening_186 : decode b_Mo_evening 186 = .ok (.iaload, 1) := by decide +kernel
theorem d_Mo_evening_187 : decode b_Mo_evening 187 = .ok (.ifCond .le 59, 3) := by decide +kernel
theorem d_Mo_evening_190 : decode b_Mo_evening 190 = .ok (.aload_n 0, 1) := by decide +kernel
theorem d_Mo_evening_191 : decode b_Mo_evening 191 = .ok (.iload 5, 2) := by decide +kernel
theorem d_Mo_evening_193 : decode b_Mo_evening 193 = .ok (.invokevirtual 118, 3) := by decide +kernel
theorem d_Mo_evening_196 : decode b_Mo_evening 196 = .ok (.invokestatic 142, 3) := by decide +kernel
theorem d_Mo_evening_199 : decode b_Mo_evening 199 = .ok (.iconst 1, 1) := by decide +kernel
theorem d_Mo_evening_200 : decode b_Mo_evening 200 = .ok (.if_icmp .le 46, 3) := by decide +kernel
theorem d_Mo_evening_203 : decode b_Mo_evening 203 = .ok (.iload 9, 2) := by decide +kernel
theorem d_Mo_evening_205 : decode b_Mo_evening 205 = .ok (.sipush 128, 3) := by decide +kernel
theorem d_Mo_evening_208 : decode b_Mo_evening 208 = .ok (.idiv, 1) := by decide +kernel
theorem d_Mo_evening_209 : decode b_Mo_evening 209 = .ok (.iconst 3, 1) := by decide +kernel
theorem d_Mo_evening_210 : decode b_Mo_evening 210 = .ok (.irem, 1) := by decide +kernel
theorem d_Mo_evening_211 : decode b_Mo_evening 211 = .ok (.ifCond .ne 35, 3) := by decide +kernel
theorem d_Mo_evening_214 : decode b_Mo_evening 214 = .ok (.iload 5, 2) := by decide +kernel
theorem d_Mo_evening_216 : decode b_Mo_evening 216 = .ok (.iconst 1, 1) := by decide +kernel
theorem d_Mo_evening_217 : decode b_Mo_evening 217 = .ok (.aload_n 0, 1) := by decide +kernel
theorem d_Mo_evening_218 : decode b_Mo_evening 218 = .ok (.iload 10, 2) := by decide +kernel
theorem d_Mo_evening_220 : decode b_Mo_evening 220 = .ok (.aload_n 0, 1) := by decide +kernel
theorem d_Mo_evening_221 : decode b_Mo_evening 221 = .ok (.iload 5, 2) := by decide +kernel
theorem d_Mo_evening_223 : decode b_Mo_evening 223 = .ok (.invokevirtual 118, 3) := by decide +kernel
theorem d_Mo_evening_226 : decode b_Mo_evening 226 = .ok (.iload 4, 2) := by decide +kernel
theorem d_Mo_evening_228 : decode b_Mo_evening 228 = .ok (.invokevirtual 161, 3) := by decide +kernel
theorem d_Mo_evening_231 : decode b_Mo_evening 231 = .ok (.ishl, 1) := by decide +kernel
theorem d_Mo_evening_232 : decode b_Mo_evening 232 = .ok (.ior, 1) := by decide +kernel
theorem d_Mo_evening_233 : decode b_Mo_evening 233 = .ok (.istore 5, 2) := by decide +kernel
theorem d_Mo_evening_235 : decode b_Mo_evening 235 = .ok (.aload_n 0, 1) := by decide +kernel
theorem d_Mo_evening_236 : decode b_Mo_evening 236 = .ok (.getfield 34, 3) := by decide +kernel
theorem d_Mo_evening_239 : decode b_Mo_evening 239 = .ok (.iload 10, 2) := by decide +kernel
theorem d_Mo_evening_241 : decode b_Mo_evening 241 = .ok (.dup2, 1) := by decide +kernel
theorem d_Mo_evening_242 : decode b_Mo_evening 242 = .ok (.iaload, 1) := by decide +kernel
theorem d_Mo_evening_243 : decode b_Mo_evening 243 = .ok (.iconst 1, 1) := by decide +kernel
theorem d_Mo_evening_244 : decode b_Mo_evening 244 = .ok (.isub, 1) := by decide +kernel
theorem d_Mo_evening_245 : decode b_Mo_evening 245 = .ok (.iastore, 1) := by decide +kernel
theorem d_Mo_evening_246 : decode b_Mo_evening 246 = .ok (.iinc 6 1, 3) := by decide +kernel
theorem d_Mo_evening_249 : decode b_Mo_evening 249 = .ok (.goto (-150), 3) := by decide +kernel
theorem d_Mo_evening_252 : decode b_Mo_evening 252 = .ok (.iload_n 3, 1) := by decide +kernel
theorem d_Mo_evening_253 : decode b_Mo_evening 253 = .ok (.ifCond .ne 12, 3) := by decide +kernel
theorem d_Mo_evening_256 : decode b_Mo_evening 256 = .ok (.aload_n 0, 1) := by decide +kernel
theorem d_Mo_evening_257 : decode b_Mo_evening 257 = .ok (.iload 5, 2) := by decide +kernel
theorem d_Mo_evening_259 : decode b_Mo_evening 259 = .ok (.invokevirtual 118, 3) := by decide +kernel
theorem d_Mo_evening_262 : decode b_Mo_evening 262 = .ok (.goto 17, 3) := by decide +kernel
theorem d_Mo_evening_265 : decode b_Mo_evening 265 = .ok (.aload_n 0, 1) := by decide +kernel
theorem d_Mo_evening_266 : decode b_Mo_evening 266 = .ok (.aload_n 0, 1) := by decide +kernel
theorem d_Mo_evening_267 : decode b_Mo_evening 267 = .ok (.iload 5, 2) := by decide +kernel
theorem d_Mo_evening_269 : decode b_Mo_evening 269 = .ok (.invokevirtual 118, 3) := by decide +kernel
theorem d_Mo_evening_272 : decode b_Mo_evening 272 = .ok (.iload 4, 2) := by decide +kernel
theorem d_Mo_evening_274 : decode b_Mo_evening 274 = .ok (.bipush (-4), 2) := by decide +kernel
theorem d_Mo_evening_276 : decode b_Mo_evening 276 = .ok (.invokevirtual 148, 3) := by decide +kernel
theorem d_Mo_evening_279 : decode b_Mo_evening 279 = .ok (.ireturn, 1) := by decide +kernel
theorem d_Mo_keep_0 : decode b_Mo_keep 0 = .ok (.aload_n 0, 1) := by decide +kernel
theorem d_Mo_keep_1 : decode b_Mo_keep 1 = .ok (.getfield 107, 3) := by decide +kernel
theorem d_Mo_keep_4 : decode b_Mo_keep 4 = .ok (.iconst 2, 1) := by decide +kernel
theorem d_Mo_keep_5 : decode b_Mo_keep 5 = .ok (.if_icmp .ne 6, 3) := by decide +kernel
theorem d_Mo_keep_8 : decode b_Mo_keep 8 = .ok (.bipush (-3), 2) := by decide +kernel
theorem d_Mo_keep_10 : decode b_Mo_keep 10 = .ok (.ireturn, 1) := by decide +kernel
theorem d_Mo_keep_11 : decode b_Mo_keep 11 = .ok (.iconst 0, 1) := by decide +kernel
theorem d_Mo_keep_12 : decode b_Mo_keep 12 = .ok (.istore_n 1, 1) := by decide +kernel
theorem d_Mo_keep_13 : decode b_Mo_keep 13 = .ok (.iload_n 1, 1) := by decide +kernel
theorem d_Mo_keep_14 : decode b_Mo_keep 14 = .ok (.bipush 12, 2) := by decide +kernel
theorem d_Mo_keep_16 : decode b_Mo_keep 16 = .ok (.if_icmp .ge 29, 3) := by decide +kernel
theorem d_Mo_keep_19 : decode b_Mo_keep 19 = .ok (.aload_n 0, 1) := by decide +kernel
theorem d_Mo_keep_20 : decode b_Mo_keep 20 = .ok (.getfield 25, 3) := by decide +kernel
theorem d_Mo_keep_23 : decode b_Mo_keep 23 = .ok (.bipush 12, 2) := by decide +kernel
theorem d_Mo_keep_25 : decode b_Mo_keep 25 = .ok (.aload_n 0, 1) := by decide +kernel
theorem d_Mo_keep_26 : decode b_Mo_keep 26 = .ok (.getfield 107, 3) := by decide +kernel
theorem d_Mo_keep_29 : decode b_Mo_keep 29 = .ok (.imul, 1) := by decide +kernel
theorem d_Mo_keep_30 : decode b_Mo_keep 30 = .ok (.iload_n 1, 1) := by decide +kernel
theorem d_Mo_keep_31 : decode b_Mo_keep 31 = .ok (.iadd, 1) := by decide +kernel
theorem d_Mo_keep_32 : decode b_Mo_keep 32 = .ok (.aload_n 0, 1) := by decide +kernel
theorem d_Mo_keep_33 : decode b_Mo_keep 33 = .ok (.getfield 19, 3) := by decide +kernel
theorem d_Mo_keep_36 : decode b_Mo_keep 36 = .ok (.iload_n 1, 1) := by decide +kernel
theorem d_Mo_keep_37 : decode b_Mo_keep 37 = .ok (.iaload, 1) := by decide +kernel
theorem d_Mo_keep_38 : decode b_Mo_keep 38 = .ok (.iastore, 1) := by decide +kernel
theorem d_Mo_keep_39 : decode b_Mo_keep 39 = .ok (.iinc 1 1, 3) := by decide +kernel
theorem d_Mo_keep_42 : decode b_Mo_keep 42 = .ok (.goto (-29), 3) := by decide +kernel
theorem d_Mo_keep_45 : decode b_Mo_keep 45 = .ok (.aload_n 0, 1) := by decide +kernel
theorem d_Mo_keep_46 : decode b_Mo_keep 46 = .ok (.dup, 1) := by decide +kernel
theorem d_Mo_keep_47 : decode b_Mo_keep 47 = .ok (.getfield 107, 3) := by decide +kernel
theorem d_Mo_keep_50 : decode b_Mo_keep 50 = .ok (.iconst 1, 1) := by decide +kernel
theorem d_Mo_keep_51 : decode b_Mo_keep 51 = .ok (.iadd, 1) := by decide +kernel
theorem d_Mo_keep_52 : decode b_Mo_keep 52 = .ok (.putfield 107, 3) := by decide +kernel
theorem d_Mo_keep_55 : decode b_Mo_keep 55 = .ok (.aload_n 0, 1) := by decide +kernel
theorem d_Mo_keep_56 : decode b_Mo_keep 56 = .ok (.getfield 107, 3) := by decide +kernel
theorem d_Mo_keep_59 : decode b_Mo_keep 59 = .ok (.ireturn, 1) := by decide +kernel
theorem d_Mo_back_0 : decode b_Mo_back 0 = .ok (.aload_n 0, 1) := by decide +kernel
theorem d_Mo_back_1 : decode b_Mo_back 1 = .ok (.getfield 107, 3) := by decide +kernel
theorem d_Mo_back_4 : decode b_Mo_back 4 = .ok (.ifCond .ne 6, 3) := by decide +kernel
theorem d_Mo_back_7 : decode b_Mo_back 7 = .ok (.bipush (-2), 2) := by decide +kernel
theorem d_Mo_back_9 : decode b_Mo_back 9 = .ok (.ireturn, 1) := by decide +kernel
theorem d_Mo_back_10 : decode b_Mo_back 10 = .ok (.aload_n 0, 1) := by decide +kernel
theorem d_Mo_back_11 : decode b_Mo_back 11 = .ok (.dup, 1) := by decide +kernel
theorem d_Mo_back_12 : decode b_Mo_back 12 = .ok (.getfield 107, 3) := by decide +kernel
theorem d_Mo_back_15 : decode b_Mo_back 15 = .ok (.iconst 1, 1) := by decide +kernel
theorem d_Mo_back_16 : decode b_Mo_back 16 = .ok (.isub, 1) := by decide +kernel
theorem d_Mo_back_17 : decode b_Mo_back 17 = .ok (.putfield 107, 3) := by decide +kernel
theorem d_Mo_back_20 : decode b_Mo_back 20 = .ok (.iconst 0, 1) := by decide +kernel
theorem d_Mo_back_21 : decode b_Mo_back 21 = .ok (.istore_n 1, 1) := by decide +kernel
theorem d_Mo_back_22 : decode b_Mo_back 22 = .ok (.iload_n 1, 1) := by decide +kernel
theorem d_Mo_back_23 : decode b_Mo_back 23 = .ok (.bipush 12, 2) := by decide +kernel
theorem d_Mo_back_25 : decode b_Mo_back 25 = .ok (.if_icmp .ge 29, 3) := by decide +kernel
theorem d_Mo_back_28 : decode b_Mo_back 28 = .ok (.aload_n 0, 1) := by decide +kernel
theorem d_Mo_back_29 : decode b_Mo_back 29 = .ok (.getfield 19, 3) := by decide +kernel
theorem d_Mo_back_32 : decode b_Mo_back 32 = .ok (.iload_n 1, 1) := by decide +kernel
theorem d_Mo_back_33 : decode b_Mo_back 33 = .ok (.aload_n 0, 1) := by decide +kernel
theorem d_Mo_back_34 : decode b_Mo_back 34 = .ok (.getfield 25, 3) := by decide +kernel
theorem d_Mo_back_37 : decode b_Mo_back 37 = .ok (.bipush 12, 2) := by decide +kernel
theorem d_Mo_back_39 : decode b_Mo_back 39 = .ok (.aload_n 0, 1) := by decide +kernel
theorem d_Mo_back_40 : decode b_Mo_back 40 = .ok (.getfield 107, 3) := by decide +kernel
theorem d_Mo_back_43 : decode b_Mo_back 43 = .ok (.imul, 1) := by decide +kernel
theorem d_Mo_back_44 : decode b_Mo_back 44 = .ok (.iload_n 1, 1) := by decide +kernel
theorem d_Mo_back_45 : decode b_Mo_back 45 = .ok (.iadd, 1) := by decide +kernel
theorem d_Mo_back_46 : decode b_Mo_back 46 = .ok (.iaload, 1) := by decide +kernel
theorem d_Mo_back_47 : decode b_Mo_back 47 = .ok (.iastore, 1) := by decide +kernel
theorem d_Mo_back_48 : decode b_Mo_back 48 = .ok (.iinc 1 1, 3) := by decide +kernel
theorem d_Mo_back_51 : decode b_Mo_back 51 = .ok (.goto (-29), 3) := by decide +kernel
theorem d_Mo_back_54 : decode b_Mo_back 54 = .ok (.aload_n 0, 1) := by decide +kernel
theorem d_Mo_back_55 : decode b_Mo_back 55 = .ok (.iconst 0, 1) := by decide +kernel
theorem d_Mo_back_56 : decode b_Mo_back 56 = .ok (.putfield 104, 3) := by decide +kernel
theorem d_Mo_back_59 : decode b_Mo_back 59 = .ok (.aload_n 0, 1) := by decide +kernel
theorem d_Mo_back_60 : decode b_Mo_back 60 = .ok (.getfield 107, 3) := by decide +kernel
theorem d_Mo_back_63 : decode b_Mo_back 63 = .ok (.ireturn, 1) := by decide +kernel
theorem d_Mo_count_0 : decode b_Mo_count 0 = .ok (.iload_n 1, 1) := by decide +kernel
theorem d_Mo_count_1 : decode b_Mo_count 1 = .ok (.tableswitch 109 0 8 #[51, 58, 65, 72, 82, 89, 94, 99, 104], 51) := by decide +kernel
theorem d_Mo_count_52 : decode b_Mo_count 52 = .ok (.aload_n 0, 1) := by decide +kernel
theorem d_Mo_count_53 : decode b_Mo_count 53 = .ok (.getfield 13, 3) := by decide +kernel
theorem d_Mo_count_56 : decode b_Mo_count 56 = .ok (.iconst 1, 1) := by decide +kernel
theorem d_Mo_count_57 : decode b_Mo_count 57 = .ok (.iaload, 1) := by decide +kernel
theorem d_Mo_count_58 : decode b_Mo_count 58 = .ok (.ireturn, 1) := by decide +kernel
theorem d_Mo_count_59 : decode b_Mo_count 59 = .ok (.aload_n 0, 1) := by decide +kernel
theorem d_Mo_count_60 : decode b_Mo_count 60 = .ok (.getfield 13, 3) := by decide +kernel
theorem d_Mo_count_63 : decode b_Mo_count 63 = .ok (.iconst 0, 1) := by decide +kernel
theorem d_Mo_count_64 : decode b_Mo_count 64 = .ok (.iaload, 1) := by decide +kernel
theorem d_Mo_count_65 : decode b_Mo_count 65 = .ok (.ireturn, 1) := by decide +kernel
theorem d_Mo_count_66 : decode b_Mo_count 66 = .ok (.aload_n 0, 1) := by decide +kernel
theorem d_Mo_count_67 : decode b_Mo_count 67 = .ok (.getfield 19, 3) := by decide +kernel
theorem d_Mo_count_70 : decode b_Mo_count 70 = .ok (.iconst 0, 1) := by decide +kernel
theorem d_Mo_count_71 : decode b_Mo_count 71 = .ok (.iaload, 1) := by decide +kernel
theorem d_Mo_count_72 : decode b_Mo_count 72 = .ok (.ireturn, 1) := by decide +kernel
theorem d_Mo_count_73 : decode b_Mo_count 73 = .ok (.aload_n 0, 1) := by decide +kernel
theorem d_Mo_count_74 : decode b_Mo_count 74 = .ok (.getfield 19, 3) := by decide +kernel
theorem d_Mo_count_77 : decode b_Mo_count 77 = .ok (.iconst 1, 1) := by decide +kernel
theorem d_Mo_count_78 : decode b_Mo_count 78 = .ok (.iaload, 1) := by decide +kernel
theorem d_Mo_count_79 : decode b_Mo_count 79 = .ok (.invokestatic 142, 3) := by decide +kernel
theorem d_Mo_count_82 : decode b_Mo_count 82 = .ok (.ireturn, 1) := by decide +kernel
theorem d_Mo_count_83 : decode b_Mo_count 83 = .ok (.aload_n 0, 1) := by decide +kernel
theorem d_Mo_count_84 : decode b_Mo_count 84 = .ok (.getfield 19, 3) := by decide +kernel
theorem d_Mo_count_87 : decode b_Mo_count 87 = .ok (.iconst 2, 1) := by decide +kernel
theorem d_Mo_count_88 : decode b_Mo_count 88 = .ok (.iaload, 1) := by decide +kernel
theorem d_Mo_count_89 : decode b_Mo_count 89 = .ok (.ireturn, 1) := by decide +kernel
theorem d_Mo_count_90 : decode b_Mo_count 90 = .ok (.aload_n 0, 1) := by decide +kernel
theorem d_Mo_count_91 : decode b_Mo_count 91 = .ok (.getfield 101, 3) := by decide +kernel
theorem d_Mo_count_94 : decode b_Mo_count 94 = .ok (.ireturn, 1) := by decide +kernel
theorem d_Mo_count_95 : decode b_Mo_count 95 = .ok (.aload_n 0, 1) := by decide +kernel
theorem d_Mo_count_96 : decode b_Mo_count 96 = .ok (.getfield 104, 3) := by decide +kernel
theorem d_Mo_count_99 : decode b_Mo_count 99 = .ok (.ireturn, 1) := by decide +kernel
theorem d_Mo_count_100 : decode b_Mo_count 100 = .ok (.aload_n 0, 1) := by decide +kernel
theorem d_Mo_count_101 : decode b_Mo_count 101 = .ok (.getfield 107, 3) := by decide +kernel
theorem d_Mo_count_104 : decode b_Mo_count 104 = .ok (.ireturn, 1) := by decide +kernel
theorem d_Mo_count_105 : decode b_Mo_count 105 = .ok (.aload_n 0, 1) := by decide +kernel
theorem d_Mo_count_106 : decode b_Mo_count 106 = .ok (.getfield 59, 3) := by decide +kernel
theorem d_Mo_count_109 : decode b_Mo_count 109 = .ok (.ireturn, 1) := by decide +kernel
theorem d_Mo_count_110 : decode b_Mo_count 110 = .ok (.iconst (-1), 1) := by decide +kernel
theorem d_Mo_count_111 : decode b_Mo_count 111 = .ok (.ireturn, 1) := by decide +kernel
theorem d_Int_compare_7cf53_0 : decode b_Int_compare_7cf53 0 = .ok (.iload_n 0, 1) := by decide +kernel
theorem d_Int_compare_7cf53_1 : decode b_Int_compare_7cf53 1 = .ok (.iload_n 1, 1) := by decide +kernel
theorem d_Int_compare_7cf53_2 : decode b_Int_compare_7cf53 2 = .ok (.if_icmp .ge 7, 3) := by decide +kernel
theorem d_Int_compare_7cf53_5 : decode b_Int_compare_7cf53 5 = .ok (.iconst (-1), 1) := by decide +kernel
theorem d_Int_compare_7cf53_6 : decode b_Int_compare_7cf53 6 = .ok (.goto 13, 3) := by decide +kernel
theorem d_Int_compare_7cf53_9 : decode b_Int_compare_7cf53 9 = .ok (.iload_n 0, 1) := by decide +kernel
theorem d_Int_compare_7cf53_10 : decode b_Int_compare_7cf53 10 = .ok (.iload_n 1, 1) := by decide +kernel
theorem d_Int_compare_7cf53_11 : decode b_Int_compare_7cf53 11 = .ok (.if_icmp .ne 7, 3) := by decide +kernel
theorem d_Int_compare_7cf53_14 : decode b_Int_compare_7cf53 14 = .ok (.iconst 0, 1) := by decide +kernel
theorem d_Int_compare_7cf53_15 : decode b_Int_compare_7cf53 15 = .ok (.goto 4, 3) := by decide +kernel
theorem d_Int_compare_7cf53_18 : decode b_Int_compare_7cf53 18 = .ok (.iconst 1, 1) := by decide +kernel
theorem d_Int_compare_7cf53_19 : decode b_Int_compare_7cf53 19 = .ok (.ireturn, 1) := by decide +kernel
theorem d_Int_bitCount_0f7a4_0 : decode b_Int_bitCount_0f7a4 0 = .ok (.iload_n 0, 1) := by decide +kernel
theorem d_Int_bitCount_0f7a4_1 : decode b_Int_bitCount_0f7a4 1 = .ok (.iload_n 0, 1) := by decide +kernel
theorem d_Int_bitCount_0f7a4_2 : decode b_Int_bitCount_0f7a4 2 = .ok (.iconst 1, 1) := by decide +kernel
theorem d_Int_bitCount_0f7a4_3 : decode b_Int_bitCount_0f7a4 3 = .ok (.iushr, 1) := by decide +kernel
theorem d_Int_bitCount_0f7a4_4 : decode b_Int_bitCount_0f7a4 4 = .ok (.ldc_w 265, 3) := by decide +kernel
theorem d_Int_bitCount_0f7a4_7 : decode b_Int_bitCount_0f7a4 7 = .ok (.iand, 1) := by decide +kernel
theorem d_Int_bitCount_0f7a4_8 : decode b_Int_bitCount_0f7a4 8 = .ok (.isub, 1) := by decide +kernel
theorem d_Int_bitCount_0f7a4_9 : decode b_Int_bitCount_0f7a4 9 = .ok (.istore_n 0, 1) := by decide +kernel
theorem d_Int_bitCount_0f7a4_10 : decode b_Int_bitCount_0f7a4 10 = .ok (.iload_n 0, 1) := by decide +kernel
theorem d_Int_bitCount_0f7a4_11 : decode b_Int_bitCount_0f7a4 11 = .ok (.ldc_w 266, 3) := by decide +kernel
theorem d_Int_bitCount_0f7a4_14 : decode b_Int_bitCount_0f7a4 14 = .ok (.iand, 1) := by decide +kernel
theorem d_Int_bitCount_0f7a4_15 : decode b_Int_bitCount_0f7a4 15 = .ok (.iload_n 0, 1) := by decide +kernel
theorem d_Int_bitCount_0f7a4_16 : decode b_Int_bitCount_0f7a4 16 = .ok (.iconst 2, 1) := by decide +kernel
theorem d_Int_bitCount_0f7a4_17 : decode b_Int_bitCount_0f7a4 17 = .ok (.iushr, 1) := by decide +kernel
theorem d_Int_bitCount_0f7a4_18 : decode b_Int_bitCount_0f7a4 18 = .ok (.ldc_w 266, 3) := by decide +kernel
theorem d_Int_bitCount_0f7a4_21 : decode b_Int_bitCount_0f7a4 21 = .ok (.iand, 1) := by decide +kernel
theorem d_Int_bitCount_0f7a4_22 : decode b_Int_bitCount_0f7a4 22 = .ok (.iadd, 1) := by decide +kernel
theorem d_Int_bitCount_0f7a4_23 : decode b_Int_bitCount_0f7a4 23 = .ok (.istore_n 0, 1) := by decide +kernel
theorem d_Int_bitCount_0f7a4_24 : decode b_Int_bitCount_0f7a4 24 = .ok (.iload_n 0, 1) := by decide +kernel
theorem d_Int_bitCount_0f7a4_25 : decode b_Int_bitCount_0f7a4 25 = .ok (.iload_n 0, 1) := by decide +kernel
theorem d_Int_bitCount_0f7a4_26 : decode b_Int_bitCount_0f7a4 26 = .ok (.iconst 4, 1) := by decide +kernel
theorem d_Int_bitCount_0f7a4_27 : decode b_Int_bitCount_0f7a4 27 = .ok (.iushr, 1) := by decide +kernel
theorem d_Int_bitCount_0f7a4_28 : decode b_Int_bitCount_0f7a4 28 = .ok (.iadd, 1) := by decide +kernel
theorem d_Int_bitCount_0f7a4_29 : decode b_Int_bitCount_0f7a4 29 = .ok (.ldc_w 267, 3) := by decide +kernel
theorem d_Int_bitCount_0f7a4_32 : decode b_Int_bitCount_0f7a4 32 = .ok (.iand, 1) := by decide +kernel
theorem d_Int_bitCount_0f7a4_33 : decode b_Int_bitCount_0f7a4 33 = .ok (.istore_n 0, 1) := by decide +kernel
theorem d_Int_bitCount_0f7a4_34 : decode b_Int_bitCount_0f7a4 34 = .ok (.iload_n 0, 1) := by decide +kernel
theorem d_Int_bitCount_0f7a4_35 : decode b_Int_bitCount_0f7a4 35 = .ok (.iload_n 0, 1) := by decide +kernel
theorem d_Int_bitCount_0f7a4_36 : decode b_Int_bitCount_0f7a4 36 = .ok (.bipush 8, 2) := by decide +kernel
theorem d_Int_bitCount_0f7a4_38 : decode b_Int_bitCount_0f7a4 38 = .ok (.iushr, 1) := by decide +kernel
theorem d_Int_bitCount_0f7a4_39 : decode b_Int_bitCount_0f7a4 39 = .ok (.iadd, 1) := by decide +kernel
theorem d_Int_bitCount_0f7a4_40 : decode b_Int_bitCount_0f7a4 40 = .ok (.istore_n 0, 1) := by decide +kernel
theorem d_Int_bitCount_0f7a4_41 : decode b_Int_bitCount_0f7a4 41 = .ok (.iload_n 0, 1) := by decide +kernel
theorem d_Int_bitCount_0f7a4_42 : decode b_Int_bitCount_0f7a4 42 = .ok (.iload_n 0, 1) := by decide +kernel
theorem d_Int_bitCount_0f7a4_43 : decode b_Int_bitCount_0f7a4 43 = .ok (.bipush 16, 2) := by decide +kernel
theorem d_Int_bitCount_0f7a4_45 : decode b_Int_bitCount_0f7a4 45 = .ok (.iushr, 1) := by decide +kernel
theorem d_Int_bitCount_0f7a4_46 : decode b_Int_bitCount_0f7a4 46 = .ok (.iadd, 1) := by decide +kernel
theorem d_Int_bitCount_0f7a4_47 : decode b_Int_bitCount_0f7a4 47 = .ok (.istore_n 0, 1) := by decide +kernel
theorem d_Int_bitCount_0f7a4_48 : decode b_Int_bitCount_0f7a4 48 = .ok (.iload_n 0, 1) := by decide +kernel
theorem d_Int_bitCount_0f7a4_49 : decode b_Int_bitCount_0f7a4 49 = .ok (.bipush 63, 2) := by decide +kernel
theorem d_Int_bitCount_0f7a4_51 : decode b_Int_bitCount_0f7a4 51 = .ok (.iand, 1) := by decide +kernel
theorem d_Int_bitCount_0f7a4_52 : decode b_Int_bitCount_0f7a4 52 = .ok (.ireturn, 1) := by decide +kernel
theorem d_Math_max_7cf53_0 : decode b_Math_max_7cf53 0 = .ok (.iload_n 0, 1) := by decide +kernel
theorem d_Math_max_7cf53_1 : decode b_Math_max_7cf53 1 = .ok (.iload_n 1, 1) := by decide +kernel
theorem d_Math_max_7cf53_2 : decode b_Math_max_7cf53 2 = .ok (.if_icmp .lt 7, 3) := by decide +kernel
theorem d_Math_max_7cf53_5 : decode b_Math_max_7cf53 5 = .ok (.iload_n 0, 1) := by decide +kernel
theorem d_Math_max_7cf53_6 : decode b_Math_max_7cf53 6 = .ok (.goto 4, 3) := by decide +kernel
theorem d_Math_max_7cf53_9 : decode b_Math_max_7cf53 9 = .ok (.iload_n 1, 1) := by decide +kernel
theorem d_Math_max_7cf53_10 : decode b_Math_max_7cf53 10 = .ok (.ireturn, 1) := by decide +kernel
theorem d_Math_min_7cf53_0 : decode b_Math_min_7cf53 0 = .ok (.iload_n 0, 1) := by decide +kernel
theorem d_Math_min_7cf53_1 : decode b_Math_min_7cf53 1 = .ok (.iload_n 1, 1) := by decide +kernel
theorem d_Math_min_7cf53_2 : decode b_Math_min_7cf53 2 = .ok (.if_icmp .gt 7, 3) := by decide +kernel
theorem d_Math_min_7cf53_5 : decode b_Math_min_7cf53 5 = .ok (.iload_n 0, 1) := by decide +kernel
theorem d_Math_min_7cf53_6 : decode b_Math_min_7cf53 6 = .ok (.goto 4, 3) := by decide +kernel
theorem d_Math_min_7cf53_9 : decode b_Math_min_7cf53 9 = .ok (.iload_n 1, 1) := by decide +kernel
theorem d_Math_min_7cf53_10 : decode b_Math_min_7cf53 10 = .ok (.ireturn, 1) := by decide +kernel
theorem d_Str_length_8abf5_0 : decode b_Str_length_8abf5 0 = .ok (.aload_n 0, 1) := by decide +kernel
theorem d_Str_length_8abf5_1 : decode b_Str_length_8abf5 1 = .ok (.getfield 9, 3) := by decide +kernel
theorem d_Str_length_8abf5_4 : decode b_Str_length_8abf5 4 = .ok (.arraylength, 1) := by decide +kernel
theorem d_Str_length_8abf5_5 : decode b_Str_length_8abf5 5 = .ok (.aload_n 0, 1) := by decide +kernel
theorem d_Str_length_8abf5_6 : decode b_Str_length_8abf5 6 = .ok (.invokevirtual 335, 3) := by decide +kernel
theorem d_Str_length_8abf5_9 : decode b_Str_length_8abf5 9 = .ok (.ishr, 1) := by decide +kernel
theorem d_Str_length_8abf5_10 : decode b_Str_length_8abf5 10 = .ok (.ireturn, 1) := by decide +kernel
theorem d_Str_charAt_5068e_0 : decode b_Str_charAt_5068e 0 = .ok (.aload_n 0, 1) := by decide +kernel
theorem d_Str_charAt_5068e_1 : decode b_Str_charAt_5068e 1 = .ok (.invokevirtual 492, 3) := by decide +kernel
theorem d_Str_charAt_5068e_4 : decode b_Str_charAt_5068e 4 = .ok (.ifCond .eq 12, 3) := by decide +kernel
theorem d_Str_charAt_5068e_7 : decode b_Str_charAt_5068e 7 = .ok (.aload_n 0, 1) := by decide +kernel
theorem d_Str_charAt_5068e_8 : decode b_Str_charAt_5068e 8 = .ok (.getfield 9, 3) := by decide +kernel
theorem d_Str_charAt_5068e_11 : decode b_Str_charAt_5068e 11 = .ok (.iload_n 1, 1) := by decide +kernel
theorem d_Str_charAt_5068e_12 : decode b_Str_charAt_5068e 12 = .ok (.invokestatic 495, 3) := by decide +kernel
theorem d_Str_charAt_5068e_15 : decode b_Str_charAt_5068e 15 = .ok (.ireturn, 1) := by decide +kernel
theorem d_Str_charAt_5068e_16 : decode b_Str_charAt_5068e 16 = .ok (.aload_n 0, 1) := by decide +kernel
theorem d_Str_charAt_5068e_17 : decode b_Str_charAt_5068e 17 = .ok (.getfield 9, 3) := by decide +kernel
theorem d_Str_charAt_5068e_20 : decode b_Str_charAt_5068e 20 = .ok (.iload_n 1, 1) := by decide +kernel
theorem d_Str_charAt_5068e_21 : decode b_Str_charAt_5068e 21 = .ok (.invokestatic 498, 3) := by decide +kernel
theorem d_Str_charAt_5068e_24 : decode b_Str_charAt_5068e 24 = .ok (.ireturn, 1) := by decide +kernel
theorem d_Str_coder_7d493_0 : decode b_Str_coder_7d493 0 = .ok (.getstatic 38, 3) := by decide +kernel
theorem d_Str_coder_7d493_3 : decode b_Str_coder_7d493 3 = .ok (.ifCond .eq 10, 3) := by decide +kernel
theorem d_Str_coder_7d493_6 : decode b_Str_coder_7d493 6 = .ok (.aload_n 0, 1) := by decide +kernel
theorem d_Str_coder_7d493_7 : decode b_Str_coder_7d493 7 = .ok (.getfield 15, 3) := by decide +kernel
theorem d_Str_coder_7d493_10 : decode b_Str_coder_7d493 10 = .ok (.goto 4, 3) := by decide +kernel
theorem d_Str_coder_7d493_13 : decode b_Str_coder_7d493 13 = .ok (.iconst 1, 1) := by decide +kernel
theorem d_Str_coder_7d493_14 : decode b_Str_coder_7d493 14 = .ok (.ireturn, 1) := by decide +kernel
theorem d_Str_isLatin1_aae02_0 : decode b_Str_isLatin1_aae02 0 = .ok (.getstatic 38, 3) := by decide +kernel
theorem d_Str_isLatin1_aae02_3 : decode b_Str_isLatin1_aae02 3 = .ok (.ifCond .eq 14, 3) := by decide +kernel
theorem d_Str_isLatin1_aae02_6 : decode b_Str_isLatin1_aae02 6 = .ok (.aload_n 0, 1) := by decide +kernel
theorem d_Str_isLatin1_aae02_7 : decode b_Str_isLatin1_aae02 7 = .ok (.getfield 15, 3) := by decide +kernel
theorem d_Str_isLatin1_aae02_10 : decode b_Str_isLatin1_aae02 10 = .ok (.ifCond .ne 7, 3) := by decide +kernel
theorem d_Str_isLatin1_aae02_13 : decode b_Str_isLatin1_aae02 13 = .ok (.iconst 1, 1) := by decide +kernel
theorem d_Str_isLatin1_aae02_14 : decode b_Str_isLatin1_aae02 14 = .ok (.goto 4, 3) := by decide +kernel
theorem d_Str_isLatin1_aae02_17 : decode b_Str_isLatin1_aae02 17 = .ok (.iconst 0, 1) := by decide +kernel
theorem d_Str_isLatin1_aae02_18 : decode b_Str_isLatin1_aae02 18 = .ok (.ireturn, 1) := by decide +kernel
theorem d_Str_checkIndex_df160_0 : decode b_Str_checkIndex_df160 0 = .ok (.iload_n 0, 1) := by decide +kernel
theorem d_Str_checkIndex_df160_1 : decode b_Str_checkIndex_df160 1 = .ok (.iload_n 1, 1) := by decide +kernel
theorem d_Str_checkIndex_df160_2 : decode b_Str_checkIndex_df160 2 = .ok (.getstatic 1053, 3) := by decide +kernel
theorem d_Str_checkIndex_df160_5 : decode b_Str_checkIndex_df160 5 = .ok (.invokestatic 1059, 3) := by decide +kernel
theorem d_Str_checkIndex_df160_8 : decode b_Str_checkIndex_df160 8 = .ok (.pop, 1) := by decide +kernel
theorem d_Str_checkIndex_df160_9 : decode b_Str_checkIndex_df160 9 = .ok (.return_, 1) := by decide +kernel
theorem d_SLa_charAt_3b067_0 : decode b_SLa_charAt_3b067 0 = .ok (.iload_n 1, 1) := by decide +kernel
theorem d_SLa_charAt_3b067_1 : decode b_SLa_charAt_3b067 1 = .ok (.aload_n 0, 1) := by decide +kernel
theorem d_SLa_charAt_3b067_2 : decode b_SLa_charAt_3b067 2 = .ok (.arraylength, 1) := by decide +kernel
theorem d_SLa_charAt_3b067_3 : decode b_SLa_charAt_3b067 3 = .ok (.invokestatic 9, 3) := by decide +kernel
theorem d_SLa_charAt_3b067_6 : decode b_SLa_charAt_3b067 6 = .ok (.aload_n 0, 1) := by decide +kernel
theorem d_SLa_charAt_3b067_7 : decode b_SLa_charAt_3b067 7 = .ok (.iload_n 1, 1) := by decide +kernel
theorem d_SLa_charAt_3b067_8 : decode b_SLa_charAt_3b067 8 = .ok (.baload, 1) := by decide +kernel
theorem d_SLa_charAt_3b067_9 : decode b_SLa_charAt_3b067 9 = .ok (.sipush 255, 3) := by decide +kernel
theorem d_SLa_charAt_3b067_12 : decode b_SLa_charAt_3b067 12 = .ok (.iand, 1) := by decide +kernel
theorem d_SLa_charAt_3b067_13 : decode b_SLa_charAt_3b067 13 = .ok (.i2c, 1) := by decide +kernel
theorem d_SLa_charAt_3b067_14 : decode b_SLa_charAt_3b067 14 = .ok (.ireturn, 1) := by decide +kernel
theorem d_SUt_getChar_3b067_0 : decode b_SUt_getChar_3b067 0 = .ok (.getstatic 44, 3) := by decide +kernel
theorem d_SUt_getChar_3b067_3 : decode b_SUt_getChar_3b067 3 = .ok (.ifCond .ne 25, 3) := by decide +kernel
theorem d_SUt_getChar_3b067_6 : decode b_SUt_getChar_3b067 6 = .ok (.iload_n 1, 1) := by decide +kernel
theorem d_SUt_getChar_3b067_7 : decode b_SUt_getChar_3b067 7 = .ok (.ifCond .lt 11, 3) := by decide +kernel
theorem d_SUt_getChar_3b067_10 : decode b_SUt_getChar_3b067 10 = .ok (.iload_n 1, 1) := by decide +kernel
theorem d_SUt_getChar_3b067_11 : decode b_SUt_getChar_3b067 11 = .ok (.aload_n 0, 1) := by decide +kernel
theorem d_SUt_getChar_3b067_12 : decode b_SUt_getChar_3b067 12 = .ok (.invokestatic 48, 3) := by decide +kernel
theorem d_SUt_getChar_3b067_15 : decode b_SUt_getChar_3b067 15 = .ok (.if_icmp .lt 13, 3) := by decide +kernel
theorem d_SUt_getChar_3b067_18 : decode b_SUt_getChar_3b067 18 = .ok (.new 52, 3) := by decide +kernel
theorem d_SUt_getChar_3b067_21 : decode b_SUt_getChar_3b067 21 = .ok (.dup, 1) := by decide +kernel
theorem d_SUt_getChar_3b067_22 : decode b_SUt_getChar_3b067 22 = .ok (.ldc 54, 2) := by decide +kernel
theorem d_SUt_getChar_3b067_24 : decode b_SUt_getChar_3b067 24 = .ok (.invokespecial 56, 3) := by decide +kernel
theorem d_SUt_getChar_3b067_27 : decode b_SUt_getChar_3b067 27 = .ok (.athrow, 1) := by decide +kernel
theorem d_SUt_getChar_3b067_28 : decode b_SUt_getChar_3b067 28 = .ok (.iload_n 1, 1) := by decide +kernel
theorem d_SUt_getChar_3b067_29 : decode b_SUt_getChar_3b067 29 = .ok (.iconst 1, 1) := by decide +kernel
theorem d_SUt_getChar_3b067_30 : decode b_SUt_getChar_3b067 30 = .ok (.ishl, 1) := by decide +kernel
theorem d_SUt_getChar_3b067_31 : decode b_SUt_getChar_3b067 31 = .ok (.istore_n 1, 1) := by decide +kernel
theorem d_SUt_getChar_3b067_32 : decode b_SUt_getChar_3b067 32 = .ok (.aload_n 0, 1) := by decide +kernel
theorem d_SUt_getChar_3b067_33 : decode b_SUt_getChar_3b067 33 = .ok (.iload_n 1, 1) := by decide +kernel
theorem d_SUt_getChar_3b067_34 : decode b_SUt_getChar_3b067 34 = .ok (.iinc 1 1, 3) := by decide +kernel
theorem d_SUt_getChar_3b067_37 : decode b_SUt_getChar_3b067 37 = .ok (.baload, 1) := by decide +kernel
theorem d_SUt_getChar_3b067_38 : decode b_SUt_getChar_3b067 38 = .ok (.sipush 255, 3) := by decide +kernel
theorem d_SUt_getChar_3b067_41 : decode b_SUt_getChar_3b067 41 = .ok (.iand, 1) := by decide +kernel
theorem d_SUt_getChar_3b067_42 : decode b_SUt_getChar_3b067 42 = .ok (.getstatic 59, 3) := by decide +kernel
theorem d_SUt_getChar_3b067_45 : decode b_SUt_getChar_3b067 45 = .ok (.ishl, 1) := by decide +kernel
theorem d_SUt_getChar_3b067_46 : decode b_SUt_getChar_3b067 46 = .ok (.aload_n 0, 1) := by decide +kernel
theorem d_SUt_getChar_3b067_47 : decode b_SUt_getChar_3b067 47 = .ok (.iload_n 1, 1) := by decide +kernel
theorem d_SUt_getChar_3b067_48 : decode b_SUt_getChar_3b067 48 = .ok (.baload, 1) := by decide +kernel
theorem d_SUt_getChar_3b067_49 : decode b_SUt_getChar_3b067 49 = .ok (.sipush 255, 3) := by decide +kernel
theorem d_SUt_getChar_3b067_52 : decode b_SUt_getChar_3b067 52 = .ok (.iand, 1) := by decide +kernel
theorem d_SUt_getChar_3b067_53 : decode b_SUt_getChar_3b067 53 = .ok (.getstatic 63, 3) := by decide +kernel
theorem d_SUt_getChar_3b067_56 : decode b_SUt_getChar_3b067 56 = .ok (.ishl, 1) := by decide +kernel
theorem d_SUt_getChar_3b067_57 : decode b_SUt_getChar_3b067 57 = .ok (.ior, 1) := by decide +kernel
theorem d_SUt_getChar_3b067_58 : decode b_SUt_getChar_3b067 58 = .ok (.i2c, 1) := by decide +kernel
theorem d_SUt_getChar_3b067_59 : decode b_SUt_getChar_3b067 59 = .ok (.ireturn, 1) := by decide +kernel
theorem d_SUt_length_9d52b_0 : decode b_SUt_length_9d52b 0 = .ok (.aload_n 0, 1) := by decide +kernel
theorem d_SUt_length_9d52b_1 : decode b_SUt_length_9d52b 1 = .ok (.arraylength, 1) := by decide +kernel
theorem d_SUt_length_9d52b_2 : decode b_SUt_length_9d52b 2 = .ok (.iconst 1, 1) := by decide +kernel
theorem d_SUt_length_9d52b_3 : decode b_SUt_length_9d52b 3 = .ok (.ishr, 1) := by decide +kernel
theorem d_SUt_length_9d52b_4 : decode b_SUt_length_9d52b 4 = .ok (.ireturn, 1) := by decide +kernel
theorem d_SUt_charAt_3b067_0 : decode b_SUt_charAt_3b067 0 = .ok (.iload_n 1, 1) := by decide +kernel
theorem d_SUt_charAt_3b067_1 : decode b_SUt_charAt_3b067 1 = .ok (.aload_n 0, 1) := by decide +kernel
theorem d_SUt_charAt_3b067_2 : decode b_SUt_charAt_3b067 2 = .ok (.invokestatic 67, 3) := by decide +kernel
theorem d_SUt_charAt_3b067_5 : decode b_SUt_charAt_3b067 5 = .ok (.aload_n 0, 1) := by decide +kernel
theorem d_SUt_charAt_3b067_6 : decode b_SUt_charAt_3b067 6 = .ok (.iload_n 1, 1) := by decide +kernel
theorem d_SUt_charAt_3b067_7 : decode b_SUt_charAt_3b067 7 = .ok (.invokestatic 71, 3) := by decide +kernel
theorem d_SUt_charAt_3b067_10 : decode b_SUt_charAt_3b067 10 = .ok (.ireturn, 1) := by decide +kernel
theorem d_SUt_checkIndex_2214a_0 : decode b_SUt_checkIndex_2214a 0 = .ok (.iload_n 0, 1) := by decide +kernel
theorem d_SUt_checkIndex_2214a_1 : decode b_SUt_checkIndex_2214a 1 = .ok (.aload_n 1, 1) := by decide +kernel
theorem d_SUt_checkIndex_2214a_2 : decode b_SUt_checkIndex_2214a 2 = .ok (.invokestatic 48, 3) := by decide +kernel
theorem d_SUt_checkIndex_2214a_5 : decode b_SUt_checkIndex_2214a 5 = .ok (.invokestatic 414, 3) := by decide +kernel
theorem d_SUt_checkIndex_2214a_8 : decode b_SUt_checkIndex_2214a 8 = .ok (.return_, 1) := by decide +kernel
theorem d_Pre_checkIndex_8e157_0 : decode b_Pre_checkIndex_8e157 0 = .ok (.iload_n 0, 1) := by decide +kernel
theorem d_Pre_checkIndex_8e157_1 : decode b_Pre_checkIndex_8e157 1 = .ok (.ifCond .lt 8, 3) := by decide +kernel
theorem d_Pre_checkIndex_8e157_4 : decode b_Pre_checkIndex_8e157 4 = .ok (.iload_n 0, 1) := by decide +kernel
theorem d_Pre_checkIndex_8e157_5 : decode b_Pre_checkIndex_8e157 5 = .ok (.iload_n 1, 1) := by decide +kernel
theorem d_Pre_checkIndex_8e157_6 : decode b_Pre_checkIndex_8e157 6 = .ok (.if_icmp .lt 10, 3) := by decide +kernel
theorem d_Pre_checkIndex_8e157_9 : decode b_Pre_checkIndex_8e157 9 = .ok (.aload_n 2, 1) := by decide +kernel
theorem d_Pre_checkIndex_8e157_10 : decode b_Pre_checkIndex_8e157 10 = .ok (.iload_n 0, 1) := by decide +kernel
theorem d_Pre_checkIndex_8e157_11 : decode b_Pre_checkIndex_8e157 11 = .ok (.iload_n 1, 1) := by decide +kernel
theorem d_Pre_checkIndex_8e157_12 : decode b_Pre_checkIndex_8e157 12 = .ok (.invokestatic 95, 3) := by decide +kernel
theorem d_Pre_checkIndex_8e157_15 : decode b_Pre_checkIndex_8e157 15 = .ok (.athrow, 1) := by decide +kernel
theorem d_Pre_checkIndex_8e157_16 : decode b_Pre_checkIndex_8e157 16 = .ok (.iload_n 0, 1) := by decide +kernel
theorem d_Pre_checkIndex_8e157_17 : decode b_Pre_checkIndex_8e157 17 = .ok (.ireturn, 1) := by decide +kernel
theorem d_law_law_0 : decode code 0 = .ok (.new 7, 3) := by decide +kernel
theorem d_law_law_3 : decode code 3 = .ok (.dup, 1) := by decide +kernel
theorem d_law_law_4 : decode code 4 = .ok (.invokespecial 9, 3) := by decide +kernel
theorem d_law_law_7 : decode code 7 = .ok (.astore_n 1, 1) := by decide +kernel
theorem d_law_law_8 : decode code 8 = .ok (.new 10, 3) := by decide +kernel
theorem d_law_law_11 : decode code 11 = .ok (.dup, 1) := by decide +kernel
theorem d_law_law_12 : decode code 12 = .ok (.invokespecial 12, 3) := by decide +kernel
theorem d_law_law_15 : decode code 15 = .ok (.astore_n 2, 1) := by decide +kernel
theorem d_law_law_16 : decode code 16 = .ok (.iconst 0, 1) := by decide +kernel
theorem d_law_law_17 : decode code 17 = .ok (.istore_n 3, 1) := by decide +kernel
theorem d_law_law_18 : decode code 18 = .ok (.iload_n 3, 1) := by decide +kernel
theorem d_law_law_19 : decode code 19 = .ok (.aload_n 0, 1) := by decide +kernel
theorem d_law_law_20 : decode code 20 = .ok (.arraylength, 1) := by decide +kernel
theorem d_law_law_21 : decode code 21 = .ok (.iconst 4, 1) := by decide +kernel
theorem d_law_law_22 : decode code 22 = .ok (.isub, 1) := by decide +kernel
theorem d_law_law_23 : decode code 23 = .ok (.if_icmp .gt 898, 3) := by decide +kernel
theorem d_law_law_26 : decode code 26 = .ok (.aload_n 0, 1) := by decide +kernel
theorem d_law_law_27 : decode code 27 = .ok (.iload_n 3, 1) := by decide +kernel
theorem d_law_law_28 : decode code 28 = .ok (.iaload, 1) := by decide +kernel
theorem d_law_law_29 : decode code 29 = .ok (.bipush 31, 2) := by decide +kernel
theorem d_law_law_31 : decode code 31 = .ok (.iand, 1) := by decide +kernel
theorem d_law_law_32 : decode code 32 = .ok (.tableswitch 883 0 30 #[140, 163, 176, 189, 202, 235, 268, 301, 324, 357, 380, 393, 416, 439, 472, 485, 498, 521, 544, 567, 600, 643, 656, 679, 702, 735, 758, 791, 834, 847, 860], 140) := by decide +kernel
theorem d_law_law_172 : decode code 172 = .ok (.aload_n 1, 1) := by decide +kernel
theorem d_law_law_173 : decode code 173 = .ok (.aload_n 0, 1) := by decide +kernel
theorem d_law_law_174 : decode code 174 = .ok (.iload_n 3, 1) := by decide +kernel
theorem d_law_law_175 : decode code 175 = .ok (.iconst 1, 1) := by decide +kernel
theorem d_law_law_176 : decode code 176 = .ok (.iadd, 1) := by decide +kernel
theorem d_law_law_177 : decode code 177 = .ok (.iaload, 1) := by decide +kernel
theorem d_law_law_178 : decode code 178 = .ok (.invokevirtual 13, 3) := by decide +kernel
theorem d_law_law_181 : decode code 181 = .ok (.aload_n 2, 1) := by decide +kernel
theorem d_law_law_182 : decode code 182 = .ok (.aload_n 0, 1) := by decide +kernel
theorem d_law_law_183 : decode code 183 = .ok (.iload_n 3, 1) := by decide +kernel
theorem d_law_law_184 : decode code 184 = .ok (.iconst 1, 1) := by decide +kernel
theorem d_law_law_185 : decode code 185 = .ok (.iadd, 1) := by decide +kernel
theorem d_law_law_186 : decode code 186 = .ok (.iaload, 1) := by decide +kernel
theorem d_law_law_187 : decode code 187 = .ok (.invokevirtual 17, 3) := by decide +kernel
theorem d_law_law_190 : decode code 190 = .ok (.if_icmp .eq 725, 3) := by decide +kernel
theorem d_law_law_193 : decode code 193 = .ok (.iconst 0, 1) := by decide +kernel
theorem d_law_law_194 : decode code 194 = .ok (.ireturn, 1) := by decide +kernel
theorem d_law_law_195 : decode code 195 = .ok (.aload_n 1, 1) := by decide +kernel
theorem d_law_law_196 : decode code 196 = .ok (.invokevirtual 18, 3) := by decide +kernel
theorem d_law_law_199 : decode code 199 = .ok (.aload_n 2, 1) := by decide +kernel
theorem d_law_law_200 : decode code 200 = .ok (.invokevirtual 22, 3) := by decide +kernel
theorem d_law_law_203 : decode code 203 = .ok (.if_icmp .eq 712, 3) := by decide +kernel
theorem d_law_law_206 : decode code 206 = .ok (.iconst 0, 1) := by decide +kernel
theorem d_law_law_207 : decode code 207 = .ok (.ireturn, 1) := by decide +kernel
theorem d_law_law_208 : decode code 208 = .ok (.aload_n 1, 1) := by decide +kernel
theorem d_law_law_209 : decode code 209 = .ok (.invokevirtual 23, 3) := by decide +kernel
theorem d_law_law_212 : decode code 212 = .ok (.aload_n 2, 1) := by decide +kernel
theorem d_law_law_213 : decode code 213 = .ok (.invokevirtual 26, 3) := by decide +kernel
theorem d_law_law_216 : decode code 216 = .ok (.if_icmp .eq 699, 3) := by decide +kernel
theorem d_law_law_219 : decode code 219 = .ok (.iconst 0, 1) := by decide +kernel
theorem d_law_law_220 : decode code 220 = .ok (.ireturn, 1) := by decide +kernel
theorem d_law_law_221 : decode code 221 = .ok (.aload_n 1, 1) := by decide +kernel
theorem d_law_law_222 : decode code 222 = .ok (.invokevirtual 27, 3) := by decide +kernel
theorem d_law_law_225 : decode code 225 = .ok (.aload_n 2, 1) := by decide +kernel
theorem d_law_law_226 : decode code 226 = .ok (.invokevirtual 30, 3) := by decide +kernel
theorem d_law_law_229 : decode code 229 = .ok (.if_icmp .eq 686, 3) := by decide +kernel
theorem d_law_law_232 : decode code 232 = .ok (.iconst 0, 1) := by decide +kernel
theorem d_law_law_233 : decode code 233 = .ok (.ireturn, 1) := by decide +kernel
theorem d_law_law_234 : decode code 234 = .ok (.aload_n 1, 1) := by decide +kernel
theorem d_law_law_235 : decode code 235 = .ok (.aload_n 0, 1) := by decide +kernel
theorem d_law_law_236 : decode code 236 = .ok (.iload_n 3, 1) := by decide +kernel
theorem d_law_law_237 : decode code 237 = .ok (.iconst 1, 1) := by decide +kernel
theorem d_law_law_238 : decode code 238 = .ok (.iadd, 1) := by decide +kernel
theorem d_law_law_239 : decode code 239 = .ok (.iaload, 1) := by decide +kernel
theorem d_law_law_240 : decode code 240 = .ok (.aload_n 0, 1) := by decide +kernel
theorem d_law_law_241 : decode code 241 = .ok (.iload_n 3, 1) := by decide +kernel
theorem d_law_law_242 : decode code 242 = .ok (.iconst 2, 1) := by decide +kernel
theorem d_law_law_243 : decode code 243 = .ok (.iadd, 1) := by decide +kernel
theorem d_law_law_244 : decode code 244 = .ok (.iaload, 1) := by decide +kernel
theorem d_law_law_245 : decode code 245 = .ok (.invokevirtual 31, 3) := by decide +kernel
theorem d_law_law_248 : decode code 248 = .ok (.aload_n 2, 1) := by decide +kernel
theorem d_law_law_249 : decode code 249 = .ok (.aload_n 0, 1) := by decide +kernel
theorem d_law_law_250 : decode code 250 = .ok (.iload_n 3, 1) := by decide +kernel
theorem d_law_law_251 : decode code 251 = .ok (.iconst 1, 1) := by decide +kernel
theorem d_law_law_252 : decode code 252 = .ok (.iadd, 1) := by decide +kernel
theorem d_law_law_253 : decode code 253 = .ok (.iaload, 1) := by decide +kernel
theorem d_law_law_254 : decode code 254 = .ok (.aload_n 0, 1) := by decide +kernel
theorem d_law_law_255 : decode code 255 = .ok (.iload_n 3, 1) := by decide +kernel
theorem d_law_law_256 : decode code 256 = .ok (.iconst 2, 1) := by decide +kernel
theorem d_law_law_257 : decode code 257 = .ok (.iadd, 1) := by decide +kernel
theorem d_law_law_258 : decode code 258 = .ok (.iaload, 1) := by decide +kernel
theorem d_law_law_259 : decode code 259 = .ok (.invokevirtual 35, 3) := by decide +kernel
theorem d_law_law_262 : decode code 262 = .ok (.if_icmp .eq 653, 3) := by decide +kernel
theorem d_law_law_265 : decode code 265 = .ok (.iconst 0, 1) := by decide +kernel
theorem d_law_law_266 : decode code 266 = .ok (.ireturn, 1) := by decide +kernel
theorem d_law_law_267 : decode code 267 = .ok (.aload_n 1, 1) := by decide +kernel
theorem d_law_law_268 : decode code 268 = .ok (.aload_n 0, 1) := by decide +kernel
theorem d_law_law_269 : decode code 269 = .ok (.iload_n 3, 1) := by decide +kernel
theorem d_law_law_270 : decode code 270 = .ok (.iconst 1, 1) := by decide +kernel
theorem d_law_law_271 : decode code 271 = .ok (.iadd, 1) := by decide +kernel
theorem d_law_law_272 : decode code 272 = .ok (.iaload, 1) := by decide +kernel
theorem d_law_law_273 : decode code 273 = .ok (.aload_n 0, 1) := by decide +kernel
theorem d_law_law_274 : decode code 274 = .ok (.iload_n 3, 1) := by decide +kernel
theorem d_law_law_275 : decode code 275 = .ok (.iconst 2, 1) := by decide +kernel
theorem d_law_law_276 : decode code 276 = .ok (.iadd, 1) := by decide +kernel
theorem d_law_law_277 : decode code 277 = .ok (.iaload, 1) := by decide +kernel
theorem d_law_law_278 : decode code 278 = .ok (.invokevirtual 36, 3) := by decide +kernel
theorem d_law_law_281 : decode code 281 = .ok (.aload_n 2, 1) := by decide +kernel
theorem d_law_law_282 : decode code 282 = .ok (.aload_n 0, 1) := by decide +kernel
theorem d_law_law_283 : decode code 283 = .ok (.iload_n 3, 1) := by decide +kernel
theorem d_law_law_284 : decode code 284 = .ok (.iconst 1, 1) := by decide +kernel
theorem d_law_law_285 : decode code 285 = .ok (.iadd, 1) := by decide +kernel
theorem d_law_law_286 : decode code 286 = .ok (.iaload, 1) := by decide +kernel
theorem d_law_law_287 : decode code 287 = .ok (.aload_n 0, 1) := by decide +kernel
theorem d_law_law_288 : decode code 288 = .ok (.iload_n 3, 1) := by decide +kernel
theorem d_law_law_289 : decode code 289 = .ok (.iconst 2, 1) := by decide +kernel
theorem d_law_law_290 : decode code 290 = .ok (.iadd, 1) := by decide +kernel
theorem d_law_law_291 : decode code 291 = .ok (.iaload, 1) := by decide +kernel
theorem d_law_law_292 : decode code 292 = .ok (.invokevirtual 39, 3) := by decide +kernel
theorem d_law_law_295 : decode code 295 = .ok (.if_icmp .eq 620, 3) := by decide +kernel
theorem d_law_law_298 : decode code 298 = .ok (.iconst 0, 1) := by decide +kernel
theorem d_law_law_299 : decode code 299 = .ok (.ireturn, 1) := by decide +kernel
theorem d_law_law_300 : decode code 300 = .ok (.aload_n 1, 1) := by decide +kernel
theorem d_law_law_301 : decode code 301 = .ok (.aload_n 0, 1) := by decide +kernel
theorem d_law_law_302 : decode code 302 = .ok (.iload_n 3, 1) := by decide +kernel
theorem d_law_law_303 : decode code 303 = .ok (.iconst 1, 1) := by decide +kernel
theorem d_law_law_304 : decode code 304 = .ok (.iadd, 1) := by decide +kernel
theorem d_law_law_305 : decode code 305 = .ok (.iaload, 1) := by decide +kernel
theorem d_law_law_306 : decode code 306 = .ok (.aload_n 0, 1) := by decide +kernel
theorem d_law_law_307 : decode code 307 = .ok (.iload_n 3, 1) := by decide +kernel
theorem d_law_law_308 : decode code 308 = .ok (.iconst 2, 1) := by decide +kernel
theorem d_law_law_309 : decode code 309 = .ok (.iadd, 1) := by decide +kernel
theorem d_law_law_310 : decode code 310 = .ok (.iaload, 1) := by decide +kernel
theorem d_law_law_311 : decode code 311 = .ok (.invokevirtual 40, 3) := by decide +kernel
theorem d_law_law_314 : decode code 314 = .ok (.aload_n 2, 1) := by decide +kernel
theorem d_law_law_315 : decode code 315 = .ok (.aload_n 0, 1) := by decide +kernel
theorem d_law_law_316 : decode code 316 = .ok (.iload_n 3, 1) := by decide +kernel
theorem d_law_law_317 : decode code 317 = .ok (.iconst 1, 1) := by decide +kernel
theorem d_law_law_318 : decode code 318 = .ok (.iadd, 1) := by decide +kernel
theorem d_law_law_319 : decode code 319 = .ok (.iaload, 1) := by decide +kernel
theorem d_law_law_320 : decode code 320 = .ok (.aload_n 0, 1) := by decide +kernel
theorem d_law_law_321 : decode code 321 = .ok (.iload_n 3, 1) := by decide +kernel
theorem d_law_law_322 : decode code 322 = .ok (.iconst 2, 1) := by decide +kernel
theorem d_law_law_323 : decode code 323 = .ok (.iadd, 1) := by decide +kernel
theorem d_law_law_324 : decode code 324 = .ok (.iaload, 1) := by decide +kernel
theorem d_law_law_325 : decode code 325 = .ok (.invokevirtual 43, 3) := by decide +kernel
theorem d_law_law_328 : decode code 328 = .ok (.if_icmp .eq 587, 3) := by decide +kernel
theorem d_law_law_331 : decode code 331 = .ok (.iconst 0, 1) := by decide +kernel
theorem d_law_law_332 : decode code 332 = .ok (.ireturn, 1) := by decide +kernel
theorem d_law_law_333 : decode code 333 = .ok (.aload_n 1, 1) := by decide +kernel
theorem d_law_law_334 : decode code 334 = .ok (.aload_n 0, 1) := by decide +kernel
theorem d_law_law_335 : decode code 335 = .ok (.iload_n 3, 1) := by decide +kernel
theorem d_law_law_336 : decode code 336 = .ok (.iconst 1, 1) := by decide +kernel
theorem d_law_law_337 : decode code 337 = .ok (.iadd, 1) := by decide +kernel
theorem d_law_law_338 : decode code 338 = .ok (.iaload, 1) := by decide +kernel
theorem d_law_law_339 : decode code 339 = .ok (.invokevirtual 44, 3) := by decide +kernel
theorem d_law_law_342 : decode code 342 = .ok (.aload_n 2, 1) := by decide +kernel
theorem d_law_law_343 : decode code 343 = .ok (.aload_n 0, 1) := by decide +kernel
theorem d_law_law_344 : decode code 344 = .ok (.iload_n 3, 1) := by decide +kernel
theorem d_law_law_345 : decode code 345 = .ok (.iconst 1, 1) := by decide +kernel
theorem d_law_law_346 : decode code 346 = .ok (.iadd, 1) := by decide +kernel
theorem d_law_law_347 : decode code 347 = .ok (.iaload, 1) := by decide +kernel
theorem d_law_law_348 : decode code 348 = .ok (.invokevirtual 47, 3) := by decide +kernel
theorem d_law_law_351 : decode code 351 = .ok (.if_icmp .eq 564, 3) := by decide +kernel
theorem d_law_law_354 : decode code 354 = .ok (.iconst 0, 1) := by decide +kernel
theorem d_law_law_355 : decode code 355 = .ok (.ireturn, 1) := by decide +kernel
theorem d_law_law_356 : decode code 356 = .ok (.aload_n 1, 1) := by decide +kernel
theorem d_law_law_357 : decode code 357 = .ok (.aload_n 0, 1) := by decide +kernel
theorem d_law_law_358 : decode code 358 = .ok (.iload_n 3, 1) := by decide +kernel
theorem d_law_law_359 : decode code 359 = .ok (.iconst 1, 1) := by decide +kernel
theorem d_law_law_360 : decode code 360 = .ok (.iadd, 1) := by decide +kernel
theorem d_law_law_361 : decode code 361 = .ok (.iaload, 1) := by decide +kernel
theorem d_law_law_362 : decode code 362 = .ok (.aload_n 0, 1) := by decide +kernel
theorem d_law_law_363 : decode code 363 = .ok (.iload_n 3, 1) := by decide +kernel
theorem d_law_law_364 : decode code 364 = .ok (.iconst 2, 1) := by decide +kernel
theorem d_law_law_365 : decode code 365 = .ok (.iadd, 1) := by decide +kernel
theorem d_law_law_366 : decode code 366 = .ok (.iaload, 1) := by decide +kernel
theorem d_law_law_367 : decode code 367 = .ok (.invokevirtual 48, 3) := by decide +kernel
theorem d_law_law_370 : decode code 370 = .ok (.aload_n 2, 1) := by decide +kernel
theorem d_law_law_371 : decode code 371 = .ok (.aload_n 0, 1) := by decide +kernel
theorem d_law_law_372 : decode code 372 = .ok (.iload_n 3, 1) := by decide +kernel
theorem d_law_law_373 : decode code 373 = .ok (.iconst 1, 1) := by decide +kernel
theorem d_law_law_374 : decode code 374 = .ok (.iadd, 1) := by decide +kernel
theorem d_law_law_375 : decode code 375 = .ok (.iaload, 1) := by decide +kernel
theorem d_law_law_376 : decode code 376 = .ok (.aload_n 0, 1) := by decide +kernel
theorem d_law_law_377 : decode code 377 = .ok (.iload_n 3, 1) := by decide +kernel
theorem d_law_law_378 : decode code 378 = .ok (.iconst 2, 1) := by decide +kernel
theorem d_law_law_379 : decode code 379 = .ok (.iadd, 1) := by decide +kernel
theorem d_law_law_380 : decode code 380 = .ok (.iaload, 1) := by decide +kernel
theorem d_law_law_381 : decode code 381 = .ok (.invokevirtual 51, 3) := by decide +kernel
theorem d_law_law_384 : decode code 384 = .ok (.if_icmp .eq 531, 3) := by decide +kernel
theorem d_law_law_387 : decode code 387 = .ok (.iconst 0, 1) := by decide +kernel
theorem d_law_law_388 : decode code 388 = .ok (.ireturn, 1) := by decide +kernel
theorem d_law_law_389 : decode code 389 = .ok (.aload_n 1, 1) := by decide +kernel
theorem d_law_law_390 : decode code 390 = .ok (.aload_n 0, 1) := by decide +kernel
theorem d_law_law_391 : decode code 391 = .ok (.iload_n 3, 1) := by decide +kernel
theorem d_law_law_392 : decode code 392 = .ok (.iconst 1, 1) := by decide +kernel
theorem d_law_law_393 : decode code 393 = .ok (.iadd, 1) := by decide +kernel
theorem d_law_law_394 : decode code 394 = .ok (.iaload, 1) := by decide +kernel
theorem d_law_law_395 : decode code 395 = .ok (.invokevirtual 52, 3) := by decide +kernel
theorem d_law_law_398 : decode code 398 = .ok (.aload_n 2, 1) := by decide +kernel
theorem d_law_law_399 : decode code 399 = .ok (.aload_n 0, 1) := by decide +kernel
theorem d_law_law_400 : decode code 400 = .ok (.iload_n 3, 1) := by decide +kernel
theorem d_law_law_401 : decode code 401 = .ok (.iconst 1, 1) := by decide +kernel
theorem d_law_law_402 : decode code 402 = .ok (.iadd, 1) := by decide +kernel
theorem d_law_law_403 : decode code 403 = .ok (.iaload, 1) := by decide +kernel
theorem d_law_law_404 : decode code 404 = .ok (.invokevirtual 55, 3) := by decide +kernel
theorem d_law_law_407 : decode code 407 = .ok (.if_icmp .eq 508, 3) := by decide +kernel
theorem d_law_law_410 : decode code 410 = .ok (.iconst 0, 1) := by decide +kernel
theorem d_law_law_411 : decode code 411 = .ok (.ireturn, 1) := by decide +kernel
theorem d_law_law_412 : decode code 412 = .ok (.aload_n 1, 1) := by decide +kernel
theorem d_law_law_413 : decode code 413 = .ok (.invokevirtual 56, 3) := by decide +kernel
theorem d_law_law_416 : decode code 416 = .ok (.aload_n 2, 1) := by decide +kernel
theorem d_law_law_417 : decode code 417 = .ok (.invokevirtual 59, 3) := by decide +kernel
theorem d_law_law_420 : decode code 420 = .ok (.if_icmp .eq 495, 3) := by decide +kernel
theorem d_law_law_423 : decode code 423 = .ok (.iconst 0, 1) := by decide +kernel
theorem d_law_law_424 : decode code 424 = .ok (.ireturn, 1) := by decide +kernel
theorem d_law_law_425 : decode code 425 = .ok (.aload_n 1, 1) := by decide +kernel
theorem d_law_law_426 : decode code 426 = .ok (.aload_n 0, 1) := by decide +kernel
theorem d_law_law_427 : decode code 427 = .ok (.iload_n 3, 1) := by decide +kernel
theorem d_law_law_428 : decode code 428 = .ok (.iconst 1, 1) := by decide +kernel
theorem d_law_law_429 : decode code 429 = .ok (.iadd, 1) := by decide +kernel
theorem d_law_law_430 : decode code 430 = .ok (.iaload, 1) := by decide +kernel
theorem d_law_law_431 : decode code 431 = .ok (.invokevirtual 60, 3) := by decide +kernel
theorem d_law_law_434 : decode code 434 = .ok (.aload_n 2, 1) := by decide +kernel
theorem d_law_law_435 : decode code 435 = .ok (.aload_n 0, 1) := by decide +kernel
theorem d_law_law_436 : decode code 436 = .ok (.iload_n 3, 1) := by decide +kernel
theorem d_law_law_437 : decode code 437 = .ok (.iconst 1, 1) := by decide +kernel
theorem d_law_law_438 : decode code 438 = .ok (.iadd, 1) := by decide +kernel
theorem d_law_law_439 : decode code 439 = .ok (.iaload, 1) := by decide +kernel
theorem d_law_law_440 : decode code 440 = .ok (.invokevirtual 63, 3) := by decide +kernel
theorem d_law_law_443 : decode code 443 = .ok (.if_icmp .eq 472, 3) := by decide +kernel
theorem d_law_law_446 : decode code 446 = .ok (.iconst 0, 1) := by decide +kernel
theorem d_law_law_447 : decode code 447 = .ok (.ireturn, 1) := by decide +kernel
theorem d_law_law_448 : decode code 448 = .ok (.aload_n 1, 1) := by decide +kernel
theorem d_law_law_449 : decode code 449 = .ok (.aload_n 0, 1) := by decide +kernel
theorem d_law_law_450 : decode code 450 = .ok (.iload_n 3, 1) := by decide +kernel
theorem d_law_law_451 : decode code 451 = .ok (.iconst 1, 1) := by decide +kernel
theorem d_law_law_452 : decode code 452 = .ok (.iadd, 1) := by decide +kernel
theorem d_law_law_453 : decode code 453 = .ok (.iaload, 1) := by decide +kernel
theorem d_law_law_454 : decode code 454 = .ok (.invokevirtual 64, 3) := by decide +kernel
theorem d_law_law_457 : decode code 457 = .ok (.aload_n 2, 1) := by decide +kernel
theorem d_law_law_458 : decode code 458 = .ok (.aload_n 0, 1) := by decide +kernel
theorem d_law_law_459 : decode code 459 = .ok (.iload_n 3, 1) := by decide +kernel
theorem d_law_law_460 : decode code 460 = .ok (.iconst 1, 1) := by decide +kernel
theorem d_law_law_461 : decode code 461 = .ok (.iadd, 1) := by decide +kernel
theorem d_law_law_462 : decode code 462 = .ok (.iaload, 1) := by decide +kernel
theorem d_law_law_463 : decode code 463 = .ok (.invokevirtual 67, 3) := by decide +kernel
theorem d_law_law_466 : decode code 466 = .ok (.if_icmp .eq 449, 3) := by decide +kernel
theorem d_law_law_469 : decode code 469 = .ok (.iconst 0, 1) := by decide +kernel
theorem d_law_law_470 : decode code 470 = .ok (.ireturn, 1) := by decide +kernel
theorem d_law_law_471 : decode code 471 = .ok (.aload_n 1, 1) := by decide +kernel
theorem d_law_law_472 : decode code 472 = .ok (.aload_n 0, 1) := by decide +kernel
theorem d_law_law_473 : decode code 473 = .ok (.iload_n 3, 1) := by decide +kernel
theorem d_law_law_474 : decode code 474 = .ok (.iconst 1, 1) := by decide +kernel
theorem d_law_law_475 : decode code 475 = .ok (.iadd, 1) := by decide +kernel
theorem d_law_law_476 : decode code 476 = .ok (.iaload, 1) := by decide +kernel
theorem d_law_law_477 : decode code 477 = .ok (.aload_n 0, 1) := by decide +kernel
theorem d_law_law_478 : decode code 478 = .ok (.iload_n 3, 1) := by decide +kernel
theorem d_law_law_479 : decode code 479 = .ok (.iconst 2, 1) := by decide +kernel
theorem d_law_law_480 : decode code 480 = .ok (.iadd, 1) := by decide +kernel
theorem d_law_law_481 : decode code 481 = .ok (.iaload, 1) := by decide +kernel
theorem d_law_law_482 : decode code 482 = .ok (.invokevirtual 68, 3) := by decide +kernel
theorem d_law_law_485 : decode code 485 = .ok (.aload_n 2, 1) := by decide +kernel
theorem d_law_law_486 : decode code 486 = .ok (.aload_n 0, 1) := by decide +kernel
theorem d_law_law_487 : decode code 487 = .ok (.iload_n 3, 1) := by decide +kernel
theorem d_law_law_488 : decode code 488 = .ok (.iconst 1, 1) := by decide +kernel
theorem d_law_law_489 : decode code 489 = .ok (.iadd, 1) := by decide +kernel
theorem d_law_law_490 : decode code 490 = .ok (.iaload, 1) := by decide +kernel
theorem d_law_law_491 : decode code 491 = .ok (.aload_n 0, 1) := by decide +kernel
theorem d_law_law_492 : decode code 492 = .ok (.iload_n 3, 1) := by decide +kernel
theorem d_law_law_493 : decode code 493 = .ok (.iconst 2, 1) := by decide +kernel
theorem d_law_law_494 : decode code 494 = .ok (.iadd, 1) := by decide +kernel
theorem d_law_law_495 : decode code 495 = .ok (.iaload, 1) := by decide +kernel
theorem d_law_law_496 : decode code 496 = .ok (.invokevirtual 71, 3) := by decide +kernel
theorem d_law_law_499 : decode code 499 = .ok (.if_icmp .eq 416, 3) := by decide +kernel
theorem d_law_law_502 : decode code 502 = .ok (.iconst 0, 1) := by decide +kernel
theorem d_law_law_503 : decode code 503 = .ok (.ireturn, 1) := by decide +kernel
theorem d_law_law_504 : decode code 504 = .ok (.aload_n 1, 1) := by decide +kernel
theorem d_law_law_505 : decode code 505 = .ok (.invokevirtual 72, 3) := by decide +kernel
theorem d_law_law_508 : decode code 508 = .ok (.aload_n 2, 1) := by decide +kernel
theorem d_law_law_509 : decode code 509 = .ok (.invokevirtual 75, 3) := by decide +kernel
theorem d_law_law_512 : decode code 512 = .ok (.if_icmp .eq 403, 3) := by decide +kernel
theorem d_law_law_515 : decode code 515 = .ok (.iconst 0, 1) := by decide +kernel
theorem d_law_law_516 : decode code 516 = .ok (.ireturn, 1) := by decide +kernel
theorem d_law_law_517 : decode code 517 = .ok (.aload_n 1, 1) := by decide +kernel
theorem d_law_law_518 : decode code 518 = .ok (.invokevirtual 76, 3) := by decide +kernel
theorem d_law_law_521 : decode code 521 = .ok (.aload_n 2, 1) := by decide +kernel
theorem d_law_law_522 : decode code 522 = .ok (.invokevirtual 79, 3) := by decide +kernel
theorem d_law_law_525 : decode code 525 = .ok (.if_icmp .eq 390, 3) := by decide +kernel
theorem d_law_law_528 : decode code 528 = .ok (.iconst 0, 1) := by decide +kernel
theorem d_law_law_529 : decode code 529 = .ok (.ireturn, 1) := by decide +kernel
theorem d_law_law_530 : decode code 530 = .ok (.aload_n 1, 1) := by decide +kernel
theorem d_law_law_531 : decode code 531 = .ok (.aload_n 0, 1) := by decide +kernel
theorem d_law_law_532 : decode code 532 = .ok (.iload_n 3, 1) := by decide +kernel
theorem d_law_law_533 : decode code 533 = .ok (.iconst 1, 1) := by decide +kernel
theorem d_law_law_534 : decode code 534 = .ok (.iadd, 1) := by decide +kernel
theorem d_law_law_535 : decode code 535 = .ok (.iaload, 1) := by decide +kernel
theorem d_law_law_536 : decode code 536 = .ok (.invokevirtual 80, 3) := by decide +kernel
theorem d_law_law_539 : decode code 539 = .ok (.aload_n 2, 1) := by decide +kernel
theorem d_law_law_540 : decode code 540 = .ok (.aload_n 0, 1) := by decide +kernel
theorem d_law_law_541 : decode code 541 = .ok (.iload_n 3, 1) := by decide +kernel
theorem d_law_law_542 : decode code 542 = .ok (.iconst 1, 1) := by decide +kernel
theorem d_law_law_543 : decode code 543 = .ok (.iadd, 1) := by decide +kernel
theorem d_law_law_544 : decode code 544 = .ok (.iaload, 1) := by decide +kernel
theorem d_law_law_545 : decode code 545 = .ok (.invokevirtual 83, 3) := by decide +kernel
theorem d_law_law_548 : decode code 548 = .ok (.if_icmp .eq 367, 3) := by decide +kernel
theorem d_law_law_551 : decode code 551 = .ok (.iconst 0, 1) := by decide +kernel
theorem d_law_law_552 : decode code 552 = .ok (.ireturn, 1) := by decide +kernel
theorem d_law_law_553 : decode code 553 = .ok (.aload_n 1, 1) := by decide +kernel
theorem d_law_law_554 : decode code 554 = .ok (.aload_n 0, 1) := by decide +kernel
theorem d_law_law_555 : decode code 555 = .ok (.iload_n 3, 1) := by decide +kernel
theorem d_law_law_556 : decode code 556 = .ok (.iconst 1, 1) := by decide +kernel
theorem d_law_law_557 : decode code 557 = .ok (.iadd, 1) := by decide +kernel
theorem d_law_law_558 : decode code 558 = .ok (.iaload, 1) := by decide +kernel
theorem d_law_law_559 : decode code 559 = .ok (.invokevirtual 84, 3) := by decide +kernel
theorem d_law_law_562 : decode code 562 = .ok (.aload_n 2, 1) := by decide +kernel
theorem d_law_law_563 : decode code 563 = .ok (.aload_n 0, 1) := by decide +kernel
theorem d_law_law_564 : decode code 564 = .ok (.iload_n 3, 1) := by decide +kernel
theorem d_law_law_565 : decode code 565 = .ok (.iconst 1, 1) := by decide +kernel
theorem d_law_law_566 : decode code 566 = .ok (.iadd, 1) := by decide +kernel
theorem d_law_law_567 : decode code 567 = .ok (.iaload, 1) := by decide +kernel
theorem d_law_law_568 : decode code 568 = .ok (.invokevirtual 87, 3) := by decide +kernel
theorem d_law_law_571 : decode code 571 = .ok (.if_icmp .eq 344, 3) := by decide +kernel
theorem d_law_law_574 : decode code 574 = .ok (.iconst 0, 1) := by decide +kernel
theorem d_law_law_575 : decode code 575 = .ok (.ireturn, 1) := by decide +kernel
theorem d_law_law_576 : decode code 576 = .ok (.aload_n 1, 1) := by decide +kernel
theorem d_law_law_577 : decode code 577 = .ok (.aload_n 0, 1) := by decide +kernel
theorem d_law_law_578 : decode code 578 = .ok (.iload_n 3, 1) := by decide +kernel
theorem d_law_law_579 : decode code 579 = .ok (.iconst 1, 1) := by decide +kernel
theorem d_law_law_580 : decode code 580 = .ok (.iadd, 1) := by decide +kernel
theorem d_law_law_581 : decode code 581 = .ok (.iaload, 1) := by decide +kernel
theorem d_law_law_582 : decode code 582 = .ok (.invokevirtual 88, 3) := by decide +kernel
theorem d_law_law_585 : decode code 585 = .ok (.aload_n 2, 1) := by decide +kernel
theorem d_law_law_586 : decode code 586 = .ok (.aload_n 0, 1) := by decide +kernel
theorem d_law_law_587 : decode code 587 = .ok (.iload_n 3, 1) := by decide +kernel
theorem d_law_law_588 : decode code 588 = .ok (.iconst 1, 1) := by decide +kernel
theorem d_law_law_589 : decode code 589 = .ok (.iadd, 1) := by decide +kernel
theorem d_law_law_590 : decode code 590 = .ok (.iaload, 1) := by decide +kernel
theorem d_law_law_591 : decode code 591 = .ok (.invokevirtual 91, 3) := by decide +kernel
theorem d_law_law_594 : decode code 594 = .ok (.if_icmp .eq 321, 3) := by decide +kernel
theorem d_law_law_597 : decode code 597 = .ok (.iconst 0, 1) := by decide +kernel
theorem d_law_law_598 : decode code 598 = .ok (.ireturn, 1) := by decide +kernel
theorem d_law_law_599 : decode code 599 = .ok (.aload_n 1, 1) := by decide +kernel
theorem d_law_law_600 : decode code 600 = .ok (.aload_n 0, 1) := by decide +kernel
theorem d_law_law_601 : decode code 601 = .ok (.iload_n 3, 1) := by decide +kernel
theorem d_law_law_602 : decode code 602 = .ok (.iconst 1, 1) := by decide +kernel
theorem d_law_law_603 : decode code 603 = .ok (.iadd, 1) := by decide +kernel
theorem d_law_law_604 : decode code 604 = .ok (.iaload, 1) := by decide +kernel
theorem d_law_law_605 : decode code 605 = .ok (.aload_n 0, 1) := by decide +kernel
theorem d_law_law_606 : decode code 606 = .ok (.iload_n 3, 1) := by decide +kernel
theorem d_law_law_607 : decode code 607 = .ok (.iconst 2, 1) := by decide +kernel
theorem d_law_law_608 : decode code 608 = .ok (.iadd, 1) := by decide +kernel
theorem d_law_law_609 : decode code 609 = .ok (.iaload, 1) := by decide +kernel
theorem d_law_law_610 : decode code 610 = .ok (.invokevirtual 92, 3) := by decide +kernel
theorem d_law_law_613 : decode code 613 = .ok (.aload_n 2, 1) := by decide +kernel
theorem d_law_law_614 : decode code 614 = .ok (.aload_n 0, 1) := by decide +kernel
theorem d_law_law_615 : decode code 615 = .ok (.iload_n 3, 1) := by decide +kernel
theorem d_law_law_616 : decode code 616 = .ok (.iconst 1, 1) := by decide +kernel
theorem d_law_law_617 : decode code 617 = .ok (.iadd, 1) := by decide +kernel
theorem d_law_law_618 : decode code 618 = .ok (.iaload, 1) := by decide +kernel
theorem d_law_law_619 : decode code 619 = .ok (.aload_n 0, 1) := by decide +kernel
theorem d_law_law_620 : decode code 620 = .ok (.iload_n 3, 1) := by decide +kernel
theorem d_law_law_621 : decode code 621 = .ok (.iconst 2, 1) := by decide +kernel
theorem d_law_law_622 : decode code 622 = .ok (.iadd, 1) := by decide +kernel
theorem d_law_law_623 : decode code 623 = .ok (.iaload, 1) := by decide +kernel
theorem d_law_law_624 : decode code 624 = .ok (.invokevirtual 95, 3) := by decide +kernel
theorem d_law_law_627 : decode code 627 = .ok (.if_icmp .eq 288, 3) := by decide +kernel
theorem d_law_law_630 : decode code 630 = .ok (.iconst 0, 1) := by decide +kernel
theorem d_law_law_631 : decode code 631 = .ok (.ireturn, 1) := by decide +kernel
theorem d_law_law_632 : decode code 632 = .ok (.aload_n 1, 1) := by decide +kernel
theorem d_law_law_633 : decode code 633 = .ok (.aload_n 0, 1) := by decide +kernel
theorem d_law_law_634 : decode code 634 = .ok (.iload_n 3, 1) := by decide +kernel
theorem d_law_law_635 : decode code 635 = .ok (.iconst 1, 1) := by decide +kernel
theorem d_law_law_636 : decode code 636 = .ok (.iadd, 1) := by decide +kernel
theorem d_law_law_637 : decode code 637 = .ok (.iaload, 1) := by decide +kernel
theorem d_law_law_638 : decode code 638 = .ok (.aload_n 0, 1) := by decide +kernel
theorem d_law_law_639 : decode code 639 = .ok (.iload_n 3, 1) := by decide +kernel
theorem d_law_law_640 : decode code 640 = .ok (.iconst 2, 1) := by decide +kernel
theorem d_law_law_641 : decode code 641 = .ok (.iadd, 1) := by decide +kernel
theorem d_law_law_642 : decode code 642 = .ok (.iaload, 1) := by decide +kernel
theorem d_law_law_643 : decode code 643 = .ok (.aload_n 0, 1) := by decide +kernel
theorem d_law_law_644 : decode code 644 = .ok (.iload_n 3, 1) := by decide +kernel
theorem d_law_law_645 : decode code 645 = .ok (.iconst 3, 1) := by decide +kernel
theorem d_law_law_646 : decode code 646 = .ok (.iadd, 1) := by decide +kernel
theorem d_law_law_647 : decode code 647 = .ok (.iaload, 1) := by decide +kernel
theorem d_law_law_648 : decode code 648 = .ok (.invokevirtual 96, 3) := by decide +kernel
theorem d_law_law_651 : decode code 651 = .ok (.aload_n 2, 1) := by decide +kernel
theorem d_law_law_652 : decode code 652 = .ok (.aload_n 0, 1) := by decide +kernel
theorem d_law_law_653 : decode code 653 = .ok (.iload_n 3, 1) := by decide +kernel
theorem d_law_law_654 : decode code 654 = .ok (.iconst 1, 1) := by decide +kernel
theorem d_law_law_655 : decode code 655 = .ok (.iadd, 1) := by decide +kernel
theorem d_law_law_656 : decode code 656 = .ok (.iaload, 1) := by decide +kernel
theorem d_law_law_657 : decode code 657 = .ok (.aload_n 0, 1) := by decide +kernel
theorem d_law_law_658 : decode code 658 = .ok (.iload_n 3, 1) := by decide +kernel
theorem d_law_law_659 : decode code 659 = .ok (.iconst 2, 1) := by decide +kernel
theorem d_law_law_660 : decode code 660 = .ok (.iadd, 1) := by decide +kernel
theorem d_law_law_661 : decode code 661 = .ok (.iaload, 1) := by decide +kernel
theorem d_law_law_662 : decode code 662 = .ok (.aload_n 0, 1) := by decide +kernel
theorem d_law_law_663 : decode code 663 = .ok (.iload_n 3, 1) := by decide +kernel
theorem d_law_law_664 : decode code 664 = .ok (.iconst 3, 1) := by decide +kernel
theorem d_law_law_665 : decode code 665 = .ok (.iadd, 1) := by decide +kernel
theorem d_law_law_666 : decode code 666 = .ok (.iaload, 1) := by decide +kernel
theorem d_law_law_667 : decode code 667 = .ok (.invokevirtual 100, 3) := by decide +kernel
theorem d_law_law_670 : decode code 670 = .ok (.if_icmp .eq 245, 3) := by decide +kernel
theorem d_law_law_673 : decode code 673 = .ok (.iconst 0, 1) := by decide +kernel
theorem d_law_law_674 : decode code 674 = .ok (.ireturn, 1) := by decide +kernel
theorem d_law_law_675 : decode code 675 = .ok (.aload_n 1, 1) := by decide +kernel
theorem d_law_law_676 : decode code 676 = .ok (.invokevirtual 101, 3) := by decide +kernel
theorem d_law_law_679 : decode code 679 = .ok (.aload_n 2, 1) := by decide +kernel
theorem d_law_law_680 : decode code 680 = .ok (.invokevirtual 104, 3) := by decide +kernel
theorem d_law_law_683 : decode code 683 = .ok (.if_icmp .eq 232, 3) := by decide +kernel
theorem d_law_law_686 : decode code 686 = .ok (.iconst 0, 1) := by decide +kernel
theorem d_law_law_687 : decode code 687 = .ok (.ireturn, 1) := by decide +kernel
theorem d_law_law_688 : decode code 688 = .ok (.aload_n 1, 1) := by decide +kernel
theorem d_law_law_689 : decode code 689 = .ok (.aload_n 0, 1) := by decide +kernel
theorem d_law_law_690 : decode code 690 = .ok (.iload_n 3, 1) := by decide +kernel
theorem d_law_law_691 : decode code 691 = .ok (.iconst 1, 1) := by decide +kernel
theorem d_law_law_692 : decode code 692 = .ok (.iadd, 1) := by decide +kernel
theorem d_law_law_693 : decode code 693 = .ok (.iaload, 1) := by decide +kernel
theorem d_law_law_694 : decode code 694 = .ok (.invokevirtual 105, 3) := by decide +kernel
theorem d_law_law_697 : decode code 697 = .ok (.aload_n 2, 1) := by decide +kernel
theorem d_law_law_698 : decode code 698 = .ok (.aload_n 0, 1) := by decide +kernel
theorem d_law_law_699 : decode code 699 = .ok (.iload_n 3, 1) := by decide +kernel
theorem d_law_law_700 : decode code 700 = .ok (.iconst 1, 1) := by decide +kernel
theorem d_law_law_701 : decode code 701 = .ok (.iadd, 1) := by decide +kernel
theorem d_law_law_702 : decode code 702 = .ok (.iaload, 1) := by decide +kernel
theorem d_law_law_703 : decode code 703 = .ok (.invokevirtual 108, 3) := by decide +kernel
theorem d_law_law_706 : decode code 706 = .ok (.if_icmp .eq 209, 3) := by decide +kernel
theorem d_law_law_709 : decode code 709 = .ok (.iconst 0, 1) := by decide +kernel
theorem d_law_law_710 : decode code 710 = .ok (.ireturn, 1) := by decide +kernel
theorem d_law_law_711 : decode code 711 = .ok (.aload_n 1, 1) := by decide +kernel
theorem d_law_law_712 : decode code 712 = .ok (.aload_n 0, 1) := by decide +kernel
theorem d_law_law_713 : decode code 713 = .ok (.iload_n 3, 1) := by decide +kernel
theorem d_law_law_714 : decode code 714 = .ok (.iconst 1, 1) := by decide +kernel
theorem d_law_law_715 : decode code 715 = .ok (.iadd, 1) := by decide +kernel
theorem d_law_law_716 : decode code 716 = .ok (.iaload, 1) := by decide +kernel
theorem d_law_law_717 : decode code 717 = .ok (.invokevirtual 109, 3) := by decide +kernel
theorem d_law_law_720 : decode code 720 = .ok (.aload_n 2, 1) := by decide +kernel
theorem d_law_law_721 : decode code 721 = .ok (.aload_n 0, 1) := by decide +kernel
theorem d_law_law_722 : decode code 722 = .ok (.iload_n 3, 1) := by decide +kernel
theorem d_law_law_723 : decode code 723 = .ok (.iconst 1, 1) := by decide +kernel
theorem d_law_law_724 : decode code 724 = .ok (.iadd, 1) := by decide +kernel
theorem d_law_law_725 : decode code 725 = .ok (.iaload, 1) := by decide +kernel
theorem d_law_law_726 : decode code 726 = .ok (.invokevirtual 112, 3) := by decide +kernel
theorem d_law_law_729 : decode code 729 = .ok (.if_icmp .eq 186, 3) := by decide +kernel
theorem d_law_law_732 : decode code 732 = .ok (.iconst 0, 1) := by decide +kernel
theorem d_law_law_733 : decode code 733 = .ok (.ireturn, 1) := by decide +kernel
theorem d_law_law_734 : decode code 734 = .ok (.aload_n 1, 1) := by decide +kernel
theorem d_law_law_735 : decode code 735 = .ok (.aload_n 0, 1) := by decide +kernel
theorem d_law_law_736 : decode code 736 = .ok (.iload_n 3, 1) := by decide +kernel
theorem d_law_law_737 : decode code 737 = .ok (.iconst 1, 1) := by decide +kernel
theorem d_law_law_738 : decode code 738 = .ok (.iadd, 1) := by decide +kernel
theorem d_law_law_739 : decode code 739 = .ok (.iaload, 1) := by decide +kernel
theorem d_law_law_740 : decode code 740 = .ok (.aload_n 0, 1) := by decide +kernel
theorem d_law_law_741 : decode code 741 = .ok (.iload_n 3, 1) := by decide +kernel
theorem d_law_law_742 : decode code 742 = .ok (.iconst 2, 1) := by decide +kernel
theorem d_law_law_743 : decode code 743 = .ok (.iadd, 1) := by decide +kernel
theorem d_law_law_744 : decode code 744 = .ok (.iaload, 1) := by decide +kernel
theorem d_law_law_745 : decode code 745 = .ok (.invokevirtual 113, 3) := by decide +kernel
theorem d_law_law_748 : decode code 748 = .ok (.aload_n 2, 1) := by decide +kernel
theorem d_law_law_749 : decode code 749 = .ok (.aload_n 0, 1) := by decide +kernel
theorem d_law_law_750 : decode code 750 = .ok (.iload_n 3, 1) := by decide +kernel
theorem d_law_law_751 : decode code 751 = .ok (.iconst 1, 1) := by decide +kernel
theorem d_law_law_752 : decode code 752 = .ok (.iadd, 1) := by decide +kernel
theorem d_law_law_753 : decode code 753 = .ok (.iaload, 1) := by decide +kernel
theorem d_law_law_754 : decode code 754 = .ok (.aload_n 0, 1) := by decide +kernel
theorem d_law_law_755 : decode code 755 = .ok (.iload_n 3, 1) := by decide +kernel
theorem d_law_law_756 : decode code 756 = .ok (.iconst 2, 1) := by decide +kernel
theorem d_law_law_757 : decode code 757 = .ok (.iadd, 1) := by decide +kernel
theorem d_law_law_758 : decode code 758 = .ok (.iaload, 1) := by decide +kernel
theorem d_law_law_759 : decode code 759 = .ok (.invokevirtual 116, 3) := by decide +kernel
theorem d_law_law_762 : decode code 762 = .ok (.if_icmp .eq 153, 3) := by decide +kernel
theorem d_law_law_765 : decode code 765 = .ok (.iconst 0, 1) := by decide +kernel
theorem d_law_law_766 : decode code 766 = .ok (.ireturn, 1) := by decide +kernel
theorem d_law_law_767 : decode code 767 = .ok (.aload_n 1, 1) := by decide +kernel
theorem d_law_law_768 : decode code 768 = .ok (.aload_n 0, 1) := by decide +kernel
theorem d_law_law_769 : decode code 769 = .ok (.iload_n 3, 1) := by decide +kernel
theorem d_law_law_770 : decode code 770 = .ok (.iconst 1, 1) := by decide +kernel
theorem d_law_law_771 : decode code 771 = .ok (.iadd, 1) := by decide +kernel
theorem d_law_law_772 : decode code 772 = .ok (.iaload, 1) := by decide +kernel
theorem d_law_law_773 : decode code 773 = .ok (.invokevirtual 117, 3) := by decide +kernel
theorem d_law_law_776 : decode code 776 = .ok (.aload_n 2, 1) := by decide +kernel
theorem d_law_law_777 : decode code 777 = .ok (.aload_n 0, 1) := by decide +kernel
theorem d_law_law_778 : decode code 778 = .ok (.iload_n 3, 1) := by decide +kernel
theorem d_law_law_779 : decode code 779 = .ok (.iconst 1, 1) := by decide +kernel
theorem d_law_law_780 : decode code 780 = .ok (.iadd, 1) := by decide +kernel
theorem d_law_law_781 : decode code 781 = .ok (.iaload, 1) := by decide +kernel
theorem d_law_law_782 : decode code 782 = .ok (.invokevirtual 120, 3) := by decide +kernel
theorem d_law_law_785 : decode code 785 = .ok (.if_icmp .eq 130, 3) := by decide +kernel
theorem d_law_law_788 : decode code 788 = .ok (.iconst 0, 1) := by decide +kernel
theorem d_law_law_789 : decode code 789 = .ok (.ireturn, 1) := by decide +kernel
theorem d_law_law_790 : decode code 790 = .ok (.aload_n 1, 1) := by decide +kernel
theorem d_law_law_791 : decode code 791 = .ok (.aload_n 0, 1) := by decide +kernel
theorem d_law_law_792 : decode code 792 = .ok (.iload_n 3, 1) := by decide +kernel
theorem d_law_law_793 : decode code 793 = .ok (.iconst 1, 1) := by decide +kernel
theorem d_law_law_794 : decode code 794 = .ok (.iadd, 1) := by decide +kernel
theorem d_law_law_795 : decode code 795 = .ok (.iaload, 1) := by decide +kernel
theorem d_law_law_796 : decode code 796 = .ok (.aload_n 0, 1) := by decide +kernel
theorem d_law_law_797 : decode code 797 = .ok (.iload_n 3, 1) := by decide +kernel
theorem d_law_law_798 : decode code 798 = .ok (.iconst 2, 1) := by decide +kernel
theorem d_law_law_799 : decode code 799 = .ok (.iadd, 1) := by decide +kernel
theorem d_law_law_800 : decode code 800 = .ok (.iaload, 1) := by decide +kernel
theorem d_law_law_801 : decode code 801 = .ok (.invokevirtual 121, 3) := by decide +kernel
theorem d_law_law_804 : decode code 804 = .ok (.aload_n 2, 1) := by decide +kernel
theorem d_law_law_805 : decode code 805 = .ok (.aload_n 0, 1) := by decide +kernel
theorem d_law_law_806 : decode code 806 = .ok (.iload_n 3, 1) := by decide +kernel
theorem d_law_law_807 : decode code 807 = .ok (.iconst 1, 1) := by decide +kernel
theorem d_law_law_808 : decode code 808 = .ok (.iadd, 1) := by decide +kernel
theorem d_law_law_809 : decode code 809 = .ok (.iaload, 1) := by decide +kernel
theorem d_law_law_810 : decode code 810 = .ok (.aload_n 0, 1) := by decide +kernel
theorem d_law_law_811 : decode code 811 = .ok (.iload_n 3, 1) := by decide +kernel
theorem d_law_law_812 : decode code 812 = .ok (.iconst 2, 1) := by decide +kernel
theorem d_law_law_813 : decode code 813 = .ok (.iadd, 1) := by decide +kernel
theorem d_law_law_814 : decode code 814 = .ok (.iaload, 1) := by decide +kernel
theorem d_law_law_815 : decode code 815 = .ok (.invokevirtual 124, 3) := by decide +kernel
theorem d_law_law_818 : decode code 818 = .ok (.if_icmp .eq 97, 3) := by decide +kernel
theorem d_law_law_821 : decode code 821 = .ok (.iconst 0, 1) := by decide +kernel
theorem d_law_law_822 : decode code 822 = .ok (.ireturn, 1) := by decide +kernel
theorem d_law_law_823 : decode code 823 = .ok (.aload_n 1, 1) := by decide +kernel
theorem d_law_law_824 : decode code 824 = .ok (.aload_n 0, 1) := by decide +kernel
theorem d_law_law_825 : decode code 825 = .ok (.iload_n 3, 1) := by decide +kernel
theorem d_law_law_826 : decode code 826 = .ok (.iconst 1, 1) := by decide +kernel
theorem d_law_law_827 : decode code 827 = .ok (.iadd, 1) := by decide +kernel
theorem d_law_law_828 : decode code 828 = .ok (.iaload, 1) := by decide +kernel
theorem d_law_law_829 : decode code 829 = .ok (.aload_n 0, 1) := by decide +kernel
theorem d_law_law_830 : decode code 830 = .ok (.iload_n 3, 1) := by decide +kernel
theorem d_law_law_831 : decode code 831 = .ok (.iconst 2, 1) := by decide +kernel
theorem d_law_law_832 : decode code 832 = .ok (.iadd, 1) := by decide +kernel
theorem d_law_law_833 : decode code 833 = .ok (.iaload, 1) := by decide +kernel
theorem d_law_law_834 : decode code 834 = .ok (.aload_n 0, 1) := by decide +kernel
theorem d_law_law_835 : decode code 835 = .ok (.iload_n 3, 1) := by decide +kernel
theorem d_law_law_836 : decode code 836 = .ok (.iconst 3, 1) := by decide +kernel
theorem d_law_law_837 : decode code 837 = .ok (.iadd, 1) := by decide +kernel
theorem d_law_law_838 : decode code 838 = .ok (.iaload, 1) := by decide +kernel
theorem d_law_law_839 : decode code 839 = .ok (.invokevirtual 125, 3) := by decide +kernel
theorem d_law_law_842 : decode code 842 = .ok (.aload_n 2, 1) := by decide +kernel
theorem d_law_law_843 : decode code 843 = .ok (.aload_n 0, 1) := by decide +kernel
theorem d_law_law_844 : decode code 844 = .ok (.iload_n 3, 1) := by decide +kernel
theorem d_law_law_845 : decode code 845 = .ok (.iconst 1, 1) := by decide +kernel
theorem d_law_law_846 : decode code 846 = .ok (.iadd, 1) := by decide +kernel
theorem d_law_law_847 : decode code 847 = .ok (.iaload, 1) := by decide +kernel
theorem d_law_law_848 : decode code 848 = .ok (.aload_n 0, 1) := by decide +kernel
theorem d_law_law_849 : decode code 849 = .ok (.iload_n 3, 1) := by decide +kernel
theorem d_law_law_850 : decode code 850 = .ok (.iconst 2, 1) := by decide +kernel
theorem d_law_law_851 : decode code 851 = .ok (.iadd, 1) := by decide +kernel
theorem d_law_law_852 : decode code 852 = .ok (.iaload, 1) := by decide +kernel
theorem d_law_law_853 : decode code 853 = .ok (.aload_n 0, 1) := by decide +kernel
theorem d_law_law_854 : decode code 854 = .ok (.iload_n 3, 1) := by decide +kernel
theorem d_law_law_855 : decode code 855 = .ok (.iconst 3, 1) := by decide +kernel
theorem d_law_law_856 : decode code 856 = .ok (.iadd, 1) := by decide +kernel
theorem d_law_law_857 : decode code 857 = .ok (.iaload, 1) := by decide +kernel
theorem d_law_law_858 : decode code 858 = .ok (.invokevirtual 128, 3) := by decide +kernel
theorem d_law_law_861 : decode code 861 = .ok (.if_icmp .eq 54, 3) := by decide +kernel
theorem d_law_law_864 : decode code 864 = .ok (.iconst 0, 1) := by decide +kernel
theorem d_law_law_865 : decode code 865 = .ok (.ireturn, 1) := by decide +kernel
theorem d_law_law_866 : decode code 866 = .ok (.aload_n 1, 1) := by decide +kernel
theorem d_law_law_867 : decode code 867 = .ok (.invokevirtual 129, 3) := by decide +kernel
theorem d_law_law_870 : decode code 870 = .ok (.aload_n 2, 1) := by decide +kernel
theorem d_law_law_871 : decode code 871 = .ok (.invokevirtual 132, 3) := by decide +kernel
theorem d_law_law_874 : decode code 874 = .ok (.if_icmp .eq 41, 3) := by decide +kernel
theorem d_law_law_877 : decode code 877 = .ok (.iconst 0, 1) := by decide +kernel
theorem d_law_law_878 : decode code 878 = .ok (.ireturn, 1) := by decide +kernel
theorem d_law_law_879 : decode code 879 = .ok (.aload_n 1, 1) := by decide +kernel
theorem d_law_law_880 : decode code 880 = .ok (.invokevirtual 133, 3) := by decide +kernel
theorem d_law_law_883 : decode code 883 = .ok (.aload_n 2, 1) := by decide +kernel
theorem d_law_law_884 : decode code 884 = .ok (.invokevirtual 136, 3) := by decide +kernel
theorem d_law_law_887 : decode code 887 = .ok (.if_icmp .eq 28, 3) := by decide +kernel
theorem d_law_law_890 : decode code 890 = .ok (.iconst 0, 1) := by decide +kernel
theorem d_law_law_891 : decode code 891 = .ok (.ireturn, 1) := by decide +kernel
theorem d_law_law_892 : decode code 892 = .ok (.aload_n 1, 1) := by decide +kernel
theorem d_law_law_893 : decode code 893 = .ok (.aload_n 0, 1) := by decide +kernel
theorem d_law_law_894 : decode code 894 = .ok (.iload_n 3, 1) := by decide +kernel
theorem d_law_law_895 : decode code 895 = .ok (.iconst 1, 1) := by decide +kernel
theorem d_law_law_896 : decode code 896 = .ok (.iadd, 1) := by decide +kernel
theorem d_law_law_897 : decode code 897 = .ok (.iaload, 1) := by decide +kernel
theorem d_law_law_898 : decode code 898 = .ok (.invokevirtual 137, 3) := by decide +kernel
theorem d_law_law_901 : decode code 901 = .ok (.aload_n 2, 1) := by decide +kernel
theorem d_law_law_902 : decode code 902 = .ok (.aload_n 0, 1) := by decide +kernel
theorem d_law_law_903 : decode code 903 = .ok (.iload_n 3, 1) := by decide +kernel
theorem d_law_law_904 : decode code 904 = .ok (.iconst 1, 1) := by decide +kernel
theorem d_law_law_905 : decode code 905 = .ok (.iadd, 1) := by decide +kernel
theorem d_law_law_906 : decode code 906 = .ok (.iaload, 1) := by decide +kernel
theorem d_law_law_907 : decode code 907 = .ok (.invokevirtual 140, 3) := by decide +kernel
theorem d_law_law_910 : decode code 910 = .ok (.if_icmp .eq 5, 3) := by decide +kernel
theorem d_law_law_913 : decode code 913 = .ok (.iconst 0, 1) := by decide +kernel
theorem d_law_law_914 : decode code 914 = .ok (.ireturn, 1) := by decide +kernel
theorem d_law_law_915 : decode code 915 = .ok (.iinc 3 4, 3) := by decide +kernel
theorem d_law_law_918 : decode code 918 = .ok (.goto (-900), 3) := by decide +kernel
theorem d_law_law_921 : decode code 921 = .ok (.iconst 1, 1) := by decide +kernel
theorem d_law_law_922 : decode code 922 = .ok (.ireturn, 1) := by decide +kernel
