theorem d_Nm_against_31 : decode b_Nm_against 31 = .ok (.invokevirtual 229, 3) := by decide +kernel
theorem d_Nm_against_34 : decode b_Nm_against 34 = .ok (.goto 11, 3) := by decide +kernel
theorem d_Nm_against_37 : decode b_Nm_against 37 = .ok (.aload_n 0, 1) := by decide +kernel
theorem d_Nm_against_38 : decode b_Nm_against 38 = .ok (.invokevirtual 112, 3) := by decide +kernel
theorem d_Nm_against_41 : decode b_Nm_against 41 = .ok (.iload_n 1, 1) := by decide +kernel
theorem d_Nm_against_42 : decode b_Nm_against 42 = .ok (.invokevirtual 177, 3) := by decide +kernel
theorem d_Nm_against_45 : decode b_Nm_against 45 = .ok (.ireturn, 1) := by decide +kernel
theorem d_Nm_ask_0 : decode b_Nm_ask 0 = .ok (.iload_n 1, 1) := by decide +kernel
theorem d_Nm_ask_1 : decode b_Nm_ask 1 = .ok (.iconst 1, 1) := by decide +kernel
theorem d_Nm_ask_2 : decode b_Nm_ask 2 = .ok (.bipush 9, 2) := by decide +kernel
theorem d_Nm_ask_4 : decode b_Nm_ask 4 = .ok (.invokestatic 86, 3) := by decide +kernel
theorem d_Nm_ask_7 : decode b_Nm_ask 7 = .ok (.ifCond .eq 5, 3) := by decide +kernel
theorem d_Nm_ask_10 : decode b_Nm_ask 10 = .ok (.iconst (-1), 1) := by decide +kernel
theorem d_Nm_ask_11 : decode b_Nm_ask 11 = .ok (.ireturn, 1) := by decide +kernel
theorem d_Nm_ask_12 : decode b_Nm_ask 12 = .ok (.aload_n 0, 1) := by decide +kernel
theorem d_Nm_ask_13 : decode b_Nm_ask 13 = .ok (.invokevirtual 112, 3) := by decide +kernel
theorem d_Nm_ask_16 : decode b_Nm_ask 16 = .ok (.astore_n 2, 1) := by decide +kernel
theorem d_Nm_ask_17 : decode b_Nm_ask 17 = .ok (.aload_n 2, 1) := by decide +kernel
theorem d_Nm_ask_18 : decode b_Nm_ask 18 = .ok (.iconst (-1), 1) := by decide +kernel
theorem d_Nm_ask_19 : decode b_Nm_ask 19 = .ok (.invokevirtual 171, 3) := by decide +kernel
theorem d_Nm_ask_22 : decode b_Nm_ask 22 = .ok (.istore_n 3, 1) := by decide +kernel
theorem d_Nm_ask_23 : decode b_Nm_ask 23 = .ok (.iconst 0, 1) := by decide +kernel
theorem d_Nm_ask_24 : decode b_Nm_ask 24 = .ok (.istore 4, 2) := by decide +kernel
theorem d_Nm_ask_26 : decode b_Nm_ask 26 = .ok (.iload 4, 2) := by decide +kernel
theorem d_Nm_ask_28 : decode b_Nm_ask 28 = .ok (.iload_n 1, 1) := by decide +kernel
theorem d_Nm_ask_29 : decode b_Nm_ask 29 = .ok (.if_icmp .ge 34, 3) := by decide +kernel
theorem d_Nm_ask_32 : decode b_Nm_ask 32 = .ok (.iload 4, 2) := by decide +kernel
theorem d_Nm_ask_34 : decode b_Nm_ask 34 = .ok (.aload_n 0, 1) := by decide +kernel
theorem d_Nm_ask_35 : decode b_Nm_ask 35 = .ok (.getfield 48, 3) := by decide +kernel
theorem d_Nm_ask_38 : decode b_Nm_ask 38 = .ok (.getfield 90, 3) := by decide +kernel
theorem d_Nm_ask_41 : decode b_Nm_ask 41 = .ok (.if_icmp .ge 22, 3) := by decide +kernel
theorem d_Nm_ask_44 : decode b_Nm_ask 44 = .ok (.aload_n 2, 1) := by decide +kernel
theorem d_Nm_ask_45 : decode b_Nm_ask 45 = .ok (.iload 4, 2) := by decide +kernel
theorem d_Nm_ask_47 : decode b_Nm_ask 47 = .ok (.invokevirtual 171, 3) := by decide +kernel
theorem d_Nm_ask_50 : decode b_Nm_ask 50 = .ok (.iload_n 3, 1) := by decide +kernel
theorem d_Nm_ask_51 : decode b_Nm_ask 51 = .ok (.if_icmp .eq 6, 3) := by decide +kernel
theorem d_Nm_ask_54 : decode b_Nm_ask 54 = .ok (.iload 4, 2) := by decide +kernel
theorem d_Nm_ask_56 : decode b_Nm_ask 56 = .ok (.ireturn, 1) := by decide +kernel
theorem d_Nm_ask_57 : decode b_Nm_ask 57 = .ok (.iinc 4 1, 3) := by decide +kernel
theorem d_Nm_ask_60 : decode b_Nm_ask 60 = .ok (.goto (-34), 3) := by decide +kernel
theorem d_Nm_ask_63 : decode b_Nm_ask 63 = .ok (.bipush (-4), 2) := by decide +kernel
theorem d_Nm_ask_65 : decode b_Nm_ask 65 = .ok (.ireturn, 1) := by decide +kernel
theorem d_Nm_wheel_0 : decode b_Nm_wheel 0 = .ok (.iload_n 1, 1) := by decide +kernel
theorem d_Nm_wheel_1 : decode b_Nm_wheel 1 = .ok (.iconst 0, 1) := by decide +kernel
theorem d_Nm_wheel_2 : decode b_Nm_wheel 2 = .ok (.bipush 6, 2) := by decide +kernel
theorem d_Nm_wheel_4 : decode b_Nm_wheel 4 = .ok (.invokestatic 86, 3) := by decide +kernel
theorem d_Nm_wheel_7 : decode b_Nm_wheel 7 = .ok (.ifCond .ne 12, 3) := by decide +kernel
theorem d_Nm_wheel_10 : decode b_Nm_wheel 10 = .ok (.iload_n 2, 1) := by decide +kernel
theorem d_Nm_wheel_11 : decode b_Nm_wheel 11 = .ok (.iconst 0, 1) := by decide +kernel
theorem d_Nm_wheel_12 : decode b_Nm_wheel 12 = .ok (.iconst 1, 1) := by decide +kernel
theorem d_Nm_wheel_13 : decode b_Nm_wheel 13 = .ok (.invokestatic 86, 3) := by decide +kernel
theorem d_Nm_wheel_16 : decode b_Nm_wheel 16 = .ok (.ifCond .eq 5, 3) := by decide +kernel
theorem d_Nm_wheel_19 : decode b_Nm_wheel 19 = .ok (.iconst (-1), 1) := by decide +kernel
theorem d_Nm_wheel_20 : decode b_Nm_wheel 20 = .ok (.ireturn, 1) := by decide +kernel
theorem d_Nm_wheel_21 : decode b_Nm_wheel 21 = .ok (.aload_n 0, 1) := by decide +kernel
theorem d_Nm_wheel_22 : decode b_Nm_wheel 22 = .ok (.invokevirtual 112, 3) := by decide +kernel
theorem d_Nm_wheel_25 : decode b_Nm_wheel 25 = .ok (.astore_n 3, 1) := by decide +kernel
theorem d_Nm_wheel_26 : decode b_Nm_wheel 26 = .ok (.aload_n 3, 1) := by decide +kernel
theorem d_Nm_wheel_27 : decode b_Nm_wheel 27 = .ok (.getfield 232, 3) := by decide +kernel
theorem d_Nm_wheel_30 : decode b_Nm_wheel 30 = .ok (.invokestatic 235, 3) := by decide +kernel
theorem d_Nm_wheel_33 : decode b_Nm_wheel 33 = .ok (.istore 4, 2) := by decide +kernel
theorem d_Nm_wheel_35 : decode b_Nm_wheel 35 = .ok (.iload 4, 2) := by decide +kernel
theorem d_Nm_wheel_37 : decode b_Nm_wheel 37 = .ok (.iload_n 1, 1) := by decide +kernel
theorem d_Nm_wheel_38 : decode b_Nm_wheel 38 = .ok (.invokestatic 240, 3) := by decide +kernel
theorem d_Nm_wheel_41 : decode b_Nm_wheel 41 = .ok (.istore 5, 2) := by decide +kernel
theorem d_Nm_wheel_43 : decode b_Nm_wheel 43 = .ok (.iload 5, 2) := by decide +kernel
theorem d_Nm_wheel_45 : decode b_Nm_wheel 45 = .ok (.iload 4, 2) := by decide +kernel
theorem d_Nm_wheel_47 : decode b_Nm_wheel 47 = .ok (.aload_n 3, 1) := by decide +kernel
theorem d_Nm_wheel_48 : decode b_Nm_wheel 48 = .ok (.invokevirtual 243, 3) := by decide +kernel
theorem d_Nm_wheel_51 : decode b_Nm_wheel 51 = .ok (.isub, 1) := by decide +kernel
theorem d_Nm_wheel_52 : decode b_Nm_wheel 52 = .ok (.iload_n 1, 1) := by decide +kernel
theorem d_Nm_wheel_53 : decode b_Nm_wheel 53 = .ok (.invokestatic 240, 3) := by decide +kernel
theorem d_Nm_wheel_56 : decode b_Nm_wheel 56 = .ok (.isub, 1) := by decide +kernel
theorem d_Nm_wheel_57 : decode b_Nm_wheel 57 = .ok (.istore 6, 2) := by decide +kernel
theorem d_Nm_wheel_59 : decode b_Nm_wheel 59 = .ok (.iconst 1, 1) := by decide +kernel
theorem d_Nm_wheel_60 : decode b_Nm_wheel 60 = .ok (.iload 6, 2) := by decide +kernel
theorem d_Nm_wheel_62 : decode b_Nm_wheel 62 = .ok (.iload 5, 2) := by decide +kernel
theorem d_Nm_wheel_64 : decode b_Nm_wheel 64 = .ok (.invokestatic 246, 3) := by decide +kernel
theorem d_Nm_wheel_67 : decode b_Nm_wheel 67 = .ok (.invokestatic 249, 3) := by decide +kernel
theorem d_Nm_wheel_70 : decode b_Nm_wheel 70 = .ok (.istore 7, 2) := by decide +kernel
theorem d_Nm_wheel_72 : decode b_Nm_wheel 72 = .ok (.iload_n 2, 1) := by decide +kernel
theorem d_Nm_wheel_73 : decode b_Nm_wheel 73 = .ok (.ifCond .ne 8, 3) := by decide +kernel
theorem d_Nm_wheel_76 : decode b_Nm_wheel 76 = .ok (.iload 6, 2) := by decide +kernel
theorem d_Nm_wheel_78 : decode b_Nm_wheel 78 = .ok (.goto 5, 3) := by decide +kernel
theorem d_Nm_wheel_81 : decode b_Nm_wheel 81 = .ok (.iload 5, 2) := by decide +kernel
theorem d_Nm_wheel_83 : decode b_Nm_wheel 83 = .ok (.iload 7, 2) := by decide +kernel
theorem d_Nm_wheel_85 : decode b_Nm_wheel 85 = .ok (.idiv, 1) := by decide +kernel
theorem d_Nm_wheel_86 : decode b_Nm_wheel 86 = .ok (.ireturn, 1) := by decide +kernel
theorem d_Nm_evening_0 : decode b_Nm_evening 0 = .ok (.iload_n 1, 1) := by decide +kernel
theorem d_Nm_evening_1 : decode b_Nm_evening 1 = .ok (.iconst 0, 1) := by decide +kernel
theorem d_Nm_evening_2 : decode b_Nm_evening 2 = .ok (.sipush 9999, 3) := by decide +kernel
theorem d_Nm_evening_5 : decode b_Nm_evening 5 = .ok (.invokestatic 86, 3) := by decide +kernel
theorem d_Nm_evening_8 : decode b_Nm_evening 8 = .ok (.ifCond .ne 22, 3) := by decide +kernel
theorem d_Nm_evening_11 : decode b_Nm_evening 11 = .ok (.iload_n 2, 1) := by decide +kernel
theorem d_Nm_evening_12 : decode b_Nm_evening 12 = .ok (.iconst 1, 1) := by decide +kernel
theorem d_Nm_evening_13 : decode b_Nm_evening 13 = .ok (.bipush 20, 2) := by decide +kernel
theorem d_Nm_evening_15 : decode b_Nm_evening 15 = .ok (.invokestatic 86, 3) := by decide +kernel
theorem d_Nm_evening_18 : decode b_Nm_evening 18 = .ok (.ifCond .ne 12, 3) := by decide +kernel
theorem d_Nm_evening_21 : decode b_Nm_evening 21 = .ok (.iload_n 3, 1) := by decide +kernel
theorem d_Nm_evening_22 : decode b_Nm_evening 22 = .ok (.iconst 0, 1) := by decide +kernel
theorem d_Nm_evening_23 : decode b_Nm_evening 23 = .ok (.iconst 1, 1) := by decide +kernel
theorem d_Nm_evening_24 : decode b_Nm_evening 24 = .ok (.invokestatic 86, 3) := by decide +kernel
theorem d_Nm_evening_27 : decode b_Nm_evening 27 = .ok (.ifCond .eq 5, 3) := by decide +kernel
theorem d_Nm_evening_30 : decode b_Nm_evening 30 = .ok (.iconst (-1), 1) := by decide +kernel
theorem d_Nm_evening_31 : decode b_Nm_evening 31 = .ok (.ireturn, 1) := by decide +kernel
theorem d_Nm_evening_32 : decode b_Nm_evening 32 = .ok (.aload_n 0, 1) := by decide +kernel
theorem d_Nm_evening_33 : decode b_Nm_evening 33 = .ok (.getfield 19, 3) := by decide +kernel
theorem d_Nm_evening_36 : decode b_Nm_evening 36 = .ok (.invokevirtual 141, 3) := by decide +kernel
theorem d_Nm_evening_39 : decode b_Nm_evening 39 = .ok (.ifCond .eq 6, 3) := by decide +kernel
theorem d_Nm_evening_42 : decode b_Nm_evening 42 = .ok (.bipush (-2), 2) := by decide +kernel
theorem d_Nm_evening_44 : decode b_Nm_evening 44 = .ok (.ireturn, 1) := by decide +kernel
theorem d_Nm_evening_45 : decode b_Nm_evening 45 = .ok (.aload_n 0, 1) := by decide +kernel
theorem d_Nm_evening_46 : decode b_Nm_evening 46 = .ok (.getfield 23, 3) := by decide +kernel
theorem d_Nm_evening_49 : decode b_Nm_evening 49 = .ok (.aload_n 0, 1) := by decide +kernel
theorem d_Nm_evening_50 : decode b_Nm_evening 50 = .ok (.getfield 19, 3) := by decide +kernel
theorem d_Nm_evening_53 : decode b_Nm_evening 53 = .ok (.invokevirtual 254, 3) := by decide +kernel
theorem d_Nm_evening_56 : decode b_Nm_evening 56 = .ok (.iconst 0, 1) := by decide +kernel
theorem d_Nm_evening_57 : decode b_Nm_evening 57 = .ok (.istore 4, 2) := by decide +kernel
theorem d_Nm_evening_59 : decode b_Nm_evening 59 = .ok (.iload 4, 2) := by decide +kernel
theorem d_Nm_evening_61 : decode b_Nm_evening 61 = .ok (.iload_n 2, 1) := by decide +kernel
theorem d_Nm_evening_62 : decode b_Nm_evening 62 = .ok (.if_icmp .ge 19, 3) := by decide +kernel
theorem d_Nm_evening_65 : decode b_Nm_evening 65 = .ok (.aload_n 0, 1) := by decide +kernel
theorem d_Nm_evening_66 : decode b_Nm_evening 66 = .ok (.iload_n 1, 1) := by decide +kernel
theorem d_Nm_evening_67 : decode b_Nm_evening 67 = .ok (.iload 4, 2) := by decide +kernel
theorem d_Nm_evening_69 : decode b_Nm_evening 69 = .ok (.invokestatic 257, 3) := by decide +kernel
theorem d_Nm_evening_72 : decode b_Nm_evening 72 = .ok (.invokevirtual 260, 3) := by decide +kernel
theorem d_Nm_evening_75 : decode b_Nm_evening 75 = .ok (.iinc 4 1, 3) := by decide +kernel
theorem d_Nm_evening_78 : decode b_Nm_evening 78 = .ok (.goto (-19), 3) := by decide +kernel
theorem d_Nm_evening_81 : decode b_Nm_evening 81 = .ok (.aload_n 0, 1) := by decide +kernel
theorem d_Nm_evening_82 : decode b_Nm_evening 82 = .ok (.aload_n 0, 1) := by decide +kernel
theorem d_Nm_evening_83 : decode b_Nm_evening 83 = .ok (.getfield 23, 3) := by decide +kernel
theorem d_Nm_evening_86 : decode b_Nm_evening 86 = .ok (.getfield 145, 3) := by decide +kernel
theorem d_Nm_evening_89 : decode b_Nm_evening 89 = .ok (.aload_n 0, 1) := by decide +kernel
theorem d_Nm_evening_90 : decode b_Nm_evening 90 = .ok (.getfield 23, 3) := by decide +kernel
theorem d_Nm_evening_93 : decode b_Nm_evening 93 = .ok (.getfield 201, 3) := by decide +kernel
theorem d_Nm_evening_96 : decode b_Nm_evening 96 = .ok (.invokevirtual 204, 3) := by decide +kernel
theorem d_Nm_evening_99 : decode b_Nm_evening 99 = .ok (.astore 4, 2) := by decide +kernel
theorem d_Nm_evening_101 : decode b_Nm_evening 101 = .ok (.iload_n 3, 1) := by decide +kernel
theorem d_Nm_evening_102 : decode b_Nm_evening 102 = .ok (.ifCond .ne 11, 3) := by decide +kernel
theorem d_Nm_evening_105 : decode b_Nm_evening 105 = .ok (.aload 4, 2) := by decide +kernel
theorem d_Nm_evening_107 : decode b_Nm_evening 107 = .ok (.getfield 232, 3) := by decide +kernel
theorem d_Nm_evening_110 : decode b_Nm_evening 110 = .ok (.goto 9, 3) := by decide +kernel
theorem d_Nm_evening_113 : decode b_Nm_evening 113 = .ok (.aload 4, 2) := by decide +kernel
theorem d_Nm_evening_115 : decode b_Nm_evening 115 = .ok (.iconst (-1), 1) := by decide +kernel
theorem d_Nm_evening_116 : decode b_Nm_evening 116 = .ok (.invokevirtual 171, 3) := by decide +kernel
theorem d_Nm_evening_119 : decode b_Nm_evening 119 = .ok (.ireturn, 1) := by decide +kernel
theorem d_Nm_keep_0 : decode b_Nm_keep 0 = .ok (.aload_n 0, 1) := by decide +kernel
theorem d_Nm_keep_1 : decode b_Nm_keep 1 = .ok (.getfield 35, 3) := by decide +kernel
theorem d_Nm_keep_4 : decode b_Nm_keep 4 = .ok (.getfield 96, 3) := by decide +kernel
theorem d_Nm_keep_7 : decode b_Nm_keep 7 = .ok (.iconst 2, 1) := by decide +kernel
theorem d_Nm_keep_8 : decode b_Nm_keep 8 = .ok (.if_icmp .lt 6, 3) := by decide +kernel
theorem d_Nm_keep_11 : decode b_Nm_keep 11 = .ok (.bipush (-3), 2) := by decide +kernel
theorem d_Nm_keep_13 : decode b_Nm_keep 13 = .ok (.ireturn, 1) := by decide +kernel
theorem d_Nm_keep_14 : decode b_Nm_keep 14 = .ok (.aload_n 0, 1) := by decide +kernel
theorem d_Nm_keep_15 : decode b_Nm_keep 15 = .ok (.getfield 35, 3) := by decide +kernel
theorem d_Nm_keep_18 : decode b_Nm_keep 18 = .ok (.aload_n 0, 1) := by decide +kernel
theorem d_Nm_keep_19 : decode b_Nm_keep 19 = .ok (.getfield 19, 3) := by decide +kernel
theorem d_Nm_keep_22 : decode b_Nm_keep 22 = .ok (.invokevirtual 148, 3) := by decide +kernel
theorem d_Nm_keep_25 : decode b_Nm_keep 25 = .ok (.aload_n 0, 1) := by decide +kernel
theorem d_Nm_keep_26 : decode b_Nm_keep 26 = .ok (.getfield 35, 3) := by decide +kernel
theorem d_Nm_keep_29 : decode b_Nm_keep 29 = .ok (.getfield 96, 3) := by decide +kernel
theorem d_Nm_keep_32 : decode b_Nm_keep 32 = .ok (.ireturn, 1) := by decide +kernel
theorem d_Nm_back_0 : decode b_Nm_back 0 = .ok (.aload_n 0, 1) := by decide +kernel
theorem d_Nm_back_1 : decode b_Nm_back 1 = .ok (.getfield 35, 3) := by decide +kernel
theorem d_Nm_back_4 : decode b_Nm_back 4 = .ok (.aload_n 0, 1) := by decide +kernel
theorem d_Nm_back_5 : decode b_Nm_back 5 = .ok (.getfield 19, 3) := by decide +kernel
theorem d_Nm_back_8 : decode b_Nm_back 8 = .ok (.invokevirtual 167, 3) := by decide +kernel
theorem d_Nm_back_11 : decode b_Nm_back 11 = .ok (.ifCond .ne 6, 3) := by decide +kernel
theorem d_Nm_back_14 : decode b_Nm_back 14 = .ok (.bipush (-2), 2) := by decide +kernel
theorem d_Nm_back_16 : decode b_Nm_back 16 = .ok (.ireturn, 1) := by decide +kernel
theorem d_Nm_back_17 : decode b_Nm_back 17 = .ok (.aload_n 0, 1) := by decide +kernel
theorem d_Nm_back_18 : decode b_Nm_back 18 = .ok (.getfield 31, 3) := by decide +kernel
theorem d_Nm_back_21 : decode b_Nm_back 21 = .ok (.iconst 0, 1) := by decide +kernel
theorem d_Nm_back_22 : decode b_Nm_back 22 = .ok (.putfield 96, 3) := by decide +kernel
theorem d_Nm_back_25 : decode b_Nm_back 25 = .ok (.aload_n 0, 1) := by decide +kernel
theorem d_Nm_back_26 : decode b_Nm_back 26 = .ok (.getfield 35, 3) := by decide +kernel
theorem d_Nm_back_29 : decode b_Nm_back 29 = .ok (.getfield 96, 3) := by decide +kernel
theorem d_Nm_back_32 : decode b_Nm_back 32 = .ok (.ireturn, 1) := by decide +kernel
theorem d_Nm_count_0 : decode b_Nm_count 0 = .ok (.iload_n 1, 1) := by decide +kernel
theorem d_Nm_count_1 : decode b_Nm_count 1 = .ok (.tableswitch 141 0 8 #[51, 59, 67, 75, 86, 109, 117, 125, 133], 51) := by decide +kernel
theorem d_Nm_count_52 : decode b_Nm_count 52 = .ok (.aload_n 0, 1) := by decide +kernel
theorem d_Nm_count_53 : decode b_Nm_count 53 = .ok (.getfield 48, 3) := by decide +kernel
theorem d_Nm_count_56 : decode b_Nm_count 56 = .ok (.getfield 90, 3) := by decide +kernel
theorem d_Nm_count_59 : decode b_Nm_count 59 = .ok (.ireturn, 1) := by decide +kernel
theorem d_Nm_count_60 : decode b_Nm_count 60 = .ok (.aload_n 0, 1) := by decide +kernel
theorem d_Nm_count_61 : decode b_Nm_count 61 = .ok (.getfield 48, 3) := by decide +kernel
theorem d_Nm_count_64 : decode b_Nm_count 64 = .ok (.getfield 263, 3) := by decide +kernel
theorem d_Nm_count_67 : decode b_Nm_count 67 = .ok (.ireturn, 1) := by decide +kernel
theorem d_Nm_count_68 : decode b_Nm_count 68 = .ok (.aload_n 0, 1) := by decide +kernel
theorem d_Nm_count_69 : decode b_Nm_count 69 = .ok (.getfield 19, 3) := by decide +kernel
theorem d_Nm_count_72 : decode b_Nm_count 72 = .ok (.getfield 145, 3) := by decide +kernel
theorem d_Nm_count_75 : decode b_Nm_count 75 = .ok (.ireturn, 1) := by decide +kernel
theorem d_Nm_count_76 : decode b_Nm_count 76 = .ok (.aload_n 0, 1) := by decide +kernel
theorem d_Nm_count_77 : decode b_Nm_count 77 = .ok (.getfield 19, 3) := by decide +kernel
theorem d_Nm_count_80 : decode b_Nm_count 80 = .ok (.getfield 201, 3) := by decide +kernel
theorem d_Nm_count_83 : decode b_Nm_count 83 = .ok (.invokestatic 235, 3) := by decide +kernel
theorem d_Nm_count_86 : decode b_Nm_count 86 = .ok (.ireturn, 1) := by decide +kernel
theorem d_Nm_count_87 : decode b_Nm_count 87 = .ok (.aload_n 0, 1) := by decide +kernel
theorem d_Nm_count_88 : decode b_Nm_count 88 = .ok (.getfield 19, 3) := by decide +kernel
theorem d_Nm_count_91 : decode b_Nm_count 91 = .ok (.invokevirtual 141, 3) := by decide +kernel
theorem d_Nm_count_94 : decode b_Nm_count 94 = .ok (.ifCond .eq 13, 3) := by decide +kernel
theorem d_Nm_count_97 : decode b_Nm_count 97 = .ok (.aload_n 0, 1) := by decide +kernel
theorem d_Nm_count_98 : decode b_Nm_count 98 = .ok (.getfield 19, 3) := by decide +kernel
theorem d_Nm_count_101 : decode b_Nm_count 101 = .ok (.getfield 164, 3) := by decide +kernel
theorem d_Nm_count_104 : decode b_Nm_count 104 = .ok (.goto 5, 3) := by decide +kernel
theorem d_Nm_count_107 : decode b_Nm_count 107 = .ok (.bipush (-4), 2) := by decide +kernel
theorem d_Nm_count_109 : decode b_Nm_count 109 = .ok (.ireturn, 1) := by decide +kernel
theorem d_Nm_count_110 : decode b_Nm_count 110 = .ok (.aload_n 0, 1) := by decide +kernel
theorem d_Nm_count_111 : decode b_Nm_count 111 = .ok (.getfield 41, 3) := by decide +kernel
theorem d_Nm_count_114 : decode b_Nm_count 114 = .ok (.getfield 99, 3) := by decide +kernel
theorem d_Nm_count_117 : decode b_Nm_count 117 = .ok (.ireturn, 1) := by decide +kernel
theorem d_Nm_count_118 : decode b_Nm_count 118 = .ok (.aload_n 0, 1) := by decide +kernel
theorem d_Nm_count_119 : decode b_Nm_count 119 = .ok (.getfield 31, 3) := by decide +kernel
theorem d_Nm_count_122 : decode b_Nm_count 122 = .ok (.getfield 96, 3) := by decide +kernel
theorem d_Nm_count_125 : decode b_Nm_count 125 = .ok (.ireturn, 1) := by decide +kernel
theorem d_Nm_count_126 : decode b_Nm_count 126 = .ok (.aload_n 0, 1) := by decide +kernel
theorem d_Nm_count_127 : decode b_Nm_count 127 = .ok (.getfield 35, 3) := by decide +kernel
theorem d_Nm_count_130 : decode b_Nm_count 130 = .ok (.getfield 96, 3) := by decide +kernel
theorem d_Nm_count_133 : decode b_Nm_count 133 = .ok (.ireturn, 1) := by decide +kernel
theorem d_Nm_count_134 : decode b_Nm_count 134 = .ok (.aload_n 0, 1) := by decide +kernel
theorem d_Nm_count_135 : decode b_Nm_count 135 = .ok (.getfield 10, 3) := by decide +kernel
theorem d_Nm_count_138 : decode b_Nm_count 138 = .ok (.getfield 83, 3) := by decide +kernel
theorem d_Nm_count_141 : decode b_Nm_count 141 = .ok (.ireturn, 1) := by decide +kernel
theorem d_Nm_count_142 : decode b_Nm_count 142 = .ok (.iconst (-1), 1) := by decide +kernel
theorem d_Nm_count_143 : decode b_Nm_count 143 = .ok (.ireturn, 1) := by decide +kernel
theorem d_Nm_at_0 : decode b_Nm_at 0 = .ok (.aload_n 0, 1) := by decide +kernel
theorem d_Nm_at_1 : decode b_Nm_at 1 = .ok (.getfield 60, 3) := by decide +kernel
theorem d_Nm_at_4 : decode b_Nm_at 4 = .ok (.aload_n 0, 1) := by decide +kernel
theorem d_Nm_at_5 : decode b_Nm_at 5 = .ok (.getfield 48, 3) := by decide +kernel
theorem d_Nm_at_8 : decode b_Nm_at 8 = .ok (.putfield 266, 3) := by decide +kernel
theorem d_Nm_at_11 : decode b_Nm_at 11 = .ok (.aload_n 0, 1) := by decide +kernel
theorem d_Nm_at_12 : decode b_Nm_at 12 = .ok (.getfield 60, 3) := by decide +kernel
theorem d_Nm_at_15 : decode b_Nm_at 15 = .ok (.iload_n 1, 1) := by decide +kernel
theorem d_Nm_at_16 : decode b_Nm_at 16 = .ok (.putfield 269, 3) := by decide +kernel
theorem d_Nm_at_19 : decode b_Nm_at 19 = .ok (.aload_n 0, 1) := by decide +kernel
theorem d_Nm_at_20 : decode b_Nm_at 20 = .ok (.getfield 60, 3) := by decide +kernel
theorem d_Nm_at_23 : decode b_Nm_at 23 = .ok (.aload_n 0, 1) := by decide +kernel
theorem d_Nm_at_24 : decode b_Nm_at 24 = .ok (.getfield 48, 3) := by decide +kernel
theorem d_Nm_at_27 : decode b_Nm_at 27 = .ok (.invokevirtual 270, 3) := by decide +kernel
theorem d_Nm_at_30 : decode b_Nm_at 30 = .ok (.iload_n 2, 1) := by decide +kernel
theorem d_Nm_at_31 : decode b_Nm_at 31 = .ok (.iconst (-1), 1) := by decide +kernel
theorem d_Nm_at_32 : decode b_Nm_at 32 = .ok (.ixor, 1) := by decide +kernel
theorem d_Nm_at_33 : decode b_Nm_at 33 = .ok (.iand, 1) := by decide +kernel
theorem d_Nm_at_34 : decode b_Nm_at 34 = .ok (.putfield 232, 3) := by decide +kernel
theorem d_Nm_at_37 : decode b_Nm_at 37 = .ok (.aload_n 0, 1) := by decide +kernel
theorem d_Nm_at_38 : decode b_Nm_at 38 = .ok (.getfield 60, 3) := by decide +kernel
theorem d_Nm_at_41 : decode b_Nm_at 41 = .ok (.areturn, 1) := by decide +kernel
theorem d_Nm_now_0 : decode b_Nm_now 0 = .ok (.aload_n 0, 1) := by decide +kernel
theorem d_Nm_now_1 : decode b_Nm_now 1 = .ok (.aload_n 0, 1) := by decide +kernel
theorem d_Nm_now_2 : decode b_Nm_now 2 = .ok (.getfield 19, 3) := by decide +kernel
theorem d_Nm_now_5 : decode b_Nm_now 5 = .ok (.getfield 145, 3) := by decide +kernel
theorem d_Nm_now_8 : decode b_Nm_now 8 = .ok (.aload_n 0, 1) := by decide +kernel
theorem d_Nm_now_9 : decode b_Nm_now 9 = .ok (.getfield 19, 3) := by decide +kernel
theorem d_Nm_now_12 : decode b_Nm_now 12 = .ok (.getfield 201, 3) := by decide +kernel
theorem d_Nm_now_15 : decode b_Nm_now 15 = .ok (.invokevirtual 204, 3) := by decide +kernel
theorem d_Nm_now_18 : decode b_Nm_now 18 = .ok (.areturn, 1) := by decide +kernel
theorem d_Nm_isOnOffer_0 : decode b_Nm_isOnOffer 0 = .ok (.aload_n 0, 1) := by decide +kernel
theorem d_Nm_isOnOffer_1 : decode b_Nm_isOnOffer 1 = .ok (.getfield 48, 3) := by decide +kernel
theorem d_Nm_isOnOffer_4 : decode b_Nm_isOnOffer 4 = .ok (.iload_n 1, 1) := by decide +kernel
theorem d_Nm_isOnOffer_5 : decode b_Nm_isOnOffer 5 = .ok (.invokevirtual 122, 3) := by decide +kernel
theorem d_Nm_isOnOffer_8 : decode b_Nm_isOnOffer 8 = .ok (.ifCond .eq 18, 3) := by decide +kernel
theorem d_Nm_isOnOffer_11 : decode b_Nm_isOnOffer 11 = .ok (.aload_n 0, 1) := by decide +kernel
theorem d_Nm_isOnOffer_12 : decode b_Nm_isOnOffer 12 = .ok (.getfield 19, 3) := by decide +kernel
theorem d_Nm_isOnOffer_15 : decode b_Nm_isOnOffer 15 = .ok (.iload_n 1, 1) := by decide +kernel
theorem d_Nm_isOnOffer_16 : decode b_Nm_isOnOffer 16 = .ok (.invokevirtual 128, 3) := by decide +kernel
theorem d_Nm_isOnOffer_19 : decode b_Nm_isOnOffer 19 = .ok (.ifCond .ne 7, 3) := by decide +kernel
theorem d_Nm_isOnOffer_22 : decode b_Nm_isOnOffer 22 = .ok (.iconst 1, 1) := by decide +kernel
theorem d_Nm_isOnOffer_23 : decode b_Nm_isOnOffer 23 = .ok (.goto 4, 3) := by decide +kernel
theorem d_Nm_isOnOffer_26 : decode b_Nm_isOnOffer 26 = .ok (.iconst 0, 1) := by decide +kernel
theorem d_Nm_isOnOffer_27 : decode b_Nm_isOnOffer 27 = .ok (.ireturn, 1) := by decide +kernel
theorem d_Nm_vetoesLeft_0 : decode b_Nm_vetoesLeft 0 = .ok (.aload_n 0, 1) := by decide +kernel
theorem d_Nm_vetoesLeft_1 : decode b_Nm_vetoesLeft 1 = .ok (.getfield 48, 3) := by decide +kernel
theorem d_Nm_vetoesLeft_4 : decode b_Nm_vetoesLeft 4 = .ok (.getfield 273, 3) := by decide +kernel
theorem d_Nm_vetoesLeft_7 : decode b_Nm_vetoesLeft 7 = .ok (.aload_n 1, 1) := by decide +kernel
theorem d_Nm_vetoesLeft_8 : decode b_Nm_vetoesLeft 8 = .ok (.iload_n 2, 1) := by decide +kernel
theorem d_Nm_vetoesLeft_9 : decode b_Nm_vetoesLeft 9 = .ok (.invokevirtual 276, 3) := by decide +kernel
theorem d_Nm_vetoesLeft_12 : decode b_Nm_vetoesLeft 12 = .ok (.isub, 1) := by decide +kernel
theorem d_Nm_vetoesLeft_13 : decode b_Nm_vetoesLeft 13 = .ok (.ireturn, 1) := by decide +kernel
theorem d_Nm_dishesLeft_0 : decode b_Nm_dishesLeft 0 = .ok (.aload_n 0, 1) := by decide +kernel
theorem d_Nm_dishesLeft_1 : decode b_Nm_dishesLeft 1 = .ok (.getfield 48, 3) := by decide +kernel
theorem d_Nm_dishesLeft_4 : decode b_Nm_dishesLeft 4 = .ok (.invokevirtual 270, 3) := by decide +kernel
theorem d_Nm_dishesLeft_7 : decode b_Nm_dishesLeft 7 = .ok (.aload_n 1, 1) := by decide +kernel
theorem d_Nm_dishesLeft_8 : decode b_Nm_dishesLeft 8 = .ok (.getfield 201, 3) := by decide +kernel
theorem d_Nm_dishesLeft_11 : decode b_Nm_dishesLeft 11 = .ok (.iconst (-1), 1) := by decide +kernel
theorem d_Nm_dishesLeft_12 : decode b_Nm_dishesLeft 12 = .ok (.ixor, 1) := by decide +kernel
theorem d_Nm_dishesLeft_13 : decode b_Nm_dishesLeft 13 = .ok (.iand, 1) := by decide +kernel
theorem d_Nm_dishesLeft_14 : decode b_Nm_dishesLeft 14 = .ok (.invokestatic 235, 3) := by decide +kernel
theorem d_Nm_dishesLeft_17 : decode b_Nm_dishesLeft 17 = .ok (.ireturn, 1) := by decide +kernel
theorem d_Nm_agreesWithNotes_0 : decode b_Nm_agreesWithNotes 0 = .ok (.iconst 0, 1) := by decide +kernel
theorem d_Nm_agreesWithNotes_1 : decode b_Nm_agreesWithNotes 1 = .ok (.istore_n 3, 1) := by decide +kernel
theorem d_Nm_agreesWithNotes_2 : decode b_Nm_agreesWithNotes 2 = .ok (.iload_n 3, 1) := by decide +kernel
theorem d_Nm_agreesWithNotes_3 : decode b_Nm_agreesWithNotes 3 = .ok (.aload_n 0, 1) := by decide +kernel
theorem d_Nm_agreesWithNotes_4 : decode b_Nm_agreesWithNotes 4 = .ok (.getfield 41, 3) := by decide +kernel
theorem d_Nm_agreesWithNotes_7 : decode b_Nm_agreesWithNotes 7 = .ok (.getfield 99, 3) := by decide +kernel
theorem d_Nm_agreesWithNotes_10 : decode b_Nm_agreesWithNotes 10 = .ok (.if_icmp .ge 74, 3) := by decide +kernel
theorem d_Nm_agreesWithNotes_13 : decode b_Nm_agreesWithNotes 13 = .ok (.aload_n 0, 1) := by decide +kernel
theorem d_Nm_agreesWithNotes_14 : decode b_Nm_agreesWithNotes 14 = .ok (.getfield 41, 3) := by decide +kernel
theorem d_Nm_agreesWithNotes_17 : decode b_Nm_agreesWithNotes 17 = .ok (.iload_n 3, 1) := by decide +kernel
theorem d_Nm_agreesWithNotes_18 : decode b_Nm_agreesWithNotes 18 = .ok (.invokevirtual 279, 3) := by decide +kernel
theorem d_Nm_agreesWithNotes_21 : decode b_Nm_agreesWithNotes 21 = .ok (.astore 4, 2) := by decide +kernel
theorem d_Nm_agreesWithNotes_23 : decode b_Nm_agreesWithNotes 23 = .ok (.aload 4, 2) := by decide +kernel
theorem d_Nm_agreesWithNotes_25 : decode b_Nm_agreesWithNotes 25 = .ok (.ifnull 53, 3) := by decide +kernel
theorem d_Nm_agreesWithNotes_28 : decode b_Nm_agreesWithNotes 28 = .ok (.aload 4, 2) := by decide +kernel
theorem d_Nm_agreesWithNotes_30 : decode b_Nm_agreesWithNotes 30 = .ok (.getfield 212, 3) := by decide +kernel
theorem d_Nm_agreesWithNotes_33 : decode b_Nm_agreesWithNotes 33 = .ok (.iload_n 1, 1) := by decide +kernel
theorem d_Nm_agreesWithNotes_34 : decode b_Nm_agreesWithNotes 34 = .ok (.if_icmp .eq 6, 3) := by decide +kernel
theorem d_Nm_agreesWithNotes_37 : decode b_Nm_agreesWithNotes 37 = .ok (.goto 41, 3) := by decide +kernel
theorem d_Nm_agreesWithNotes_40 : decode b_Nm_agreesWithNotes 40 = .ok (.aload_n 0, 1) := by decide +kernel
theorem d_Nm_agreesWithNotes_41 : decode b_Nm_agreesWithNotes 41 = .ok (.aload 4, 2) := by decide +kernel
theorem d_Nm_agreesWithNotes_43 : decode b_Nm_agreesWithNotes 43 = .ok (.getfield 224, 3) := by decide +kernel
theorem d_Nm_agreesWithNotes_46 : decode b_Nm_agreesWithNotes 46 = .ok (.aload 4, 2) := by decide +kernel
theorem d_Nm_agreesWithNotes_48 : decode b_Nm_agreesWithNotes 48 = .ok (.getfield 225, 3) := by decide +kernel
theorem d_Nm_agreesWithNotes_51 : decode b_Nm_agreesWithNotes 51 = .ok (.invokevirtual 204, 3) := by decide +kernel
theorem d_Nm_agreesWithNotes_54 : decode b_Nm_agreesWithNotes 54 = .ok (.astore 5, 2) := by decide +kernel
theorem d_Nm_agreesWithNotes_56 : decode b_Nm_agreesWithNotes 56 = .ok (.aload 5, 2) := by decide +kernel
theorem d_Nm_agreesWithNotes_58 : decode b_Nm_agreesWithNotes 58 = .ok (.iload_n 2, 1) := by decide +kernel
theorem d_Nm_agreesWithNotes_59 : decode b_Nm_agreesWithNotes 59 = .ok (.iload_n 1, 1) := by decide +kernel
theorem d_Nm_agreesWithNotes_60 : decode b_Nm_agreesWithNotes 60 = .ok (.aload 4, 2) := by decide +kernel
theorem d_Nm_agreesWithNotes_62 : decode b_Nm_agreesWithNotes 62 = .ok (.getfield 217, 3) := by decide +kernel
theorem d_Nm_agreesWithNotes_65 : decode b_Nm_agreesWithNotes 65 = .ok (.invokevirtual 283, 3) := by decide +kernel
theorem d_Nm_agreesWithNotes_68 : decode b_Nm_agreesWithNotes 68 = .ok (.aload 4, 2) := by decide +kernel
theorem d_Nm_agreesWithNotes_70 : decode b_Nm_agreesWithNotes 70 = .ok (.getfield 220, 3) := by decide +kernel
theorem d_Nm_agreesWithNotes_73 : decode b_Nm_agreesWithNotes 73 = .ok (.if_icmp .eq 5, 3) := by decide +kernel
theorem d_Nm_agreesWithNotes_76 : decode b_Nm_agreesWithNotes 76 = .ok (.iconst 0, 1) := by decide +kernel
theorem d_Nm_agreesWithNotes_77 : decode b_Nm_agreesWithNotes 77 = .ok (.ireturn, 1) := by decide +kernel
theorem d_Nm_agreesWithNotes_78 : decode b_Nm_agreesWithNotes 78 = .ok (.iinc 3 1, 3) := by decide +kernel
theorem d_Nm_agreesWithNotes_81 : decode b_Nm_agreesWithNotes 81 = .ok (.goto (-79), 3) := by decide +kernel
theorem d_Nm_agreesWithNotes_84 : decode b_Nm_agreesWithNotes 84 = .ok (.iconst 1, 1) := by decide +kernel
theorem d_Nm_agreesWithNotes_85 : decode b_Nm_agreesWithNotes 85 = .ok (.ireturn, 1) := by decide +kernel
theorem d_Nm_pretend_0 : decode b_Nm_pretend 0 = .ok (.iconst 1, 1) := by decide +kernel
theorem d_Nm_pretend_1 : decode b_Nm_pretend 1 = .ok (.iload_n 1, 1) := by decide +kernel
theorem d_Nm_pretend_2 : decode b_Nm_pretend 2 = .ok (.iconst 5, 1) := by decide +kernel
theorem d_Nm_pretend_3 : decode b_Nm_pretend 3 = .ok (.irem, 1) := by decide +kernel
theorem d_Nm_pretend_4 : decode b_Nm_pretend 4 = .ok (.iadd, 1) := by decide +kernel
theorem d_Nm_pretend_5 : decode b_Nm_pretend 5 = .ok (.istore_n 2, 1) := by decide +kernel
theorem d_Nm_pretend_6 : decode b_Nm_pretend 6 = .ok (.aload_n 0, 1) := by decide +kernel
theorem d_Nm_pretend_7 : decode b_Nm_pretend 7 = .ok (.getfield 23, 3) := by decide +kernel
theorem d_Nm_pretend_10 : decode b_Nm_pretend 10 = .ok (.getfield 145, 3) := by decide +kernel
theorem d_Nm_pretend_13 : decode b_Nm_pretend 13 = .ok (.iload_n 2, 1) := by decide +kernel
theorem d_Nm_pretend_14 : decode b_Nm_pretend 14 = .ok (.iadd, 1) := by decide +kernel
theorem d_Nm_pretend_15 : decode b_Nm_pretend 15 = .ok (.bipush 99, 2) := by decide +kernel
theorem d_Nm_pretend_17 : decode b_Nm_pretend 17 = .ok (.if_icmp .gt 16, 3) := by decide +kernel
theorem d_Nm_pretend_20 : decode b_Nm_pretend 20 = .ok (.aload_n 0, 1) := by decide +kernel
theorem d_Nm_pretend_21 : decode b_Nm_pretend 21 = .ok (.getfield 23, 3) := by decide +kernel
theorem d_Nm_pretend_24 : decode b_Nm_pretend 24 = .ok (.dup, 1) := by decide +kernel
theorem d_Nm_pretend_25 : decode b_Nm_pretend 25 = .ok (.getfield 145, 3) := by decide +kernel
theorem d_Nm_pretend_28 : decode b_Nm_pretend 28 = .ok (.iload_n 2, 1) := by decide +kernel
theorem d_Nm_pretend_29 : decode b_Nm_pretend 29 = .ok (.iadd, 1) := by decide +kernel
theorem d_Nm_pretend_30 : decode b_Nm_pretend 30 = .ok (.putfield 145, 3) := by decide +kernel
theorem d_Nm_pretend_33 : decode b_Nm_pretend 33 = .ok (.aload_n 0, 1) := by decide +kernel
theorem d_Nm_pretend_34 : decode b_Nm_pretend 34 = .ok (.getfield 48, 3) := by decide +kernel
theorem d_Nm_pretend_37 : decode b_Nm_pretend 37 = .ok (.getfield 90, 3) := by decide +kernel
theorem d_Nm_pretend_40 : decode b_Nm_pretend 40 = .ok (.iconst 1, 1) := by decide +kernel
theorem d_Nm_pretend_41 : decode b_Nm_pretend 41 = .ok (.if_icmp .ge 4, 3) := by decide +kernel
theorem d_Nm_pretend_44 : decode b_Nm_pretend 44 = .ok (.return_, 1) := by decide +kernel
theorem d_Nm_pretend_45 : decode b_Nm_pretend 45 = .ok (.iload_n 1, 1) := by decide +kernel
theorem d_Nm_pretend_46 : decode b_Nm_pretend 46 = .ok (.bipush 8, 2) := by decide +kernel
theorem d_Nm_pretend_48 : decode b_Nm_pretend 48 = .ok (.idiv, 1) := by decide +kernel
theorem d_Nm_pretend_49 : decode b_Nm_pretend 49 = .ok (.aload_n 0, 1) := by decide +kernel
theorem d_Nm_pretend_50 : decode b_Nm_pretend 50 = .ok (.getfield 48, 3) := by decide +kernel
theorem d_Nm_pretend_53 : decode b_Nm_pretend 53 = .ok (.getfield 90, 3) := by decide +kernel
theorem d_Nm_pretend_56 : decode b_Nm_pretend 56 = .ok (.irem, 1) := by decide +kernel
theorem d_Nm_pretend_57 : decode b_Nm_pretend 57 = .ok (.istore_n 3, 1) := by decide +kernel
theorem d_Nm_pretend_58 : decode b_Nm_pretend 58 = .ok (.aload_n 0, 1) := by decide +kernel
theorem d_Nm_pretend_59 : decode b_Nm_pretend 59 = .ok (.aload_n 0, 1) := by decide +kernel
theorem d_Nm_pretend_60 : decode b_Nm_pretend 60 = .ok (.getfield 23, 3) := by decide +kernel
theorem d_Nm_pretend_63 : decode b_Nm_pretend 63 = .ok (.iload_n 3, 1) := by decide +kernel
theorem d_Nm_pretend_64 : decode b_Nm_pretend 64 = .ok (.invokevirtual 108, 3) := by decide +kernel
theorem d_Nm_pretend_67 : decode b_Nm_pretend 67 = .ok (.iconst 1, 1) := by decide +kernel
theorem d_Nm_pretend_68 : decode b_Nm_pretend 68 = .ok (.if_icmp .lt 25, 3) := by decide +kernel
theorem d_Nm_pretend_71 : decode b_Nm_pretend 71 = .ok (.aload_n 0, 1) := by decide +kernel
theorem d_Nm_pretend_72 : decode b_Nm_pretend 72 = .ok (.aload_n 0, 1) := by decide +kernel
theorem d_Nm_pretend_73 : decode b_Nm_pretend 73 = .ok (.getfield 23, 3) := by decide +kernel
theorem d_Nm_pretend_76 : decode b_Nm_pretend 76 = .ok (.invokevirtual 152, 3) := by decide +kernel
theorem d_Nm_pretend_79 : decode b_Nm_pretend 79 = .ok (.iconst 2, 1) := by decide +kernel
theorem d_Nm_pretend_80 : decode b_Nm_pretend 80 = .ok (.if_icmp .lt 13, 3) := by decide +kernel
theorem d_Nm_pretend_83 : decode b_Nm_pretend 83 = .ok (.iload_n 1, 1) := by decide +kernel
theorem d_Nm_pretend_84 : decode b_Nm_pretend 84 = .ok (.sipush 128, 3) := by decide +kernel
theorem d_Nm_pretend_87 : decode b_Nm_pretend 87 = .ok (.idiv, 1) := by decide +kernel
theorem d_Nm_pretend_88 : decode b_Nm_pretend 88 = .ok (.iconst 3, 1) := by decide +kernel
theorem d_Nm_pretend_89 : decode b_Nm_pretend 89 = .ok (.irem, 1) := by decide +kernel
theorem d_Nm_pretend_90 : decode b_Nm_pretend 90 = .ok (.ifCond .eq 4, 3) := by decide +kernel
theorem d_Nm_pretend_93 : decode b_Nm_pretend 93 = .ok (.return_, 1) := by decide +kernel
theorem d_Nm_pretend_94 : decode b_Nm_pretend 94 = .ok (.aload_n 0, 1) := by decide +kernel
theorem d_Nm_pretend_95 : decode b_Nm_pretend 95 = .ok (.aload_n 0, 1) := by decide +kernel
theorem d_Nm_pretend_96 : decode b_Nm_pretend 96 = .ok (.getfield 23, 3) := by decide +kernel
theorem d_Nm_pretend_99 : decode b_Nm_pretend 99 = .ok (.getfield 145, 3) := by decide +kernel
theorem d_Nm_pretend_102 : decode b_Nm_pretend 102 = .ok (.aload_n 0, 1) := by decide +kernel
theorem d_Nm_pretend_103 : decode b_Nm_pretend 103 = .ok (.getfield 23, 3) := by decide +kernel
theorem d_Nm_pretend_106 : decode b_Nm_pretend 106 = .ok (.getfield 201, 3) := by decide +kernel
theorem d_Nm_pretend_109 : decode b_Nm_pretend 109 = .ok (.invokevirtual 204, 3) := by decide +kernel
theorem d_Nm_pretend_112 : decode b_Nm_pretend 112 = .ok (.astore 4, 2) := by decide +kernel
theorem d_Nm_pretend_114 : decode b_Nm_pretend 114 = .ok (.aload_n 0, 1) := by decide +kernel
theorem d_Nm_pretend_115 : decode b_Nm_pretend 115 = .ok (.getfield 23, 3) := by decide +kernel
theorem d_Nm_pretend_118 : decode b_Nm_pretend 118 = .ok (.iload_n 3, 1) := by decide +kernel
theorem d_Nm_pretend_119 : decode b_Nm_pretend 119 = .ok (.aload 4, 2) := by decide +kernel
theorem d_Nm_pretend_121 : decode b_Nm_pretend 121 = .ok (.iload_n 3, 1) := by decide +kernel
theorem d_Nm_pretend_122 : decode b_Nm_pretend 122 = .ok (.aload 4, 2) := by decide +kernel
theorem d_Nm_pretend_124 : decode b_Nm_pretend 124 = .ok (.getfield 232, 3) := by decide +kernel
theorem d_Nm_pretend_127 : decode b_Nm_pretend 127 = .ok (.invokevirtual 286, 3) := by decide +kernel
theorem d_Nm_pretend_130 : decode b_Nm_pretend 130 = .ok (.invokevirtual 156, 3) := by decide +kernel
theorem d_Nm_pretend_133 : decode b_Nm_pretend 133 = .ok (.return_, 1) := by decide +kernel
theorem d_Nm_drawOf_0 : decode b_Nm_drawOf 0 = .ok (.ldc2_w 289, 3) := by decide +kernel
theorem d_Nm_drawOf_3 : decode b_Nm_drawOf 3 = .ok (.iload_n 0, 1) := by decide +kernel
theorem d_Nm_drawOf_4 : decode b_Nm_drawOf 4 = .ok (.i2l, 1) := by decide +kernel
theorem d_Nm_drawOf_5 : decode b_Nm_drawOf 5 = .ok (.lmul, 1) := by decide +kernel
theorem d_Nm_drawOf_6 : decode b_Nm_drawOf 6 = .ok (.ldc2_w 291, 3) := by decide +kernel
theorem d_Nm_drawOf_9 : decode b_Nm_drawOf 9 = .ok (.iload_n 1, 1) := by decide +kernel
theorem d_Nm_drawOf_10 : decode b_Nm_drawOf 10 = .ok (.i2l, 1) := by decide +kernel
theorem d_Nm_drawOf_11 : decode b_Nm_drawOf 11 = .ok (.lmul, 1) := by decide +kernel
theorem d_Nm_drawOf_12 : decode b_Nm_drawOf 12 = .ok (.ladd, 1) := by decide +kernel
theorem d_Nm_drawOf_13 : decode b_Nm_drawOf 13 = .ok (.lconst 1, 1) := by decide +kernel
theorem d_Nm_drawOf_14 : decode b_Nm_drawOf 14 = .ok (.ladd, 1) := by decide +kernel
theorem d_Nm_drawOf_15 : decode b_Nm_drawOf 15 = .ok (.lstore_n 2, 1) := by decide +kernel
theorem d_Nm_drawOf_16 : decode b_Nm_drawOf 16 = .ok (.lload_n 2, 1) := by decide +kernel
theorem d_Nm_drawOf_17 : decode b_Nm_drawOf 17 = .ok (.lload_n 2, 1) := by decide +kernel
theorem d_Nm_drawOf_18 : decode b_Nm_drawOf 18 = .ok (.lmul, 1) := by decide +kernel
theorem d_Nm_drawOf_19 : decode b_Nm_drawOf 19 = .ok (.ldc2_w 293, 3) := by decide +kernel
theorem d_Nm_drawOf_22 : decode b_Nm_drawOf 22 = .ok (.lrem, 1) := by decide +kernel
theorem d_Nm_drawOf_23 : decode b_Nm_drawOf 23 = .ok (.ldc2_w 295, 3) := by decide +kernel
theorem d_Nm_drawOf_26 : decode b_Nm_drawOf 26 = .ok (.ldiv, 1) := by decide +kernel
theorem d_Nm_drawOf_27 : decode b_Nm_drawOf 27 = .ok (.l2i, 1) := by decide +kernel
theorem d_Nm_drawOf_28 : decode b_Nm_drawOf 28 = .ok (.ireturn, 1) := by decide +kernel
theorem d_Nm_isOutside_0 : decode b_Nm_isOutside 0 = .ok (.iload_n 0, 1) := by decide +kernel
theorem d_Nm_isOutside_1 : decode b_Nm_isOutside 1 = .ok (.iload_n 1, 1) := by decide +kernel
theorem d_Nm_isOutside_2 : decode b_Nm_isOutside 2 = .ok (.if_icmp .lt 8, 3) := by decide +kernel
theorem d_Nm_isOutside_5 : decode b_Nm_isOutside 5 = .ok (.iload_n 0, 1) := by decide +kernel
theorem d_Nm_isOutside_6 : decode b_Nm_isOutside 6 = .ok (.iload_n 2, 1) := by decide +kernel
theorem d_Nm_isOutside_7 : decode b_Nm_isOutside 7 = .ok (.if_icmp .le 7, 3) := by decide +kernel
theorem d_Nm_isOutside_10 : decode b_Nm_isOutside 10 = .ok (.iconst 1, 1) := by decide +kernel
theorem d_Nm_isOutside_11 : decode b_Nm_isOutside 11 = .ok (.goto 4, 3) := by decide +kernel
theorem d_Nm_isOutside_14 : decode b_Nm_isOutside 14 = .ok (.iconst 0, 1) := by decide +kernel
theorem d_Nm_isOutside_15 : decode b_Nm_isOutside 15 = .ok (.ireturn, 1) := by decide +kernel
theorem d_Nm_power_0 : decode b_Nm_power 0 = .ok (.iconst 1, 1) := by decide +kernel
theorem d_Nm_power_1 : decode b_Nm_power 1 = .ok (.istore_n 2, 1) := by decide +kernel
theorem d_Nm_power_2 : decode b_Nm_power 2 = .ok (.iconst 0, 1) := by decide +kernel
theorem d_Nm_power_3 : decode b_Nm_power 3 = .ok (.istore_n 3, 1) := by decide +kernel
theorem d_Nm_power_4 : decode b_Nm_power 4 = .ok (.iload_n 3, 1) := by decide +kernel
theorem d_Nm_power_5 : decode b_Nm_power 5 = .ok (.iload_n 1, 1) := by decide +kernel
theorem d_Nm_power_6 : decode b_Nm_power 6 = .ok (.if_icmp .ge 13, 3) := by decide +kernel
theorem d_Nm_power_9 : decode b_Nm_power 9 = .ok (.iload_n 2, 1) := by decide +kernel
theorem d_Nm_power_10 : decode b_Nm_power 10 = .ok (.iload_n 0, 1) := by decide +kernel
theorem d_Nm_power_11 : decode b_Nm_power 11 = .ok (.imul, 1) := by decide +kernel
theorem d_Nm_power_12 : decode b_Nm_power 12 = .ok (.istore_n 2, 1) := by decide +kernel
theorem d_Nm_power_13 : decode b_Nm_power 13 = .ok (.iinc 3 1, 3) := by decide +kernel
theorem d_Nm_power_16 : decode b_Nm_power 16 = .ok (.goto (-12), 3) := by decide +kernel
theorem d_Nm_power_19 : decode b_Nm_power 19 = .ok (.iload_n 2, 1) := by decide +kernel
theorem d_Nm_power_20 : decode b_Nm_power 20 = .ok (.ireturn, 1) := by decide +kernel
theorem d_Nm_commonDivisor_0 : decode b_Nm_commonDivisor 0 = .ok (.iload_n 1, 1) := by decide +kernel
theorem d_Nm_commonDivisor_1 : decode b_Nm_commonDivisor 1 = .ok (.istore_n 2, 1) := by decide +kernel
theorem d_Nm_commonDivisor_2 : decode b_Nm_commonDivisor 2 = .ok (.iload_n 0, 1) := by decide +kernel
theorem d_Nm_commonDivisor_3 : decode b_Nm_commonDivisor 3 = .ok (.istore_n 3, 1) := by decide +kernel
theorem d_Nm_commonDivisor_4 : decode b_Nm_commonDivisor 4 = .ok (.iconst 0, 1) := by decide +kernel
theorem d_Nm_commonDivisor_5 : decode b_Nm_commonDivisor 5 = .ok (.istore 4, 2) := by decide +kernel
theorem d_Nm_commonDivisor_7 : decode b_Nm_commonDivisor 7 = .ok (.iload 4, 2) := by decide +kernel
theorem d_Nm_commonDivisor_9 : decode b_Nm_commonDivisor 9 = .ok (.bipush 64, 2) := by decide +kernel
theorem d_Nm_commonDivisor_11 : decode b_Nm_commonDivisor 11 = .ok (.if_icmp .ge 23, 3) := by decide +kernel
theorem d_Nm_commonDivisor_14 : decode b_Nm_commonDivisor 14 = .ok (.iload_n 3, 1) := by decide +kernel
theorem d_Nm_commonDivisor_15 : decode b_Nm_commonDivisor 15 = .ok (.ifCond .eq 19, 3) := by decide +kernel
theorem d_Nm_commonDivisor_18 : decode b_Nm_commonDivisor 18 = .ok (.iload_n 2, 1) := by decide +kernel
theorem d_Nm_commonDivisor_19 : decode b_Nm_commonDivisor 19 = .ok (.iload_n 3, 1) := by decide +kernel
theorem d_Nm_commonDivisor_20 : decode b_Nm_commonDivisor 20 = .ok (.irem, 1) := by decide +kernel
theorem d_Nm_commonDivisor_21 : decode b_Nm_commonDivisor 21 = .ok (.istore 5, 2) := by decide +kernel
theorem d_Nm_commonDivisor_23 : decode b_Nm_commonDivisor 23 = .ok (.iload_n 3, 1) := by decide +kernel
theorem d_Nm_commonDivisor_24 : decode b_Nm_commonDivisor 24 = .ok (.istore_n 2, 1) := by decide +kernel
theorem d_Nm_commonDivisor_25 : decode b_Nm_commonDivisor 25 = .ok (.iload 5, 2) := by decide +kernel
theorem d_Nm_commonDivisor_27 : decode b_Nm_commonDivisor 27 = .ok (.istore_n 3, 1) := by decide +kernel
theorem d_Nm_commonDivisor_28 : decode b_Nm_commonDivisor 28 = .ok (.iinc 4 1, 3) := by decide +kernel
theorem d_Nm_commonDivisor_31 : decode b_Nm_commonDivisor 31 = .ok (.goto (-24), 3) := by decide +kernel
theorem d_Nm_commonDivisor_34 : decode b_Nm_commonDivisor 34 = .ok (.iload_n 2, 1) := by decide +kernel
theorem d_Nm_commonDivisor_35 : decode b_Nm_commonDivisor 35 = .ok (.ireturn, 1) := by decide +kernel
theorem d_Nm_entry_0 : decode b_Nm_entry 0 = .ok (.iload_n 1, 1) := by decide +kernel
theorem d_Nm_entry_1 : decode b_Nm_entry 1 = .ok (.ifCond .lt 15, 3) := by decide +kernel
theorem d_Nm_entry_4 : decode b_Nm_entry 4 = .ok (.iload_n 1, 1) := by decide +kernel
theorem d_Nm_entry_5 : decode b_Nm_entry 5 = .ok (.aload_n 0, 1) := by decide +kernel
theorem d_Nm_entry_6 : decode b_Nm_entry 6 = .ok (.arraylength, 1) := by decide +kernel
theorem d_Nm_entry_7 : decode b_Nm_entry 7 = .ok (.if_icmp .ge 9, 3) := by decide +kernel
theorem d_Nm_entry_10 : decode b_Nm_entry 10 = .ok (.aload_n 0, 1) := by decide +kernel
theorem d_Nm_entry_11 : decode b_Nm_entry 11 = .ok (.iload_n 1, 1) := by decide +kernel
theorem d_Nm_entry_12 : decode b_Nm_entry 12 = .ok (.iaload, 1) := by decide +kernel
theorem d_Nm_entry_13 : decode b_Nm_entry 13 = .ok (.goto 4, 3) := by decide +kernel
theorem d_Nm_entry_16 : decode b_Nm_entry 16 = .ok (.iconst 0, 1) := by decide +kernel
theorem d_Nm_entry_17 : decode b_Nm_entry 17 = .ok (.ireturn, 1) := by decide +kernel
theorem d_Nm_put_0 : decode b_Nm_put 0 = .ok (.iload_n 1, 1) := by decide +kernel
theorem d_Nm_put_1 : decode b_Nm_put 1 = .ok (.ifCond .lt 13, 3) := by decide +kernel
theorem d_Nm_put_4 : decode b_Nm_put 4 = .ok (.iload_n 1, 1) := by decide +kernel
theorem d_Nm_put_5 : decode b_Nm_put 5 = .ok (.aload_n 0, 1) := by decide +kernel
theorem d_Nm_put_6 : decode b_Nm_put 6 = .ok (.arraylength, 1) := by decide +kernel
theorem d_Nm_put_7 : decode b_Nm_put 7 = .ok (.if_icmp .ge 7, 3) := by decide +kernel
theorem d_Nm_put_10 : decode b_Nm_put 10 = .ok (.aload_n 0, 1) := by decide +kernel
theorem d_Nm_put_11 : decode b_Nm_put 11 = .ok (.iload_n 1, 1) := by decide +kernel
theorem d_Nm_put_12 : decode b_Nm_put 12 = .ok (.iload_n 2, 1) := by decide +kernel
theorem d_Nm_put_13 : decode b_Nm_put 13 = .ok (.iastore, 1) := by decide +kernel
theorem d_Nm_put_14 : decode b_Nm_put 14 = .ok (.return_, 1) := by decide +kernel
theorem d_Mo_init_0 : decode b_Mo_init 0 = .ok (.aload_n 0, 1) := by decide +kernel
theorem d_Mo_init_1 : decode b_Mo_init 1 = .ok (.invokespecial 1, 3) := by decide +kernel
theorem d_Mo_init_4 : decode b_Mo_init 4 = .ok (.aload_n 0, 1) := by decide +kernel
theorem d_Mo_init_5 : decode b_Mo_init 5 = .ok (.sipush 200, 3) := by decide +kernel
theorem d_Mo_init_8 : decode b_Mo_init 8 = .ok (.newarray .int, 2) := by decide +kernel
theorem d_Mo_init_10 : decode b_Mo_init 10 = .ok (.putfield 7, 3) := by decide +kernel
theorem d_Mo_init_13 : decode b_Mo_init 13 = .ok (.aload_n 0, 1) := by decide +kernel
theorem d_Mo_init_14 : decode b_Mo_init 14 = .ok (.bipush 74, 2) := by decide +kernel
theorem d_Mo_init_16 : decode b_Mo_init 16 = .ok (.newarray .int, 2) := by decide +kernel
theorem d_Mo_init_18 : decode b_Mo_init 18 = .ok (.putfield 13, 3) := by decide +kernel
theorem d_Mo_init_21 : decode b_Mo_init 21 = .ok (.aload_n 0, 1) := by decide +kernel
theorem d_Mo_init_22 : decode b_Mo_init 22 = .ok (.bipush 74, 2) := by decide +kernel
theorem d_Mo_init_24 : decode b_Mo_init 24 = .ok (.newarray .int, 2) := by decide +kernel
theorem d_Mo_init_26 : decode b_Mo_init 26 = .ok (.putfield 16, 3) := by decide +kernel
theorem d_Mo_init_29 : decode b_Mo_init 29 = .ok (.aload_n 0, 1) := by decide +kernel
theorem d_Mo_init_30 : decode b_Mo_init 30 = .ok (.bipush 12, 2) := by decide +kernel
theorem d_Mo_init_32 : decode b_Mo_init 32 = .ok (.newarray .int, 2) := by decide +kernel
theorem d_Mo_init_34 : decode b_Mo_init 34 = .ok (.putfield 19, 3) := by decide +kernel
theorem d_Mo_init_37 : decode b_Mo_init 37 = .ok (.aload_n 0, 1) := by decide +kernel
theorem d_Mo_init_38 : decode b_Mo_init 38 = .ok (.bipush 96, 2) := by decide +kernel
theorem d_Mo_init_40 : decode b_Mo_init 40 = .ok (.newarray .int, 2) := by decide +kernel
theorem d_Mo_init_42 : decode b_Mo_init 42 = .ok (.putfield 22, 3) := by decide +kernel
theorem d_Mo_init_45 : decode b_Mo_init 45 = .ok (.aload_n 0, 1) := by decide +kernel
theorem d_Mo_init_46 : decode b_Mo_init 46 = .ok (.bipush 24, 2) := by decide +kernel
theorem d_Mo_init_48 : decode b_Mo_init 48 = .ok (.newarray .int, 2) := by decide +kernel
theorem d_Mo_init_50 : decode b_Mo_init 50 = .ok (.putfield 25, 3) := by decide +kernel
theorem d_Mo_init_53 : decode b_Mo_init 53 = .ok (.aload_n 0, 1) := by decide +kernel
theorem d_Mo_init_54 : decode b_Mo_init 54 = .ok (.bipush 40, 2) := by decide +kernel
theorem d_Mo_init_56 : decode b_Mo_init 56 = .ok (.newarray .int, 2) := by decide +kernel
theorem d_Mo_init_58 : decode b_Mo_init 58 = .ok (.putfield 28, 3) := by decide +kernel
theorem d_Mo_init_61 : decode b_Mo_init 61 = .ok (.aload_n 0, 1) := by decide +kernel
theorem d_Mo_init_62 : decode b_Mo_init 62 = .ok (.iconst 2, 1) := by decide +kernel
theorem d_Mo_init_63 : decode b_Mo_init 63 = .ok (.newarray .int, 2) := by decide +kernel
theorem d_Mo_init_65 : decode b_Mo_init 65 = .ok (.putfield 31, 3) := by decide +kernel
theorem d_Mo_init_68 : decode b_Mo_init 68 = .ok (.aload_n 0, 1) := by decide +kernel
theorem d_Mo_init_69 : decode b_Mo_init 69 = .ok (.bipush 9, 2) := by decide +kernel
theorem d_Mo_init_71 : decode b_Mo_init 71 = .ok (.newarray .int, 2) := by decide +kernel
theorem d_Mo_init_73 : decode b_Mo_init 73 = .ok (.putfield 34, 3) := by decide +kernel
theorem d_Mo_init_76 : decode b_Mo_init 76 = .ok (.aload_n 0, 1) := by decide +kernel
theorem d_Mo_init_77 : decode b_Mo_init 77 = .ok (.invokevirtual 37, 3) := by decide +kernel
theorem d_Mo_init_80 : decode b_Mo_init 80 = .ok (.aload_n 0, 1) := by decide +kernel
theorem d_Mo_init_81 : decode b_Mo_init 81 = .ok (.getfield 16, 3) := by decide +kernel
theorem d_Mo_init_84 : decode b_Mo_init 84 = .ok (.iconst 1, 1) := by decide +kernel
theorem d_Mo_init_85 : decode b_Mo_init 85 = .ok (.bipush 6, 2) := by decide +kernel
theorem d_Mo_init_87 : decode b_Mo_init 87 = .ok (.iastore, 1) := by decide +kernel
theorem d_Mo_init_88 : decode b_Mo_init 88 = .ok (.aload_n 0, 1) := by decide +kernel
theorem d_Mo_init_89 : decode b_Mo_init 89 = .ok (.iconst 0, 1) := by decide +kernel
theorem d_Mo_init_90 : decode b_Mo_init 90 = .ok (.iconst 0, 1) := by decide +kernel
theorem d_Mo_init_91 : decode b_Mo_init 91 = .ok (.sipush 5371, 3) := by decide +kernel
theorem d_Mo_init_94 : decode b_Mo_init 94 = .ok (.invokevirtual 40, 3) := by decide +kernel
theorem d_Mo_init_97 : decode b_Mo_init 97 = .ok (.aload_n 0, 1) := by decide +kernel
theorem d_Mo_init_98 : decode b_Mo_init 98 = .ok (.iconst 1, 1) := by decide +kernel
theorem d_Mo_init_99 : decode b_Mo_init 99 = .ok (.iconst 1, 1) := by decide +kernel
theorem d_Mo_init_100 : decode b_Mo_init 100 = .ok (.sipush 8806, 3) := by decide +kernel
theorem d_Mo_init_103 : decode b_Mo_init 103 = .ok (.invokevirtual 40, 3) := by decide +kernel
theorem d_Mo_init_106 : decode b_Mo_init 106 = .ok (.aload_n 0, 1) := by decide +kernel
theorem d_Mo_init_107 : decode b_Mo_init 107 = .ok (.iconst 2, 1) := by decide +kernel
theorem d_Mo_init_108 : decode b_Mo_init 108 = .ok (.iconst 2, 1) := by decide +kernel
theorem d_Mo_init_109 : decode b_Mo_init 109 = .ok (.sipush 2496, 3) := by decide +kernel
theorem d_Mo_init_112 : decode b_Mo_init 112 = .ok (.invokevirtual 40, 3) := by decide +kernel
theorem d_Mo_init_115 : decode b_Mo_init 115 = .ok (.aload_n 0, 1) := by decide +kernel
theorem d_Mo_init_116 : decode b_Mo_init 116 = .ok (.iconst 3, 1) := by decide +kernel
theorem d_Mo_init_117 : decode b_Mo_init 117 = .ok (.iconst 3, 1) := by decide +kernel
theorem d_Mo_init_118 : decode b_Mo_init 118 = .ok (.sipush 7027, 3) := by decide +kernel
theorem d_Mo_init_121 : decode b_Mo_init 121 = .ok (.invokevirtual 40, 3) := by decide +kernel
theorem d_Mo_init_124 : decode b_Mo_init 124 = .ok (.aload_n 0, 1) := by decide +kernel
theorem d_Mo_init_125 : decode b_Mo_init 125 = .ok (.iconst 4, 1) := by decide +kernel
theorem d_Mo_init_126 : decode b_Mo_init 126 = .ok (.iconst 0, 1) := by decide +kernel
theorem d_Mo_init_127 : decode b_Mo_init 127 = .ok (.sipush 4444, 3) := by decide +kernel
theorem d_Mo_init_130 : decode b_Mo_init 130 = .ok (.invokevirtual 40, 3) := by decide +kernel
theorem d_Mo_init_133 : decode b_Mo_init 133 = .ok (.aload_n 0, 1) := by decide +kernel
theorem d_Mo_init_134 : decode b_Mo_init 134 = .ok (.iconst 5, 1) := by decide +kernel
theorem d_Mo_init_135 : decode b_Mo_init 135 = .ok (.iconst 0, 1) := by decide +kernel
theorem d_Mo_init_136 : decode b_Mo_init 136 = .ok (.sipush 9153, 3) := by decide +kernel
theorem d_Mo_init_139 : decode b_Mo_init 139 = .ok (.invokevirtual 40, 3) := by decide +kernel
theorem d_Mo_init_142 : decode b_Mo_init 142 = .ok (.aload_n 0, 1) := by decide +kernel
theorem d_Mo_init_143 : decode b_Mo_init 143 = .ok (.getfield 16, 3) := by decide +kernel
theorem d_Mo_init_146 : decode b_Mo_init 146 = .ok (.bipush 14, 2) := by decide +kernel
theorem d_Mo_init_148 : decode b_Mo_init 148 = .ok (.bipush 30, 2) := by decide +kernel
theorem d_Mo_init_150 : decode b_Mo_init 150 = .ok (.iastore, 1) := by decide +kernel
theorem d_Mo_init_151 : decode b_Mo_init 151 = .ok (.aload_n 0, 1) := by decide +kernel
theorem d_Mo_init_152 : decode b_Mo_init 152 = .ok (.getfield 16, 3) := by decide +kernel
theorem d_Mo_init_155 : decode b_Mo_init 155 = .ok (.bipush 16, 2) := by decide +kernel
theorem d_Mo_init_157 : decode b_Mo_init 157 = .ok (.bipush 45, 2) := by decide +kernel
theorem d_Mo_init_159 : decode b_Mo_init 159 = .ok (.iastore, 1) := by decide +kernel
theorem d_Mo_init_160 : decode b_Mo_init 160 = .ok (.aload_n 0, 1) := by decide +kernel
theorem d_Mo_init_161 : decode b_Mo_init 161 = .ok (.invokevirtual 44, 3) := by decide +kernel
theorem d_Mo_init_164 : decode b_Mo_init 164 = .ok (.return_, 1) := by decide +kernel
theorem d_Mo_firstGuest_0 : decode b_Mo_firstGuest 0 = .ok (.aload_n 0, 1) := by decide +kernel
theorem d_Mo_firstGuest_1 : decode b_Mo_firstGuest 1 = .ok (.getfield 16, 3) := by decide +kernel
theorem d_Mo_firstGuest_4 : decode b_Mo_firstGuest 4 = .ok (.iconst 5, 1) := by decide +kernel
theorem d_Mo_firstGuest_5 : decode b_Mo_firstGuest 5 = .ok (.iload_n 1, 1) := by decide +kernel
theorem d_Mo_firstGuest_6 : decode b_Mo_firstGuest 6 = .ok (.iadd, 1) := by decide +kernel
theorem d_Mo_firstGuest_7 : decode b_Mo_firstGuest 7 = .ok (.iload_n 2, 1) := by decide +kernel
theorem d_Mo_firstGuest_8 : decode b_Mo_firstGuest 8 = .ok (.iastore, 1) := by decide +kernel
theorem d_Mo_firstGuest_9 : decode b_Mo_firstGuest 9 = .ok (.aload_n 0, 1) := by decide +kernel
theorem d_Mo_firstGuest_10 : decode b_Mo_firstGuest 10 = .ok (.getfield 16, 3) := by decide +kernel
theorem d_Mo_firstGuest_13 : decode b_Mo_firstGuest 13 = .ok (.bipush 20, 2) := by decide +kernel
theorem d_Mo_firstGuest_15 : decode b_Mo_firstGuest 15 = .ok (.bipush 6, 2) := by decide +kernel
theorem d_Mo_firstGuest_17 : decode b_Mo_firstGuest 17 = .ok (.iload_n 1, 1) := by decide +kernel
theorem d_Mo_firstGuest_18 : decode b_Mo_firstGuest 18 = .ok (.imul, 1) := by decide +kernel
theorem d_Mo_firstGuest_19 : decode b_Mo_firstGuest 19 = .ok (.iadd, 1) := by decide +kernel
theorem d_Mo_firstGuest_20 : decode b_Mo_firstGuest 20 = .ok (.iload_n 3, 1) := by decide +kernel
theorem d_Mo_firstGuest_21 : decode b_Mo_firstGuest 21 = .ok (.sipush 1000, 3) := by decide +kernel
theorem d_Mo_firstGuest_24 : decode b_Mo_firstGuest 24 = .ok (.idiv, 1) := by decide +kernel
theorem d_Mo_firstGuest_25 : decode b_Mo_firstGuest 25 = .ok (.iastore, 1) := by decide +kernel
theorem d_Mo_firstGuest_26 : decode b_Mo_firstGuest 26 = .ok (.aload_n 0, 1) := by decide +kernel
theorem d_Mo_firstGuest_27 : decode b_Mo_firstGuest 27 = .ok (.getfield 16, 3) := by decide +kernel
theorem d_Mo_firstGuest_30 : decode b_Mo_firstGuest 30 = .ok (.bipush 21, 2) := by decide +kernel
theorem d_Mo_firstGuest_32 : decode b_Mo_firstGuest 32 = .ok (.bipush 6, 2) := by decide +kernel
theorem d_Mo_firstGuest_34 : decode b_Mo_firstGuest 34 = .ok (.iload_n 1, 1) := by decide +kernel
theorem d_Mo_firstGuest_35 : decode b_Mo_firstGuest 35 = .ok (.imul, 1) := by decide +kernel
theorem d_Mo_firstGuest_36 : decode b_Mo_firstGuest 36 = .ok (.iadd, 1) := by decide +kernel
theorem d_Mo_firstGuest_37 : decode b_Mo_firstGuest 37 = .ok (.iload_n 3, 1) := by decide +kernel
theorem d_Mo_firstGuest_38 : decode b_Mo_firstGuest 38 = .ok (.bipush 100, 2) := by decide +kernel
theorem d_Mo_firstGuest_40 : decode b_Mo_firstGuest 40 = .ok (.idiv, 1) := by decide +kernel
theorem d_Mo_firstGuest_41 : decode b_Mo_firstGuest 41 = .ok (.bipush 10, 2) := by decide +kernel
theorem d_Mo_firstGuest_43 : decode b_Mo_firstGuest 43 = .ok (.irem, 1) := by decide +kernel
theorem d_Mo_firstGuest_44 : decode b_Mo_firstGuest 44 = .ok (.iastore, 1) := by decide +kernel
theorem d_Mo_firstGuest_45 : decode b_Mo_firstGuest 45 = .ok (.aload_n 0, 1) := by decide +kernel
theorem d_Mo_firstGuest_46 : decode b_Mo_firstGuest 46 = .ok (.getfield 16, 3) := by decide +kernel
theorem d_Mo_firstGuest_49 : decode b_Mo_firstGuest 49 = .ok (.bipush 22, 2) := by decide +kernel
theorem d_Mo_firstGuest_51 : decode b_Mo_firstGuest 51 = .ok (.bipush 6, 2) := by decide +kernel
theorem d_Mo_firstGuest_53 : decode b_Mo_firstGuest 53 = .ok (.iload_n 1, 1) := by decide +kernel
theorem d_Mo_firstGuest_54 : decode b_Mo_firstGuest 54 = .ok (.imul, 1) := by decide +kernel
theorem d_Mo_firstGuest_55 : decode b_Mo_firstGuest 55 = .ok (.iadd, 1) := by decide +kernel
theorem d_Mo_firstGuest_56 : decode b_Mo_firstGuest 56 = .ok (.iload_n 3, 1) := by decide +kernel
theorem d_Mo_firstGuest_57 : decode b_Mo_firstGuest 57 = .ok (.bipush 10, 2) := by decide +kernel
theorem d_Mo_firstGuest_59 : decode b_Mo_firstGuest 59 = .ok (.idiv, 1) := by decide +kernel
theorem d_Mo_firstGuest_60 : decode b_Mo_firstGuest 60 = .ok (.bipush 10, 2) := by decide +kernel
theorem d_Mo_firstGuest_62 : decode b_Mo_firstGuest 62 = .ok (.irem, 1) := by decide +kernel
theorem d_Mo_firstGuest_63 : decode b_Mo_firstGuest 63 = .ok (.iastore, 1) := by decide +kernel
theorem d_Mo_firstGuest_64 : decode b_Mo_firstGuest 64 = .ok (.aload_n 0, 1) := by decide +kernel
theorem d_Mo_firstGuest_65 : decode b_Mo_firstGuest 65 = .ok (.getfield 16, 3) := by decide +kernel
theorem d_Mo_firstGuest_68 : decode b_Mo_firstGuest 68 = .ok (.bipush 23, 2) := by decide +kernel
theorem d_Mo_firstGuest_70 : decode b_Mo_firstGuest 70 = .ok (.bipush 6, 2) := by decide +kernel
theorem d_Mo_firstGuest_72 : decode b_Mo_firstGuest 72 = .ok (.iload_n 1, 1) := by decide +kernel
theorem d_Mo_firstGuest_73 : decode b_Mo_firstGuest 73 = .ok (.imul, 1) := by decide +kernel
theorem d_Mo_firstGuest_74 : decode b_Mo_firstGuest 74 = .ok (.iadd, 1) := by decide +kernel
theorem d_Mo_firstGuest_75 : decode b_Mo_firstGuest 75 = .ok (.iload_n 3, 1) := by decide +kernel
theorem d_Mo_firstGuest_76 : decode b_Mo_firstGuest 76 = .ok (.bipush 10, 2) := by decide +kernel
theorem d_Mo_firstGuest_78 : decode b_Mo_firstGuest 78 = .ok (.irem, 1) := by decide +kernel
theorem d_Mo_firstGuest_79 : decode b_Mo_firstGuest 79 = .ok (.iastore, 1) := by decide +kernel
theorem d_Mo_firstGuest_80 : decode b_Mo_firstGuest 80 = .ok (.return_, 1) := by decide +kernel
theorem d_Mo_in_0 : decode b_Mo_in 0 = .ok (.lload_n 0, 1) := by decide +kernel
theorem d_Mo_in_1 : decode b_Mo_in 1 = .ok (.lload_n 2, 1) := by decide +kernel
theorem d_Mo_in_2 : decode b_Mo_in 2 = .ok (.lcmp, 1) := by decide +kernel
theorem d_Mo_in_3 : decode b_Mo_in 3 = .ok (.ifCond .lt 14, 3) := by decide +kernel
theorem d_Mo_in_6 : decode b_Mo_in 6 = .ok (.lload_n 0, 1) := by decide +kernel
theorem d_Mo_in_7 : decode b_Mo_in 7 = .ok (.lload 4, 2) := by decide +kernel
theorem d_Mo_in_9 : decode b_Mo_in 9 = .ok (.lcmp, 1) := by decide +kernel
theorem d_Mo_in_10 : decode b_Mo_in 10 = .ok (.ifCond .gt 7, 3) := by decide +kernel
theorem d_Mo_in_13 : decode b_Mo_in 13 = .ok (.iconst 1, 1) := by decide +kernel
theorem d_Mo_in_14 : decode b_Mo_in 14 = .ok (.goto 4, 3) := by decide +kernel
theorem d_Mo_in_17 : decode b_Mo_in 17 = .ok (.iconst 0, 1) := by decide +kernel
theorem d_Mo_in_18 : decode b_Mo_in 18 = .ok (.ireturn, 1) := by decide +kernel
theorem d_Mo_has_0 : decode b_Mo_has 0 = .ok (.iload_n 0, 1) := by decide +kernel
theorem d_Mo_has_1 : decode b_Mo_has 1 = .ok (.iload_n 1, 1) := by decide +kernel
theorem d_Mo_has_2 : decode b_Mo_has 2 = .ok (.ishr, 1) := by decide +kernel
theorem d_Mo_has_3 : decode b_Mo_has 3 = .ok (.iconst 1, 1) := by decide +kernel
theorem d_Mo_has_4 : decode b_Mo_has 4 = .ok (.iand, 1) := by decide +kernel
theorem d_Mo_has_5 : decode b_Mo_has 5 = .ok (.iconst 1, 1) := by decide +kernel
theorem d_Mo_has_6 : decode b_Mo_has 6 = .ok (.if_icmp .ne 7, 3) := by decide +kernel
theorem d_Mo_has_9 : decode b_Mo_has 9 = .ok (.iconst 1, 1) := by decide +kernel
theorem d_Mo_has_10 : decode b_Mo_has 10 = .ok (.goto 4, 3) := by decide +kernel
theorem d_Mo_has_13 : decode b_Mo_has 13 = .ok (.iconst 0, 1) := by decide +kernel
theorem d_Mo_has_14 : decode b_Mo_has 14 = .ok (.ireturn, 1) := by decide +kernel
theorem d_Mo_ones_0 : decode b_Mo_ones 0 = .ok (.iconst 0, 1) := by decide +kernel
theorem d_Mo_ones_1 : decode b_Mo_ones 1 = .ok (.istore_n 1, 1) := by decide +kernel
theorem d_Mo_ones_2 : decode b_Mo_ones 2 = .ok (.iload_n 0, 1) := by decide +kernel
theorem d_Mo_ones_3 : decode b_Mo_ones 3 = .ok (.istore_n 2, 1) := by decide +kernel
theorem d_Mo_ones_4 : decode b_Mo_ones 4 = .ok (.iload_n 2, 1) := by decide +kernel
theorem d_Mo_ones_5 : decode b_Mo_ones 5 = .ok (.ifCond .eq 15, 3) := by decide +kernel
theorem d_Mo_ones_8 : decode b_Mo_ones 8 = .ok (.iinc 1 1, 3) := by decide +kernel
theorem d_Mo_ones_11 : decode b_Mo_ones 11 = .ok (.iload_n 2, 1) := by decide +kernel
theorem d_Mo_ones_12 : decode b_Mo_ones 12 = .ok (.iload_n 2, 1) := by decide +kernel
theorem d_Mo_ones_13 : decode b_Mo_ones 13 = .ok (.iconst 1, 1) := by decide +kernel
theorem d_Mo_ones_14 : decode b_Mo_ones 14 = .ok (.isub, 1) := by decide +kernel
theorem d_Mo_ones_15 : decode b_Mo_ones 15 = .ok (.iand, 1) := by decide +kernel
theorem d_Mo_ones_16 : decode b_Mo_ones 16 = .ok (.istore_n 2, 1) := by decide +kernel
theorem d_Mo_ones_17 : decode b_Mo_ones 17 = .ok (.goto (-13), 3) := by decide +kernel
theorem d_Mo_ones_20 : decode b_Mo_ones 20 = .ok (.iload_n 1, 1) := by decide +kernel
theorem d_Mo_ones_21 : decode b_Mo_ones 21 = .ok (.ireturn, 1) := by decide +kernel
theorem d_Mo_empty_0 : decode b_Mo_empty 0 = .ok (.iconst 0, 1) := by decide +kernel
theorem d_Mo_empty_1 : decode b_Mo_empty 1 = .ok (.istore_n 1, 1) := by decide +kernel
theorem d_Mo_empty_2 : decode b_Mo_empty 2 = .ok (.iload_n 1, 1) := by decide +kernel
theorem d_Mo_empty_3 : decode b_Mo_empty 3 = .ok (.bipush 74, 2) := by decide +kernel
theorem d_Mo_empty_5 : decode b_Mo_empty 5 = .ok (.if_icmp .ge 16, 3) := by decide +kernel
theorem d_Mo_empty_8 : decode b_Mo_empty 8 = .ok (.aload_n 0, 1) := by decide +kernel
theorem d_Mo_empty_9 : decode b_Mo_empty 9 = .ok (.getfield 16, 3) := by decide +kernel
theorem d_Mo_empty_12 : decode b_Mo_empty 12 = .ok (.iload_n 1, 1) := by decide +kernel
theorem d_Mo_empty_13 : decode b_Mo_empty 13 = .ok (.iconst 0, 1) := by decide +kernel
theorem d_Mo_empty_14 : decode b_Mo_empty 14 = .ok (.iastore, 1) := by decide +kernel
theorem d_Mo_empty_15 : decode b_Mo_empty 15 = .ok (.iinc 1 1, 3) := by decide +kernel
theorem d_Mo_empty_18 : decode b_Mo_empty 18 = .ok (.goto (-16), 3) := by decide +kernel
theorem d_Mo_empty_21 : decode b_Mo_empty 21 = .ok (.aload_n 0, 1) := by decide +kernel
theorem d_Mo_empty_22 : decode b_Mo_empty 22 = .ok (.getfield 16, 3) := by decide +kernel
theorem d_Mo_empty_25 : decode b_Mo_empty 25 = .ok (.iconst 0, 1) := by decide +kernel
theorem d_Mo_empty_26 : decode b_Mo_empty 26 = .ok (.iconst 4, 1) := by decide +kernel
theorem d_Mo_empty_27 : decode b_Mo_empty 27 = .ok (.iastore, 1) := by decide +kernel
theorem d_Mo_empty_28 : decode b_Mo_empty 28 = .ok (.aload_n 0, 1) := by decide +kernel
theorem d_Mo_empty_29 : decode b_Mo_empty 29 = .ok (.getfield 16, 3) := by decide +kernel
theorem d_Mo_empty_32 : decode b_Mo_empty 32 = .ok (.iconst 2, 1) := by decide +kernel
theorem d_Mo_empty_33 : decode b_Mo_empty 33 = .ok (.iconst 1, 1) := by decide +kernel
theorem d_Mo_empty_34 : decode b_Mo_empty 34 = .ok (.iastore, 1) := by decide +kernel
theorem d_Mo_empty_35 : decode b_Mo_empty 35 = .ok (.aload_n 0, 1) := by decide +kernel
theorem d_Mo_empty_36 : decode b_Mo_empty 36 = .ok (.getfield 16, 3) := by decide +kernel
theorem d_Mo_empty_39 : decode b_Mo_empty 39 = .ok (.iconst 3, 1) := by decide +kernel
theorem d_Mo_empty_40 : decode b_Mo_empty 40 = .ok (.bipush 90, 2) := by decide +kernel
theorem d_Mo_empty_42 : decode b_Mo_empty 42 = .ok (.iastore, 1) := by decide +kernel
theorem d_Mo_empty_43 : decode b_Mo_empty 43 = .ok (.aload_n 0, 1) := by decide +kernel
theorem d_Mo_empty_44 : decode b_Mo_empty 44 = .ok (.getfield 16, 3) := by decide +kernel
theorem d_Mo_empty_47 : decode b_Mo_empty 47 = .ok (.iconst 4, 1) := by decide +kernel
theorem d_Mo_empty_48 : decode b_Mo_empty 48 = .ok (.bipush 20, 2) := by decide +kernel
theorem d_Mo_empty_50 : decode b_Mo_empty 50 = .ok (.iastore, 1) := by decide +kernel
theorem d_Mo_empty_51 : decode b_Mo_empty 51 = .ok (.iconst 0, 1) := by decide +kernel
theorem d_Mo_empty_52 : decode b_Mo_empty 52 = .ok (.istore_n 1, 1) := by decide +kernel
theorem d_Mo_empty_53 : decode b_Mo_empty 53 = .ok (.iload_n 1, 1) := by decide +kernel
theorem d_Mo_empty_54 : decode b_Mo_empty 54 = .ok (.bipush 6, 2) := by decide +kernel
theorem d_Mo_empty_56 : decode b_Mo_empty 56 = .ok (.if_icmp .ge 20, 3) := by decide +kernel
theorem d_Mo_empty_59 : decode b_Mo_empty 59 = .ok (.aload_n 0, 1) := by decide +kernel
theorem d_Mo_empty_60 : decode b_Mo_empty 60 = .ok (.getfield 16, 3) := by decide +kernel
theorem d_Mo_empty_63 : decode b_Mo_empty 63 = .ok (.bipush 14, 2) := by decide +kernel
theorem d_Mo_empty_65 : decode b_Mo_empty 65 = .ok (.iload_n 1, 1) := by decide +kernel
theorem d_Mo_empty_66 : decode b_Mo_empty 66 = .ok (.iadd, 1) := by decide +kernel
theorem d_Mo_empty_67 : decode b_Mo_empty 67 = .ok (.bipush 20, 2) := by decide +kernel
theorem d_Mo_empty_69 : decode b_Mo_empty 69 = .ok (.iastore, 1) := by decide +kernel
theorem d_Mo_empty_70 : decode b_Mo_empty 70 = .ok (.iinc 1 1, 3) := by decide +kernel
theorem d_Mo_empty_73 : decode b_Mo_empty 73 = .ok (.goto (-20), 3) := by decide +kernel
theorem d_Mo_empty_76 : decode b_Mo_empty 76 = .ok (.aload_n 0, 1) := by decide +kernel
theorem d_Mo_empty_77 : decode b_Mo_empty 77 = .ok (.iconst 0, 1) := by decide +kernel
theorem d_Mo_empty_78 : decode b_Mo_empty 78 = .ok (.putfield 47, 3) := by decide +kernel
theorem d_Mo_empty_81 : decode b_Mo_empty 81 = .ok (.return_, 1) := by decide +kernel
theorem d_Mo_write_0 : decode b_Mo_write 0 = .ok (.iload_n 1, 1) := by decide +kernel
theorem d_Mo_write_1 : decode b_Mo_write 1 = .ok (.i2l, 1) := by decide +kernel
theorem d_Mo_write_2 : decode b_Mo_write 2 = .ok (.ldc2_w 51, 3) := by decide +kernel
theorem d_Mo_write_5 : decode b_Mo_write 5 = .ok (.ldc2_w 53, 3) := by decide +kernel
theorem d_Mo_write_8 : decode b_Mo_write 8 = .ok (.invokestatic 55, 3) := by decide +kernel
theorem d_Mo_write_11 : decode b_Mo_write 11 = .ok (.ifCond .ne 5, 3) := by decide +kernel
theorem d_Mo_write_14 : decode b_Mo_write 14 = .ok (.iconst (-1), 1) := by decide +kernel
theorem d_Mo_write_15 : decode b_Mo_write 15 = .ok (.ireturn, 1) := by decide +kernel
theorem d_Mo_write_16 : decode b_Mo_write 16 = .ok (.aload_n 0, 1) := by decide +kernel
theorem d_Mo_write_17 : decode b_Mo_write 17 = .ok (.getfield 59, 3) := by decide +kernel
theorem d_Mo_write_20 : decode b_Mo_write 20 = .ok (.sipush 200, 3) := by decide +kernel
theorem d_Mo_write_23 : decode b_Mo_write 23 = .ok (.if_icmp .ne 6, 3) := by decide +kernel
theorem d_Mo_write_26 : decode b_Mo_write 26 = .ok (.bipush (-3), 2) := by decide +kernel
theorem d_Mo_write_28 : decode b_Mo_write 28 = .ok (.ireturn, 1) := by decide +kernel
theorem d_Mo_write_29 : decode b_Mo_write 29 = .ok (.aload_n 0, 1) := by decide +kernel
theorem d_Mo_write_30 : decode b_Mo_write 30 = .ok (.getfield 7, 3) := by decide +kernel
theorem d_Mo_write_33 : decode b_Mo_write 33 = .ok (.aload_n 0, 1) := by decide +kernel
theorem d_Mo_write_34 : decode b_Mo_write 34 = .ok (.getfield 59, 3) := by decide +kernel
theorem d_Mo_write_37 : decode b_Mo_write 37 = .ok (.iload_n 1, 1) := by decide +kernel
theorem d_Mo_write_38 : decode b_Mo_write 38 = .ok (.iastore, 1) := by decide +kernel
theorem d_Mo_write_39 : decode b_Mo_write 39 = .ok (.aload_n 0, 1) := by decide +kernel
theorem d_Mo_write_40 : decode b_Mo_write 40 = .ok (.dup, 1) := by decide +kernel
theorem d_Mo_write_41 : decode b_Mo_write 41 = .ok (.getfield 59, 3) := by decide +kernel
theorem d_Mo_write_44 : decode b_Mo_write 44 = .ok (.iconst 1, 1) := by decide +kernel
theorem d_Mo_write_45 : decode b_Mo_write 45 = .ok (.iadd, 1) := by decide +kernel
theorem d_Mo_write_46 : decode b_Mo_write 46 = .ok (.putfield 59, 3) := by decide +kernel
theorem d_Mo_write_49 : decode b_Mo_write 49 = .ok (.aload_n 0, 1) := by decide +kernel
theorem d_Mo_write_50 : decode b_Mo_write 50 = .ok (.getfield 59, 3) := by decide +kernel
theorem d_Mo_write_53 : decode b_Mo_write 53 = .ok (.ireturn, 1) := by decide +kernel
theorem d_Mo_wipe_0 : decode b_Mo_wipe 0 = .ok (.aload_n 0, 1) := by decide +kernel
theorem d_Mo_wipe_1 : decode b_Mo_wipe 1 = .ok (.getfield 59, 3) := by decide +kernel
theorem d_Mo_wipe_4 : decode b_Mo_wipe 4 = .ok (.istore_n 1, 1) := by decide +kernel
theorem d_Mo_wipe_5 : decode b_Mo_wipe 5 = .ok (.aload_n 0, 1) := by decide +kernel
theorem d_Mo_wipe_6 : decode b_Mo_wipe 6 = .ok (.iconst 0, 1) := by decide +kernel
theorem d_Mo_wipe_7 : decode b_Mo_wipe 7 = .ok (.putfield 59, 3) := by decide +kernel
theorem d_Mo_wipe_10 : decode b_Mo_wipe 10 = .ok (.iload_n 1, 1) := by decide +kernel
theorem d_Mo_wipe_11 : decode b_Mo_wipe 11 = .ok (.ireturn, 1) := by decide +kernel
theorem d_Mo_letterAt_0 : decode b_Mo_letterAt 0 = .ok (.iload_n 1, 1) := by decide +kernel
theorem d_Mo_letterAt_1 : decode b_Mo_letterAt 1 = .ok (.aload_n 0, 1) := by decide +kernel
theorem d_Mo_letterAt_2 : decode b_Mo_letterAt 2 = .ok (.getfield 59, 3) := by decide +kernel
theorem d_Mo_letterAt_5 : decode b_Mo_letterAt 5 = .ok (.if_icmp .ge 12, 3) := by decide +kernel
theorem d_Mo_letterAt_8 : decode b_Mo_letterAt 8 = .ok (.aload_n 0, 1) := by decide +kernel
theorem d_Mo_letterAt_9 : decode b_Mo_letterAt 9 = .ok (.getfield 7, 3) := by decide +kernel
theorem d_Mo_letterAt_12 : decode b_Mo_letterAt 12 = .ok (.iload_n 1, 1) := by decide +kernel
theorem d_Mo_letterAt_13 : decode b_Mo_letterAt 13 = .ok (.iaload, 1) := by decide +kernel
theorem d_Mo_letterAt_14 : decode b_Mo_letterAt 14 = .ok (.goto 4, 3) := by decide +kernel
theorem d_Mo_letterAt_17 : decode b_Mo_letterAt 17 = .ok (.iconst 0, 1) := by decide +kernel
theorem d_Mo_letterAt_18 : decode b_Mo_letterAt 18 = .ok (.ireturn, 1) := by decide +kernel
theorem d_Mo_numbers_0 : decode b_Mo_numbers 0 = .ok (.iconst 0, 1) := by decide +kernel
theorem d_Mo_numbers_1 : decode b_Mo_numbers 1 = .ok (.istore_n 2, 1) := by decide +kernel
theorem d_Mo_numbers_2 : decode b_Mo_numbers 2 = .ok (.iload_n 2, 1) := by decide +kernel
theorem d_Mo_numbers_3 : decode b_Mo_numbers 3 = .ok (.iload_n 1, 1) := by decide +kernel
theorem d_Mo_numbers_4 : decode b_Mo_numbers 4 = .ok (.if_icmp .ge 132, 3) := by decide +kernel
theorem d_Mo_numbers_7 : decode b_Mo_numbers 7 = .ok (.iconst 0, 1) := by decide +kernel
theorem d_Mo_numbers_8 : decode b_Mo_numbers 8 = .ok (.istore_n 3, 1) := by decide +kernel
theorem d_Mo_numbers_9 : decode b_Mo_numbers 9 = .ok (.iconst 0, 1) := by decide +kernel
theorem d_Mo_numbers_10 : decode b_Mo_numbers 10 = .ok (.istore 4, 2) := by decide +kernel
theorem d_Mo_numbers_12 : decode b_Mo_numbers 12 = .ok (.aload_n 0, 1) := by decide +kernel
theorem d_Mo_numbers_13 : decode b_Mo_numbers 13 = .ok (.aload_n 0, 1) := by decide +kernel
theorem d_Mo_numbers_14 : decode b_Mo_numbers 14 = .ok (.getfield 63, 3) := by decide +kernel
theorem d_Mo_numbers_17 : decode b_Mo_numbers 17 = .ok (.invokevirtual 66, 3) := by decide +kernel
theorem d_Mo_numbers_20 : decode b_Mo_numbers 20 = .ok (.i2l, 1) := by decide +kernel
theorem d_Mo_numbers_21 : decode b_Mo_numbers 21 = .ok (.ldc2_w 70, 3) := by decide +kernel
theorem d_Mo_numbers_24 : decode b_Mo_numbers 24 = .ok (.ldc2_w 72, 3) := by decide +kernel
theorem d_Mo_numbers_27 : decode b_Mo_numbers 27 = .ok (.invokestatic 55, 3) := by decide +kernel
theorem d_Mo_numbers_30 : decode b_Mo_numbers 30 = .ok (.ifCond .eq 43, 3) := by decide +kernel
theorem d_Mo_numbers_33 : decode b_Mo_numbers 33 = .ok (.iload_n 3, 1) := by decide +kernel
theorem d_Mo_numbers_34 : decode b_Mo_numbers 34 = .ok (.iconst 3, 1) := by decide +kernel
theorem d_Mo_numbers_35 : decode b_Mo_numbers 35 = .ok (.if_icmp .ge 38, 3) := by decide +kernel
theorem d_Mo_numbers_38 : decode b_Mo_numbers 38 = .ok (.bipush 10, 2) := by decide +kernel
theorem d_Mo_numbers_40 : decode b_Mo_numbers 40 = .ok (.iload 4, 2) := by decide +kernel
theorem d_Mo_numbers_42 : decode b_Mo_numbers 42 = .ok (.imul, 1) := by decide +kernel
theorem d_Mo_numbers_43 : decode b_Mo_numbers 43 = .ok (.aload_n 0, 1) := by decide +kernel
theorem d_Mo_numbers_44 : decode b_Mo_numbers 44 = .ok (.aload_n 0, 1) := by decide +kernel
theorem d_Mo_numbers_45 : decode b_Mo_numbers 45 = .ok (.getfield 63, 3) := by decide +kernel
theorem d_Mo_numbers_48 : decode b_Mo_numbers 48 = .ok (.invokevirtual 66, 3) := by decide +kernel
theorem d_Mo_numbers_51 : decode b_Mo_numbers 51 = .ok (.iadd, 1) := by decide +kernel
theorem d_Mo_numbers_52 : decode b_Mo_numbers 52 = .ok (.bipush 48, 2) := by decide +kernel
theorem d_Mo_numbers_54 : decode b_Mo_numbers 54 = .ok (.isub, 1) := by decide +kernel
theorem d_Mo_numbers_55 : decode b_Mo_numbers 55 = .ok (.istore 4, 2) := by decide +kernel
theorem d_Mo_numbers_57 : decode b_Mo_numbers 57 = .ok (.iinc 3 1, 3) := by decide +kernel
theorem d_Mo_numbers_60 : decode b_Mo_numbers 60 = .ok (.aload_n 0, 1) := by decide +kernel
theorem d_Mo_numbers_61 : decode b_Mo_numbers 61 = .ok (.dup, 1) := by decide +kernel
theorem d_Mo_numbers_62 : decode b_Mo_numbers 62 = .ok (.getfield 63, 3) := by decide +kernel
theorem d_Mo_numbers_65 : decode b_Mo_numbers 65 = .ok (.iconst 1, 1) := by decide +kernel
theorem d_Mo_numbers_66 : decode b_Mo_numbers 66 = .ok (.iadd, 1) := by decide +kernel
theorem d_Mo_numbers_67 : decode b_Mo_numbers 67 = .ok (.putfield 63, 3) := by decide +kernel
theorem d_Mo_numbers_70 : decode b_Mo_numbers 70 = .ok (.goto (-58), 3) := by decide +kernel
theorem d_Mo_numbers_73 : decode b_Mo_numbers 73 = .ok (.iload_n 3, 1) := by decide +kernel
theorem d_Mo_numbers_74 : decode b_Mo_numbers 74 = .ok (.i2l, 1) := by decide +kernel
theorem d_Mo_numbers_75 : decode b_Mo_numbers 75 = .ok (.lconst 1, 1) := by decide +kernel
theorem d_Mo_numbers_76 : decode b_Mo_numbers 76 = .ok (.ldc2_w 74, 3) := by decide +kernel
theorem d_Mo_numbers_79 : decode b_Mo_numbers 79 = .ok (.invokestatic 55, 3) := by decide +kernel
theorem d_Mo_numbers_82 : decode b_Mo_numbers 82 = .ok (.ifCond .eq 28, 3) := by decide +kernel
theorem d_Mo_numbers_85 : decode b_Mo_numbers 85 = .ok (.aload_n 0, 1) := by decide +kernel
theorem d_Mo_numbers_86 : decode b_Mo_numbers 86 = .ok (.aload_n 0, 1) := by decide +kernel
theorem d_Mo_numbers_87 : decode b_Mo_numbers 87 = .ok (.getfield 63, 3) := by decide +kernel
theorem d_Mo_numbers_90 : decode b_Mo_numbers 90 = .ok (.invokevirtual 66, 3) := by decide +kernel
theorem d_Mo_numbers_93 : decode b_Mo_numbers 93 = .ok (.iload_n 2, 1) := by decide +kernel
theorem d_Mo_numbers_94 : decode b_Mo_numbers 94 = .ok (.iload_n 1, 1) := by decide +kernel
theorem d_Mo_numbers_95 : decode b_Mo_numbers 95 = .ok (.iconst 1, 1) := by decide +kernel
theorem d_Mo_numbers_96 : decode b_Mo_numbers 96 = .ok (.isub, 1) := by decide +kernel
theorem d_Mo_numbers_97 : decode b_Mo_numbers 97 = .ok (.if_icmp .ge 8, 3) := by decide +kernel
theorem d_Mo_numbers_100 : decode b_Mo_numbers 100 = .ok (.bipush 44, 2) := by decide +kernel
theorem d_Mo_numbers_102 : decode b_Mo_numbers 102 = .ok (.goto 5, 3) := by decide +kernel
theorem d_Mo_numbers_105 : decode b_Mo_numbers 105 = .ok (.bipush 59, 2) := by decide +kernel
theorem d_Mo_numbers_107 : decode b_Mo_numbers 107 = .ok (.if_icmp .eq 5, 3) := by decide +kernel
theorem d_Mo_numbers_110 : decode b_Mo_numbers 110 = .ok (.iconst 0, 1) := by decide +kernel
theorem d_Mo_numbers_111 : decode b_Mo_numbers 111 = .ok (.ireturn, 1) := by decide +kernel
theorem d_Mo_numbers_112 : decode b_Mo_numbers 112 = .ok (.aload_n 0, 1) := by decide +kernel
theorem d_Mo_numbers_113 : decode b_Mo_numbers 113 = .ok (.getfield 31, 3) := by decide +kernel
theorem d_Mo_numbers_116 : decode b_Mo_numbers 116 = .ok (.iload_n 2, 1) := by decide +kernel
theorem d_Mo_numbers_117 : decode b_Mo_numbers 117 = .ok (.iload 4, 2) := by decide +kernel
theorem d_Mo_numbers_119 : decode b_Mo_numbers 119 = .ok (.iastore, 1) := by decide +kernel
theorem d_Mo_numbers_120 : decode b_Mo_numbers 120 = .ok (.aload_n 0, 1) := by decide +kernel
theorem d_Mo_numbers_121 : decode b_Mo_numbers 121 = .ok (.dup, 1) := by decide +kernel
theorem d_Mo_numbers_122 : decode b_Mo_numbers 122 = .ok (.getfield 63, 3) := by decide +kernel
theorem d_Mo_numbers_125 : decode b_Mo_numbers 125 = .ok (.iconst 1, 1) := by decide +kernel
theorem d_Mo_numbers_126 : decode b_Mo_numbers 126 = .ok (.iadd, 1) := by decide +kernel
theorem d_Mo_numbers_127 : decode b_Mo_numbers 127 = .ok (.putfield 63, 3) := by decide +kernel
theorem d_Mo_numbers_130 : decode b_Mo_numbers 130 = .ok (.iinc 2 1, 3) := by decide +kernel
theorem d_Mo_numbers_133 : decode b_Mo_numbers 133 = .ok (.goto (-131), 3) := by decide +kernel
theorem d_Mo_numbers_136 : decode b_Mo_numbers 136 = .ok (.iconst 1, 1) := by decide +kernel
theorem d_Mo_numbers_137 : decode b_Mo_numbers 137 = .ok (.ireturn, 1) := by decide +kernel
theorem d_Mo_guestItem_0 : decode b_Mo_guestItem 0 = .ok (.aload_n 0, 1) := by decide +kernel
theorem d_Mo_guestItem_1 : decode b_Mo_guestItem 1 = .ok (.getfield 16, 3) := by decide +kernel
theorem d_Mo_guestItem_4 : decode b_Mo_guestItem 4 = .ok (.iconst 1, 1) := by decide +kernel
theorem d_Mo_guestItem_5 : decode b_Mo_guestItem 5 = .ok (.iaload, 1) := by decide +kernel
theorem d_Mo_guestItem_6 : decode b_Mo_guestItem 6 = .ok (.istore_n 1, 1) := by decide +kernel
theorem d_Mo_guestItem_7 : decode b_Mo_guestItem 7 = .ok (.iload_n 1, 1) := by decide +kernel
theorem d_Mo_guestItem_8 : decode b_Mo_guestItem 8 = .ok (.bipush 9, 2) := by decide +kernel
theorem d_Mo_guestItem_10 : decode b_Mo_guestItem 10 = .ok (.if_icmp .ne 5, 3) := by decide +kernel
theorem d_Mo_guestItem_13 : decode b_Mo_guestItem 13 = .ok (.iconst 0, 1) := by decide +kernel
theorem d_Mo_guestItem_14 : decode b_Mo_guestItem 14 = .ok (.ireturn, 1) := by decide +kernel
theorem d_Mo_guestItem_15 : decode b_Mo_guestItem 15 = .ok (.iconst 0, 1) := by decide +kernel
theorem d_Mo_guestItem_16 : decode b_Mo_guestItem 16 = .ok (.istore_n 2, 1) := by decide +kernel
theorem d_Mo_guestItem_17 : decode b_Mo_guestItem 17 = .ok (.iload_n 2, 1) := by decide +kernel
theorem d_Mo_guestItem_18 : decode b_Mo_guestItem 18 = .ok (.aload_n 0, 1) := by decide +kernel
theorem d_Mo_guestItem_19 : decode b_Mo_guestItem 19 = .ok (.getfield 16, 3) := by decide +kernel
theorem d_Mo_guestItem_22 : decode b_Mo_guestItem 22 = .ok (.iconst 0, 1) := by decide +kernel
theorem d_Mo_guestItem_23 : decode b_Mo_guestItem 23 = .ok (.iaload, 1) := by decide +kernel
theorem d_Mo_guestItem_24 : decode b_Mo_guestItem 24 = .ok (.if_icmp .gt 80, 3) := by decide +kernel
theorem d_Mo_guestItem_27 : decode b_Mo_guestItem 27 = .ok (.aload_n 0, 1) := by decide +kernel
theorem d_Mo_guestItem_28 : decode b_Mo_guestItem 28 = .ok (.aload_n 0, 1) := by decide +kernel
theorem d_Mo_guestItem_29 : decode b_Mo_guestItem 29 = .ok (.getfield 63, 3) := by decide +kernel
theorem d_Mo_guestItem_32 : decode b_Mo_guestItem 32 = .ok (.invokevirtual 66, 3) := by decide +kernel
theorem d_Mo_guestItem_35 : decode b_Mo_guestItem 35 = .ok (.bipush 48, 2) := by decide +kernel
theorem d_Mo_guestItem_37 : decode b_Mo_guestItem 37 = .ok (.isub, 1) := by decide +kernel
theorem d_Mo_guestItem_38 : decode b_Mo_guestItem 38 = .ok (.istore_n 3, 1) := by decide +kernel
theorem d_Mo_guestItem_39 : decode b_Mo_guestItem 39 = .ok (.iload_n 3, 1) := by decide +kernel
theorem d_Mo_guestItem_40 : decode b_Mo_guestItem 40 = .ok (.i2l, 1) := by decide +kernel
theorem d_Mo_guestItem_41 : decode b_Mo_guestItem 41 = .ok (.lconst 0, 1) := by decide +kernel
theorem d_Mo_guestItem_42 : decode b_Mo_guestItem 42 = .ok (.iload_n 2, 1) := by decide +kernel
theorem d_Mo_guestItem_43 : decode b_Mo_guestItem 43 = .ok (.ifCond .ne 9, 3) := by decide +kernel
theorem d_Mo_guestItem_46 : decode b_Mo_guestItem 46 = .ok (.ldc2_w 76, 3) := by decide +kernel
theorem d_Mo_guestItem_49 : decode b_Mo_guestItem 49 = .ok (.goto 6, 3) := by decide +kernel
theorem d_Mo_guestItem_52 : decode b_Mo_guestItem 52 = .ok (.ldc2_w 78, 3) := by decide +kernel
theorem d_Mo_guestItem_55 : decode b_Mo_guestItem 55 = .ok (.invokestatic 55, 3) := by decide +kernel
theorem d_Mo_guestItem_58 : decode b_Mo_guestItem 58 = .ok (.ifCond .ne 5, 3) := by decide +kernel
theorem d_Mo_guestItem_61 : decode b_Mo_guestItem 61 = .ok (.iconst 0, 1) := by decide +kernel
theorem d_Mo_guestItem_62 : decode b_Mo_guestItem 62 = .ok (.ireturn, 1) := by decide +kernel
theorem d_Mo_guestItem_63 : decode b_Mo_guestItem 63 = .ok (.aload_n 0, 1) := by decide +kernel
theorem d_Mo_guestItem_64 : decode b_Mo_guestItem 64 = .ok (.getfield 16, 3) := by decide +kernel
theorem d_Mo_guestItem_67 : decode b_Mo_guestItem 67 = .ok (.iload_n 2, 1) := by decide +kernel
theorem d_Mo_guestItem_68 : decode b_Mo_guestItem 68 = .ok (.ifCond .ne 9, 3) := by decide +kernel
theorem d_Mo_guestItem_71 : decode b_Mo_guestItem 71 = .ok (.iconst 5, 1) := by decide +kernel
theorem d_Mo_guestItem_72 : decode b_Mo_guestItem 72 = .ok (.iload_n 1, 1) := by decide +kernel
theorem d_Mo_guestItem_73 : decode b_Mo_guestItem 73 = .ok (.iadd, 1) := by decide +kernel
theorem d_Mo_guestItem_74 : decode b_Mo_guestItem 74 = .ok (.goto 12, 3) := by decide +kernel
theorem d_Mo_guestItem_77 : decode b_Mo_guestItem 77 = .ok (.bipush 19, 2) := by decide +kernel
theorem d_Mo_guestItem_79 : decode b_Mo_guestItem 79 = .ok (.bipush 6, 2) := by decide +kernel
theorem d_Mo_guestItem_81 : decode b_Mo_guestItem 81 = .ok (.iload_n 1, 1) := by decide +kernel
theorem d_Mo_guestItem_82 : decode b_Mo_guestItem 82 = .ok (.imul, 1) := by decide +kernel
theorem d_Mo_guestItem_83 : decode b_Mo_guestItem 83 = .ok (.iadd, 1) := by decide +kernel
theorem d_Mo_guestItem_84 : decode b_Mo_guestItem 84 = .ok (.iload_n 2, 1) := by decide +kernel
theorem d_Mo_guestItem_85 : decode b_Mo_guestItem 85 = .ok (.iadd, 1) := by decide +kernel
theorem d_Mo_guestItem_86 : decode b_Mo_guestItem 86 = .ok (.iload_n 3, 1) := by decide +kernel
theorem d_Mo_guestItem_87 : decode b_Mo_guestItem 87 = .ok (.iastore, 1) := by decide +kernel
theorem d_Mo_guestItem_88 : decode b_Mo_guestItem 88 = .ok (.aload_n 0, 1) := by decide +kernel
theorem d_Mo_guestItem_89 : decode b_Mo_guestItem 89 = .ok (.dup, 1) := by decide +kernel
theorem d_Mo_guestItem_90 : decode b_Mo_guestItem 90 = .ok (.getfield 63, 3) := by decide +kernel
theorem d_Mo_guestItem_93 : decode b_Mo_guestItem 93 = .ok (.iconst 1, 1) := by decide +kernel
theorem d_Mo_guestItem_94 : decode b_Mo_guestItem 94 = .ok (.iadd, 1) := by decide +kernel
theorem d_Mo_guestItem_95 : decode b_Mo_guestItem 95 = .ok (.putfield 63, 3) := by decide +kernel
theorem d_Mo_guestItem_98 : decode b_Mo_guestItem 98 = .ok (.iinc 2 1, 3) := by decide +kernel
theorem d_Mo_guestItem_101 : decode b_Mo_guestItem 101 = .ok (.goto (-84), 3) := by decide +kernel
theorem d_Mo_guestItem_104 : decode b_Mo_guestItem 104 = .ok (.aload_n 0, 1) := by decide +kernel
theorem d_Mo_guestItem_105 : decode b_Mo_guestItem 105 = .ok (.aload_n 0, 1) := by decide +kernel
theorem d_Mo_guestItem_106 : decode b_Mo_guestItem 106 = .ok (.getfield 63, 3) := by decide +kernel
theorem d_Mo_guestItem_109 : decode b_Mo_guestItem 109 = .ok (.invokevirtual 66, 3) := by decide +kernel
theorem d_Mo_guestItem_112 : decode b_Mo_guestItem 112 = .ok (.bipush 59, 2) := by decide +kernel
theorem d_Mo_guestItem_114 : decode b_Mo_guestItem 114 = .ok (.if_icmp .ne 7, 3) := by decide +kernel
theorem d_Mo_guestItem_117 : decode b_Mo_guestItem 117 = .ok (.iconst 1, 1) := by decide +kernel
theorem d_Mo_guestItem_118 : decode b_Mo_guestItem 118 = .ok (.goto 4, 3) := by decide +kernel
theorem d_Mo_guestItem_121 : decode b_Mo_guestItem 121 = .ok (.iconst 0, 1) := by decide +kernel
theorem d_Mo_guestItem_122 : decode b_Mo_guestItem 122 = .ok (.istore_n 2, 1) := by decide +kernel
theorem d_Mo_guestItem_123 : decode b_Mo_guestItem 123 = .ok (.aload_n 0, 1) := by decide +kernel
theorem d_Mo_guestItem_124 : decode b_Mo_guestItem 124 = .ok (.dup, 1) := by decide +kernel
theorem d_Mo_guestItem_125 : decode b_Mo_guestItem 125 = .ok (.getfield 63, 3) := by decide +kernel
theorem d_Mo_guestItem_128 : decode b_Mo_guestItem 128 = .ok (.iconst 1, 1) := by decide +kernel
theorem d_Mo_guestItem_129 : decode b_Mo_guestItem 129 = .ok (.iadd, 1) := by decide +kernel
theorem d_Mo_guestItem_130 : decode b_Mo_guestItem 130 = .ok (.putfield 63, 3) := by decide +kernel
theorem d_Mo_guestItem_133 : decode b_Mo_guestItem 133 = .ok (.aload_n 0, 1) := by decide +kernel
theorem d_Mo_guestItem_134 : decode b_Mo_guestItem 134 = .ok (.getfield 16, 3) := by decide +kernel
theorem d_Mo_guestItem_137 : decode b_Mo_guestItem 137 = .ok (.iconst 1, 1) := by decide +kernel
theorem d_Mo_guestItem_138 : decode b_Mo_guestItem 138 = .ok (.dup2, 1) := by decide +kernel
theorem d_Mo_guestItem_139 : decode b_Mo_guestItem 139 = .ok (.iaload, 1) := by decide +kernel
theorem d_Mo_guestItem_140 : decode b_Mo_guestItem 140 = .ok (.iconst 1, 1) := by decide +kernel
theorem d_Mo_guestItem_141 : decode b_Mo_guestItem 141 = .ok (.iadd, 1) := by decide +kernel
theorem d_Mo_guestItem_142 : decode b_Mo_guestItem 142 = .ok (.iastore, 1) := by decide +kernel
theorem d_Mo_guestItem_143 : decode b_Mo_guestItem 143 = .ok (.iload_n 2, 1) := by decide +kernel
theorem d_Mo_guestItem_144 : decode b_Mo_guestItem 144 = .ok (.ireturn, 1) := by decide +kernel
theorem d_Mo_one_0 : decode b_Mo_one 0 = .ok (.aload_n 0, 1) := by decide +kernel
theorem d_Mo_one_1 : decode b_Mo_one 1 = .ok (.iconst 1, 1) := by decide +kernel
theorem d_Mo_one_2 : decode b_Mo_one 2 = .ok (.invokevirtual 80, 3) := by decide +kernel
theorem d_Mo_one_5 : decode b_Mo_one 5 = .ok (.ifCond .eq 20, 3) := by decide +kernel
theorem d_Mo_one_8 : decode b_Mo_one 8 = .ok (.aload_n 0, 1) := by decide +kernel
theorem d_Mo_one_9 : decode b_Mo_one 9 = .ok (.getfield 31, 3) := by decide +kernel
theorem d_Mo_one_12 : decode b_Mo_one 12 = .ok (.iconst 0, 1) := by decide +kernel
theorem d_Mo_one_13 : decode b_Mo_one 13 = .ok (.iaload, 1) := by decide +kernel
theorem d_Mo_one_14 : decode b_Mo_one 14 = .ok (.i2l, 1) := by decide +kernel
theorem d_Mo_one_15 : decode b_Mo_one 15 = .ok (.iload_n 2, 1) := by decide +kernel
theorem d_Mo_one_16 : decode b_Mo_one 16 = .ok (.i2l, 1) := by decide +kernel
theorem d_Mo_one_17 : decode b_Mo_one 17 = .ok (.iload_n 3, 1) := by decide +kernel
theorem d_Mo_one_18 : decode b_Mo_one 18 = .ok (.i2l, 1) := by decide +kernel
theorem d_Mo_one_19 : decode b_Mo_one 19 = .ok (.invokestatic 55, 3) := by decide +kernel
theorem d_Mo_one_22 : decode b_Mo_one 22 = .ok (.ifCond .ne 5, 3) := by decide +kernel
theorem d_Mo_one_25 : decode b_Mo_one 25 = .ok (.iconst 0, 1) := by decide +kernel
theorem d_Mo_one_26 : decode b_Mo_one 26 = .ok (.ireturn, 1) := by decide +kernel
theorem d_Mo_one_27 : decode b_Mo_one 27 = .ok (.aload_n 0, 1) := by decide +kernel
theorem d_Mo_one_28 : decode b_Mo_one 28 = .ok (.getfield 16, 3) := by decide +kernel
theorem d_Mo_one_31 : decode b_Mo_one 31 = .ok (.iload_n 1, 1) := by decide +kernel
theorem d_Mo_one_32 : decode b_Mo_one 32 = .ok (.aload_n 0, 1) := by decide +kernel
theorem d_Mo_one_33 : decode b_Mo_one 33 = .ok (.getfield 31, 3) := by decide +kernel
theorem d_Mo_one_36 : decode b_Mo_one 36 = .ok (.iconst 0, 1) := by decide +kernel
theorem d_Mo_one_37 : decode b_Mo_one 37 = .ok (.iaload, 1) := by decide +kernel
theorem d_Mo_one_38 : decode b_Mo_one 38 = .ok (.iastore, 1) := by decide +kernel
theorem d_Mo_one_39 : decode b_Mo_one 39 = .ok (.iconst 1, 1) := by decide +kernel
theorem d_Mo_one_40 : decode b_Mo_one 40 = .ok (.ireturn, 1) := by decide +kernel
theorem d_Mo_item_0 : decode b_Mo_item 0 = .ok (.aload_n 0, 1) := by decide +kernel
theorem d_Mo_item_1 : decode b_Mo_item 1 = .ok (.aload_n 0, 1) := by decide +kernel
theorem d_Mo_item_2 : decode b_Mo_item 2 = .ok (.getfield 63, 3) := by decide +kernel
theorem d_Mo_item_5 : decode b_Mo_item 5 = .ok (.invokevirtual 66, 3) := by decide +kernel
theorem d_Mo_item_8 : decode b_Mo_item 8 = .ok (.istore_n 1, 1) := by decide +kernel
theorem d_Mo_item_9 : decode b_Mo_item 9 = .ok (.aload_n 0, 1) := by decide +kernel
theorem d_Mo_item_10 : decode b_Mo_item 10 = .ok (.dup, 1) := by decide +kernel
theorem d_Mo_item_11 : decode b_Mo_item 11 = .ok (.getfield 63, 3) := by decide +kernel
theorem d_Mo_item_14 : decode b_Mo_item 14 = .ok (.iconst 1, 1) := by decide +kernel
theorem d_Mo_item_15 : decode b_Mo_item 15 = .ok (.iadd, 1) := by decide +kernel
theorem d_Mo_item_16 : decode b_Mo_item 16 = .ok (.putfield 63, 3) := by decide +kernel
theorem d_Mo_item_19 : decode b_Mo_item 19 = .ok (.iload_n 1, 1) := by decide +kernel
theorem d_Mo_item_20 : decode b_Mo_item 20 = .ok (.bipush 100, 2) := by decide +kernel
theorem d_Mo_item_22 : decode b_Mo_item 22 = .ok (.if_icmp .ne 27, 3) := by decide +kernel
theorem d_Mo_item_25 : decode b_Mo_item 25 = .ok (.aload_n 0, 1) := by decide +kernel
theorem d_Mo_item_26 : decode b_Mo_item 26 = .ok (.iconst 0, 1) := by decide +kernel
theorem d_Mo_item_27 : decode b_Mo_item 27 = .ok (.iconst 2, 1) := by decide +kernel
theorem d_Mo_item_28 : decode b_Mo_item 28 = .ok (.bipush 6, 2) := by decide +kernel
theorem d_Mo_item_30 : decode b_Mo_item 30 = .ok (.invokevirtual 84, 3) := by decide +kernel
theorem d_Mo_item_33 : decode b_Mo_item 33 = .ok (.ifCond .eq 14, 3) := by decide +kernel
theorem d_Mo_item_36 : decode b_Mo_item 36 = .ok (.aload_n 0, 1) := by decide +kernel
theorem d_Mo_item_37 : decode b_Mo_item 37 = .ok (.getfield 47, 3) := by decide +kernel
theorem d_Mo_item_40 : decode b_Mo_item 40 = .ok (.ifCond .ne 7, 3) := by decide +kernel
theorem d_Mo_item_43 : decode b_Mo_item 43 = .ok (.iconst 1, 1) := by decide +kernel
theorem d_Mo_item_44 : decode b_Mo_item 44 = .ok (.goto 4, 3) := by decide +kernel
theorem d_Mo_item_47 : decode b_Mo_item 47 = .ok (.iconst 0, 1) := by decide +kernel
theorem d_Mo_item_48 : decode b_Mo_item 48 = .ok (.ireturn, 1) := by decide +kernel
theorem d_Mo_item_49 : decode b_Mo_item 49 = .ok (.aload_n 0, 1) := by decide +kernel
theorem d_Mo_item_50 : decode b_Mo_item 50 = .ok (.iconst 1, 1) := by decide +kernel
theorem d_Mo_item_51 : decode b_Mo_item 51 = .ok (.putfield 47, 3) := by decide +kernel
theorem d_Mo_item_54 : decode b_Mo_item 54 = .ok (.iload_n 1, 1) := by decide +kernel
theorem d_Mo_item_55 : decode b_Mo_item 55 = .ok (.lookupswitch 144 #[(103, 49), (104, 135), (115, 126), (116, 54), (118, 118)], 49) := by decide +kernel
theorem d_Mo_item_104 : decode b_Mo_item 104 = .ok (.aload_n 0, 1) := by decide +kernel
theorem d_Mo_item_105 : decode b_Mo_item 105 = .ok (.invokevirtual 88, 3) := by decide +kernel
theorem d_Mo_item_108 : decode b_Mo_item 108 = .ok (.ireturn, 1) := by decide +kernel
theorem d_Mo_item_109 : decode b_Mo_item 109 = .ok (.aload_n 0, 1) := by decide +kernel
theorem d_Mo_item_110 : decode b_Mo_item 110 = .ok (.iconst 2, 1) := by decide +kernel
theorem d_Mo_item_111 : decode b_Mo_item 111 = .ok (.invokevirtual 80, 3) := by decide +kernel
theorem d_Mo_item_114 : decode b_Mo_item 114 = .ok (.ifCond .eq 35, 3) := by decide +kernel
theorem d_Mo_item_117 : decode b_Mo_item 117 = .ok (.aload_n 0, 1) := by decide +kernel
theorem d_Mo_item_118 : decode b_Mo_item 118 = .ok (.getfield 31, 3) := by decide +kernel
theorem d_Mo_item_121 : decode b_Mo_item 121 = .ok (.iconst 0, 1) := by decide +kernel
theorem d_Mo_item_122 : decode b_Mo_item 122 = .ok (.iaload, 1) := by decide +kernel
theorem d_Mo_item_123 : decode b_Mo_item 123 = .ok (.aload_n 0, 1) := by decide +kernel
theorem d_Mo_item_124 : decode b_Mo_item 124 = .ok (.getfield 16, 3) := by decide +kernel
theorem d_Mo_item_127 : decode b_Mo_item 127 = .ok (.iconst 0, 1) := by decide +kernel
theorem d_Mo_item_128 : decode b_Mo_item 128 = .ok (.iaload, 1) := by decide +kernel
theorem d_Mo_item_129 : decode b_Mo_item 129 = .ok (.if_icmp .ge 20, 3) := by decide +kernel
theorem d_Mo_item_132 : decode b_Mo_item 132 = .ok (.aload_n 0, 1) := by decide +kernel
theorem d_Mo_item_133 : decode b_Mo_item 133 = .ok (.getfield 31, 3) := by decide +kernel
theorem d_Mo_item_136 : decode b_Mo_item 136 = .ok (.iconst 1, 1) := by decide +kernel
theorem d_Mo_item_137 : decode b_Mo_item 137 = .ok (.iaload, 1) := by decide +kernel
theorem d_Mo_item_138 : decode b_Mo_item 138 = .ok (.i2l, 1) := by decide +kernel
theorem d_Mo_item_139 : decode b_Mo_item 139 = .ok (.lconst 1, 1) := by decide +kernel
theorem d_Mo_item_140 : decode b_Mo_item 140 = .ok (.ldc2_w 92, 3) := by decide +kernel
theorem d_Mo_item_143 : decode b_Mo_item 143 = .ok (.invokestatic 55, 3) := by decide +kernel
theorem d_Mo_item_146 : decode b_Mo_item 146 = .ok (.ifCond .ne 5, 3) := by decide +kernel
theorem d_Mo_item_149 : decode b_Mo_item 149 = .ok (.iconst 0, 1) := by decide +kernel
theorem d_Mo_item_150 : decode b_Mo_item 150 = .ok (.ireturn, 1) := by decide +kernel
theorem d_Mo_item_151 : decode b_Mo_item 151 = .ok (.aload_n 0, 1) := by decide +kernel
theorem d_Mo_item_152 : decode b_Mo_item 152 = .ok (.getfield 16, 3) := by decide +kernel
theorem d_Mo_item_155 : decode b_Mo_item 155 = .ok (.bipush 14, 2) := by decide +kernel
theorem d_Mo_item_157 : decode b_Mo_item 157 = .ok (.aload_n 0, 1) := by decide +kernel
theorem d_Mo_item_158 : decode b_Mo_item 158 = .ok (.getfield 31, 3) := by decide +kernel
theorem d_Mo_item_161 : decode b_Mo_item 161 = .ok (.iconst 0, 1) := by decide +kernel
theorem d_Mo_item_162 : decode b_Mo_item 162 = .ok (.iaload, 1) := by decide +kernel
theorem d_Mo_item_163 : decode b_Mo_item 163 = .ok (.iadd, 1) := by decide +kernel
theorem d_Mo_item_164 : decode b_Mo_item 164 = .ok (.aload_n 0, 1) := by decide +kernel
theorem d_Mo_item_165 : decode b_Mo_item 165 = .ok (.getfield 31, 3) := by decide +kernel
theorem d_Mo_item_168 : decode b_Mo_item 168 = .ok (.iconst 1, 1) := by decide +kernel
theorem d_Mo_item_169 : decode b_Mo_item 169 = .ok (.iaload, 1) := by decide +kernel
theorem d_Mo_item_170 : decode b_Mo_item 170 = .ok (.iastore, 1) := by decide +kernel
theorem d_Mo_item_171 : decode b_Mo_item 171 = .ok (.iconst 1, 1) := by decide +kernel
theorem d_Mo_item_172 : decode b_Mo_item 172 = .ok (.ireturn, 1) := by decide +kernel
theorem d_Mo_item_173 : decode b_Mo_item 173 = .ok (.aload_n 0, 1) := by decide +kernel
theorem d_Mo_item_174 : decode b_Mo_item 174 = .ok (.iconst 2, 1) := by decide +kernel
theorem d_Mo_item_175 : decode b_Mo_item 175 = .ok (.iconst 0, 1) := by decide +kernel
theorem d_Mo_item_176 : decode b_Mo_item 176 = .ok (.iconst 3, 1) := by decide +kernel
theorem d_Mo_item_177 : decode b_Mo_item 177 = .ok (.invokevirtual 84, 3) := by decide +kernel
theorem d_Mo_item_180 : decode b_Mo_item 180 = .ok (.ireturn, 1) := by decide +kernel
theorem d_Mo_item_181 : decode b_Mo_item 181 = .ok (.aload_n 0, 1) := by decide +kernel
theorem d_Mo_item_182 : decode b_Mo_item 182 = .ok (.iconst 3, 1) := by decide +kernel
theorem d_Mo_item_183 : decode b_Mo_item 183 = .ok (.iconst 1, 1) := by decide +kernel
theorem d_Mo_item_184 : decode b_Mo_item 184 = .ok (.bipush 99, 2) := by decide +kernel
theorem d_Mo_item_186 : decode b_Mo_item 186 = .ok (.invokevirtual 84, 3) := by decide +kernel
theorem d_Mo_item_189 : decode b_Mo_item 189 = .ok (.ireturn, 1) := by decide +kernel
theorem d_Mo_item_190 : decode b_Mo_item 190 = .ok (.aload_n 0, 1) := by decide +kernel
theorem d_Mo_item_191 : decode b_Mo_item 191 = .ok (.iconst 4, 1) := by decide +kernel
theorem d_Mo_item_192 : decode b_Mo_item 192 = .ok (.iconst 1, 1) := by decide +kernel
theorem d_Mo_item_193 : decode b_Mo_item 193 = .ok (.bipush 60, 2) := by decide +kernel
theorem d_Mo_item_195 : decode b_Mo_item 195 = .ok (.invokevirtual 84, 3) := by decide +kernel
theorem d_Mo_item_198 : decode b_Mo_item 198 = .ok (.ireturn, 1) := by decide +kernel
theorem d_Mo_item_199 : decode b_Mo_item 199 = .ok (.iconst 0, 1) := by decide +kernel
theorem d_Mo_item_200 : decode b_Mo_item 200 = .ok (.ireturn, 1) := by decide +kernel
theorem d_Mo_readAll_0 : decode b_Mo_readAll 0 = .ok (.aload_n 0, 1) := by decide +kernel
theorem d_Mo_readAll_1 : decode b_Mo_readAll 1 = .ok (.invokevirtual 37, 3) := by decide +kernel
theorem d_Mo_readAll_4 : decode b_Mo_readAll 4 = .ok (.aload_n 0, 1) := by decide +kernel
theorem d_Mo_readAll_5 : decode b_Mo_readAll 5 = .ok (.iconst 0, 1) := by decide +kernel
theorem d_Mo_readAll_6 : decode b_Mo_readAll 6 = .ok (.putfield 63, 3) := by decide +kernel
theorem d_Mo_readAll_9 : decode b_Mo_readAll 9 = .ok (.aload_n 0, 1) := by decide +kernel
theorem d_Mo_readAll_10 : decode b_Mo_readAll 10 = .ok (.getfield 63, 3) := by decide +kernel
theorem d_Mo_readAll_13 : decode b_Mo_readAll 13 = .ok (.aload_n 0, 1) := by decide +kernel
theorem d_Mo_readAll_14 : decode b_Mo_readAll 14 = .ok (.getfield 59, 3) := by decide +kernel
theorem d_Mo_readAll_17 : decode b_Mo_readAll 17 = .ok (.if_icmp .ge 20, 3) := by decide +kernel
theorem d_Mo_readAll_20 : decode b_Mo_readAll 20 = .ok (.aload_n 0, 1) := by decide +kernel
theorem d_Mo_readAll_21 : decode b_Mo_readAll 21 = .ok (.getfield 63, 3) := by decide +kernel
theorem d_Mo_readAll_24 : decode b_Mo_readAll 24 = .ok (.istore_n 1, 1) := by decide +kernel
theorem d_Mo_readAll_25 : decode b_Mo_readAll 25 = .ok (.aload_n 0, 1) := by decide +kernel
theorem d_Mo_readAll_26 : decode b_Mo_readAll 26 = .ok (.invokevirtual 94, 3) := by decide +kernel
theorem d_Mo_readAll_29 : decode b_Mo_readAll 29 = .ok (.ifCond .ne 5, 3) := by decide +kernel
theorem d_Mo_readAll_32 : decode b_Mo_readAll 32 = .ok (.iload_n 1, 1) := by decide +kernel
theorem d_Mo_readAll_33 : decode b_Mo_readAll 33 = .ok (.ireturn, 1) := by decide +kernel
theorem d_Mo_readAll_34 : decode b_Mo_readAll 34 = .ok (.goto (-25), 3) := by decide +kernel
theorem d_Mo_readAll_37 : decode b_Mo_readAll 37 = .ok (.bipush (-4), 2) := by decide +kernel
theorem d_Mo_readAll_39 : decode b_Mo_readAll 39 = .ok (.ireturn, 1) := by decide +kernel
theorem d_Mo_fault_0 : decode b_Mo_fault 0 = .ok (.aload_n 0, 1) := by decide +kernel
theorem d_Mo_fault_1 : decode b_Mo_fault 1 = .ok (.invokevirtual 97, 3) := by decide +kernel
theorem d_Mo_fault_4 : decode b_Mo_fault 4 = .ok (.ireturn, 1) := by decide +kernel
theorem d_Mo_lay_0 : decode b_Mo_lay 0 = .ok (.aload_n 0, 1) := by decide +kernel
theorem d_Mo_lay_1 : decode b_Mo_lay 1 = .ok (.invokevirtual 97, 3) := by decide +kernel
theorem d_Mo_lay_4 : decode b_Mo_lay 4 = .ok (.bipush (-4), 2) := by decide +kernel
theorem d_Mo_lay_6 : decode b_Mo_lay 6 = .ok (.if_icmp .ne 12, 3) := by decide +kernel
theorem d_Mo_lay_9 : decode b_Mo_lay 9 = .ok (.aload_n 0, 1) := by decide +kernel
theorem d_Mo_lay_10 : decode b_Mo_lay 10 = .ok (.getfield 16, 3) := by decide +kernel
theorem d_Mo_lay_13 : decode b_Mo_lay 13 = .ok (.iconst 1, 1) := by decide +kernel
theorem d_Mo_lay_14 : decode b_Mo_lay 14 = .ok (.iaload, 1) := by decide +kernel
theorem d_Mo_lay_15 : decode b_Mo_lay 15 = .ok (.ifCond .ne 6, 3) := by decide +kernel
theorem d_Mo_lay_18 : decode b_Mo_lay 18 = .ok (.bipush (-2), 2) := by decide +kernel
theorem d_Mo_lay_20 : decode b_Mo_lay 20 = .ok (.ireturn, 1) := by decide +kernel
theorem d_Mo_lay_21 : decode b_Mo_lay 21 = .ok (.aload_n 0, 1) := by decide +kernel
theorem d_Mo_lay_22 : decode b_Mo_lay 22 = .ok (.invokevirtual 44, 3) := by decide +kernel
theorem d_Mo_lay_25 : decode b_Mo_lay 25 = .ok (.aload_n 0, 1) := by decide +kernel
theorem d_Mo_lay_26 : decode b_Mo_lay 26 = .ok (.getfield 13, 3) := by decide +kernel
theorem d_Mo_lay_29 : decode b_Mo_lay 29 = .ok (.iconst 1, 1) := by decide +kernel
theorem d_Mo_lay_30 : decode b_Mo_lay 30 = .ok (.iaload, 1) := by decide +kernel
theorem d_Mo_lay_31 : decode b_Mo_lay 31 = .ok (.ireturn, 1) := by decide +kernel
theorem d_Mo_begin_0 : decode b_Mo_begin 0 = .ok (.iconst 0, 1) := by decide +kernel
theorem d_Mo_begin_1 : decode b_Mo_begin 1 = .ok (.istore_n 1, 1) := by decide +kernel
theorem d_Mo_begin_2 : decode b_Mo_begin 2 = .ok (.iload_n 1, 1) := by decide +kernel
theorem d_Mo_begin_3 : decode b_Mo_begin 3 = .ok (.bipush 74, 2) := by decide +kernel
theorem d_Mo_begin_5 : decode b_Mo_begin 5 = .ok (.if_icmp .ge 21, 3) := by decide +kernel
theorem d_Mo_begin_8 : decode b_Mo_begin 8 = .ok (.aload_n 0, 1) := by decide +kernel
theorem d_Mo_begin_9 : decode b_Mo_begin 9 = .ok (.getfield 13, 3) := by decide +kernel
theorem d_Mo_begin_12 : decode b_Mo_begin 12 = .ok (.iload_n 1, 1) := by decide +kernel
theorem d_Mo_begin_13 : decode b_Mo_begin 13 = .ok (.aload_n 0, 1) := by decide +kernel
theorem d_Mo_begin_14 : decode b_Mo_begin 14 = .ok (.getfield 16, 3) := by decide +kernel
theorem d_Mo_begin_17 : decode b_Mo_begin 17 = .ok (.iload_n 1, 1) := by decide +kernel
theorem d_Mo_begin_18 : decode b_Mo_begin 18 = .ok (.iaload, 1) := by decide +kernel
theorem d_Mo_begin_19 : decode b_Mo_begin 19 = .ok (.iastore, 1) := by decide +kernel
theorem d_Mo_begin_20 : decode b_Mo_begin 20 = .ok (.iinc 1 1, 3) := by decide +kernel
theorem d_Mo_begin_23 : decode b_Mo_begin 23 = .ok (.goto (-21), 3) := by decide +kernel
theorem d_Mo_begin_26 : decode b_Mo_begin 26 = .ok (.iconst 0, 1) := by decide +kernel
theorem d_Mo_begin_27 : decode b_Mo_begin 27 = .ok (.istore_n 1, 1) := by decide +kernel
theorem d_Mo_begin_28 : decode b_Mo_begin 28 = .ok (.iload_n 1, 1) := by decide +kernel
theorem d_Mo_begin_29 : decode b_Mo_begin 29 = .ok (.bipush 9, 2) := by decide +kernel
theorem d_Mo_begin_31 : decode b_Mo_begin 31 = .ok (.if_icmp .ge 23, 3) := by decide +kernel
theorem d_Mo_begin_34 : decode b_Mo_begin 34 = .ok (.aload_n 0, 1) := by decide +kernel
theorem d_Mo_begin_35 : decode b_Mo_begin 35 = .ok (.getfield 19, 3) := by decide +kernel
theorem d_Mo_begin_38 : decode b_Mo_begin 38 = .ok (.iconst 3, 1) := by decide +kernel
theorem d_Mo_begin_39 : decode b_Mo_begin 39 = .ok (.iload_n 1, 1) := by decide +kernel
theorem d_Mo_begin_40 : decode b_Mo_begin 40 = .ok (.iadd, 1) := by decide +kernel
theorem d_Mo_begin_41 : decode b_Mo_begin 41 = .ok (.aload_n 0, 1) := by decide +kernel
theorem d_Mo_begin_42 : decode b_Mo_begin 42 = .ok (.getfield 13, 3) := by decide +kernel
theorem d_Mo_begin_45 : decode b_Mo_begin 45 = .ok (.iconst 2, 1) := by decide +kernel
theorem d_Mo_begin_46 : decode b_Mo_begin 46 = .ok (.iaload, 1) := by decide +kernel
theorem d_Mo_begin_47 : decode b_Mo_begin 47 = .ok (.iastore, 1) := by decide +kernel
theorem d_Mo_begin_48 : decode b_Mo_begin 48 = .ok (.iinc 1 1, 3) := by decide +kernel
theorem d_Mo_begin_51 : decode b_Mo_begin 51 = .ok (.goto (-23), 3) := by decide +kernel
theorem d_Mo_begin_54 : decode b_Mo_begin 54 = .ok (.aload_n 0, 1) := by decide +kernel
theorem d_Mo_begin_55 : decode b_Mo_begin 55 = .ok (.getfield 19, 3) := by decide +kernel
theorem d_Mo_begin_58 : decode b_Mo_begin 58 = .ok (.iconst 0, 1) := by decide +kernel
theorem d_Mo_begin_59 : decode b_Mo_begin 59 = .ok (.iconst 0, 1) := by decide +kernel
theorem d_Mo_begin_60 : decode b_Mo_begin 60 = .ok (.iastore, 1) := by decide +kernel
theorem d_Mo_begin_61 : decode b_Mo_begin 61 = .ok (.aload_n 0, 1) := by decide +kernel
theorem d_Mo_begin_62 : decode b_Mo_begin 62 = .ok (.getfield 19, 3) := by decide +kernel
theorem d_Mo_begin_65 : decode b_Mo_begin 65 = .ok (.iconst 1, 1) := by decide +kernel
theorem d_Mo_begin_66 : decode b_Mo_begin 66 = .ok (.iconst 0, 1) := by decide +kernel
theorem d_Mo_begin_67 : decode b_Mo_begin 67 = .ok (.iastore, 1) := by decide +kernel
theorem d_Mo_begin_68 : decode b_Mo_begin 68 = .ok (.aload_n 0, 1) := by decide +kernel
theorem d_Mo_begin_69 : decode b_Mo_begin 69 = .ok (.getfield 19, 3) := by decide +kernel
theorem d_Mo_begin_72 : decode b_Mo_begin 72 = .ok (.iconst 2, 1) := by decide +kernel
theorem d_Mo_begin_73 : decode b_Mo_begin 73 = .ok (.bipush (-4), 2) := by decide +kernel
theorem d_Mo_begin_75 : decode b_Mo_begin 75 = .ok (.iastore, 1) := by decide +kernel
theorem d_Mo_begin_76 : decode b_Mo_begin 76 = .ok (.aload_n 0, 1) := by decide +kernel
theorem d_Mo_begin_77 : decode b_Mo_begin 77 = .ok (.iconst 0, 1) := by decide +kernel
theorem d_Mo_begin_78 : decode b_Mo_begin 78 = .ok (.putfield 101, 3) := by decide +kernel
theorem d_Mo_begin_81 : decode b_Mo_begin 81 = .ok (.aload_n 0, 1) := by decide +kernel
theorem d_Mo_begin_82 : decode b_Mo_begin 82 = .ok (.iconst 0, 1) := by decide +kernel
theorem d_Mo_begin_83 : decode b_Mo_begin 83 = .ok (.putfield 104, 3) := by decide +kernel
theorem d_Mo_begin_86 : decode b_Mo_begin 86 = .ok (.aload_n 0, 1) := by decide +kernel
theorem d_Mo_begin_87 : decode b_Mo_begin 87 = .ok (.iconst 0, 1) := by decide +kernel
theorem d_Mo_begin_88 : decode b_Mo_begin 88 = .ok (.putfield 107, 3) := by decide +kernel
theorem d_Mo_begin_91 : decode b_Mo_begin 91 = .ok (.return_, 1) := by decide +kernel
theorem d_Mo_isGuest_0 : decode b_Mo_isGuest 0 = .ok (.iload_n 1, 1) := by decide +kernel
theorem d_Mo_isGuest_1 : decode b_Mo_isGuest 1 = .ok (.i2l, 1) := by decide +kernel
theorem d_Mo_isGuest_2 : decode b_Mo_isGuest 2 = .ok (.lconst 0, 1) := by decide +kernel
theorem d_Mo_isGuest_3 : decode b_Mo_isGuest 3 = .ok (.aload_n 0, 1) := by decide +kernel
theorem d_Mo_isGuest_4 : decode b_Mo_isGuest 4 = .ok (.getfield 13, 3) := by decide +kernel
theorem d_Mo_isGuest_7 : decode b_Mo_isGuest 7 = .ok (.iconst 1, 1) := by decide +kernel
theorem d_Mo_isGuest_8 : decode b_Mo_isGuest 8 = .ok (.iaload, 1) := by decide +kernel
theorem d_Mo_isGuest_9 : decode b_Mo_isGuest 9 = .ok (.iconst 1, 1) := by decide +kernel
theorem d_Mo_isGuest_10 : decode b_Mo_isGuest 10 = .ok (.isub, 1) := by decide +kernel
theorem d_Mo_isGuest_11 : decode b_Mo_isGuest 11 = .ok (.i2l, 1) := by decide +kernel
theorem d_Mo_isGuest_12 : decode b_Mo_isGuest 12 = .ok (.invokestatic 55, 3) := by decide +kernel
theorem d_Mo_isGuest_15 : decode b_Mo_isGuest 15 = .ok (.ireturn, 1) := by decide +kernel
theorem d_Mo_isDish_0 : decode b_Mo_isDish 0 = .ok (.iload_n 1, 1) := by decide +kernel
theorem d_Mo_isDish_1 : decode b_Mo_isDish 1 = .ok (.i2l, 1) := by decide +kernel
theorem d_Mo_isDish_2 : decode b_Mo_isDish 2 = .ok (.lconst 0, 1) := by decide +kernel
theorem d_Mo_isDish_3 : decode b_Mo_isDish 3 = .ok (.aload_n 0, 1) := by decide +kernel
theorem d_Mo_isDish_4 : decode b_Mo_isDish 4 = .ok (.getfield 13, 3) := by decide +kernel
theorem d_Mo_isDish_7 : decode b_Mo_isDish 7 = .ok (.iconst 0, 1) := by decide +kernel
theorem d_Mo_isDish_8 : decode b_Mo_isDish 8 = .ok (.iaload, 1) := by decide +kernel
theorem d_Mo_isDish_9 : decode b_Mo_isDish 9 = .ok (.iconst 1, 1) := by decide +kernel
theorem d_Mo_isDish_10 : decode b_Mo_isDish 10 = .ok (.isub, 1) := by decide +kernel
theorem d_Mo_isDish_11 : decode b_Mo_isDish 11 = .ok (.i2l, 1) := by decide +kernel
theorem d_Mo_isDish_12 : decode b_Mo_isDish 12 = .ok (.invokestatic 55, 3) := by decide +kernel
theorem d_Mo_isDish_15 : decode b_Mo_isDish 15 = .ok (.ireturn, 1) := by decide +kernel
theorem d_Mo_leftBy_0 : decode b_Mo_leftBy 0 = .ok (.iconst 1, 1) := by decide +kernel
theorem d_Mo_leftBy_1 : decode b_Mo_leftBy 1 = .ok (.aload_n 0, 1) := by decide +kernel
theorem d_Mo_leftBy_2 : decode b_Mo_leftBy 2 = .ok (.getfield 13, 3) := by decide +kernel
theorem d_Mo_leftBy_5 : decode b_Mo_leftBy 5 = .ok (.iconst 0, 1) := by decide +kernel
theorem d_Mo_leftBy_6 : decode b_Mo_leftBy 6 = .ok (.iaload, 1) := by decide +kernel
theorem d_Mo_leftBy_7 : decode b_Mo_leftBy 7 = .ok (.ishl, 1) := by decide +kernel
theorem d_Mo_leftBy_8 : decode b_Mo_leftBy 8 = .ok (.iconst 1, 1) := by decide +kernel
theorem d_Mo_leftBy_9 : decode b_Mo_leftBy 9 = .ok (.isub, 1) := by decide +kernel
theorem d_Mo_leftBy_10 : decode b_Mo_leftBy 10 = .ok (.iload_n 1, 1) := by decide +kernel
theorem d_Mo_leftBy_11 : decode b_Mo_leftBy 11 = .ok (.iconst (-1), 1) := by decide +kernel
theorem d_Mo_leftBy_12 : decode b_Mo_leftBy 12 = .ok (.ixor, 1) := by decide +kernel
theorem d_Mo_leftBy_13 : decode b_Mo_leftBy 13 = .ok (.iand, 1) := by decide +kernel
theorem d_Mo_leftBy_14 : decode b_Mo_leftBy 14 = .ok (.ireturn, 1) := by decide +kernel
theorem d_Mo_worthAt_0 : decode b_Mo_worthAt 0 = .ok (.aload_n 0, 1) := by decide +kernel
theorem d_Mo_worthAt_1 : decode b_Mo_worthAt 1 = .ok (.getfield 13, 3) := by decide +kernel
theorem d_Mo_worthAt_4 : decode b_Mo_worthAt 4 = .ok (.bipush 20, 2) := by decide +kernel
theorem d_Mo_worthAt_6 : decode b_Mo_worthAt 6 = .ok (.bipush 6, 2) := by decide +kernel
theorem d_Mo_worthAt_8 : decode b_Mo_worthAt 8 = .ok (.iload_n 1, 1) := by decide +kernel
theorem d_Mo_worthAt_9 : decode b_Mo_worthAt 9 = .ok (.imul, 1) := by decide +kernel
theorem d_Mo_worthAt_10 : decode b_Mo_worthAt 10 = .ok (.iadd, 1) := by decide +kernel
theorem d_Mo_worthAt_11 : decode b_Mo_worthAt 11 = .ok (.iload_n 2, 1) := by decide +kernel
theorem d_Mo_worthAt_12 : decode b_Mo_worthAt 12 = .ok (.iadd, 1) := by decide +kernel
theorem d_Mo_worthAt_13 : decode b_Mo_worthAt 13 = .ok (.iaload, 1) := by decide +kernel
theorem d_Mo_worthAt_14 : decode b_Mo_worthAt 14 = .ok (.istore 4, 2) := by decide +kernel
theorem d_Mo_worthAt_16 : decode b_Mo_worthAt 16 = .ok (.iload 4, 2) := by decide +kernel
theorem d_Mo_worthAt_18 : decode b_Mo_worthAt 18 = .ok (.ifCond .ne 7, 3) := by decide +kernel
theorem d_Mo_worthAt_21 : decode b_Mo_worthAt 21 = .ok (.iconst 0, 1) := by decide +kernel
theorem d_Mo_worthAt_22 : decode b_Mo_worthAt 22 = .ok (.goto 14, 3) := by decide +kernel
theorem d_Mo_worthAt_25 : decode b_Mo_worthAt 25 = .ok (.iload 4, 2) := by decide +kernel
theorem d_Mo_worthAt_27 : decode b_Mo_worthAt 27 = .ok (.iload_n 3, 1) := by decide +kernel
theorem d_Mo_worthAt_28 : decode b_Mo_worthAt 28 = .ok (.aload_n 0, 1) := by decide +kernel
theorem d_Mo_worthAt_29 : decode b_Mo_worthAt 29 = .ok (.getfield 13, 3) := by decide +kernel
theorem d_Mo_worthAt_32 : decode b_Mo_worthAt 32 = .ok (.iconst 4, 1) := by decide +kernel
theorem d_Mo_worthAt_33 : decode b_Mo_worthAt 33 = .ok (.iaload, 1) := by decide +kernel
theorem d_Mo_worthAt_34 : decode b_Mo_worthAt 34 = .ok (.idiv, 1) := by decide +kernel
theorem d_Mo_worthAt_35 : decode b_Mo_worthAt 35 = .ok (.iadd, 1) := by decide +kernel
theorem d_Mo_worthAt_36 : decode b_Mo_worthAt 36 = .ok (.istore 5, 2) := by decide +kernel
theorem d_Mo_worthAt_38 : decode b_Mo_worthAt 38 = .ok (.iload 5, 2) := by decide +kernel
theorem d_Mo_worthAt_40 : decode b_Mo_worthAt 40 = .ok (.bipush 9, 2) := by decide +kernel
theorem d_Mo_worthAt_42 : decode b_Mo_worthAt 42 = .ok (.if_icmp .le 8, 3) := by decide +kernel
theorem d_Mo_worthAt_45 : decode b_Mo_worthAt 45 = .ok (.bipush 9, 2) := by decide +kernel
theorem d_Mo_worthAt_47 : decode b_Mo_worthAt 47 = .ok (.goto 5, 3) := by decide +kernel
theorem d_Mo_worthAt_50 : decode b_Mo_worthAt 50 = .ok (.iload 5, 2) := by decide +kernel
theorem d_Mo_worthAt_52 : decode b_Mo_worthAt 52 = .ok (.ireturn, 1) := by decide +kernel
theorem d_Mo_mostOf_0 : decode b_Mo_mostOf 0 = .ok (.bipush (-4), 2) := by decide +kernel
theorem d_Mo_mostOf_2 : decode b_Mo_mostOf 2 = .ok (.istore 4, 2) := by decide +kernel
theorem d_Mo_mostOf_4 : decode b_Mo_mostOf 4 = .ok (.aload_n 0, 1) := by decide +kernel
theorem d_Mo_mostOf_5 : decode b_Mo_mostOf 5 = .ok (.getfield 13, 3) := by decide +kernel
theorem d_Mo_mostOf_8 : decode b_Mo_mostOf 8 = .ok (.iconst 0, 1) := by decide +kernel
theorem d_Mo_mostOf_9 : decode b_Mo_mostOf 9 = .ok (.iaload, 1) := by decide +kernel
theorem d_Mo_mostOf_10 : decode b_Mo_mostOf 10 = .ok (.iconst 1, 1) := by decide +kernel
theorem d_Mo_mostOf_11 : decode b_Mo_mostOf 11 = .ok (.isub, 1) := by decide +kernel
theorem d_Mo_mostOf_12 : decode b_Mo_mostOf 12 = .ok (.istore 5, 2) := by decide +kernel
theorem d_Mo_mostOf_14 : decode b_Mo_mostOf 14 = .ok (.iload 5, 2) := by decide +kernel
theorem d_Mo_mostOf_16 : decode b_Mo_mostOf 16 = .ok (.ifCond .lt 51, 3) := by decide +kernel
theorem d_Mo_mostOf_19 : decode b_Mo_mostOf 19 = .ok (.iload_n 2, 1) := by decide +kernel
theorem d_Mo_mostOf_20 : decode b_Mo_mostOf 20 = .ok (.iload 5, 2) := by decide +kernel
theorem d_Mo_mostOf_22 : decode b_Mo_mostOf 22 = .ok (.invokestatic 110, 3) := by decide +kernel
theorem d_Mo_mostOf_25 : decode b_Mo_mostOf 25 = .ok (.ifCond .eq 32, 3) := by decide +kernel
theorem d_Mo_mostOf_28 : decode b_Mo_mostOf 28 = .ok (.iload 4, 2) := by decide +kernel
theorem d_Mo_mostOf_30 : decode b_Mo_mostOf 30 = .ok (.ifCond .lt 22, 3) := by decide +kernel
theorem d_Mo_mostOf_33 : decode b_Mo_mostOf 33 = .ok (.aload_n 0, 1) := by decide +kernel
theorem d_Mo_mostOf_34 : decode b_Mo_mostOf 34 = .ok (.iload_n 1, 1) := by decide +kernel
theorem d_Mo_mostOf_35 : decode b_Mo_mostOf 35 = .ok (.iload 5, 2) := by decide +kernel
theorem d_Mo_mostOf_37 : decode b_Mo_mostOf 37 = .ok (.iload_n 3, 1) := by decide +kernel
theorem d_Mo_mostOf_38 : decode b_Mo_mostOf 38 = .ok (.invokevirtual 114, 3) := by decide +kernel
theorem d_Mo_mostOf_41 : decode b_Mo_mostOf 41 = .ok (.aload_n 0, 1) := by decide +kernel
theorem d_Mo_mostOf_42 : decode b_Mo_mostOf 42 = .ok (.iload_n 1, 1) := by decide +kernel
theorem d_Mo_mostOf_43 : decode b_Mo_mostOf 43 = .ok (.iload 4, 2) := by decide +kernel
theorem d_Mo_mostOf_45 : decode b_Mo_mostOf 45 = .ok (.iload_n 3, 1) := by decide +kernel
theorem d_Mo_mostOf_46 : decode b_Mo_mostOf 46 = .ok (.invokevirtual 114, 3) := by decide +kernel
theorem d_Mo_mostOf_49 : decode b_Mo_mostOf 49 = .ok (.if_icmp .lt 8, 3) := by decide +kernel
theorem d_Mo_mostOf_52 : decode b_Mo_mostOf 52 = .ok (.iload 5, 2) := by decide +kernel
theorem d_Mo_mostOf_54 : decode b_Mo_mostOf 54 = .ok (.goto 5, 3) := by decide +kernel
theorem d_Mo_mostOf_57 : decode b_Mo_mostOf 57 = .ok (.iload 4, 2) := by decide +kernel
theorem d_Mo_mostOf_59 : decode b_Mo_mostOf 59 = .ok (.istore 4, 2) := by decide +kernel
theorem d_Mo_mostOf_61 : decode b_Mo_mostOf 61 = .ok (.iinc 5 (-1), 3) := by decide +kernel
theorem d_Mo_mostOf_64 : decode b_Mo_mostOf 64 = .ok (.goto (-50), 3) := by decide +kernel
theorem d_Mo_mostOf_67 : decode b_Mo_mostOf 67 = .ok (.iload 4, 2) := by decide +kernel
theorem d_Mo_mostOf_69 : decode b_Mo_mostOf 69 = .ok (.ireturn, 1) := by decide +kernel
theorem d_Mo_leastOf_0 : decode b_Mo_leastOf 0 = .ok (.bipush (-4), 2) := by decide +kernel
theorem d_Mo_leastOf_2 : decode b_Mo_leastOf 2 = .ok (.istore 4, 2) := by decide +kernel
theorem d_Mo_leastOf_4 : decode b_Mo_leastOf 4 = .ok (.iconst 0, 1) := by decide +kernel
theorem d_Mo_leastOf_5 : decode b_Mo_leastOf 5 = .ok (.istore 5, 2) := by decide +kernel
theorem d_Mo_leastOf_7 : decode b_Mo_leastOf 7 = .ok (.iload 5, 2) := by decide +kernel
theorem d_Mo_leastOf_9 : decode b_Mo_leastOf 9 = .ok (.aload_n 0, 1) := by decide +kernel
theorem d_Mo_leastOf_10 : decode b_Mo_leastOf 10 = .ok (.getfield 13, 3) := by decide +kernel
theorem d_Mo_leastOf_13 : decode b_Mo_leastOf 13 = .ok (.iconst 0, 1) := by decide +kernel
theorem d_Mo_leastOf_14 : decode b_Mo_leastOf 14 = .ok (.iaload, 1) := by decide +kernel
theorem d_Mo_leastOf_15 : decode b_Mo_leastOf 15 = .ok (.if_icmp .ge 51, 3) := by decide +kernel
theorem d_Mo_leastOf_18 : decode b_Mo_leastOf 18 = .ok (.iload_n 2, 1) := by decide +kernel
theorem d_Mo_leastOf_19 : decode b_Mo_leastOf 19 = .ok (.iload 5, 2) := by decide +kernel
theorem d_Mo_leastOf_21 : decode b_Mo_leastOf 21 = .ok (.invokestatic 110, 3) := by decide +kernel
theorem d_Mo_leastOf_24 : decode b_Mo_leastOf 24 = .ok (.ifCond .eq 32, 3) := by decide +kernel
theorem d_Mo_leastOf_27 : decode b_Mo_leastOf 27 = .ok (.iload 4, 2) := by decide +kernel
theorem d_Mo_leastOf_29 : decode b_Mo_leastOf 29 = .ok (.ifCond .lt 22, 3) := by decide +kernel
theorem d_Mo_leastOf_32 : decode b_Mo_leastOf 32 = .ok (.aload_n 0, 1) := by decide +kernel
theorem d_Mo_leastOf_33 : decode b_Mo_leastOf 33 = .ok (.iload_n 1, 1) := by decide +kernel
theorem d_Mo_leastOf_34 : decode b_Mo_leastOf 34 = .ok (.iload 5, 2) := by decide +kernel
theorem d_Mo_leastOf_36 : decode b_Mo_leastOf 36 = .ok (.iload_n 3, 1) := by decide +kernel
theorem d_Mo_leastOf_37 : decode b_Mo_leastOf 37 = .ok (.invokevirtual 114, 3) := by decide +kernel
theorem d_Mo_leastOf_40 : decode b_Mo_leastOf 40 = .ok (.aload_n 0, 1) := by decide +kernel
theorem d_Mo_leastOf_41 : decode b_Mo_leastOf 41 = .ok (.iload_n 1, 1) := by decide +kernel
theorem d_Mo_leastOf_42 : decode b_Mo_leastOf 42 = .ok (.iload 4, 2) := by decide +kernel
theorem d_Mo_leastOf_44 : decode b_Mo_leastOf 44 = .ok (.iload_n 3, 1) := by decide +kernel
theorem d_Mo_leastOf_45 : decode b_Mo_leastOf 45 = .ok (.invokevirtual 114, 3) := by decide +kernel
theorem d_Mo_leastOf_48 : decode b_Mo_leastOf 48 = .ok (.if_icmp .gt 8, 3) := by decide +kernel
theorem d_Mo_leastOf_51 : decode b_Mo_leastOf 51 = .ok (.iload 5, 2) := by decide +kernel
theorem d_Mo_leastOf_53 : decode b_Mo_leastOf 53 = .ok (.goto 5, 3) := by decide +kernel
theorem d_Mo_leastOf_56 : decode b_Mo_leastOf 56 = .ok (.iload 4, 2) := by decide +kernel
theorem d_Mo_leastOf_58 : decode b_Mo_leastOf 58 = .ok (.istore 4, 2) := by decide +kernel
theorem d_Mo_leastOf_60 : decode b_Mo_leastOf 60 = .ok (.iinc 5 1, 3) := by decide +kernel
theorem d_Mo_leastOf_63 : decode b_Mo_leastOf 63 = .ok (.goto (-56), 3) := by decide +kernel
theorem d_Mo_leastOf_66 : decode b_Mo_leastOf 66 = .ok (.iload 4, 2) := by decide +kernel
theorem d_Mo_leastOf_68 : decode b_Mo_leastOf 68 = .ok (.ireturn, 1) := by decide +kernel
theorem d_Mo_hasHeart_0 : decode b_Mo_hasHeart 0 = .ok (.iload 5, 2) := by decide +kernel
theorem d_Mo_hasHeart_2 : decode b_Mo_hasHeart 2 = .ok (.iload_n 3, 1) := by decide +kernel
theorem d_Mo_hasHeart_3 : decode b_Mo_hasHeart 3 = .ok (.invokestatic 110, 3) := by decide +kernel
theorem d_Mo_hasHeart_6 : decode b_Mo_hasHeart 6 = .ok (.ifCond .eq 5, 3) := by decide +kernel
theorem d_Mo_hasHeart_9 : decode b_Mo_hasHeart 9 = .ok (.iconst 0, 1) := by decide +kernel
theorem d_Mo_hasHeart_10 : decode b_Mo_hasHeart 10 = .ok (.ireturn, 1) := by decide +kernel
theorem d_Mo_hasHeart_11 : decode b_Mo_hasHeart 11 = .ok (.aload_n 0, 1) := by decide +kernel
theorem d_Mo_hasHeart_12 : decode b_Mo_hasHeart 12 = .ok (.iload_n 2, 1) := by decide +kernel
theorem d_Mo_hasHeart_13 : decode b_Mo_hasHeart 13 = .ok (.iload_n 3, 1) := by decide +kernel
theorem d_Mo_hasHeart_14 : decode b_Mo_hasHeart 14 = .ok (.iload 4, 2) := by decide +kernel
theorem d_Mo_hasHeart_16 : decode b_Mo_hasHeart 16 = .ok (.invokevirtual 114, 3) := by decide +kernel
theorem d_Mo_hasHeart_19 : decode b_Mo_hasHeart 19 = .ok (.istore 6, 2) := by decide +kernel
theorem d_Mo_hasHeart_21 : decode b_Mo_hasHeart 21 = .ok (.iload_n 1, 1) := by decide +kernel
theorem d_Mo_hasHeart_22 : decode b_Mo_hasHeart 22 = .ok (.ifCond .ne 17, 3) := by decide +kernel
theorem d_Mo_hasHeart_25 : decode b_Mo_hasHeart 25 = .ok (.iload 6, 2) := by decide +kernel
theorem d_Mo_hasHeart_27 : decode b_Mo_hasHeart 27 = .ok (.iconst 4, 1) := by decide +kernel
theorem d_Mo_hasHeart_28 : decode b_Mo_hasHeart 28 = .ok (.if_icmp .le 7, 3) := by decide +kernel
theorem d_Mo_hasHeart_31 : decode b_Mo_hasHeart 31 = .ok (.iconst 1, 1) := by decide +kernel
theorem d_Mo_hasHeart_32 : decode b_Mo_hasHeart 32 = .ok (.goto 44, 3) := by decide +kernel
theorem d_Mo_hasHeart_35 : decode b_Mo_hasHeart 35 = .ok (.iconst 0, 1) := by decide +kernel
theorem d_Mo_hasHeart_36 : decode b_Mo_hasHeart 36 = .ok (.goto 40, 3) := by decide +kernel
theorem d_Mo_hasHeart_39 : decode b_Mo_hasHeart 39 = .ok (.iload_n 1, 1) := by decide +kernel
theorem d_Mo_hasHeart_40 : decode b_Mo_hasHeart 40 = .ok (.iconst 1, 1) := by decide +kernel
theorem d_Mo_hasHeart_41 : decode b_Mo_hasHeart 41 = .ok (.if_icmp .eq 30, 3) := by decide +kernel
theorem d_Mo_hasHeart_44 : decode b_Mo_hasHeart 44 = .ok (.iload_n 1, 1) := by decide +kernel
theorem d_Mo_hasHeart_45 : decode b_Mo_hasHeart 45 = .ok (.iconst 3, 1) := by decide +kernel
theorem d_Mo_hasHeart_46 : decode b_Mo_hasHeart 46 = .ok (.if_icmp .ne 29, 3) := by decide +kernel
theorem d_Mo_hasHeart_49 : decode b_Mo_hasHeart 49 = .ok (.iload 6, 2) := by decide +kernel
theorem d_Mo_hasHeart_51 : decode b_Mo_hasHeart 51 = .ok (.ifCond .le 24, 3) := by decide +kernel
theorem d_Mo_hasHeart_54 : decode b_Mo_hasHeart 54 = .ok (.aload_n 0, 1) := by decide +kernel
theorem d_Mo_hasHeart_55 : decode b_Mo_hasHeart 55 = .ok (.iload_n 2, 1) := by decide +kernel
theorem d_Mo_hasHeart_56 : decode b_Mo_hasHeart 56 = .ok (.aload_n 0, 1) := by decide +kernel
theorem d_Mo_hasHeart_57 : decode b_Mo_hasHeart 57 = .ok (.iload 5, 2) := by decide +kernel
theorem d_Mo_hasHeart_59 : decode b_Mo_hasHeart 59 = .ok (.invokevirtual 118, 3) := by decide +kernel
theorem d_Mo_hasHeart_62 : decode b_Mo_hasHeart 62 = .ok (.iload 4, 2) := by decide +kernel
theorem d_Mo_hasHeart_64 : decode b_Mo_hasHeart 64 = .ok (.invokevirtual 121, 3) := by decide +kernel
theorem d_Mo_hasHeart_67 : decode b_Mo_hasHeart 67 = .ok (.iload_n 3, 1) := by decide +kernel
theorem d_Mo_hasHeart_68 : decode b_Mo_hasHeart 68 = .ok (.if_icmp .ne 7, 3) := by decide +kernel
theorem d_Mo_hasHeart_71 : decode b_Mo_hasHeart 71 = .ok (.iconst 1, 1) := by decide +kernel
theorem d_Mo_hasHeart_72 : decode b_Mo_hasHeart 72 = .ok (.goto 4, 3) := by decide +kernel
theorem d_Mo_hasHeart_75 : decode b_Mo_hasHeart 75 = .ok (.iconst 0, 1) := by decide +kernel
theorem d_Mo_hasHeart_76 : decode b_Mo_hasHeart 76 = .ok (.ireturn, 1) := by decide +kernel
theorem d_Mo_sumOf_0 : decode b_Mo_sumOf 0 = .ok (.iconst 0, 1) := by decide +kernel
theorem d_Mo_sumOf_1 : decode b_Mo_sumOf 1 = .ok (.istore 4, 2) := by decide +kernel
theorem d_Mo_sumOf_3 : decode b_Mo_sumOf 3 = .ok (.iconst 0, 1) := by decide +kernel
theorem d_Mo_sumOf_4 : decode b_Mo_sumOf 4 = .ok (.istore 5, 2) := by decide +kernel
theorem d_Mo_sumOf_6 : decode b_Mo_sumOf 6 = .ok (.iload 5, 2) := by decide +kernel
theorem d_Mo_sumOf_8 : decode b_Mo_sumOf 8 = .ok (.aload_n 0, 1) := by decide +kernel
theorem d_Mo_sumOf_9 : decode b_Mo_sumOf 9 = .ok (.getfield 13, 3) := by decide +kernel
theorem d_Mo_sumOf_12 : decode b_Mo_sumOf 12 = .ok (.iconst 1, 1) := by decide +kernel
theorem d_Mo_sumOf_13 : decode b_Mo_sumOf 13 = .ok (.iaload, 1) := by decide +kernel
theorem d_Mo_sumOf_14 : decode b_Mo_sumOf 14 = .ok (.if_icmp .ge 32, 3) := by decide +kernel
theorem d_Mo_sumOf_17 : decode b_Mo_sumOf 17 = .ok (.iload 4, 2) := by decide +kernel
theorem d_Mo_sumOf_19 : decode b_Mo_sumOf 19 = .ok (.iload 5, 2) := by decide +kernel
theorem d_Mo_sumOf_21 : decode b_Mo_sumOf 21 = .ok (.iload_n 3, 1) := by decide +kernel
theorem d_Mo_sumOf_22 : decode b_Mo_sumOf 22 = .ok (.if_icmp .ne 7, 3) := by decide +kernel
theorem d_Mo_sumOf_25 : decode b_Mo_sumOf 25 = .ok (.iconst 0, 1) := by decide +kernel
theorem d_Mo_sumOf_26 : decode b_Mo_sumOf 26 = .ok (.goto 11, 3) := by decide +kernel
theorem d_Mo_sumOf_29 : decode b_Mo_sumOf 29 = .ok (.aload_n 0, 1) := by decide +kernel
theorem d_Mo_sumOf_30 : decode b_Mo_sumOf 30 = .ok (.iload 5, 2) := by decide +kernel
theorem d_Mo_sumOf_32 : decode b_Mo_sumOf 32 = .ok (.iload_n 1, 1) := by decide +kernel
theorem d_Mo_sumOf_33 : decode b_Mo_sumOf 33 = .ok (.iload_n 2, 1) := by decide +kernel
theorem d_Mo_sumOf_34 : decode b_Mo_sumOf 34 = .ok (.invokevirtual 114, 3) := by decide +kernel
theorem d_Mo_sumOf_37 : decode b_Mo_sumOf 37 = .ok (.iadd, 1) := by decide +kernel
theorem d_Mo_sumOf_38 : decode b_Mo_sumOf 38 = .ok (.istore 4, 2) := by decide +kernel
theorem d_Mo_sumOf_40 : decode b_Mo_sumOf 40 = .ok (.iinc 5 1, 3) := by decide +kernel
theorem d_Mo_sumOf_43 : decode b_Mo_sumOf 43 = .ok (.goto (-37), 3) := by decide +kernel
theorem d_Mo_sumOf_46 : decode b_Mo_sumOf 46 = .ok (.iload 4, 2) := by decide +kernel
theorem d_Mo_sumOf_48 : decode b_Mo_sumOf 48 = .ok (.ireturn, 1) := by decide +kernel
theorem d_Mo_mostToAll_0 : decode b_Mo_mostToAll 0 = .ok (.bipush (-4), 2) := by decide +kernel
theorem d_Mo_mostToAll_2 : decode b_Mo_mostToAll 2 = .ok (.istore 4, 2) := by decide +kernel
theorem d_Mo_mostToAll_4 : decode b_Mo_mostToAll 4 = .ok (.bipush (-4), 2) := by decide +kernel
theorem d_Mo_mostToAll_6 : decode b_Mo_mostToAll 6 = .ok (.istore 5, 2) := by decide +kernel
theorem d_Mo_mostToAll_8 : decode b_Mo_mostToAll 8 = .ok (.iconst 0, 1) := by decide +kernel
theorem d_Mo_mostToAll_9 : decode b_Mo_mostToAll 9 = .ok (.istore 6, 2) := by decide +kernel
theorem d_Mo_mostToAll_11 : decode b_Mo_mostToAll 11 = .ok (.iload 6, 2) := by decide +kernel
theorem d_Mo_mostToAll_13 : decode b_Mo_mostToAll 13 = .ok (.aload_n 0, 1) := by decide +kernel
theorem d_Mo_mostToAll_14 : decode b_Mo_mostToAll 14 = .ok (.getfield 13, 3) := by decide +kernel
theorem d_Mo_mostToAll_17 : decode b_Mo_mostToAll 17 = .ok (.iconst 0, 1) := by decide +kernel
theorem d_Mo_mostToAll_18 : decode b_Mo_mostToAll 18 = .ok (.iaload, 1) := by decide +kernel
theorem d_Mo_mostToAll_19 : decode b_Mo_mostToAll 19 = .ok (.if_icmp .ge 65, 3) := by decide +kernel
theorem d_Mo_mostToAll_22 : decode b_Mo_mostToAll 22 = .ok (.iload_n 1, 1) := by decide +kernel
theorem d_Mo_mostToAll_23 : decode b_Mo_mostToAll 23 = .ok (.iload 6, 2) := by decide +kernel
theorem d_Mo_mostToAll_25 : decode b_Mo_mostToAll 25 = .ok (.invokestatic 110, 3) := by decide +kernel
theorem d_Mo_mostToAll_28 : decode b_Mo_mostToAll 28 = .ok (.ifCond .eq 14, 3) := by decide +kernel
theorem d_Mo_mostToAll_31 : decode b_Mo_mostToAll 31 = .ok (.aload_n 0, 1) := by decide +kernel
theorem d_Mo_mostToAll_32 : decode b_Mo_mostToAll 32 = .ok (.iload 6, 2) := by decide +kernel
theorem d_Mo_mostToAll_34 : decode b_Mo_mostToAll 34 = .ok (.iload_n 2, 1) := by decide +kernel
theorem d_Mo_mostToAll_35 : decode b_Mo_mostToAll 35 = .ok (.iload_n 3, 1) := by decide +kernel
theorem d_Mo_mostToAll_36 : decode b_Mo_mostToAll 36 = .ok (.invokevirtual 124, 3) := by decide +kernel
theorem d_Mo_mostToAll_39 : decode b_Mo_mostToAll 39 = .ok (.goto 5, 3) := by decide +kernel
theorem d_Mo_mostToAll_42 : decode b_Mo_mostToAll 42 = .ok (.bipush (-4), 2) := by decide +kernel
theorem d_Mo_mostToAll_44 : decode b_Mo_mostToAll 44 = .ok (.istore 7, 2) := by decide +kernel
theorem d_Mo_mostToAll_46 : decode b_Mo_mostToAll 46 = .ok (.iload 7, 2) := by decide +kernel
theorem d_Mo_mostToAll_48 : decode b_Mo_mostToAll 48 = .ok (.iload 5, 2) := by decide +kernel
theorem d_Mo_mostToAll_50 : decode b_Mo_mostToAll 50 = .ok (.if_icmp .le 8, 3) := by decide +kernel
theorem d_Mo_mostToAll_53 : decode b_Mo_mostToAll 53 = .ok (.iload 6, 2) := by decide +kernel
theorem d_Mo_mostToAll_55 : decode b_Mo_mostToAll 55 = .ok (.goto 5, 3) := by decide +kernel
theorem d_Mo_mostToAll_58 : decode b_Mo_mostToAll 58 = .ok (.iload 4, 2) := by decide +kernel
theorem d_Mo_mostToAll_60 : decode b_Mo_mostToAll 60 = .ok (.istore 4, 2) := by decide +kernel
theorem d_Mo_mostToAll_62 : decode b_Mo_mostToAll 62 = .ok (.iload 7, 2) := by decide +kernel
theorem d_Mo_mostToAll_64 : decode b_Mo_mostToAll 64 = .ok (.iload 5, 2) := by decide +kernel
theorem d_Mo_mostToAll_66 : decode b_Mo_mostToAll 66 = .ok (.if_icmp .le 8, 3) := by decide +kernel
theorem d_Mo_mostToAll_69 : decode b_Mo_mostToAll 69 = .ok (.iload 7, 2) := by decide +kernel
theorem d_Mo_mostToAll_71 : decode b_Mo_mostToAll 71 = .ok (.goto 5, 3) := by decide +kernel
theorem d_Mo_mostToAll_74 : decode b_Mo_mostToAll 74 = .ok (.iload 5, 2) := by decide +kernel
theorem d_Mo_mostToAll_76 : decode b_Mo_mostToAll 76 = .ok (.istore 5, 2) := by decide +kernel
theorem d_Mo_mostToAll_78 : decode b_Mo_mostToAll 78 = .ok (.iinc 6 1, 3) := by decide +kernel
theorem d_Mo_mostToAll_81 : decode b_Mo_mostToAll 81 = .ok (.goto (-70), 3) := by decide +kernel
theorem d_Mo_mostToAll_84 : decode b_Mo_mostToAll 84 = .ok (.iload 4, 2) := by decide +kernel
theorem d_Mo_mostToAll_86 : decode b_Mo_mostToAll 86 = .ok (.ireturn, 1) := by decide +kernel
theorem d_Mo_guest_0 : decode b_Mo_guest 0 = .ok (.aload_n 0, 1) := by decide +kernel
theorem d_Mo_guest_1 : decode b_Mo_guest 1 = .ok (.iload_n 1, 1) := by decide +kernel
theorem d_Mo_guest_2 : decode b_Mo_guest 2 = .ok (.invokevirtual 127, 3) := by decide +kernel
theorem d_Mo_guest_5 : decode b_Mo_guest 5 = .ok (.ifCond .eq 15, 3) := by decide +kernel
theorem d_Mo_guest_8 : decode b_Mo_guest 8 = .ok (.iload_n 2, 1) := by decide +kernel
theorem d_Mo_guest_9 : decode b_Mo_guest 9 = .ok (.i2l, 1) := by decide +kernel
theorem d_Mo_guest_10 : decode b_Mo_guest 10 = .ok (.lconst 0, 1) := by decide +kernel
theorem d_Mo_guest_11 : decode b_Mo_guest 11 = .ok (.ldc2_w 76, 3) := by decide +kernel
theorem d_Mo_guest_14 : decode b_Mo_guest 14 = .ok (.invokestatic 55, 3) := by decide +kernel
theorem d_Mo_guest_17 : decode b_Mo_guest 17 = .ok (.ifCond .ne 5, 3) := by decide +kernel
theorem d_Mo_guest_20 : decode b_Mo_guest 20 = .ok (.iconst (-1), 1) := by decide +kernel
theorem d_Mo_guest_21 : decode b_Mo_guest 21 = .ok (.ireturn, 1) := by decide +kernel
theorem d_Mo_guest_22 : decode b_Mo_guest 22 = .ok (.iconst 0, 1) := by decide +kernel
theorem d_Mo_guest_23 : decode b_Mo_guest 23 = .ok (.istore_n 3, 1) := by decide +kernel
theorem d_Mo_guest_24 : decode b_Mo_guest 24 = .ok (.iconst 0, 1) := by decide +kernel
theorem d_Mo_guest_25 : decode b_Mo_guest 25 = .ok (.istore 4, 2) := by decide +kernel
theorem d_Mo_guest_27 : decode b_Mo_guest 27 = .ok (.iload 4, 2) := by decide +kernel
theorem d_Mo_guest_29 : decode b_Mo_guest 29 = .ok (.aload_n 0, 1) := by decide +kernel
theorem d_Mo_guest_30 : decode b_Mo_guest 30 = .ok (.getfield 13, 3) := by decide +kernel
theorem d_Mo_guest_33 : decode b_Mo_guest 33 = .ok (.iconst 0, 1) := by decide +kernel
theorem d_Mo_guest_34 : decode b_Mo_guest 34 = .ok (.iaload, 1) := by decide +kernel
theorem d_Mo_guest_35 : decode b_Mo_guest 35 = .ok (.if_icmp .ge 50, 3) := by decide +kernel
theorem d_Mo_guest_38 : decode b_Mo_guest 38 = .ok (.iload_n 3, 1) := by decide +kernel
theorem d_Mo_guest_39 : decode b_Mo_guest 39 = .ok (.aload_n 0, 1) := by decide +kernel
theorem d_Mo_guest_40 : decode b_Mo_guest 40 = .ok (.aload_n 0, 1) := by decide +kernel
theorem d_Mo_guest_41 : decode b_Mo_guest 41 = .ok (.getfield 13, 3) := by decide +kernel
theorem d_Mo_guest_44 : decode b_Mo_guest 44 = .ok (.iconst 5, 1) := by decide +kernel
theorem d_Mo_guest_45 : decode b_Mo_guest 45 = .ok (.iload_n 1, 1) := by decide +kernel
theorem d_Mo_guest_46 : decode b_Mo_guest 46 = .ok (.iadd, 1) := by decide +kernel
theorem d_Mo_guest_47 : decode b_Mo_guest 47 = .ok (.iaload, 1) := by decide +kernel
theorem d_Mo_guest_48 : decode b_Mo_guest 48 = .ok (.iload_n 1, 1) := by decide +kernel
theorem d_Mo_guest_49 : decode b_Mo_guest 49 = .ok (.iload 4, 2) := by decide +kernel
theorem d_Mo_guest_51 : decode b_Mo_guest 51 = .ok (.aload_n 0, 1) := by decide +kernel
theorem d_Mo_guest_52 : decode b_Mo_guest 52 = .ok (.getfield 19, 3) := by decide +kernel
theorem d_Mo_guest_55 : decode b_Mo_guest 55 = .ok (.iconst 0, 1) := by decide +kernel
theorem d_Mo_guest_56 : decode b_Mo_guest 56 = .ok (.iaload, 1) := by decide +kernel
theorem d_Mo_guest_57 : decode b_Mo_guest 57 = .ok (.aload_n 0, 1) := by decide +kernel
theorem d_Mo_guest_58 : decode b_Mo_guest 58 = .ok (.getfield 19, 3) := by decide +kernel
theorem d_Mo_guest_61 : decode b_Mo_guest 61 = .ok (.iconst 1, 1) := by decide +kernel
theorem d_Mo_guest_62 : decode b_Mo_guest 62 = .ok (.iaload, 1) := by decide +kernel
theorem d_Mo_guest_63 : decode b_Mo_guest 63 = .ok (.invokevirtual 130, 3) := by decide +kernel
theorem d_Mo_guest_66 : decode b_Mo_guest 66 = .ok (.ifCond .eq 10, 3) := by decide +kernel
theorem d_Mo_guest_69 : decode b_Mo_guest 69 = .ok (.iconst 1, 1) := by decide +kernel
theorem d_Mo_guest_70 : decode b_Mo_guest 70 = .ok (.iload 4, 2) := by decide +kernel
theorem d_Mo_guest_72 : decode b_Mo_guest 72 = .ok (.ishl, 1) := by decide +kernel
theorem d_Mo_guest_73 : decode b_Mo_guest 73 = .ok (.goto 4, 3) := by decide +kernel
theorem d_Mo_guest_76 : decode b_Mo_guest 76 = .ok (.iconst 0, 1) := by decide +kernel
theorem d_Mo_guest_77 : decode b_Mo_guest 77 = .ok (.ior, 1) := by decide +kernel
theorem d_Mo_guest_78 : decode b_Mo_guest 78 = .ok (.istore_n 3, 1) := by decide +kernel
theorem d_Mo_guest_79 : decode b_Mo_guest 79 = .ok (.iinc 4 1, 3) := by decide +kernel
theorem d_Mo_guest_82 : decode b_Mo_guest 82 = .ok (.goto (-55), 3) := by decide +kernel
theorem d_Mo_guest_85 : decode b_Mo_guest 85 = .ok (.iload_n 2, 1) := by decide +kernel
theorem d_Mo_guest_86 : decode b_Mo_guest 86 = .ok (.ifCond .ne 14, 3) := by decide +kernel
theorem d_Mo_guest_89 : decode b_Mo_guest 89 = .ok (.aload_n 0, 1) := by decide +kernel
theorem d_Mo_guest_90 : decode b_Mo_guest 90 = .ok (.getfield 13, 3) := by decide +kernel
theorem d_Mo_guest_93 : decode b_Mo_guest 93 = .ok (.iconst 5, 1) := by decide +kernel
theorem d_Mo_guest_94 : decode b_Mo_guest 94 = .ok (.iload_n 1, 1) := by decide +kernel
theorem d_Mo_guest_95 : decode b_Mo_guest 95 = .ok (.iadd, 1) := by decide +kernel
theorem d_Mo_guest_96 : decode b_Mo_guest 96 = .ok (.iaload, 1) := by decide +kernel
theorem d_Mo_guest_97 : decode b_Mo_guest 97 = .ok (.goto 49, 3) := by decide +kernel
theorem d_Mo_guest_100 : decode b_Mo_guest 100 = .ok (.iload_n 2, 1) := by decide +kernel
theorem d_Mo_guest_101 : decode b_Mo_guest 101 = .ok (.iconst 1, 1) := by decide +kernel
theorem d_Mo_guest_102 : decode b_Mo_guest 102 = .ok (.if_icmp .ne 14, 3) := by decide +kernel
theorem d_Mo_guest_105 : decode b_Mo_guest 105 = .ok (.aload_n 0, 1) := by decide +kernel
theorem d_Mo_guest_106 : decode b_Mo_guest 106 = .ok (.getfield 19, 3) := by decide +kernel
theorem d_Mo_guest_109 : decode b_Mo_guest 109 = .ok (.iconst 3, 1) := by decide +kernel
theorem d_Mo_guest_110 : decode b_Mo_guest 110 = .ok (.iload_n 1, 1) := by decide +kernel
theorem d_Mo_guest_111 : decode b_Mo_guest 111 = .ok (.iadd, 1) := by decide +kernel
theorem d_Mo_guest_112 : decode b_Mo_guest 112 = .ok (.iaload, 1) := by decide +kernel
theorem d_Mo_guest_113 : decode b_Mo_guest 113 = .ok (.goto 33, 3) := by decide +kernel
theorem d_Mo_guest_116 : decode b_Mo_guest 116 = .ok (.iload_n 2, 1) := by decide +kernel
theorem d_Mo_guest_117 : decode b_Mo_guest 117 = .ok (.iconst 2, 1) := by decide +kernel
theorem d_Mo_guest_118 : decode b_Mo_guest 118 = .ok (.if_icmp .ne 7, 3) := by decide +kernel
theorem d_Mo_guest_121 : decode b_Mo_guest 121 = .ok (.iload_n 3, 1) := by decide +kernel
theorem d_Mo_guest_122 : decode b_Mo_guest 122 = .ok (.goto 24, 3) := by decide +kernel
theorem d_Mo_guest_125 : decode b_Mo_guest 125 = .ok (.aload_n 0, 1) := by decide +kernel
theorem d_Mo_guest_126 : decode b_Mo_guest 126 = .ok (.iload_n 1, 1) := by decide +kernel
theorem d_Mo_guest_127 : decode b_Mo_guest 127 = .ok (.aload_n 0, 1) := by decide +kernel
theorem d_Mo_guest_128 : decode b_Mo_guest 128 = .ok (.aload_n 0, 1) := by decide +kernel
theorem d_Mo_guest_129 : decode b_Mo_guest 129 = .ok (.getfield 19, 3) := by decide +kernel
theorem d_Mo_guest_132 : decode b_Mo_guest 132 = .ok (.iconst 1, 1) := by decide +kernel
theorem d_Mo_guest_133 : decode b_Mo_guest 133 = .ok (.iaload, 1) := by decide +kernel
theorem d_Mo_guest_134 : decode b_Mo_guest 134 = .ok (.invokevirtual 118, 3) := by decide +kernel
theorem d_Mo_guest_137 : decode b_Mo_guest 137 = .ok (.aload_n 0, 1) := by decide +kernel
theorem d_Mo_guest_138 : decode b_Mo_guest 138 = .ok (.getfield 19, 3) := by decide +kernel
theorem d_Mo_guest_141 : decode b_Mo_guest 141 = .ok (.iconst 0, 1) := by decide +kernel
theorem d_Mo_guest_142 : decode b_Mo_guest 142 = .ok (.iaload, 1) := by decide +kernel
theorem d_Mo_guest_143 : decode b_Mo_guest 143 = .ok (.invokevirtual 121, 3) := by decide +kernel
theorem d_Mo_guest_146 : decode b_Mo_guest 146 = .ok (.ireturn, 1) := by decide +kernel
theorem d_Mo_dish_0 : decode b_Mo_dish 0 = .ok (.aload_n 0, 1) := by decide +kernel
theorem d_Mo_dish_1 : decode b_Mo_dish 1 = .ok (.iload_n 1, 1) := by decide +kernel
theorem d_Mo_dish_2 : decode b_Mo_dish 2 = .ok (.invokevirtual 134, 3) := by decide +kernel
theorem d_Mo_dish_5 : decode b_Mo_dish 5 = .ok (.ifCond .eq 15, 3) := by decide +kernel
theorem d_Mo_dish_8 : decode b_Mo_dish 8 = .ok (.iload_n 2, 1) := by decide +kernel
theorem d_Mo_dish_9 : decode b_Mo_dish 9 = .ok (.i2l, 1) := by decide +kernel
theorem d_Mo_dish_10 : decode b_Mo_dish 10 = .ok (.lconst 0, 1) := by decide +kernel
theorem d_Mo_dish_11 : decode b_Mo_dish 11 = .ok (.ldc2_w 76, 3) := by decide +kernel
theorem d_Mo_dish_14 : decode b_Mo_dish 14 = .ok (.invokestatic 55, 3) := by decide +kernel
theorem d_Mo_dish_17 : decode b_Mo_dish 17 = .ok (.ifCond .ne 5, 3) := by decide +kernel
theorem d_Mo_dish_20 : decode b_Mo_dish 20 = .ok (.iconst (-1), 1) := by decide +kernel
theorem d_Mo_dish_21 : decode b_Mo_dish 21 = .ok (.ireturn, 1) := by decide +kernel
theorem d_Mo_dish_22 : decode b_Mo_dish 22 = .ok (.iconst 0, 1) := by decide +kernel
theorem d_Mo_dish_23 : decode b_Mo_dish 23 = .ok (.istore_n 3, 1) := by decide +kernel
theorem d_Mo_dish_24 : decode b_Mo_dish 24 = .ok (.iconst 0, 1) := by decide +kernel
theorem d_Mo_dish_25 : decode b_Mo_dish 25 = .ok (.istore 4, 2) := by decide +kernel
theorem d_Mo_dish_27 : decode b_Mo_dish 27 = .ok (.iload 4, 2) := by decide +kernel
theorem d_Mo_dish_29 : decode b_Mo_dish 29 = .ok (.aload_n 0, 1) := by decide +kernel
theorem d_Mo_dish_30 : decode b_Mo_dish 30 = .ok (.getfield 13, 3) := by decide +kernel
theorem d_Mo_dish_33 : decode b_Mo_dish 33 = .ok (.iconst 1, 1) := by decide +kernel
theorem d_Mo_dish_34 : decode b_Mo_dish 34 = .ok (.iaload, 1) := by decide +kernel
theorem d_Mo_dish_35 : decode b_Mo_dish 35 = .ok (.if_icmp .ge 48, 3) := by decide +kernel
theorem d_Mo_dish_38 : decode b_Mo_dish 38 = .ok (.iload_n 3, 1) := by decide +kernel
theorem d_Mo_dish_39 : decode b_Mo_dish 39 = .ok (.aload_n 0, 1) := by decide +kernel
theorem d_Mo_dish_40 : decode b_Mo_dish 40 = .ok (.aload_n 0, 1) := by decide +kernel
theorem d_Mo_dish_41 : decode b_Mo_dish 41 = .ok (.getfield 13, 3) := by decide +kernel
theorem d_Mo_dish_44 : decode b_Mo_dish 44 = .ok (.iconst 5, 1) := by decide +kernel
theorem d_Mo_dish_45 : decode b_Mo_dish 45 = .ok (.iload 4, 2) := by decide +kernel
theorem d_Mo_dish_47 : decode b_Mo_dish 47 = .ok (.iadd, 1) := by decide +kernel
theorem d_Mo_dish_48 : decode b_Mo_dish 48 = .ok (.iaload, 1) := by decide +kernel
theorem d_Mo_dish_49 : decode b_Mo_dish 49 = .ok (.iload 4, 2) := by decide +kernel
theorem d_Mo_dish_51 : decode b_Mo_dish 51 = .ok (.iload_n 1, 1) := by decide +kernel
theorem d_Mo_dish_52 : decode b_Mo_dish 52 = .ok (.aload_n 0, 1) := by decide +kernel
theorem d_Mo_dish_53 : decode b_Mo_dish 53 = .ok (.getfield 19, 3) := by decide +kernel
theorem d_Mo_dish_56 : decode b_Mo_dish 56 = .ok (.iconst 0, 1) := by decide +kernel
theorem d_Mo_dish_57 : decode b_Mo_dish 57 = .ok (.iaload, 1) := by decide +kernel
theorem d_Mo_dish_58 : decode b_Mo_dish 58 = .ok (.aload_n 0, 1) := by decide +kernel
theorem d_Mo_dish_59 : decode b_Mo_dish 59 = .ok (.getfield 19, 3) := by decide +kernel
theorem d_Mo_dish_62 : decode b_Mo_dish 62 = .ok (.iconst 1, 1) := by decide +kernel
theorem d_Mo_dish_63 : decode b_Mo_dish 63 = .ok (.iaload, 1) := by decide +kernel
theorem d_Mo_dish_64 : decode b_Mo_dish 64 = .ok (.invokevirtual 130, 3) := by decide +kernel
theorem d_Mo_dish_67 : decode b_Mo_dish 67 = .ok (.ifCond .eq 7, 3) := by decide +kernel
theorem d_Mo_dish_70 : decode b_Mo_dish 70 = .ok (.iconst 1, 1) := by decide +kernel
theorem d_Mo_dish_71 : decode b_Mo_dish 71 = .ok (.goto 4, 3) := by decide +kernel
theorem d_Mo_dish_74 : decode b_Mo_dish 74 = .ok (.iconst 0, 1) := by decide +kernel
theorem d_Mo_dish_75 : decode b_Mo_dish 75 = .ok (.iadd, 1) := by decide +kernel
theorem d_Mo_dish_76 : decode b_Mo_dish 76 = .ok (.istore_n 3, 1) := by decide +kernel
theorem d_Mo_dish_77 : decode b_Mo_dish 77 = .ok (.iinc 4 1, 3) := by decide +kernel
theorem d_Mo_dish_80 : decode b_Mo_dish 80 = .ok (.goto (-53), 3) := by decide +kernel
theorem d_Mo_dish_83 : decode b_Mo_dish 83 = .ok (.iload_n 2, 1) := by decide +kernel
theorem d_Mo_dish_84 : decode b_Mo_dish 84 = .ok (.ifCond .ne 15, 3) := by decide +kernel
theorem d_Mo_dish_87 : decode b_Mo_dish 87 = .ok (.aload_n 0, 1) := by decide +kernel
theorem d_Mo_dish_88 : decode b_Mo_dish 88 = .ok (.getfield 13, 3) := by decide +kernel
theorem d_Mo_dish_91 : decode b_Mo_dish 91 = .ok (.bipush 14, 2) := by decide +kernel
theorem d_Mo_dish_93 : decode b_Mo_dish 93 = .ok (.iload_n 1, 1) := by decide +kernel
theorem d_Mo_dish_94 : decode b_Mo_dish 94 = .ok (.iadd, 1) := by decide +kernel
theorem d_Mo_dish_95 : decode b_Mo_dish 95 = .ok (.iaload, 1) := by decide +kernel
theorem d_Mo_dish_96 : decode b_Mo_dish 96 = .ok (.goto 43, 3) := by decide +kernel
theorem d_Mo_dish_99 : decode b_Mo_dish 99 = .ok (.iload_n 2, 1) := by decide +kernel
theorem d_Mo_dish_100 : decode b_Mo_dish 100 = .ok (.iconst 1, 1) := by decide +kernel
theorem d_Mo_dish_101 : decode b_Mo_dish 101 = .ok (.if_icmp .ne 16, 3) := by decide +kernel
theorem d_Mo_dish_104 : decode b_Mo_dish 104 = .ok (.aload_n 0, 1) := by decide +kernel
theorem d_Mo_dish_105 : decode b_Mo_dish 105 = .ok (.getfield 19, 3) := by decide +kernel
theorem d_Mo_dish_108 : decode b_Mo_dish 108 = .ok (.iconst 1, 1) := by decide +kernel
theorem d_Mo_dish_109 : decode b_Mo_dish 109 = .ok (.iaload, 1) := by decide +kernel
theorem d_Mo_dish_110 : decode b_Mo_dish 110 = .ok (.iload_n 1, 1) := by decide +kernel
theorem d_Mo_dish_111 : decode b_Mo_dish 111 = .ok (.ishr, 1) := by decide +kernel
theorem d_Mo_dish_112 : decode b_Mo_dish 112 = .ok (.iconst 1, 1) := by decide +kernel
theorem d_Mo_dish_113 : decode b_Mo_dish 113 = .ok (.iand, 1) := by decide +kernel
theorem d_Mo_dish_114 : decode b_Mo_dish 114 = .ok (.goto 25, 3) := by decide +kernel
theorem d_Mo_dish_117 : decode b_Mo_dish 117 = .ok (.iload_n 2, 1) := by decide +kernel
theorem d_Mo_dish_118 : decode b_Mo_dish 118 = .ok (.iconst 2, 1) := by decide +kernel
theorem d_Mo_dish_119 : decode b_Mo_dish 119 = .ok (.if_icmp .ne 7, 3) := by decide +kernel
theorem d_Mo_dish_122 : decode b_Mo_dish 122 = .ok (.iload_n 3, 1) := by decide +kernel
theorem d_Mo_dish_123 : decode b_Mo_dish 123 = .ok (.goto 16, 3) := by decide +kernel
theorem d_Mo_dish_126 : decode b_Mo_dish 126 = .ok (.aload_n 0, 1) := by decide +kernel
theorem d_Mo_dish_127 : decode b_Mo_dish 127 = .ok (.iload_n 1, 1) := by decide +kernel
theorem d_Mo_dish_128 : decode b_Mo_dish 128 = .ok (.aload_n 0, 1) := by decide +kernel
theorem d_Mo_dish_129 : decode b_Mo_dish 129 = .ok (.getfield 19, 3) := by decide +kernel
theorem d_Mo_dish_132 : decode b_Mo_dish 132 = .ok (.iconst 0, 1) := by decide +kernel
theorem d_Mo_dish_133 : decode b_Mo_dish 133 = .ok (.iaload, 1) := by decide +kernel
theorem d_Mo_dish_134 : decode b_Mo_dish 134 = .ok (.bipush (-4), 2) := by decide +kernel
theorem d_Mo_dish_136 : decode b_Mo_dish 136 = .ok (.invokevirtual 124, 3) := by decide +kernel
theorem d_Mo_dish_139 : decode b_Mo_dish 139 = .ok (.ireturn, 1) := by decide +kernel
theorem d_Mo_worth_0 : decode b_Mo_worth 0 = .ok (.aload_n 0, 1) := by decide +kernel
theorem d_Mo_worth_1 : decode b_Mo_worth 1 = .ok (.iload_n 1, 1) := by decide +kernel
theorem d_Mo_worth_2 : decode b_Mo_worth 2 = .ok (.invokevirtual 127, 3) := by decide +kernel
theorem d_Mo_worth_5 : decode b_Mo_worth 5 = .ok (.ifCond .eq 26, 3) := by decide +kernel
theorem d_Mo_worth_8 : decode b_Mo_worth 8 = .ok (.aload_n 0, 1) := by decide +kernel
theorem d_Mo_worth_9 : decode b_Mo_worth 9 = .ok (.iload_n 2, 1) := by decide +kernel
theorem d_Mo_worth_10 : decode b_Mo_worth 10 = .ok (.invokevirtual 134, 3) := by decide +kernel
theorem d_Mo_worth_13 : decode b_Mo_worth 13 = .ok (.ifCond .eq 18, 3) := by decide +kernel
theorem d_Mo_worth_16 : decode b_Mo_worth 16 = .ok (.aload_n 0, 1) := by decide +kernel
theorem d_Mo_worth_17 : decode b_Mo_worth 17 = .ok (.iload_n 1, 1) := by decide +kernel
theorem d_Mo_worth_18 : decode b_Mo_worth 18 = .ok (.iload_n 2, 1) := by decide +kernel
theorem d_Mo_worth_19 : decode b_Mo_worth 19 = .ok (.aload_n 0, 1) := by decide +kernel
theorem d_Mo_worth_20 : decode b_Mo_worth 20 = .ok (.getfield 19, 3) := by decide +kernel
theorem d_Mo_worth_23 : decode b_Mo_worth 23 = .ok (.iconst 0, 1) := by decide +kernel
theorem d_Mo_worth_24 : decode b_Mo_worth 24 = .ok (.iaload, 1) := by decide +kernel
theorem d_Mo_worth_25 : decode b_Mo_worth 25 = .ok (.invokevirtual 114, 3) := by decide +kernel
theorem d_Mo_worth_28 : decode b_Mo_worth 28 = .ok (.goto 4, 3) := by decide +kernel
theorem d_Mo_worth_31 : decode b_Mo_worth 31 = .ok (.iconst (-1), 1) := by decide +kernel
theorem d_Mo_worth_32 : decode b_Mo_worth 32 = .ok (.ireturn, 1) := by decide +kernel
theorem d_Mo_note_0 : decode b_Mo_note 0 = .ok (.aload_n 0, 1) := by decide +kernel
theorem d_Mo_note_1 : decode b_Mo_note 1 = .ok (.getfield 104, 3) := by decide +kernel
theorem d_Mo_note_4 : decode b_Mo_note 4 = .ok (.bipush 8, 2) := by decide +kernel
theorem d_Mo_note_6 : decode b_Mo_note 6 = .ok (.if_icmp .ne 42, 3) := by decide +kernel
theorem d_Mo_note_9 : decode b_Mo_note 9 = .ok (.iconst 0, 1) := by decide +kernel
theorem d_Mo_note_10 : decode b_Mo_note 10 = .ok (.istore_n 1, 1) := by decide +kernel
theorem d_Mo_note_11 : decode b_Mo_note 11 = .ok (.iload_n 1, 1) := by decide +kernel
theorem d_Mo_note_12 : decode b_Mo_note 12 = .ok (.bipush 84, 2) := by decide +kernel
theorem d_Mo_note_14 : decode b_Mo_note 14 = .ok (.if_icmp .ge 24, 3) := by decide +kernel
theorem d_Mo_note_17 : decode b_Mo_note 17 = .ok (.aload_n 0, 1) := by decide +kernel
theorem d_Mo_note_18 : decode b_Mo_note 18 = .ok (.getfield 22, 3) := by decide +kernel
theorem d_Mo_note_21 : decode b_Mo_note 21 = .ok (.iload_n 1, 1) := by decide +kernel
theorem d_Mo_note_22 : decode b_Mo_note 22 = .ok (.aload_n 0, 1) := by decide +kernel
theorem d_Mo_note_23 : decode b_Mo_note 23 = .ok (.getfield 22, 3) := by decide +kernel
theorem d_Mo_note_26 : decode b_Mo_note 26 = .ok (.bipush 12, 2) := by decide +kernel
theorem d_Mo_note_28 : decode b_Mo_note 28 = .ok (.iload_n 1, 1) := by decide +kernel
theorem d_Mo_note_29 : decode b_Mo_note 29 = .ok (.iadd, 1) := by decide +kernel
theorem d_Mo_note_30 : decode b_Mo_note 30 = .ok (.iaload, 1) := by decide +kernel
theorem d_Mo_note_31 : decode b_Mo_note 31 = .ok (.iastore, 1) := by decide +kernel
theorem d_Mo_note_32 : decode b_Mo_note 32 = .ok (.iinc 1 1, 3) := by decide +kernel
theorem d_Mo_note_35 : decode b_Mo_note 35 = .ok (.goto (-24), 3) := by decide +kernel
theorem d_Mo_note_38 : decode b_Mo_note 38 = .ok (.aload_n 0, 1) := by decide +kernel
theorem d_Mo_note_39 : decode b_Mo_note 39 = .ok (.dup, 1) := by decide +kernel
theorem d_Mo_note_40 : decode b_Mo_note 40 = .ok (.getfield 104, 3) := by decide +kernel
theorem d_Mo_note_43 : decode b_Mo_note 43 = .ok (.iconst 1, 1) := by decide +kernel
theorem d_Mo_note_44 : decode b_Mo_note 44 = .ok (.isub, 1) := by decide +kernel
theorem d_Mo_note_45 : decode b_Mo_note 45 = .ok (.putfield 104, 3) := by decide +kernel
theorem d_Mo_note_48 : decode b_Mo_note 48 = .ok (.iconst 0, 1) := by decide +kernel
theorem d_Mo_note_49 : decode b_Mo_note 49 = .ok (.istore_n 1, 1) := by decide +kernel
theorem d_Mo_note_50 : decode b_Mo_note 50 = .ok (.iload_n 1, 1) := by decide +kernel
theorem d_Mo_note_51 : decode b_Mo_note 51 = .ok (.bipush 12, 2) := by decide +kernel
theorem d_Mo_note_53 : decode b_Mo_note 53 = .ok (.if_icmp .ge 29, 3) := by decide +kernel
theorem d_Mo_note_56 : decode b_Mo_note 56 = .ok (.aload_n 0, 1) := by decide +kernel
theorem d_Mo_note_57 : decode b_Mo_note 57 = .ok (.getfield 22, 3) := by decide +kernel
theorem d_Mo_note_60 : decode b_Mo_note 60 = .ok (.bipush 12, 2) := by decide +kernel
theorem d_Mo_note_62 : decode b_Mo_note 62 = .ok (.aload_n 0, 1) := by decide +kernel
theorem d_Mo_note_63 : decode b_Mo_note 63 = .ok (.getfield 104, 3) := by decide +kernel
theorem d_Mo_note_66 : decode b_Mo_note 66 = .ok (.imul, 1) := by decide +kernel
theorem d_Mo_note_67 : decode b_Mo_note 67 = .ok (.iload_n 1, 1) := by decide +kernel
theorem d_Mo_note_68 : decode b_Mo_note 68 = .ok (.iadd, 1) := by decide +kernel
theorem d_Mo_note_69 : decode b_Mo_note 69 = .ok (.aload_n 0, 1) := by decide +kernel
theorem d_Mo_note_70 : decode b_Mo_note 70 = .ok (.getfield 19, 3) := by decide +kernel
theorem d_Mo_note_73 : decode b_Mo_note 73 = .ok (.iload_n 1, 1) := by decide +kernel
theorem d_Mo_note_74 : decode b_Mo_note 74 = .ok (.iaload, 1) := by decide +kernel
theorem d_Mo_note_75 : decode b_Mo_note 75 = .ok (.iastore, 1) := by decide +kernel
theorem d_Mo_note_76 : decode b_Mo_note 76 = .ok (.iinc 1 1, 3) := by decide +kernel
theorem d_Mo_note_79 : decode b_Mo_note 79 = .ok (.goto (-29), 3) := by decide +kernel
theorem d_Mo_note_82 : decode b_Mo_note 82 = .ok (.aload_n 0, 1) := by decide +kernel
theorem d_Mo_note_83 : decode b_Mo_note 83 = .ok (.dup, 1) := by decide +kernel
theorem d_Mo_note_84 : decode b_Mo_note 84 = .ok (.getfield 104, 3) := by decide +kernel
theorem d_Mo_note_87 : decode b_Mo_note 87 = .ok (.iconst 1, 1) := by decide +kernel
theorem d_Mo_note_88 : decode b_Mo_note 88 = .ok (.iadd, 1) := by decide +kernel
theorem d_Mo_note_89 : decode b_Mo_note 89 = .ok (.putfield 104, 3) := by decide +kernel
theorem d_Mo_note_92 : decode b_Mo_note 92 = .ok (.return_, 1) := by decide +kernel
theorem d_Mo_pass_0 : decode b_Mo_pass 0 = .ok (.iload_n 1, 1) := by decide +kernel
theorem d_Mo_pass_1 : decode b_Mo_pass 1 = .ok (.i2l, 1) := by decide +kernel
theorem d_Mo_pass_2 : decode b_Mo_pass 2 = .ok (.lconst 1, 1) := by decide +kernel
theorem d_Mo_pass_3 : decode b_Mo_pass 3 = .ok (.ldc2_w 137, 3) := by decide +kernel
theorem d_Mo_pass_6 : decode b_Mo_pass 6 = .ok (.invokestatic 55, 3) := by decide +kernel
theorem d_Mo_pass_9 : decode b_Mo_pass 9 = .ok (.ifCond .ne 5, 3) := by decide +kernel
theorem d_Mo_pass_12 : decode b_Mo_pass 12 = .ok (.iconst (-1), 1) := by decide +kernel
theorem d_Mo_pass_13 : decode b_Mo_pass 13 = .ok (.ireturn, 1) := by decide +kernel
theorem d_Mo_pass_14 : decode b_Mo_pass 14 = .ok (.aload_n 0, 1) := by decide +kernel
theorem d_Mo_pass_15 : decode b_Mo_pass 15 = .ok (.getfield 19, 3) := by decide +kernel
theorem d_Mo_pass_18 : decode b_Mo_pass 18 = .ok (.iconst 0, 1) := by decide +kernel
theorem d_Mo_pass_19 : decode b_Mo_pass 19 = .ok (.iaload, 1) := by decide +kernel
theorem d_Mo_pass_20 : decode b_Mo_pass 20 = .ok (.iload_n 1, 1) := by decide +kernel
theorem d_Mo_pass_21 : decode b_Mo_pass 21 = .ok (.iadd, 1) := by decide +kernel
theorem d_Mo_pass_22 : decode b_Mo_pass 22 = .ok (.bipush 99, 2) := by decide +kernel
theorem d_Mo_pass_24 : decode b_Mo_pass 24 = .ok (.if_icmp .gt 12, 3) := by decide +kernel
theorem d_Mo_pass_27 : decode b_Mo_pass 27 = .ok (.aload_n 0, 1) := by decide +kernel
theorem d_Mo_pass_28 : decode b_Mo_pass 28 = .ok (.getfield 19, 3) := by decide +kernel
theorem d_Mo_pass_31 : decode b_Mo_pass 31 = .ok (.iconst 2, 1) := by decide +kernel
theorem d_Mo_pass_32 : decode b_Mo_pass 32 = .ok (.iaload, 1) := by decide +kernel
theorem d_Mo_pass_33 : decode b_Mo_pass 33 = .ok (.ifCond .lt 6, 3) := by decide +kernel
theorem d_Mo_pass_36 : decode b_Mo_pass 36 = .ok (.bipush (-2), 2) := by decide +kernel
theorem d_Mo_pass_38 : decode b_Mo_pass 38 = .ok (.ireturn, 1) := by decide +kernel
theorem d_Mo_pass_39 : decode b_Mo_pass 39 = .ok (.aload_n 0, 1) := by decide +kernel
theorem d_Mo_pass_40 : decode b_Mo_pass 40 = .ok (.invokevirtual 139, 3) := by decide +kernel
theorem d_Mo_pass_43 : decode b_Mo_pass 43 = .ok (.aload_n 0, 1) := by decide +kernel
theorem d_Mo_pass_44 : decode b_Mo_pass 44 = .ok (.getfield 19, 3) := by decide +kernel
theorem d_Mo_pass_47 : decode b_Mo_pass 47 = .ok (.iconst 0, 1) := by decide +kernel
theorem d_Mo_pass_48 : decode b_Mo_pass 48 = .ok (.dup2, 1) := by decide +kernel
theorem d_Mo_pass_49 : decode b_Mo_pass 49 = .ok (.iaload, 1) := by decide +kernel
theorem d_Mo_pass_50 : decode b_Mo_pass 50 = .ok (.iload_n 1, 1) := by decide +kernel
theorem d_Mo_pass_51 : decode b_Mo_pass 51 = .ok (.iadd, 1) := by decide +kernel
theorem d_Mo_pass_52 : decode b_Mo_pass 52 = .ok (.iastore, 1) := by decide +kernel
theorem d_Mo_pass_53 : decode b_Mo_pass 53 = .ok (.aload_n 0, 1) := by decide +kernel
theorem d_Mo_pass_54 : decode b_Mo_pass 54 = .ok (.getfield 19, 3) := by decide +kernel
theorem d_Mo_pass_57 : decode b_Mo_pass 57 = .ok (.iconst 0, 1) := by decide +kernel
theorem d_Mo_pass_58 : decode b_Mo_pass 58 = .ok (.iaload, 1) := by decide +kernel
theorem d_Mo_pass_59 : decode b_Mo_pass 59 = .ok (.ireturn, 1) := by decide +kernel
theorem d_Mo_veto_0 : decode b_Mo_veto 0 = .ok (.aload_n 0, 1) := by decide +kernel
theorem d_Mo_veto_1 : decode b_Mo_veto 1 = .ok (.iload_n 1, 1) := by decide +kernel
theorem d_Mo_veto_2 : decode b_Mo_veto 2 = .ok (.invokevirtual 127, 3) := by decide +kernel
theorem d_Mo_veto_5 : decode b_Mo_veto 5 = .ok (.ifCond .eq 11, 3) := by decide +kernel
theorem d_Mo_veto_8 : decode b_Mo_veto 8 = .ok (.aload_n 0, 1) := by decide +kernel
theorem d_Mo_veto_9 : decode b_Mo_veto 9 = .ok (.iload_n 2, 1) := by decide +kernel
theorem d_Mo_veto_10 : decode b_Mo_veto 10 = .ok (.invokevirtual 134, 3) := by decide +kernel
theorem d_Mo_veto_13 : decode b_Mo_veto 13 = .ok (.ifCond .ne 5, 3) := by decide +kernel
theorem d_Mo_veto_16 : decode b_Mo_veto 16 = .ok (.iconst (-1), 1) := by decide +kernel
theorem d_Mo_veto_17 : decode b_Mo_veto 17 = .ok (.ireturn, 1) := by decide +kernel
theorem d_Mo_veto_18 : decode b_Mo_veto 18 = .ok (.aload_n 0, 1) := by decide +kernel
theorem d_Mo_veto_19 : decode b_Mo_veto 19 = .ok (.aload_n 0, 1) := by decide +kernel
theorem d_Mo_veto_20 : decode b_Mo_veto 20 = .ok (.getfield 19, 3) := by decide +kernel
theorem d_Mo_veto_23 : decode b_Mo_veto 23 = .ok (.iconst 1, 1) := by decide +kernel
theorem d_Mo_veto_24 : decode b_Mo_veto 24 = .ok (.iaload, 1) := by decide +kernel
theorem d_Mo_veto_25 : decode b_Mo_veto 25 = .ok (.invokevirtual 118, 3) := by decide +kernel
theorem d_Mo_veto_28 : decode b_Mo_veto 28 = .ok (.istore_n 3, 1) := by decide +kernel
theorem d_Mo_veto_29 : decode b_Mo_veto 29 = .ok (.iload_n 3, 1) := by decide +kernel
theorem d_Mo_veto_30 : decode b_Mo_veto 30 = .ok (.iload_n 2, 1) := by decide +kernel
theorem d_Mo_veto_31 : decode b_Mo_veto 31 = .ok (.invokestatic 110, 3) := by decide +kernel
theorem d_Mo_veto_34 : decode b_Mo_veto 34 = .ok (.ifCond .eq 31, 3) := by decide +kernel
theorem d_Mo_veto_37 : decode b_Mo_veto 37 = .ok (.aload_n 0, 1) := by decide +kernel
theorem d_Mo_veto_38 : decode b_Mo_veto 38 = .ok (.getfield 19, 3) := by decide +kernel
theorem d_Mo_veto_41 : decode b_Mo_veto 41 = .ok (.iconst 3, 1) := by decide +kernel
theorem d_Mo_veto_42 : decode b_Mo_veto 42 = .ok (.iload_n 1, 1) := by decide +kernel
theorem d_Mo_veto_43 : decode b_Mo_veto 43 = .ok (.iadd, 1) := by decide +kernel
theorem d_Mo_veto_44 : decode b_Mo_veto 44 = .ok (.iaload, 1) := by decide +kernel
theorem d_Mo_veto_45 : decode b_Mo_veto 45 = .ok (.ifCond .eq 20, 3) := by decide +kernel
theorem d_Mo_veto_48 : decode b_Mo_veto 48 = .ok (.iload_n 3, 1) := by decide +kernel
theorem d_Mo_veto_49 : decode b_Mo_veto 49 = .ok (.invokestatic 142, 3) := by decide +kernel
theorem d_Mo_veto_52 : decode b_Mo_veto 52 = .ok (.iconst 2, 1) := by decide +kernel
theorem d_Mo_veto_53 : decode b_Mo_veto 53 = .ok (.if_icmp .lt 12, 3) := by decide +kernel
theorem d_Mo_veto_56 : decode b_Mo_veto 56 = .ok (.aload_n 0, 1) := by decide +kernel
theorem d_Mo_veto_57 : decode b_Mo_veto 57 = .ok (.getfield 19, 3) := by decide +kernel
theorem d_Mo_veto_60 : decode b_Mo_veto 60 = .ok (.iconst 2, 1) := by decide +kernel
theorem d_Mo_veto_61 : decode b_Mo_veto 61 = .ok (.iaload, 1) := by decide +kernel
theorem d_Mo_veto_62 : decode b_Mo_veto 62 = .ok (.ifCond .lt 6, 3) := by decide +kernel
theorem d_Mo_veto_65 : decode b_Mo_veto 65 = .ok (.bipush (-2), 2) := by decide +kernel
theorem d_Mo_veto_67 : decode b_Mo_veto 67 = .ok (.ireturn, 1) := by decide +kernel
theorem d_Mo_veto_68 : decode b_Mo_veto 68 = .ok (.aload_n 0, 1) := by decide +kernel
theorem d_Mo_veto_69 : decode b_Mo_veto 69 = .ok (.invokevirtual 139, 3) := by decide +kernel
theorem d_Mo_veto_72 : decode b_Mo_veto 72 = .ok (.aload_n 0, 1) := by decide +kernel
theorem d_Mo_veto_73 : decode b_Mo_veto 73 = .ok (.getfield 19, 3) := by decide +kernel
theorem d_Mo_veto_76 : decode b_Mo_veto 76 = .ok (.iconst 1, 1) := by decide +kernel
theorem d_Mo_veto_77 : decode b_Mo_veto 77 = .ok (.dup2, 1) := by decide +kernel
theorem d_Mo_veto_78 : decode b_Mo_veto 78 = .ok (.iaload, 1) := by decide +kernel
theorem d_Mo_veto_79 : decode b_Mo_veto 79 = .ok (.iconst 1, 1) := by decide +kernel
theorem d_Mo_veto_80 : decode b_Mo_veto 80 = .ok (.iload_n 2, 1) := by decide +kernel
theorem d_Mo_veto_81 : decode b_Mo_veto 81 = .ok (.ishl, 1) := by decide +kernel
theorem d_Mo_veto_82 : decode b_Mo_veto 82 = .ok (.ior, 1) := by decide +kernel
theorem d_Mo_veto_83 : decode b_Mo_veto 83 = .ok (.iastore, 1) := by decide +kernel
theorem d_Mo_veto_84 : decode b_Mo_veto 84 = .ok (.aload_n 0, 1) := by decide +kernel
theorem d_Mo_veto_85 : decode b_Mo_veto 85 = .ok (.getfield 19, 3) := by decide +kernel
theorem d_Mo_veto_88 : decode b_Mo_veto 88 = .ok (.iconst 3, 1) := by decide +kernel
theorem d_Mo_veto_89 : decode b_Mo_veto 89 = .ok (.iload_n 1, 1) := by decide +kernel
theorem d_Mo_veto_90 : decode b_Mo_veto 90 = .ok (.iadd, 1) := by decide +kernel
theorem d_Mo_veto_91 : decode b_Mo_veto 91 = .ok (.dup2, 1) := by decide +kernel
theorem d_Mo_veto_92 : decode b_Mo_veto 92 = .ok (.iaload, 1) := by decide +kernel
theorem d_Mo_veto_93 : decode b_Mo_veto 93 = .ok (.iconst 1, 1) := by decide +kernel
theorem d_Mo_veto_94 : decode b_Mo_veto 94 = .ok (.isub, 1) := by decide +kernel
theorem d_Mo_veto_95 : decode b_Mo_veto 95 = .ok (.iastore, 1) := by decide +kernel
theorem d_Mo_veto_96 : decode b_Mo_veto 96 = .ok (.iload_n 3, 1) := by decide +kernel
theorem d_Mo_veto_97 : decode b_Mo_veto 97 = .ok (.invokestatic 142, 3) := by decide +kernel
theorem d_Mo_veto_100 : decode b_Mo_veto 100 = .ok (.iconst 1, 1) := by decide +kernel
theorem d_Mo_veto_101 : decode b_Mo_veto 101 = .ok (.isub, 1) := by decide +kernel
theorem d_Mo_veto_102 : decode b_Mo_veto 102 = .ok (.ireturn, 1) := by decide +kernel
theorem d_Mo_canOrder_0 : decode b_Mo_canOrder 0 = .ok (.aload_n 0, 1) := by decide +kernel
theorem d_Mo_canOrder_1 : decode b_Mo_canOrder 1 = .ok (.getfield 19, 3) := by decide +kernel
theorem d_Mo_canOrder_4 : decode b_Mo_canOrder 4 = .ok (.iconst 1, 1) := by decide +kernel
theorem d_Mo_canOrder_5 : decode b_Mo_canOrder 5 = .ok (.iaload, 1) := by decide +kernel
theorem d_Mo_canOrder_6 : decode b_Mo_canOrder 6 = .ok (.iload_n 1, 1) := by decide +kernel
theorem d_Mo_canOrder_7 : decode b_Mo_canOrder 7 = .ok (.invokestatic 110, 3) := by decide +kernel
theorem d_Mo_canOrder_10 : decode b_Mo_canOrder 10 = .ok (.ifCond .ne 36, 3) := by decide +kernel
theorem d_Mo_canOrder_13 : decode b_Mo_canOrder 13 = .ok (.aload_n 0, 1) := by decide +kernel
theorem d_Mo_canOrder_14 : decode b_Mo_canOrder 14 = .ok (.getfield 19, 3) := by decide +kernel
theorem d_Mo_canOrder_17 : decode b_Mo_canOrder 17 = .ok (.iconst 2, 1) := by decide +kernel
theorem d_Mo_canOrder_18 : decode b_Mo_canOrder 18 = .ok (.iaload, 1) := by decide +kernel
theorem d_Mo_canOrder_19 : decode b_Mo_canOrder 19 = .ok (.ifCond .ge 27, 3) := by decide +kernel
theorem d_Mo_canOrder_22 : decode b_Mo_canOrder 22 = .ok (.iload_n 2, 1) := by decide +kernel
theorem d_Mo_canOrder_23 : decode b_Mo_canOrder 23 = .ok (.aload_n 0, 1) := by decide +kernel
theorem d_Mo_canOrder_24 : decode b_Mo_canOrder 24 = .ok (.getfield 13, 3) := by decide +kernel
theorem d_Mo_canOrder_27 : decode b_Mo_canOrder 27 = .ok (.bipush 14, 2) := by decide +kernel
theorem d_Mo_canOrder_29 : decode b_Mo_canOrder 29 = .ok (.iload_n 1, 1) := by decide +kernel
theorem d_Mo_canOrder_30 : decode b_Mo_canOrder 30 = .ok (.iadd, 1) := by decide +kernel
theorem d_Mo_canOrder_31 : decode b_Mo_canOrder 31 = .ok (.iaload, 1) := by decide +kernel
theorem d_Mo_canOrder_32 : decode b_Mo_canOrder 32 = .ok (.iadd, 1) := by decide +kernel
theorem d_Mo_canOrder_33 : decode b_Mo_canOrder 33 = .ok (.aload_n 0, 1) := by decide +kernel
theorem d_Mo_canOrder_34 : decode b_Mo_canOrder 34 = .ok (.getfield 13, 3) := by decide +kernel
theorem d_Mo_canOrder_37 : decode b_Mo_canOrder 37 = .ok (.iconst 3, 1) := by decide +kernel
theorem d_Mo_canOrder_38 : decode b_Mo_canOrder 38 = .ok (.iaload, 1) := by decide +kernel
theorem d_Mo_canOrder_39 : decode b_Mo_canOrder 39 = .ok (.if_icmp .gt 7, 3) := by decide +kernel
theorem d_Mo_canOrder_42 : decode b_Mo_canOrder 42 = .ok (.iconst 1, 1) := by decide +kernel
theorem d_Mo_canOrder_43 : decode b_Mo_canOrder 43 = .ok (.goto 4, 3) := by decide +kernel
theorem d_Mo_canOrder_46 : decode b_Mo_canOrder 46 = .ok (.iconst 0, 1) := by decide +kernel
theorem d_Mo_canOrder_47 : decode b_Mo_canOrder 47 = .ok (.ireturn, 1) := by decide +kernel
theorem d_Mo_order_0 : decode b_Mo_order 0 = .ok (.aload_n 0, 1) := by decide +kernel
theorem d_Mo_order_1 : decode b_Mo_order 1 = .ok (.iload_n 1, 1) := by decide +kernel
theorem d_Mo_order_2 : decode b_Mo_order 2 = .ok (.invokevirtual 134, 3) := by decide +kernel
theorem d_Mo_order_5 : decode b_Mo_order 5 = .ok (.ifCond .ne 5, 3) := by decide +kernel
theorem d_Mo_order_8 : decode b_Mo_order 8 = .ok (.iconst (-1), 1) := by decide +kernel
theorem d_Mo_order_9 : decode b_Mo_order 9 = .ok (.ireturn, 1) := by decide +kernel
theorem d_Mo_order_10 : decode b_Mo_order 10 = .ok (.aload_n 0, 1) := by decide +kernel
theorem d_Mo_order_11 : decode b_Mo_order 11 = .ok (.iload_n 1, 1) := by decide +kernel
theorem d_Mo_order_12 : decode b_Mo_order 12 = .ok (.aload_n 0, 1) := by decide +kernel
theorem d_Mo_order_13 : decode b_Mo_order 13 = .ok (.getfield 19, 3) := by decide +kernel
theorem d_Mo_order_16 : decode b_Mo_order 16 = .ok (.iconst 0, 1) := by decide +kernel
theorem d_Mo_order_17 : decode b_Mo_order 17 = .ok (.iaload, 1) := by decide +kernel
theorem d_Mo_order_18 : decode b_Mo_order 18 = .ok (.invokevirtual 145, 3) := by decide +kernel
theorem d_Mo_order_21 : decode b_Mo_order 21 = .ok (.ifCond .ne 6, 3) := by decide +kernel
theorem d_Mo_order_24 : decode b_Mo_order 24 = .ok (.bipush (-2), 2) := by decide +kernel
theorem d_Mo_order_26 : decode b_Mo_order 26 = .ok (.ireturn, 1) := by decide +kernel
theorem d_Mo_order_27 : decode b_Mo_order 27 = .ok (.aload_n 0, 1) := by decide +kernel
theorem d_Mo_order_28 : decode b_Mo_order 28 = .ok (.invokevirtual 139, 3) := by decide +kernel
theorem d_Mo_order_31 : decode b_Mo_order 31 = .ok (.aload_n 0, 1) := by decide +kernel
theorem d_Mo_order_32 : decode b_Mo_order 32 = .ok (.getfield 19, 3) := by decide +kernel
theorem d_Mo_order_35 : decode b_Mo_order 35 = .ok (.iconst 2, 1) := by decide +kernel
theorem d_Mo_order_36 : decode b_Mo_order 36 = .ok (.iload_n 1, 1) := by decide +kernel
theorem d_Mo_order_37 : decode b_Mo_order 37 = .ok (.iastore, 1) := by decide +kernel
theorem d_Mo_order_38 : decode b_Mo_order 38 = .ok (.aload_n 0, 1) := by decide +kernel
theorem d_Mo_order_39 : decode b_Mo_order 39 = .ok (.getfield 19, 3) := by decide +kernel
theorem d_Mo_order_42 : decode b_Mo_order 42 = .ok (.iconst 0, 1) := by decide +kernel
theorem d_Mo_order_43 : decode b_Mo_order 43 = .ok (.iaload, 1) := by decide +kernel
theorem d_Mo_order_44 : decode b_Mo_order 44 = .ok (.aload_n 0, 1) := by decide +kernel
theorem d_Mo_order_45 : decode b_Mo_order 45 = .ok (.getfield 13, 3) := by decide +kernel
theorem d_Mo_order_48 : decode b_Mo_order 48 = .ok (.bipush 14, 2) := by decide +kernel
theorem d_Mo_order_50 : decode b_Mo_order 50 = .ok (.iload_n 1, 1) := by decide +kernel
theorem d_Mo_order_51 : decode b_Mo_order 51 = .ok (.iadd, 1) := by decide +kernel
theorem d_Mo_order_52 : decode b_Mo_order 52 = .ok (.iaload, 1) := by decide +kernel
theorem d_Mo_order_53 : decode b_Mo_order 53 = .ok (.iadd, 1) := by decide +kernel
theorem d_Mo_order_54 : decode b_Mo_order 54 = .ok (.ireturn, 1) := by decide +kernel
theorem d_Mo_undo_0 : decode b_Mo_undo 0 = .ok (.aload_n 0, 1) := by decide +kernel
theorem d_Mo_undo_1 : decode b_Mo_undo 1 = .ok (.getfield 104, 3) := by decide +kernel
theorem d_Mo_undo_4 : decode b_Mo_undo 4 = .ok (.ifCond .ne 6, 3) := by decide +kernel
theorem d_Mo_undo_7 : decode b_Mo_undo 7 = .ok (.bipush (-2), 2) := by decide +kernel
theorem d_Mo_undo_9 : decode b_Mo_undo 9 = .ok (.ireturn, 1) := by decide +kernel
theorem d_Mo_undo_10 : decode b_Mo_undo 10 = .ok (.aload_n 0, 1) := by decide +kernel
theorem d_Mo_undo_11 : decode b_Mo_undo 11 = .ok (.dup, 1) := by decide +kernel
theorem d_Mo_undo_12 : decode b_Mo_undo 12 = .ok (.getfield 104, 3) := by decide +kernel
theorem d_Mo_undo_15 : decode b_Mo_undo 15 = .ok (.iconst 1, 1) := by decide +kernel
theorem d_Mo_undo_16 : decode b_Mo_undo 16 = .ok (.isub, 1) := by decide +kernel
theorem d_Mo_undo_17 : decode b_Mo_undo 17 = .ok (.putfield 104, 3) := by decide +kernel
theorem d_Mo_undo_20 : decode b_Mo_undo 20 = .ok (.iconst 0, 1) := by decide +kernel
theorem d_Mo_undo_21 : decode b_Mo_undo 21 = .ok (.istore_n 1, 1) := by decide +kernel
theorem d_Mo_undo_22 : decode b_Mo_undo 22 = .ok (.iload_n 1, 1) := by decide +kernel
theorem d_Mo_undo_23 : decode b_Mo_undo 23 = .ok (.bipush 12, 2) := by decide +kernel
theorem d_Mo_undo_25 : decode b_Mo_undo 25 = .ok (.if_icmp .ge 29, 3) := by decide +kernel
theorem d_Mo_undo_28 : decode b_Mo_undo 28 = .ok (.aload_n 0, 1) := by decide +kernel
theorem d_Mo_undo_29 : decode b_Mo_undo 29 = .ok (.getfield 19, 3) := by decide +kernel
theorem d_Mo_undo_32 : decode b_Mo_undo 32 = .ok (.iload_n 1, 1) := by decide +kernel
theorem d_Mo_undo_33 : decode b_Mo_undo 33 = .ok (.aload_n 0, 1) := by decide +kernel
theorem d_Mo_undo_34 : decode b_Mo_undo 34 = .ok (.getfield 22, 3) := by decide +kernel
theorem d_Mo_undo_37 : decode b_Mo_undo 37 = .ok (.bipush 12, 2) := by decide +kernel
theorem d_Mo_undo_39 : decode b_Mo_undo 39 = .ok (.aload_n 0, 1) := by decide +kernel
theorem d_Mo_undo_40 : decode b_Mo_undo 40 = .ok (.getfield 104, 3) := by decide +kernel
theorem d_Mo_undo_43 : decode b_Mo_undo 43 = .ok (.imul, 1) := by decide +kernel
theorem d_Mo_undo_44 : decode b_Mo_undo 44 = .ok (.iload_n 1, 1) := by decide +kernel
theorem d_Mo_undo_45 : decode b_Mo_undo 45 = .ok (.iadd, 1) := by decide +kernel
theorem d_Mo_undo_46 : decode b_Mo_undo 46 = .ok (.iaload, 1) := by decide +kernel
theorem d_Mo_undo_47 : decode b_Mo_undo 47 = .ok (.iastore, 1) := by decide +kernel
theorem d_Mo_undo_48 : decode b_Mo_undo 48 = .ok (.iinc 1 1, 3) := by decide +kernel
theorem d_Mo_undo_51 : decode b_Mo_undo 51 = .ok (.goto (-29), 3) := by decide +kernel
theorem d_Mo_undo_54 : decode b_Mo_undo 54 = .ok (.aload_n 0, 1) := by decide +kernel
theorem d_Mo_undo_55 : decode b_Mo_undo 55 = .ok (.getfield 104, 3) := by decide +kernel
theorem d_Mo_undo_58 : decode b_Mo_undo 58 = .ok (.ireturn, 1) := by decide +kernel
theorem d_Mo_most_0 : decode b_Mo_most 0 = .ok (.iload_n 1, 1) := by decide +kernel
theorem d_Mo_most_1 : decode b_Mo_most 1 = .ok (.i2l, 1) := by decide +kernel
theorem d_Mo_most_2 : decode b_Mo_most 2 = .ok (.lconst 0, 1) := by decide +kernel
theorem d_Mo_most_3 : decode b_Mo_most 3 = .ok (.lconst 1, 1) := by decide +kernel
theorem d_Mo_most_4 : decode b_Mo_most 4 = .ok (.invokestatic 55, 3) := by decide +kernel
theorem d_Mo_most_7 : decode b_Mo_most 7 = .ok (.ifCond .ne 5, 3) := by decide +kernel
theorem d_Mo_most_10 : decode b_Mo_most 10 = .ok (.iconst (-1), 1) := by decide +kernel
theorem d_Mo_most_11 : decode b_Mo_most 11 = .ok (.ireturn, 1) := by decide +kernel
theorem d_Mo_most_12 : decode b_Mo_most 12 = .ok (.aload_n 0, 1) := by decide +kernel
theorem d_Mo_most_13 : decode b_Mo_most 13 = .ok (.aload_n 0, 1) := by decide +kernel
theorem d_Mo_most_14 : decode b_Mo_most 14 = .ok (.aload_n 0, 1) := by decide +kernel
theorem d_Mo_most_15 : decode b_Mo_most 15 = .ok (.getfield 19, 3) := by decide +kernel
theorem d_Mo_most_18 : decode b_Mo_most 18 = .ok (.iconst 1, 1) := by decide +kernel
theorem d_Mo_most_19 : decode b_Mo_most 19 = .ok (.iaload, 1) := by decide +kernel
theorem d_Mo_most_20 : decode b_Mo_most 20 = .ok (.invokevirtual 118, 3) := by decide +kernel
theorem d_Mo_most_23 : decode b_Mo_most 23 = .ok (.aload_n 0, 1) := by decide +kernel
theorem d_Mo_most_24 : decode b_Mo_most 24 = .ok (.getfield 19, 3) := by decide +kernel
theorem d_Mo_most_27 : decode b_Mo_most 27 = .ok (.iconst 0, 1) := by decide +kernel
theorem d_Mo_most_28 : decode b_Mo_most 28 = .ok (.iaload, 1) := by decide +kernel
theorem d_Mo_most_29 : decode b_Mo_most 29 = .ok (.bipush (-4), 2) := by decide +kernel
theorem d_Mo_most_31 : decode b_Mo_most 31 = .ok (.invokevirtual 148, 3) := by decide +kernel
theorem d_Mo_most_34 : decode b_Mo_most 34 = .ok (.istore_n 2, 1) := by decide +kernel
theorem d_Mo_most_35 : decode b_Mo_most 35 = .ok (.iload_n 1, 1) := by decide +kernel
theorem d_Mo_most_36 : decode b_Mo_most 36 = .ok (.ifCond .ne 7, 3) := by decide +kernel
theorem d_Mo_most_39 : decode b_Mo_most 39 = .ok (.iload_n 2, 1) := by decide +kernel
theorem d_Mo_most_40 : decode b_Mo_most 40 = .ok (.goto 16, 3) := by decide +kernel
theorem d_Mo_most_43 : decode b_Mo_most 43 = .ok (.aload_n 0, 1) := by decide +kernel
theorem d_Mo_most_44 : decode b_Mo_most 44 = .ok (.iload_n 2, 1) := by decide +kernel
theorem d_Mo_most_45 : decode b_Mo_most 45 = .ok (.aload_n 0, 1) := by decide +kernel
theorem d_Mo_most_46 : decode b_Mo_most 46 = .ok (.getfield 19, 3) := by decide +kernel
theorem d_Mo_most_49 : decode b_Mo_most 49 = .ok (.iconst 0, 1) := by decide +kernel
theorem d_Mo_most_50 : decode b_Mo_most 50 = .ok (.iaload, 1) := by decide +kernel
theorem d_Mo_most_51 : decode b_Mo_most 51 = .ok (.bipush (-4), 2) := by decide +kernel
theorem d_Mo_most_53 : decode b_Mo_most 53 = .ok (.invokevirtual 124, 3) := by decide +kernel
theorem d_Mo_most_56 : decode b_Mo_most 56 = .ok (.ireturn, 1) := by decide +kernel
theorem d_Mo_worstOff_0 : decode b_Mo_worstOff 0 = .ok (.iconst 0, 1) := by decide +kernel
theorem d_Mo_worstOff_1 : decode b_Mo_worstOff 1 = .ok (.istore_n 2, 1) := by decide +kernel
theorem d_Mo_worstOff_2 : decode b_Mo_worstOff 2 = .ok (.iconst 1, 1) := by decide +kernel
theorem d_Mo_worstOff_3 : decode b_Mo_worstOff 3 = .ok (.istore_n 3, 1) := by decide +kernel
theorem d_Mo_worstOff_4 : decode b_Mo_worstOff 4 = .ok (.iload_n 3, 1) := by decide +kernel
theorem d_Mo_worstOff_5 : decode b_Mo_worstOff 5 = .ok (.aload_n 0, 1) := by decide +kernel
theorem d_Mo_worstOff_6 : decode b_Mo_worstOff 6 = .ok (.getfield 13, 3) := by decide +kernel
theorem d_Mo_worstOff_9 : decode b_Mo_worstOff 9 = .ok (.iconst 1, 1) := by decide +kernel
theorem d_Mo_worstOff_10 : decode b_Mo_worstOff 10 = .ok (.iaload, 1) := by decide +kernel
theorem d_Mo_worstOff_11 : decode b_Mo_worstOff 11 = .ok (.if_icmp .ge 42, 3) := by decide +kernel
theorem d_Mo_worstOff_14 : decode b_Mo_worstOff 14 = .ok (.aload_n 0, 1) := by decide +kernel
theorem d_Mo_worstOff_15 : decode b_Mo_worstOff 15 = .ok (.iload_n 3, 1) := by decide +kernel
theorem d_Mo_worstOff_16 : decode b_Mo_worstOff 16 = .ok (.iload_n 1, 1) := by decide +kernel
theorem d_Mo_worstOff_17 : decode b_Mo_worstOff 17 = .ok (.aload_n 0, 1) := by decide +kernel
theorem d_Mo_worstOff_18 : decode b_Mo_worstOff 18 = .ok (.getfield 19, 3) := by decide +kernel
theorem d_Mo_worstOff_21 : decode b_Mo_worstOff 21 = .ok (.iconst 0, 1) := by decide +kernel
theorem d_Mo_worstOff_22 : decode b_Mo_worstOff 22 = .ok (.iaload, 1) := by decide +kernel
theorem d_Mo_worstOff_23 : decode b_Mo_worstOff 23 = .ok (.invokevirtual 114, 3) := by decide +kernel
theorem d_Mo_worstOff_26 : decode b_Mo_worstOff 26 = .ok (.aload_n 0, 1) := by decide +kernel
theorem d_Mo_worstOff_27 : decode b_Mo_worstOff 27 = .ok (.iload_n 2, 1) := by decide +kernel
theorem d_Mo_worstOff_28 : decode b_Mo_worstOff 28 = .ok (.iload_n 1, 1) := by decide +kernel
theorem d_Mo_worstOff_29 : decode b_Mo_worstOff 29 = .ok (.aload_n 0, 1) := by decide +kernel
theorem d_Mo_worstOff_30 : decode b_Mo_worstOff 30 = .ok (.getfield 19, 3) := by decide +kernel
theorem d_Mo_worstOff_33 : decode b_Mo_worstOff 33 = .ok (.iconst 0, 1) := by decide +kernel
theorem d_Mo_worstOff_34 : decode b_Mo_worstOff 34 = .ok (.iaload, 1) := by decide +kernel
theorem d_Mo_worstOff_35 : decode b_Mo_worstOff 35 = .ok (.invokevirtual 114, 3) := by decide +kernel
theorem d_Mo_worstOff_38 : decode b_Mo_worstOff 38 = .ok (.if_icmp .ge 7, 3) := by decide +kernel
theorem d_Mo_worstOff_41 : decode b_Mo_worstOff 41 = .ok (.iload_n 3, 1) := by decide +kernel
theorem d_Mo_worstOff_42 : decode b_Mo_worstOff 42 = .ok (.goto 4, 3) := by decide +kernel
theorem d_Mo_worstOff_45 : decode b_Mo_worstOff 45 = .ok (.iload_n 2, 1) := by decide +kernel
theorem d_Mo_worstOff_46 : decode b_Mo_worstOff 46 = .ok (.istore_n 2, 1) := by decide +kernel
theorem d_Mo_worstOff_47 : decode b_Mo_worstOff 47 = .ok (.iinc 3 1, 3) := by decide +kernel
theorem d_Mo_worstOff_50 : decode b_Mo_worstOff 50 = .ok (.goto (-46), 3) := by decide +kernel
theorem d_Mo_worstOff_53 : decode b_Mo_worstOff 53 = .ok (.iload_n 2, 1) := by decide +kernel
theorem d_Mo_worstOff_54 : decode b_Mo_worstOff 54 = .ok (.ireturn, 1) := by decide +kernel
theorem d_Mo_fair_0 : decode b_Mo_fair 0 = .ok (.iload_n 1, 1) := by decide +kernel
theorem d_Mo_fair_1 : decode b_Mo_fair 1 = .ok (.i2l, 1) := by decide +kernel
theorem d_Mo_fair_2 : decode b_Mo_fair 2 = .ok (.lconst 0, 1) := by decide +kernel
theorem d_Mo_fair_3 : decode b_Mo_fair 3 = .ok (.lconst 1, 1) := by decide +kernel
theorem d_Mo_fair_4 : decode b_Mo_fair 4 = .ok (.invokestatic 55, 3) := by decide +kernel
theorem d_Mo_fair_7 : decode b_Mo_fair 7 = .ok (.ifCond .ne 5, 3) := by decide +kernel
theorem d_Mo_fair_10 : decode b_Mo_fair 10 = .ok (.iconst (-1), 1) := by decide +kernel
theorem d_Mo_fair_11 : decode b_Mo_fair 11 = .ok (.ireturn, 1) := by decide +kernel
theorem d_Mo_fair_12 : decode b_Mo_fair 12 = .ok (.bipush (-4), 2) := by decide +kernel
theorem d_Mo_fair_14 : decode b_Mo_fair 14 = .ok (.istore_n 2, 1) := by decide +kernel
theorem d_Mo_fair_15 : decode b_Mo_fair 15 = .ok (.bipush (-4), 2) := by decide +kernel
theorem d_Mo_fair_17 : decode b_Mo_fair 17 = .ok (.istore_n 3, 1) := by decide +kernel
theorem d_Mo_fair_18 : decode b_Mo_fair 18 = .ok (.iconst 0, 1) := by decide +kernel
theorem d_Mo_fair_19 : decode b_Mo_fair 19 = .ok (.istore 4, 2) := by decide +kernel
theorem d_Mo_fair_21 : decode b_Mo_fair 21 = .ok (.iload 4, 2) := by decide +kernel
theorem d_Mo_fair_23 : decode b_Mo_fair 23 = .ok (.aload_n 0, 1) := by decide +kernel
theorem d_Mo_fair_24 : decode b_Mo_fair 24 = .ok (.getfield 13, 3) := by decide +kernel
theorem d_Mo_fair_27 : decode b_Mo_fair 27 = .ok (.iconst 0, 1) := by decide +kernel
theorem d_Mo_fair_28 : decode b_Mo_fair 28 = .ok (.iaload, 1) := by decide +kernel
theorem d_Mo_fair_29 : decode b_Mo_fair 29 = .ok (.if_icmp .ge 92, 3) := by decide +kernel
theorem d_Mo_fair_32 : decode b_Mo_fair 32 = .ok (.aload_n 0, 1) := by decide +kernel
theorem d_Mo_fair_33 : decode b_Mo_fair 33 = .ok (.getfield 19, 3) := by decide +kernel
theorem d_Mo_fair_36 : decode b_Mo_fair 36 = .ok (.iconst 1, 1) := by decide +kernel
theorem d_Mo_fair_37 : decode b_Mo_fair 37 = .ok (.iaload, 1) := by decide +kernel
theorem d_Mo_fair_38 : decode b_Mo_fair 38 = .ok (.iload 4, 2) := by decide +kernel
theorem d_Mo_fair_40 : decode b_Mo_fair 40 = .ok (.invokestatic 110, 3) := by decide +kernel
theorem d_Mo_fair_43 : decode b_Mo_fair 43 = .ok (.ifCond .eq 8, 3) := by decide +kernel
theorem d_Mo_fair_46 : decode b_Mo_fair 46 = .ok (.bipush (-4), 2) := by decide +kernel
theorem d_Mo_fair_48 : decode b_Mo_fair 48 = .ok (.goto 39, 3) := by decide +kernel
theorem d_Mo_fair_51 : decode b_Mo_fair 51 = .ok (.bipush 100, 2) := by decide +kernel
theorem d_Mo_fair_53 : decode b_Mo_fair 53 = .ok (.aload_n 0, 1) := by decide +kernel
theorem d_Mo_fair_54 : decode b_Mo_fair 54 = .ok (.aload_n 0, 1) := by decide +kernel
theorem d_Mo_fair_55 : decode b_Mo_fair 55 = .ok (.iload 4, 2) := by decide +kernel
theorem d_Mo_fair_57 : decode b_Mo_fair 57 = .ok (.invokevirtual 151, 3) := by decide +kernel
theorem d_Mo_fair_60 : decode b_Mo_fair 60 = .ok (.iload 4, 2) := by decide +kernel
theorem d_Mo_fair_62 : decode b_Mo_fair 62 = .ok (.aload_n 0, 1) := by decide +kernel
theorem d_Mo_fair_63 : decode b_Mo_fair 63 = .ok (.getfield 19, 3) := by decide +kernel
theorem d_Mo_fair_66 : decode b_Mo_fair 66 = .ok (.iconst 0, 1) := by decide +kernel
theorem d_Mo_fair_67 : decode b_Mo_fair 67 = .ok (.iaload, 1) := by decide +kernel
theorem d_Mo_fair_68 : decode b_Mo_fair 68 = .ok (.invokevirtual 114, 3) := by decide +kernel
theorem d_Mo_fair_71 : decode b_Mo_fair 71 = .ok (.imul, 1) := by decide +kernel
theorem d_Mo_fair_72 : decode b_Mo_fair 72 = .ok (.aload_n 0, 1) := by decide +kernel
theorem d_Mo_fair_73 : decode b_Mo_fair 73 = .ok (.iload 4, 2) := by decide +kernel
theorem d_Mo_fair_75 : decode b_Mo_fair 75 = .ok (.aload_n 0, 1) := by decide +kernel
theorem d_Mo_fair_76 : decode b_Mo_fair 76 = .ok (.getfield 19, 3) := by decide +kernel
theorem d_Mo_fair_79 : decode b_Mo_fair 79 = .ok (.iconst 0, 1) := by decide +kernel
theorem d_Mo_fair_80 : decode b_Mo_fair 80 = .ok (.iaload, 1) := by decide +kernel
theorem d_Mo_fair_81 : decode b_Mo_fair 81 = .ok (.bipush (-4), 2) := by decide +kernel
theorem d_Mo_fair_83 : decode b_Mo_fair 83 = .ok (.invokevirtual 124, 3) := by decide +kernel
theorem d_Mo_fair_86 : decode b_Mo_fair 86 = .ok (.iadd, 1) := by decide +kernel
theorem d_Mo_fair_87 : decode b_Mo_fair 87 = .ok (.istore 5, 2) := by decide +kernel
theorem d_Mo_fair_89 : decode b_Mo_fair 89 = .ok (.iload 5, 2) := by decide +kernel
theorem d_Mo_fair_91 : decode b_Mo_fair 91 = .ok (.iload_n 3, 1) := by decide +kernel
theorem d_Mo_fair_92 : decode b_Mo_fair 92 = .ok (.if_icmp .le 8, 3) := by decide +kernel
theorem d_Mo_fair_95 : decode b_Mo_fair 95 = .ok (.iload 4, 2) := by decide +kernel
theorem d_Mo_fair_97 : decode b_Mo_fair 97 = .ok (.goto 4, 3) := by decide +kernel
theorem d_Mo_fair_100 : decode b_Mo_fair 100 = .ok (.iload_n 2, 1) := by decide +kernel
theorem d_Mo_fair_101 : decode b_Mo_fair 101 = .ok (.istore_n 2, 1) := by decide +kernel
theorem d_Mo_fair_102 : decode b_Mo_fair 102 = .ok (.iload 5, 2) := by decide +kernel
theorem d_Mo_fair_104 : decode b_Mo_fair 104 = .ok (.iload_n 3, 1) := by decide +kernel
theorem d_Mo_fair_105 : decode b_Mo_fair 105 = .ok (.if_icmp .le 8, 3) := by decide +kernel
theorem d_Mo_fair_108 : decode b_Mo_fair 108 = .ok (.iload 5, 2) := by decide +kernel
theorem d_Mo_fair_110 : decode b_Mo_fair 110 = .ok (.goto 4, 3) := by decide +kernel
theorem d_Mo_fair_113 : decode b_Mo_fair 113 = .ok (.iload_n 3, 1) := by decide +kernel
theorem d_Mo_fair_114 : decode b_Mo_fair 114 = .ok (.istore_n 3, 1) := by decide +kernel
theorem d_Mo_fair_115 : decode b_Mo_fair 115 = .ok (.iinc 4 1, 3) := by decide +kernel
theorem d_Mo_fair_118 : decode b_Mo_fair 118 = .ok (.goto (-97), 3) := by decide +kernel
theorem d_Mo_fair_121 : decode b_Mo_fair 121 = .ok (.iload_n 1, 1) := by decide +kernel
theorem d_Mo_fair_122 : decode b_Mo_fair 122 = .ok (.ifCond .ne 7, 3) := by decide +kernel
theorem d_Mo_fair_125 : decode b_Mo_fair 125 = .ok (.iload_n 2, 1) := by decide +kernel
theorem d_Mo_fair_126 : decode b_Mo_fair 126 = .ok (.goto 7, 3) := by decide +kernel
theorem d_Mo_fair_129 : decode b_Mo_fair 129 = .ok (.iload_n 3, 1) := by decide +kernel
theorem d_Mo_fair_130 : decode b_Mo_fair 130 = .ok (.bipush 100, 2) := by decide +kernel
theorem d_Mo_fair_132 : decode b_Mo_fair 132 = .ok (.idiv, 1) := by decide +kernel
theorem d_Mo_fair_133 : decode b_Mo_fair 133 = .ok (.ireturn, 1) := by decide +kernel
theorem d_Mo_lead_0 : decode b_Mo_lead 0 = .ok (.iconst 0, 1) := by decide +kernel
theorem d_Mo_lead_1 : decode b_Mo_lead 1 = .ok (.istore_n 3, 1) := by decide +kernel
theorem d_Mo_lead_2 : decode b_Mo_lead 2 = .ok (.iconst 0, 1) := by decide +kernel
theorem d_Mo_lead_3 : decode b_Mo_lead 3 = .ok (.istore 4, 2) := by decide +kernel
theorem d_Mo_lead_5 : decode b_Mo_lead 5 = .ok (.iload 4, 2) := by decide +kernel
theorem d_Mo_lead_7 : decode b_Mo_lead 7 = .ok (.aload_n 0, 1) := by decide +kernel
theorem d_Mo_lead_8 : decode b_Mo_lead 8 = .ok (.getfield 13, 3) := by decide +kernel
theorem d_Mo_lead_11 : decode b_Mo_lead 11 = .ok (.iconst 1, 1) := by decide +kernel
theorem d_Mo_lead_12 : decode b_Mo_lead 12 = .ok (.iaload, 1) := by decide +kernel
theorem d_Mo_lead_13 : decode b_Mo_lead 13 = .ok (.if_icmp .ge 60, 3) := by decide +kernel
theorem d_Mo_lead_16 : decode b_Mo_lead 16 = .ok (.aload_n 0, 1) := by decide +kernel
theorem d_Mo_lead_17 : decode b_Mo_lead 17 = .ok (.iload 4, 2) := by decide +kernel
theorem d_Mo_lead_19 : decode b_Mo_lead 19 = .ok (.iload_n 1, 1) := by decide +kernel
theorem d_Mo_lead_20 : decode b_Mo_lead 20 = .ok (.aload_n 0, 1) := by decide +kernel
theorem d_Mo_lead_21 : decode b_Mo_lead 21 = .ok (.getfield 19, 3) := by decide +kernel
theorem d_Mo_lead_24 : decode b_Mo_lead 24 = .ok (.iconst 0, 1) := by decide +kernel
theorem d_Mo_lead_25 : decode b_Mo_lead 25 = .ok (.iaload, 1) := by decide +kernel
theorem d_Mo_lead_26 : decode b_Mo_lead 26 = .ok (.invokevirtual 114, 3) := by decide +kernel
theorem d_Mo_lead_29 : decode b_Mo_lead 29 = .ok (.aload_n 0, 1) := by decide +kernel
theorem d_Mo_lead_30 : decode b_Mo_lead 30 = .ok (.iload 4, 2) := by decide +kernel
theorem d_Mo_lead_32 : decode b_Mo_lead 32 = .ok (.iload_n 2, 1) := by decide +kernel
theorem d_Mo_lead_33 : decode b_Mo_lead 33 = .ok (.aload_n 0, 1) := by decide +kernel
theorem d_Mo_lead_34 : decode b_Mo_lead 34 = .ok (.getfield 19, 3) := by decide +kernel
theorem d_Mo_lead_37 : decode b_Mo_lead 37 = .ok (.iconst 0, 1) := by decide +kernel
theorem d_Mo_lead_38 : decode b_Mo_lead 38 = .ok (.iaload, 1) := by decide +kernel
theorem d_Mo_lead_39 : decode b_Mo_lead 39 = .ok (.invokevirtual 114, 3) := by decide +kernel
theorem d_Mo_lead_42 : decode b_Mo_lead 42 = .ok (.isub, 1) := by decide +kernel
theorem d_Mo_lead_43 : decode b_Mo_lead 43 = .ok (.istore 5, 2) := by decide +kernel
theorem d_Mo_lead_45 : decode b_Mo_lead 45 = .ok (.iload_n 3, 1) := by decide +kernel
theorem d_Mo_lead_46 : decode b_Mo_lead 46 = .ok (.iload 5, 2) := by decide +kernel
theorem d_Mo_lead_48 : decode b_Mo_lead 48 = .ok (.ifCond .le 7, 3) := by decide +kernel
theorem d_Mo_lead_51 : decode b_Mo_lead 51 = .ok (.iconst 1, 1) := by decide +kernel
theorem d_Mo_lead_52 : decode b_Mo_lead 52 = .ok (.goto 13, 3) := by decide +kernel
theorem d_Mo_lead_55 : decode b_Mo_lead 55 = .ok (.iload 5, 2) := by decide +kernel
theorem d_Mo_lead_57 : decode b_Mo_lead 57 = .ok (.ifCond .ge 7, 3) := by decide +kernel
theorem d_Mo_lead_60 : decode b_Mo_lead 60 = .ok (.iconst (-1), 1) := by decide +kernel
theorem d_Mo_lead_61 : decode b_Mo_lead 61 = .ok (.goto 4, 3) := by decide +kernel
theorem d_Mo_lead_64 : decode b_Mo_lead 64 = .ok (.iconst 0, 1) := by decide +kernel
theorem d_Mo_lead_65 : decode b_Mo_lead 65 = .ok (.iadd, 1) := by decide +kernel
theorem d_Mo_lead_66 : decode b_Mo_lead 66 = .ok (.istore_n 3, 1) := by decide +kernel
theorem d_Mo_lead_67 : decode b_Mo_lead 67 = .ok (.iinc 4 1, 3) := by decide +kernel
theorem d_Mo_lead_70 : decode b_Mo_lead 70 = .ok (.goto (-65), 3) := by decide +kernel
theorem d_Mo_lead_73 : decode b_Mo_lead 73 = .ok (.iload_n 3, 1) := by decide +kernel
theorem d_Mo_lead_74 : decode b_Mo_lead 74 = .ok (.ireturn, 1) := by decide +kernel
theorem d_Mo_isLeft_0 : decode b_Mo_isLeft 0 = .ok (.aload_n 0, 1) := by decide +kernel
theorem d_Mo_isLeft_1 : decode b_Mo_isLeft 1 = .ok (.iload_n 1, 1) := by decide +kernel
theorem d_Mo_isLeft_2 : decode b_Mo_isLeft 2 = .ok (.invokevirtual 134, 3) := by decide +kernel
theorem d_Mo_isLeft_5 : decode b_Mo_isLeft 5 = .ok (.ifCond .eq 20, 3) := by decide +kernel
theorem d_Mo_isLeft_8 : decode b_Mo_isLeft 8 = .ok (.aload_n 0, 1) := by decide +kernel
theorem d_Mo_isLeft_9 : decode b_Mo_isLeft 9 = .ok (.getfield 19, 3) := by decide +kernel
theorem d_Mo_isLeft_12 : decode b_Mo_isLeft 12 = .ok (.iconst 1, 1) := by decide +kernel
theorem d_Mo_isLeft_13 : decode b_Mo_isLeft 13 = .ok (.iaload, 1) := by decide +kernel
theorem d_Mo_isLeft_14 : decode b_Mo_isLeft 14 = .ok (.iload_n 1, 1) := by decide +kernel
theorem d_Mo_isLeft_15 : decode b_Mo_isLeft 15 = .ok (.invokestatic 110, 3) := by decide +kernel
theorem d_Mo_isLeft_18 : decode b_Mo_isLeft 18 = .ok (.ifCond .ne 7, 3) := by decide +kernel
theorem d_Mo_isLeft_21 : decode b_Mo_isLeft 21 = .ok (.iconst 1, 1) := by decide +kernel
theorem d_Mo_isLeft_22 : decode b_Mo_isLeft 22 = .ok (.goto 4, 3) := by decide +kernel
theorem d_Mo_isLeft_25 : decode b_Mo_isLeft 25 = .ok (.iconst 0, 1) := by decide +kernel
theorem d_Mo_isLeft_26 : decode b_Mo_isLeft 26 = .ok (.ireturn, 1) := by decide +kernel
theorem d_Mo_beats_0 : decode b_Mo_beats 0 = .ok (.aload_n 0, 1) := by decide +kernel
theorem d_Mo_beats_1 : decode b_Mo_beats 1 = .ok (.iload_n 1, 1) := by decide +kernel
theorem d_Mo_beats_2 : decode b_Mo_beats 2 = .ok (.invokevirtual 154, 3) := by decide +kernel
theorem d_Mo_beats_5 : decode b_Mo_beats 5 = .ok (.ifCond .eq 28, 3) := by decide +kernel
theorem d_Mo_beats_8 : decode b_Mo_beats 8 = .ok (.aload_n 0, 1) := by decide +kernel
theorem d_Mo_beats_9 : decode b_Mo_beats 9 = .ok (.iload_n 2, 1) := by decide +kernel
theorem d_Mo_beats_10 : decode b_Mo_beats 10 = .ok (.invokevirtual 154, 3) := by decide +kernel
theorem d_Mo_beats_13 : decode b_Mo_beats 13 = .ok (.ifCond .eq 20, 3) := by decide +kernel
theorem d_Mo_beats_16 : decode b_Mo_beats 16 = .ok (.iload_n 1, 1) := by decide +kernel
theorem d_Mo_beats_17 : decode b_Mo_beats 17 = .ok (.iload_n 2, 1) := by decide +kernel
theorem d_Mo_beats_18 : decode b_Mo_beats 18 = .ok (.if_icmp .eq 15, 3) := by decide +kernel
theorem d_Mo_beats_21 : decode b_Mo_beats 21 = .ok (.bipush 50, 2) := by decide +kernel
theorem d_Mo_beats_23 : decode b_Mo_beats 23 = .ok (.aload_n 0, 1) := by decide +kernel
theorem d_Mo_beats_24 : decode b_Mo_beats 24 = .ok (.iload_n 1, 1) := by decide +kernel
theorem d_Mo_beats_25 : decode b_Mo_beats 25 = .ok (.iload_n 2, 1) := by decide +kernel
theorem d_Mo_beats_26 : decode b_Mo_beats 26 = .ok (.invokevirtual 157, 3) := by decide +kernel
theorem d_Mo_beats_29 : decode b_Mo_beats 29 = .ok (.iadd, 1) := by decide +kernel
theorem d_Mo_beats_30 : decode b_Mo_beats 30 = .ok (.goto 4, 3) := by decide +kernel
theorem d_Mo_beats_33 : decode b_Mo_beats 33 = .ok (.iconst (-1), 1) := by decide +kernel
theorem d_Mo_beats_34 : decode b_Mo_beats 34 = .ok (.ireturn, 1) := by decide +kernel
theorem d_Mo_champion_0 : decode b_Mo_champion 0 = .ok (.iconst 0, 1) := by decide +kernel
theorem d_Mo_champion_1 : decode b_Mo_champion 1 = .ok (.istore_n 1, 1) := by decide +kernel
theorem d_Mo_champion_2 : decode b_Mo_champion 2 = .ok (.iload_n 1, 1) := by decide +kernel
theorem d_Mo_champion_3 : decode b_Mo_champion 3 = .ok (.aload_n 0, 1) := by decide +kernel
theorem d_Mo_champion_4 : decode b_Mo_champion 4 = .ok (.getfield 13, 3) := by decide +kernel
theorem d_Mo_champion_7 : decode b_Mo_champion 7 = .ok (.iconst 0, 1) := by decide +kernel
theorem d_Mo_champion_8 : decode b_Mo_champion 8 = .ok (.iaload, 1) := by decide +kernel
theorem d_Mo_champion_9 : decode b_Mo_champion 9 = .ok (.if_icmp .ge 71, 3) := by decide +kernel
theorem d_Mo_champion_12 : decode b_Mo_champion 12 = .ok (.aload_n 0, 1) := by decide +kernel
theorem d_Mo_champion_13 : decode b_Mo_champion 13 = .ok (.iload_n 1, 1) := by decide +kernel
theorem d_Mo_champion_14 : decode b_Mo_champion 14 = .ok (.invokevirtual 154, 3) := by decide +kernel
theorem d_Mo_champion_17 : decode b_Mo_champion 17 = .ok (.istore_n 2, 1) := by decide +kernel
theorem d_Mo_champion_18 : decode b_Mo_champion 18 = .ok (.iconst 0, 1) := by decide +kernel
theorem d_Mo_champion_19 : decode b_Mo_champion 19 = .ok (.istore_n 3, 1) := by decide +kernel
theorem d_Mo_champion_20 : decode b_Mo_champion 20 = .ok (.iload_n 3, 1) := by decide +kernel
theorem d_Mo_champion_21 : decode b_Mo_champion 21 = .ok (.aload_n 0, 1) := by decide +kernel
theorem d_Mo_champion_22 : decode b_Mo_champion 22 = .ok (.getfield 13, 3) := by decide +kernel
theorem d_Mo_champion_25 : decode b_Mo_champion 25 = .ok (.iconst 0, 1) := by decide +kernel
theorem d_Mo_champion_26 : decode b_Mo_champion 26 = .ok (.iaload, 1) := by decide +kernel
