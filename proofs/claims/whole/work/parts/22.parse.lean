theorem dX12_readAtom_0 : decode cX12_readAtom 0 = .ok (.aload_n 0, 1) := by decide +kernel
theorem dX12_readAtom_1 : decode cX12_readAtom 1 = .ok (.bipush 23, 2) := by decide +kernel
theorem dX12_readAtom_3 : decode cX12_readAtom 3 = .ok (.invokevirtual 135, 3) := by decide +kernel
theorem dX12_readAtom_6 : decode cX12_readAtom 6 = .ok (.ifCond .eq 18, 3) := by decide +kernel
theorem dX12_readAtom_9 : decode cX12_readAtom 9 = .ok (.aload_n 0, 1) := by decide +kernel
theorem dX12_readAtom_10 : decode cX12_readAtom 10 = .ok (.aload_n 0, 1) := by decide +kernel
theorem dX12_readAtom_11 : decode cX12_readAtom 11 = .ok (.getfield 124, 3) := by decide +kernel
theorem dX12_readAtom_14 : decode cX12_readAtom 14 = .ok (.invokevirtual 149, 3) := by decide +kernel
theorem dX12_readAtom_17 : decode cX12_readAtom 17 = .ok (.aload_n 0, 1) := by decide +kernel
theorem dX12_readAtom_18 : decode cX12_readAtom 18 = .ok (.invokevirtual 138, 3) := by decide +kernel
theorem dX12_readAtom_21 : decode cX12_readAtom 21 = .ok (.goto 109, 3) := by decide +kernel
theorem dX12_readAtom_24 : decode cX12_readAtom 24 = .ok (.aload_n 0, 1) := by decide +kernel
theorem dX12_readAtom_25 : decode cX12_readAtom 25 = .ok (.getfield 129, 3) := by decide +kernel
theorem dX12_readAtom_28 : decode cX12_readAtom 28 = .ok (.ifCond .ne 38, 3) := by decide +kernel
theorem dX12_readAtom_31 : decode cX12_readAtom 31 = .ok (.aload_n 0, 1) := by decide +kernel
theorem dX12_readAtom_32 : decode cX12_readAtom 32 = .ok (.aload_n 0, 1) := by decide +kernel
theorem dX12_readAtom_33 : decode cX12_readAtom 33 = .ok (.getfield 111, 3) := by decide +kernel
theorem dX12_readAtom_36 : decode cX12_readAtom 36 = .ok (.invokevirtual 152, 3) := by decide +kernel
theorem dX12_readAtom_39 : decode cX12_readAtom 39 = .ok (.iconst (-1), 1) := by decide +kernel
theorem dX12_readAtom_40 : decode cX12_readAtom 40 = .ok (.if_icmp .eq 26, 3) := by decide +kernel
theorem dX12_readAtom_43 : decode cX12_readAtom 43 = .ok (.aload_n 0, 1) := by decide +kernel
theorem dX12_readAtom_44 : decode cX12_readAtom 44 = .ok (.sipush 1000, 3) := by decide +kernel
theorem dX12_readAtom_47 : decode cX12_readAtom 47 = .ok (.aload_n 0, 1) := by decide +kernel
theorem dX12_readAtom_48 : decode cX12_readAtom 48 = .ok (.aload_n 0, 1) := by decide +kernel
theorem dX12_readAtom_49 : decode cX12_readAtom 49 = .ok (.getfield 111, 3) := by decide +kernel
theorem dX12_readAtom_52 : decode cX12_readAtom 52 = .ok (.invokevirtual 152, 3) := by decide +kernel
theorem dX12_readAtom_55 : decode cX12_readAtom 55 = .ok (.iadd, 1) := by decide +kernel
theorem dX12_readAtom_56 : decode cX12_readAtom 56 = .ok (.invokevirtual 149, 3) := by decide +kernel
theorem dX12_readAtom_59 : decode cX12_readAtom 59 = .ok (.aload_n 0, 1) := by decide +kernel
theorem dX12_readAtom_60 : decode cX12_readAtom 60 = .ok (.invokevirtual 138, 3) := by decide +kernel
theorem dX12_readAtom_63 : decode cX12_readAtom 63 = .ok (.goto 67, 3) := by decide +kernel
theorem dX12_readAtom_66 : decode cX12_readAtom 66 = .ok (.aload_n 0, 1) := by decide +kernel
theorem dX12_readAtom_67 : decode cX12_readAtom 67 = .ok (.bipush 35, 2) := by decide +kernel
theorem dX12_readAtom_69 : decode cX12_readAtom 69 = .ok (.invokevirtual 135, 3) := by decide +kernel
theorem dX12_readAtom_72 : decode cX12_readAtom 72 = .ok (.ifCond .eq 36, 3) := by decide +kernel
theorem dX12_readAtom_75 : decode cX12_readAtom 75 = .ok (.aload_n 0, 1) := by decide +kernel
theorem dX12_readAtom_76 : decode cX12_readAtom 76 = .ok (.iload_n 1, 1) := by decide +kernel
theorem dX12_readAtom_77 : decode cX12_readAtom 77 = .ok (.invokevirtual 155, 3) := by decide +kernel
theorem dX12_readAtom_80 : decode cX12_readAtom 80 = .ok (.ifCond .ne 4, 3) := by decide +kernel
theorem dX12_readAtom_83 : decode cX12_readAtom 83 = .ok (.return_, 1) := by decide +kernel
theorem dX12_readAtom_84 : decode cX12_readAtom 84 = .ok (.aload_n 0, 1) := by decide +kernel
theorem dX12_readAtom_85 : decode cX12_readAtom 85 = .ok (.iload_n 1, 1) := by decide +kernel
theorem dX12_readAtom_86 : decode cX12_readAtom 86 = .ok (.iconst 1, 1) := by decide +kernel
theorem dX12_readAtom_87 : decode cX12_readAtom 87 = .ok (.iadd, 1) := by decide +kernel
theorem dX12_readAtom_88 : decode cX12_readAtom 88 = .ok (.invokevirtual 158, 3) := by decide +kernel
theorem dX12_readAtom_91 : decode cX12_readAtom 91 = .ok (.aload_n 0, 1) := by decide +kernel
theorem dX12_readAtom_92 : decode cX12_readAtom 92 = .ok (.bipush 36, 2) := by decide +kernel
theorem dX12_readAtom_94 : decode cX12_readAtom 94 = .ok (.invokevirtual 161, 3) := by decide +kernel
theorem dX12_readAtom_97 : decode cX12_readAtom 97 = .ok (.ifCond .ne 33, 3) := by decide +kernel
theorem dX12_readAtom_100 : decode cX12_readAtom 100 = .ok (.aload_n 0, 1) := by decide +kernel
theorem dX12_readAtom_101 : decode cX12_readAtom 101 = .ok (.iconst 2, 1) := by decide +kernel
theorem dX12_readAtom_102 : decode cX12_readAtom 102 = .ok (.invokevirtual 141, 3) := by decide +kernel
theorem dX12_readAtom_105 : decode cX12_readAtom 105 = .ok (.goto 25, 3) := by decide +kernel
theorem dX12_readAtom_108 : decode cX12_readAtom 108 = .ok (.aload_n 0, 1) := by decide +kernel
theorem dX12_readAtom_109 : decode cX12_readAtom 109 = .ok (.bipush 9, 2) := by decide +kernel
theorem dX12_readAtom_111 : decode cX12_readAtom 111 = .ok (.invokevirtual 135, 3) := by decide +kernel
theorem dX12_readAtom_114 : decode cX12_readAtom 114 = .ok (.ifCond .eq 11, 3) := by decide +kernel
theorem dX12_readAtom_117 : decode cX12_readAtom 117 = .ok (.aload_n 0, 1) := by decide +kernel
theorem dX12_readAtom_118 : decode cX12_readAtom 118 = .ok (.iload_n 1, 1) := by decide +kernel
theorem dX12_readAtom_119 : decode cX12_readAtom 119 = .ok (.invokevirtual 164, 3) := by decide +kernel
theorem dX12_readAtom_122 : decode cX12_readAtom 122 = .ok (.goto 8, 3) := by decide +kernel
theorem dX12_readAtom_125 : decode cX12_readAtom 125 = .ok (.aload_n 0, 1) := by decide +kernel
theorem dX12_readAtom_126 : decode cX12_readAtom 126 = .ok (.iconst 2, 1) := by decide +kernel
theorem dX12_readAtom_127 : decode cX12_readAtom 127 = .ok (.invokevirtual 141, 3) := by decide +kernel
theorem dX12_readAtom_130 : decode cX12_readAtom 130 = .ok (.return_, 1) := by decide +kernel
theorem dX12_readIf_0 : decode cX12_readIf 0 = .ok (.aload_n 0, 1) := by decide +kernel
theorem dX12_readIf_1 : decode cX12_readIf 1 = .ok (.iload_n 1, 1) := by decide +kernel
theorem dX12_readIf_2 : decode cX12_readIf 2 = .ok (.invokevirtual 155, 3) := by decide +kernel
theorem dX12_readIf_5 : decode cX12_readIf 5 = .ok (.ifCond .ne 4, 3) := by decide +kernel
theorem dX12_readIf_8 : decode cX12_readIf 8 = .ok (.return_, 1) := by decide +kernel
theorem dX12_readIf_9 : decode cX12_readIf 9 = .ok (.aload_n 0, 1) := by decide +kernel
theorem dX12_readIf_10 : decode cX12_readIf 10 = .ok (.iload_n 1, 1) := by decide +kernel
theorem dX12_readIf_11 : decode cX12_readIf 11 = .ok (.iconst 1, 1) := by decide +kernel
theorem dX12_readIf_12 : decode cX12_readIf 12 = .ok (.iadd, 1) := by decide +kernel
theorem dX12_readIf_13 : decode cX12_readIf 13 = .ok (.invokevirtual 167, 3) := by decide +kernel
theorem dX12_readIf_16 : decode cX12_readIf 16 = .ok (.aload_n 0, 1) := by decide +kernel
theorem dX12_readIf_17 : decode cX12_readIf 17 = .ok (.bipush 10, 2) := by decide +kernel
theorem dX12_readIf_19 : decode cX12_readIf 19 = .ok (.invokevirtual 161, 3) := by decide +kernel
theorem dX12_readIf_22 : decode cX12_readIf 22 = .ok (.ifCond .ne 8, 3) := by decide +kernel
theorem dX12_readIf_25 : decode cX12_readIf 25 = .ok (.aload_n 0, 1) := by decide +kernel
theorem dX12_readIf_26 : decode cX12_readIf 26 = .ok (.iconst 2, 1) := by decide +kernel
theorem dX12_readIf_27 : decode cX12_readIf 27 = .ok (.invokevirtual 141, 3) := by decide +kernel
theorem dX12_readIf_30 : decode cX12_readIf 30 = .ok (.aload_n 0, 1) := by decide +kernel
theorem dX12_readIf_31 : decode cX12_readIf 31 = .ok (.iload_n 1, 1) := by decide +kernel
theorem dX12_readIf_32 : decode cX12_readIf 32 = .ok (.iconst 1, 1) := by decide +kernel
theorem dX12_readIf_33 : decode cX12_readIf 33 = .ok (.iadd, 1) := by decide +kernel
theorem dX12_readIf_34 : decode cX12_readIf 34 = .ok (.invokevirtual 158, 3) := by decide +kernel
theorem dX12_readIf_37 : decode cX12_readIf 37 = .ok (.aload_n 0, 1) := by decide +kernel
theorem dX12_readIf_38 : decode cX12_readIf 38 = .ok (.bipush 11, 2) := by decide +kernel
theorem dX12_readIf_40 : decode cX12_readIf 40 = .ok (.invokevirtual 161, 3) := by decide +kernel
theorem dX12_readIf_43 : decode cX12_readIf 43 = .ok (.ifCond .ne 8, 3) := by decide +kernel
theorem dX12_readIf_46 : decode cX12_readIf 46 = .ok (.aload_n 0, 1) := by decide +kernel
theorem dX12_readIf_47 : decode cX12_readIf 47 = .ok (.iconst 2, 1) := by decide +kernel
theorem dX12_readIf_48 : decode cX12_readIf 48 = .ok (.invokevirtual 141, 3) := by decide +kernel
theorem dX12_readIf_51 : decode cX12_readIf 51 = .ok (.aload_n 0, 1) := by decide +kernel
theorem dX12_readIf_52 : decode cX12_readIf 52 = .ok (.iload_n 1, 1) := by decide +kernel
theorem dX12_readIf_53 : decode cX12_readIf 53 = .ok (.iconst 1, 1) := by decide +kernel
theorem dX12_readIf_54 : decode cX12_readIf 54 = .ok (.iadd, 1) := by decide +kernel
theorem dX12_readIf_55 : decode cX12_readIf 55 = .ok (.invokevirtual 158, 3) := by decide +kernel
theorem dX12_readIf_58 : decode cX12_readIf 58 = .ok (.aload_n 0, 1) := by decide +kernel
theorem dX12_readIf_59 : decode cX12_readIf 59 = .ok (.bipush 12, 2) := by decide +kernel
theorem dX12_readIf_61 : decode cX12_readIf 61 = .ok (.invokevirtual 161, 3) := by decide +kernel
theorem dX12_readIf_64 : decode cX12_readIf 64 = .ok (.ifCond .ne 8, 3) := by decide +kernel
theorem dX12_readIf_67 : decode cX12_readIf 67 = .ok (.aload_n 0, 1) := by decide +kernel
theorem dX12_readIf_68 : decode cX12_readIf 68 = .ok (.iconst 2, 1) := by decide +kernel
theorem dX12_readIf_69 : decode cX12_readIf 69 = .ok (.invokevirtual 141, 3) := by decide +kernel
theorem dX12_readIf_72 : decode cX12_readIf 72 = .ok (.aload_n 0, 1) := by decide +kernel
theorem dX12_readIf_73 : decode cX12_readIf 73 = .ok (.sipush 3009, 3) := by decide +kernel
theorem dX12_readIf_76 : decode cX12_readIf 76 = .ok (.invokevirtual 149, 3) := by decide +kernel
theorem dX12_readIf_79 : decode cX12_readIf 79 = .ok (.return_, 1) := by decide +kernel
theorem dX12_readTerm_0 : decode cX12_readTerm 0 = .ok (.aload_n 0, 1) := by decide +kernel
theorem dX12_readTerm_1 : decode cX12_readTerm 1 = .ok (.iload_n 1, 1) := by decide +kernel
theorem dX12_readTerm_2 : decode cX12_readTerm 2 = .ok (.invokevirtual 170, 3) := by decide +kernel
theorem dX12_readTerm_5 : decode cX12_readTerm 5 = .ok (.aload_n 0, 1) := by decide +kernel
theorem dX12_readTerm_6 : decode cX12_readTerm 6 = .ok (.bipush 34, 2) := by decide +kernel
theorem dX12_readTerm_8 : decode cX12_readTerm 8 = .ok (.invokevirtual 161, 3) := by decide +kernel
theorem dX12_readTerm_11 : decode cX12_readTerm 11 = .ok (.ifCond .eq 18, 3) := by decide +kernel
theorem dX12_readTerm_14 : decode cX12_readTerm 14 = .ok (.aload_n 0, 1) := by decide +kernel
theorem dX12_readTerm_15 : decode cX12_readTerm 15 = .ok (.iload_n 1, 1) := by decide +kernel
theorem dX12_readTerm_16 : decode cX12_readTerm 16 = .ok (.invokevirtual 170, 3) := by decide +kernel
theorem dX12_readTerm_19 : decode cX12_readTerm 19 = .ok (.aload_n 0, 1) := by decide +kernel
theorem dX12_readTerm_20 : decode cX12_readTerm 20 = .ok (.sipush 3002, 3) := by decide +kernel
theorem dX12_readTerm_23 : decode cX12_readTerm 23 = .ok (.invokevirtual 149, 3) := by decide +kernel
theorem dX12_readTerm_26 : decode cX12_readTerm 26 = .ok (.goto (-21), 3) := by decide +kernel
theorem dX12_readTerm_29 : decode cX12_readTerm 29 = .ok (.return_, 1) := by decide +kernel
theorem dX12_readSum_0 : decode cX12_readSum 0 = .ok (.aload_n 0, 1) := by decide +kernel
theorem dX12_readSum_1 : decode cX12_readSum 1 = .ok (.iload_n 1, 1) := by decide +kernel
theorem dX12_readSum_2 : decode cX12_readSum 2 = .ok (.invokevirtual 173, 3) := by decide +kernel
theorem dX12_readSum_5 : decode cX12_readSum 5 = .ok (.aload_n 0, 1) := by decide +kernel
theorem dX12_readSum_6 : decode cX12_readSum 6 = .ok (.bipush 32, 2) := by decide +kernel
theorem dX12_readSum_8 : decode cX12_readSum 8 = .ok (.invokevirtual 135, 3) := by decide +kernel
theorem dX12_readSum_11 : decode cX12_readSum 11 = .ok (.ifCond .ne 12, 3) := by decide +kernel
theorem dX12_readSum_14 : decode cX12_readSum 14 = .ok (.aload_n 0, 1) := by decide +kernel
theorem dX12_readSum_15 : decode cX12_readSum 15 = .ok (.bipush 33, 2) := by decide +kernel
theorem dX12_readSum_17 : decode cX12_readSum 17 = .ok (.invokevirtual 135, 3) := by decide +kernel
theorem dX12_readSum_20 : decode cX12_readSum 20 = .ok (.ifCond .eq 39, 3) := by decide +kernel
theorem dX12_readSum_23 : decode cX12_readSum 23 = .ok (.aload_n 0, 1) := by decide +kernel
theorem dX12_readSum_24 : decode cX12_readSum 24 = .ok (.getfield 111, 3) := by decide +kernel
theorem dX12_readSum_27 : decode cX12_readSum 27 = .ok (.bipush 32, 2) := by decide +kernel
theorem dX12_readSum_29 : decode cX12_readSum 29 = .ok (.if_icmp .ne 9, 3) := by decide +kernel
theorem dX12_readSum_32 : decode cX12_readSum 32 = .ok (.sipush 3000, 3) := by decide +kernel
theorem dX12_readSum_35 : decode cX12_readSum 35 = .ok (.goto 6, 3) := by decide +kernel
theorem dX12_readSum_38 : decode cX12_readSum 38 = .ok (.sipush 3001, 3) := by decide +kernel
theorem dX12_readSum_41 : decode cX12_readSum 41 = .ok (.istore_n 2, 1) := by decide +kernel
theorem dX12_readSum_42 : decode cX12_readSum 42 = .ok (.aload_n 0, 1) := by decide +kernel
theorem dX12_readSum_43 : decode cX12_readSum 43 = .ok (.invokevirtual 138, 3) := by decide +kernel
theorem dX12_readSum_46 : decode cX12_readSum 46 = .ok (.aload_n 0, 1) := by decide +kernel
theorem dX12_readSum_47 : decode cX12_readSum 47 = .ok (.iload_n 1, 1) := by decide +kernel
theorem dX12_readSum_48 : decode cX12_readSum 48 = .ok (.invokevirtual 173, 3) := by decide +kernel
theorem dX12_readSum_51 : decode cX12_readSum 51 = .ok (.aload_n 0, 1) := by decide +kernel
theorem dX12_readSum_52 : decode cX12_readSum 52 = .ok (.iload_n 2, 1) := by decide +kernel
theorem dX12_readSum_53 : decode cX12_readSum 53 = .ok (.invokevirtual 149, 3) := by decide +kernel
theorem dX12_readSum_56 : decode cX12_readSum 56 = .ok (.goto (-51), 3) := by decide +kernel
theorem dX12_readSum_59 : decode cX12_readSum 59 = .ok (.return_, 1) := by decide +kernel
theorem dX12_readUnit_0 : decode cX12_readUnit 0 = .ok (.aload_n 0, 1) := by decide +kernel
theorem dX12_readUnit_1 : decode cX12_readUnit 1 = .ok (.bipush 19, 2) := by decide +kernel
theorem dX12_readUnit_3 : decode cX12_readUnit 3 = .ok (.invokevirtual 135, 3) := by decide +kernel
theorem dX12_readUnit_6 : decode cX12_readUnit 6 = .ok (.ifCond .eq 27, 3) := by decide +kernel
theorem dX12_readUnit_9 : decode cX12_readUnit 9 = .ok (.aload_n 0, 1) := by decide +kernel
theorem dX12_readUnit_10 : decode cX12_readUnit 10 = .ok (.iload_n 1, 1) := by decide +kernel
theorem dX12_readUnit_11 : decode cX12_readUnit 11 = .ok (.invokevirtual 155, 3) := by decide +kernel
theorem dX12_readUnit_14 : decode cX12_readUnit 14 = .ok (.ifCond .ne 4, 3) := by decide +kernel
theorem dX12_readUnit_17 : decode cX12_readUnit 17 = .ok (.return_, 1) := by decide +kernel
theorem dX12_readUnit_18 : decode cX12_readUnit 18 = .ok (.aload_n 0, 1) := by decide +kernel
theorem dX12_readUnit_19 : decode cX12_readUnit 19 = .ok (.iload_n 1, 1) := by decide +kernel
theorem dX12_readUnit_20 : decode cX12_readUnit 20 = .ok (.iconst 1, 1) := by decide +kernel
theorem dX12_readUnit_21 : decode cX12_readUnit 21 = .ok (.iadd, 1) := by decide +kernel
theorem dX12_readUnit_22 : decode cX12_readUnit 22 = .ok (.invokevirtual 176, 3) := by decide +kernel
theorem dX12_readUnit_25 : decode cX12_readUnit 25 = .ok (.aload_n 0, 1) := by decide +kernel
theorem dX12_readUnit_26 : decode cX12_readUnit 26 = .ok (.sipush 3006, 3) := by decide +kernel
theorem dX12_readUnit_29 : decode cX12_readUnit 29 = .ok (.invokevirtual 149, 3) := by decide +kernel
theorem dX12_readUnit_32 : decode cX12_readUnit 32 = .ok (.return_, 1) := by decide +kernel
theorem dX12_readUnit_33 : decode cX12_readUnit 33 = .ok (.aload_n 0, 1) := by decide +kernel
theorem dX12_readUnit_34 : decode cX12_readUnit 34 = .ok (.bipush 37, 2) := by decide +kernel
theorem dX12_readUnit_36 : decode cX12_readUnit 36 = .ok (.invokevirtual 135, 3) := by decide +kernel
theorem dX12_readUnit_39 : decode cX12_readUnit 39 = .ok (.ifCond .eq 34, 3) := by decide +kernel
theorem dX12_readUnit_42 : decode cX12_readUnit 42 = .ok (.aload_n 0, 1) := by decide +kernel
theorem dX12_readUnit_43 : decode cX12_readUnit 43 = .ok (.iload_n 1, 1) := by decide +kernel
theorem dX12_readUnit_44 : decode cX12_readUnit 44 = .ok (.invokevirtual 155, 3) := by decide +kernel
theorem dX12_readUnit_47 : decode cX12_readUnit 47 = .ok (.ifCond .ne 4, 3) := by decide +kernel
theorem dX12_readUnit_50 : decode cX12_readUnit 50 = .ok (.return_, 1) := by decide +kernel
theorem dX12_readUnit_51 : decode cX12_readUnit 51 = .ok (.aload_n 0, 1) := by decide +kernel
theorem dX12_readUnit_52 : decode cX12_readUnit 52 = .ok (.iload_n 1, 1) := by decide +kernel
theorem dX12_readUnit_53 : decode cX12_readUnit 53 = .ok (.iconst 1, 1) := by decide +kernel
theorem dX12_readUnit_54 : decode cX12_readUnit 54 = .ok (.iadd, 1) := by decide +kernel
theorem dX12_readUnit_55 : decode cX12_readUnit 55 = .ok (.invokevirtual 167, 3) := by decide +kernel
theorem dX12_readUnit_58 : decode cX12_readUnit 58 = .ok (.aload_n 0, 1) := by decide +kernel
theorem dX12_readUnit_59 : decode cX12_readUnit 59 = .ok (.bipush 38, 2) := by decide +kernel
theorem dX12_readUnit_61 : decode cX12_readUnit 61 = .ok (.invokevirtual 161, 3) := by decide +kernel
theorem dX12_readUnit_64 : decode cX12_readUnit 64 = .ok (.ifCond .ne 8, 3) := by decide +kernel
theorem dX12_readUnit_67 : decode cX12_readUnit 67 = .ok (.aload_n 0, 1) := by decide +kernel
theorem dX12_readUnit_68 : decode cX12_readUnit 68 = .ok (.iconst 2, 1) := by decide +kernel
theorem dX12_readUnit_69 : decode cX12_readUnit 69 = .ok (.invokevirtual 141, 3) := by decide +kernel
theorem dX12_readUnit_72 : decode cX12_readUnit 72 = .ok (.return_, 1) := by decide +kernel
theorem dX12_readUnit_73 : decode cX12_readUnit 73 = .ok (.aload_n 0, 1) := by decide +kernel
theorem dX12_readUnit_74 : decode cX12_readUnit 74 = .ok (.iload_n 1, 1) := by decide +kernel
theorem dX12_readUnit_75 : decode cX12_readUnit 75 = .ok (.invokevirtual 158, 3) := by decide +kernel
theorem dX12_readUnit_78 : decode cX12_readUnit 78 = .ok (.aload_n 0, 1) := by decide +kernel
theorem dX12_readUnit_79 : decode cX12_readUnit 79 = .ok (.bipush 39, 2) := by decide +kernel
theorem dX12_readUnit_81 : decode cX12_readUnit 81 = .ok (.invokevirtual 135, 3) := by decide +kernel
theorem dX12_readUnit_84 : decode cX12_readUnit 84 = .ok (.ifCond .eq 9, 3) := by decide +kernel
theorem dX12_readUnit_87 : decode cX12_readUnit 87 = .ok (.sipush 3003, 3) := by decide +kernel
theorem dX12_readUnit_90 : decode cX12_readUnit 90 = .ok (.goto 21, 3) := by decide +kernel
theorem dX12_readUnit_93 : decode cX12_readUnit 93 = .ok (.aload_n 0, 1) := by decide +kernel
theorem dX12_readUnit_94 : decode cX12_readUnit 94 = .ok (.bipush 40, 2) := by decide +kernel
theorem dX12_readUnit_96 : decode cX12_readUnit 96 = .ok (.invokevirtual 135, 3) := by decide +kernel
theorem dX12_readUnit_99 : decode cX12_readUnit 99 = .ok (.ifCond .eq 9, 3) := by decide +kernel
theorem dX12_readUnit_102 : decode cX12_readUnit 102 = .ok (.sipush 3004, 3) := by decide +kernel
theorem dX12_readUnit_105 : decode cX12_readUnit 105 = .ok (.goto 6, 3) := by decide +kernel
theorem dX12_readUnit_108 : decode cX12_readUnit 108 = .ok (.sipush 3005, 3) := by decide +kernel
theorem dX12_readUnit_111 : decode cX12_readUnit 111 = .ok (.istore_n 2, 1) := by decide +kernel
theorem dX12_readUnit_112 : decode cX12_readUnit 112 = .ok (.aload_n 0, 1) := by decide +kernel
theorem dX12_readUnit_113 : decode cX12_readUnit 113 = .ok (.bipush 39, 2) := by decide +kernel
theorem dX12_readUnit_115 : decode cX12_readUnit 115 = .ok (.invokevirtual 135, 3) := by decide +kernel
theorem dX12_readUnit_118 : decode cX12_readUnit 118 = .ok (.ifCond .ne 21, 3) := by decide +kernel
theorem dX12_readUnit_121 : decode cX12_readUnit 121 = .ok (.aload_n 0, 1) := by decide +kernel
theorem dX12_readUnit_122 : decode cX12_readUnit 122 = .ok (.bipush 40, 2) := by decide +kernel
theorem dX12_readUnit_124 : decode cX12_readUnit 124 = .ok (.invokevirtual 135, 3) := by decide +kernel
theorem dX12_readUnit_127 : decode cX12_readUnit 127 = .ok (.ifCond .ne 12, 3) := by decide +kernel
theorem dX12_readUnit_130 : decode cX12_readUnit 130 = .ok (.aload_n 0, 1) := by decide +kernel
theorem dX12_readUnit_131 : decode cX12_readUnit 131 = .ok (.bipush 41, 2) := by decide +kernel
theorem dX12_readUnit_133 : decode cX12_readUnit 133 = .ok (.invokevirtual 135, 3) := by decide +kernel
theorem dX12_readUnit_136 : decode cX12_readUnit 136 = .ok (.ifCond .eq 10, 3) := by decide +kernel
theorem dX12_readUnit_139 : decode cX12_readUnit 139 = .ok (.aload_n 0, 1) := by decide +kernel
theorem dX12_readUnit_140 : decode cX12_readUnit 140 = .ok (.invokevirtual 138, 3) := by decide +kernel
theorem dX12_readUnit_143 : decode cX12_readUnit 143 = .ok (.goto 8, 3) := by decide +kernel
theorem dX12_readUnit_146 : decode cX12_readUnit 146 = .ok (.aload_n 0, 1) := by decide +kernel
theorem dX12_readUnit_147 : decode cX12_readUnit 147 = .ok (.iconst 2, 1) := by decide +kernel
theorem dX12_readUnit_148 : decode cX12_readUnit 148 = .ok (.invokevirtual 141, 3) := by decide +kernel
theorem dX12_readUnit_151 : decode cX12_readUnit 151 = .ok (.aload_n 0, 1) := by decide +kernel
theorem dX12_readUnit_152 : decode cX12_readUnit 152 = .ok (.iload_n 1, 1) := by decide +kernel
theorem dX12_readUnit_153 : decode cX12_readUnit 153 = .ok (.invokevirtual 158, 3) := by decide +kernel
theorem dX12_readUnit_156 : decode cX12_readUnit 156 = .ok (.aload_n 0, 1) := by decide +kernel
theorem dX12_readUnit_157 : decode cX12_readUnit 157 = .ok (.iload_n 2, 1) := by decide +kernel
theorem dX12_readUnit_158 : decode cX12_readUnit 158 = .ok (.invokevirtual 149, 3) := by decide +kernel
theorem dX12_readUnit_161 : decode cX12_readUnit 161 = .ok (.return_, 1) := by decide +kernel
theorem dX12_readBoth_0 : decode cX12_readBoth 0 = .ok (.aload_n 0, 1) := by decide +kernel
theorem dX12_readBoth_1 : decode cX12_readBoth 1 = .ok (.iload_n 1, 1) := by decide +kernel
theorem dX12_readBoth_2 : decode cX12_readBoth 2 = .ok (.invokevirtual 176, 3) := by decide +kernel
theorem dX12_readBoth_5 : decode cX12_readBoth 5 = .ok (.aload_n 0, 1) := by decide +kernel
theorem dX12_readBoth_6 : decode cX12_readBoth 6 = .ok (.bipush 17, 2) := by decide +kernel
theorem dX12_readBoth_8 : decode cX12_readBoth 8 = .ok (.invokevirtual 161, 3) := by decide +kernel
theorem dX12_readBoth_11 : decode cX12_readBoth 11 = .ok (.ifCond .eq 18, 3) := by decide +kernel
theorem dX12_readBoth_14 : decode cX12_readBoth 14 = .ok (.aload_n 0, 1) := by decide +kernel
theorem dX12_readBoth_15 : decode cX12_readBoth 15 = .ok (.iload_n 1, 1) := by decide +kernel
theorem dX12_readBoth_16 : decode cX12_readBoth 16 = .ok (.invokevirtual 176, 3) := by decide +kernel
theorem dX12_readBoth_19 : decode cX12_readBoth 19 = .ok (.aload_n 0, 1) := by decide +kernel
theorem dX12_readBoth_20 : decode cX12_readBoth 20 = .ok (.sipush 3007, 3) := by decide +kernel
theorem dX12_readBoth_23 : decode cX12_readBoth 23 = .ok (.invokevirtual 149, 3) := by decide +kernel
theorem dX12_readBoth_26 : decode cX12_readBoth 26 = .ok (.goto (-21), 3) := by decide +kernel
theorem dX12_readBoth_29 : decode cX12_readBoth 29 = .ok (.return_, 1) := by decide +kernel
theorem dX12_readTruth_0 : decode cX12_readTruth 0 = .ok (.aload_n 0, 1) := by decide +kernel
theorem dX12_readTruth_1 : decode cX12_readTruth 1 = .ok (.iload_n 1, 1) := by decide +kernel
theorem dX12_readTruth_2 : decode cX12_readTruth 2 = .ok (.invokevirtual 179, 3) := by decide +kernel
theorem dX12_readTruth_5 : decode cX12_readTruth 5 = .ok (.aload_n 0, 1) := by decide +kernel
theorem dX12_readTruth_6 : decode cX12_readTruth 6 = .ok (.bipush 18, 2) := by decide +kernel
theorem dX12_readTruth_8 : decode cX12_readTruth 8 = .ok (.invokevirtual 161, 3) := by decide +kernel
theorem dX12_readTruth_11 : decode cX12_readTruth 11 = .ok (.ifCond .eq 18, 3) := by decide +kernel
theorem dX12_readTruth_14 : decode cX12_readTruth 14 = .ok (.aload_n 0, 1) := by decide +kernel
theorem dX12_readTruth_15 : decode cX12_readTruth 15 = .ok (.iload_n 1, 1) := by decide +kernel
theorem dX12_readTruth_16 : decode cX12_readTruth 16 = .ok (.invokevirtual 179, 3) := by decide +kernel
theorem dX12_readTruth_19 : decode cX12_readTruth 19 = .ok (.aload_n 0, 1) := by decide +kernel
theorem dX12_readTruth_20 : decode cX12_readTruth 20 = .ok (.sipush 3008, 3) := by decide +kernel
theorem dX12_readTruth_23 : decode cX12_readTruth 23 = .ok (.invokevirtual 149, 3) := by decide +kernel
theorem dX12_readTruth_26 : decode cX12_readTruth 26 = .ok (.goto (-21), 3) := by decide +kernel
theorem dX12_readTruth_29 : decode cX12_readTruth 29 = .ok (.return_, 1) := by decide +kernel
def r_readAtomB (rec : Nat → Int32 → (Nat → Nat → Int32) → Option ((Nat → Nat → Int32))) (F : Nat) (I : Nat → Nat → Int32) (z : Nat) (v1 : Int32) : Option ((Nat → Nat → Int32)) := if (r_is I z 23) = 0 then (if (I z 11) = 0 then (if (r_wordOf z (I z 9)) = (-1) then (if (r_is I z 35) = 0 then (if (r_is I z 9) = 0 then ((r_fails I z 2).bind (fun q30 => let I32 := q30; some I32)) else ((rec 1 v1 I).bind (fun q33 => let I35 := q33; some I35))) else ((r_goesIn F I z v1).bind (fun q36 => let u38 := q36.1; let I39 := q36.2; if u38 = 0 then (some I39) else ((rec 3 (v1 + 1) I39).bind (fun q41 => let I43 := q41; (r_eats F I43 z 36).bind (fun q44 => let u46 := q44.1; let I47 := q44.2; if u46 = 0 then ((r_fails I47 z 2).bind (fun q49 => let I51 := q49; some I51)) else (some I47))))))) else ((r_codes I z (1000 + (r_wordOf z (I z 9)))).bind (fun q52 => let I54 := q52; (r_nextToken F I54 z).bind (fun q55 => let I57 := q55; some I57)))) else (if (r_is I z 35) = 0 then (if (r_is I z 9) = 0 then ((r_fails I z 2).bind (fun q5 => let I7 := q5; some I7)) else ((rec 1 v1 I).bind (fun q8 => let I10 := q8; some I10))) else ((r_goesIn F I z v1).bind (fun q11 => let u13 := q11.1; let I14 := q11.2; if u13 = 0 then (some I14) else ((rec 3 (v1 + 1) I14).bind (fun q16 => let I18 := q16; (r_eats F I18 z 36).bind (fun q19 => let u21 := q19.1; let I22 := q19.2; if u21 = 0 then ((r_fails I22 z 2).bind (fun q24 => let I26 := q24; some I26)) else (some I22)))))))) else ((r_codes I z (I z 10)).bind (fun q58 => let I60 := q58; (r_nextToken F I60 z).bind (fun q61 => let I63 := q61; some I63)))
def r_readIfB (rec : Nat → Int32 → (Nat → Nat → Int32) → Option ((Nat → Nat → Int32))) (F : Nat) (I : Nat → Nat → Int32) (z : Nat) (v1 : Int32) : Option ((Nat → Nat → Int32)) := (r_goesIn F I z v1).bind (fun q1 => let u3 := q1.1; let I4 := q1.2; if u3 = 0 then (some I4) else ((rec 6 (v1 + 1) I4).bind (fun q6 => let I8 := q6; (r_eats F I8 z 10).bind (fun q9 => let u11 := q9.1; let I12 := q9.2; if u11 = 0 then ((r_fails I12 z 2).bind (fun q59 => let I61 := q59; (rec 3 (v1 + 1) I61).bind (fun q62 => let I64 := q62; (r_eats F I64 z 11).bind (fun q65 => let u67 := q65.1; let I68 := q65.2; if u67 = 0 then ((r_fails I68 z 2).bind (fun q87 => let I89 := q87; (rec 3 (v1 + 1) I89).bind (fun q90 => let I92 := q90; (r_eats F I92 z 12).bind (fun q93 => let u95 := q93.1; let I96 := q93.2; if u95 = 0 then ((r_fails I96 z 2).bind (fun q101 => let I103 := q101; (r_codes I103 z 3009).bind (fun q104 => let I106 := q104; some I106))) else ((r_codes I96 z 3009).bind (fun q98 => let I100 := q98; some I100)))))) else ((rec 3 (v1 + 1) I68).bind (fun q70 => let I72 := q70; (r_eats F I72 z 12).bind (fun q73 => let u75 := q73.1; let I76 := q73.2; if u75 = 0 then ((r_fails I76 z 2).bind (fun q81 => let I83 := q81; (r_codes I83 z 3009).bind (fun q84 => let I86 := q84; some I86))) else ((r_codes I76 z 3009).bind (fun q78 => let I80 := q78; some I80))))))))) else ((rec 3 (v1 + 1) I12).bind (fun q14 => let I16 := q14; (r_eats F I16 z 11).bind (fun q17 => let u19 := q17.1; let I20 := q17.2; if u19 = 0 then ((r_fails I20 z 2).bind (fun q39 => let I41 := q39; (rec 3 (v1 + 1) I41).bind (fun q42 => let I44 := q42; (r_eats F I44 z 12).bind (fun q45 => let u47 := q45.1; let I48 := q45.2; if u47 = 0 then ((r_fails I48 z 2).bind (fun q53 => let I55 := q53; (r_codes I55 z 3009).bind (fun q56 => let I58 := q56; some I58))) else ((r_codes I48 z 3009).bind (fun q50 => let I52 := q50; some I52)))))) else ((rec 3 (v1 + 1) I20).bind (fun q22 => let I24 := q22; (r_eats F I24 z 12).bind (fun q25 => let u27 := q25.1; let I28 := q25.2; if u27 = 0 then ((r_fails I28 z 2).bind (fun q33 => let I35 := q33; (r_codes I35 z 3009).bind (fun q36 => let I38 := q36; some I38))) else ((r_codes I28 z 3009).bind (fun q30 => let I32 := q30; some I32))))))))))))
def r_readTermB_5 (rec : Nat → Int32 → (Nat → Nat → Int32) → Option ((Nat → Nat → Int32))) (F : Nat) (z : Nat) (g1 : Int32) : Nat → (Nat → Nat → Int32) → Option ((Nat → Nat → Int32))
  | 0, _ => none
  | k + 1, I => (r_eats F I z 34).bind (fun q4 => let u6 := q4.1; let I7 := q4.2; if u6 = 0 then (some I7) else ((rec 0 g1 I7).bind (fun q9 => let I11 := q9; (r_codes I11 z 3002).bind (fun q12 => let I14 := q12; r_readTermB_5 rec F z g1 k I14))))
def r_readTermB (rec : Nat → Int32 → (Nat → Nat → Int32) → Option ((Nat → Nat → Int32))) (F : Nat) (I : Nat → Nat → Int32) (z : Nat) (v1 : Int32) : Option ((Nat → Nat → Int32)) := (rec 0 v1 I).bind (fun q1 => let I3 := q1; (r_readTermB_5 rec F z v1 F I3).bind (fun q15 => let I17 := q15; some I17))
def r_readSumB_5 (rec : Nat → Int32 → (Nat → Nat → Int32) → Option ((Nat → Nat → Int32))) (F : Nat) (z : Nat) (g1 : Int32) : Nat → (Nat → Nat → Int32) → Option ((Nat → Nat → Int32))
  | 0, _ => none
  | k + 1, I => if (r_is I z 32) = 0 then (if (r_is I z 33) = 0 then (some I) else (if (I z 9) = 32 then ((r_nextToken F I z).bind (fun q35 => let I37 := q35; (rec 2 g1 I37).bind (fun q38 => let I40 := q38; (r_codes I40 z 3000).bind (fun q41 => let I43 := q41; r_readSumB_5 rec F z g1 k I43)))) else ((r_nextToken F I z).bind (fun q26 => let I28 := q26; (rec 2 g1 I28).bind (fun q29 => let I31 := q29; (r_codes I31 z 3001).bind (fun q32 => let I34 := q32; r_readSumB_5 rec F z g1 k I34)))))) else (if (I z 9) = 32 then ((r_nextToken F I z).bind (fun q15 => let I17 := q15; (rec 2 g1 I17).bind (fun q18 => let I20 := q18; (r_codes I20 z 3000).bind (fun q21 => let I23 := q21; r_readSumB_5 rec F z g1 k I23)))) else ((r_nextToken F I z).bind (fun q6 => let I8 := q6; (rec 2 g1 I8).bind (fun q9 => let I11 := q9; (r_codes I11 z 3001).bind (fun q12 => let I14 := q12; r_readSumB_5 rec F z g1 k I14)))))
def r_readSumB (rec : Nat → Int32 → (Nat → Nat → Int32) → Option ((Nat → Nat → Int32))) (F : Nat) (I : Nat → Nat → Int32) (z : Nat) (v1 : Int32) : Option ((Nat → Nat → Int32)) := (rec 2 v1 I).bind (fun q1 => let I3 := q1; (r_readSumB_5 rec F z v1 F I3).bind (fun q44 => let I46 := q44; some I46))
def r_readUnitB (rec : Nat → Int32 → (Nat → Nat → Int32) → Option ((Nat → Nat → Int32))) (F : Nat) (I : Nat → Nat → Int32) (z : Nat) (v1 : Int32) : Option ((Nat → Nat → Int32)) := if (r_is I z 19) = 0 then (if (r_is I z 37) = 0 then ((rec 3 v1 I).bind (fun q3 => let I5 := q3; if (r_is I5 z 39) = 0 then (if (r_is I5 z 40) = 0 then (if (r_is I5 z 39) = 0 then (if (r_is I5 z 40) = 0 then (if (r_is I5 z 41) = 0 then ((r_fails I5 z 2).bind (fun q29 => let I31 := q29; (rec 3 v1 I31).bind (fun q32 => let I34 := q32; (r_codes I34 z 3005).bind (fun q35 => let I37 := q35; some I37)))) else ((r_nextToken F I5 z).bind (fun q38 => let I40 := q38; (rec 3 v1 I40).bind (fun q41 => let I43 := q41; (r_codes I43 z 3005).bind (fun q44 => let I46 := q44; some I46))))) else ((r_nextToken F I5 z).bind (fun q19 => let I21 := q19; (rec 3 v1 I21).bind (fun q22 => let I24 := q22; (r_codes I24 z 3005).bind (fun q25 => let I27 := q25; some I27))))) else ((r_nextToken F I5 z).bind (fun q9 => let I11 := q9; (rec 3 v1 I11).bind (fun q12 => let I14 := q12; (r_codes I14 z 3005).bind (fun q15 => let I17 := q15; some I17))))) else (if (r_is I5 z 39) = 0 then (if (r_is I5 z 40) = 0 then (if (r_is I5 z 41) = 0 then ((r_fails I5 z 2).bind (fun q68 => let I70 := q68; (rec 3 v1 I70).bind (fun q71 => let I73 := q71; (r_codes I73 z 3004).bind (fun q74 => let I76 := q74; some I76)))) else ((r_nextToken F I5 z).bind (fun q77 => let I79 := q77; (rec 3 v1 I79).bind (fun q80 => let I82 := q80; (r_codes I82 z 3004).bind (fun q83 => let I85 := q83; some I85))))) else ((r_nextToken F I5 z).bind (fun q58 => let I60 := q58; (rec 3 v1 I60).bind (fun q61 => let I63 := q61; (r_codes I63 z 3004).bind (fun q64 => let I66 := q64; some I66))))) else ((r_nextToken F I5 z).bind (fun q48 => let I50 := q48; (rec 3 v1 I50).bind (fun q51 => let I53 := q51; (r_codes I53 z 3004).bind (fun q54 => let I56 := q54; some I56)))))) else (if (r_is I5 z 39) = 0 then (if (r_is I5 z 40) = 0 then (if (r_is I5 z 41) = 0 then ((r_fails I5 z 2).bind (fun q107 => let I109 := q107; (rec 3 v1 I109).bind (fun q110 => let I112 := q110; (r_codes I112 z 3003).bind (fun q113 => let I115 := q113; some I115)))) else ((r_nextToken F I5 z).bind (fun q116 => let I118 := q116; (rec 3 v1 I118).bind (fun q119 => let I121 := q119; (r_codes I121 z 3003).bind (fun q122 => let I124 := q122; some I124))))) else ((r_nextToken F I5 z).bind (fun q97 => let I99 := q97; (rec 3 v1 I99).bind (fun q100 => let I102 := q100; (r_codes I102 z 3003).bind (fun q103 => let I105 := q103; some I105))))) else ((r_nextToken F I5 z).bind (fun q87 => let I89 := q87; (rec 3 v1 I89).bind (fun q90 => let I92 := q90; (r_codes I92 z 3003).bind (fun q93 => let I95 := q93; some I95))))))) else ((r_goesIn F I z v1).bind (fun q125 => let u127 := q125.1; let I128 := q125.2; if u127 = 0 then (some I128) else ((rec 6 (v1 + 1) I128).bind (fun q130 => let I132 := q130; (r_eats F I132 z 38).bind (fun q133 => let u135 := q133.1; let I136 := q133.2; if u135 = 0 then ((r_fails I136 z 2).bind (fun q138 => let I140 := q138; some I140)) else (some I136))))))) else ((r_goesIn F I z v1).bind (fun q141 => let u143 := q141.1; let I144 := q141.2; if u143 = 0 then (some I144) else ((rec 4 (v1 + 1) I144).bind (fun q146 => let I148 := q146; (r_codes I148 z 3006).bind (fun q149 => let I151 := q149; some I151)))))
def r_readBothB_5 (rec : Nat → Int32 → (Nat → Nat → Int32) → Option ((Nat → Nat → Int32))) (F : Nat) (z : Nat) (g1 : Int32) : Nat → (Nat → Nat → Int32) → Option ((Nat → Nat → Int32))
  | 0, _ => none
  | k + 1, I => (r_eats F I z 17).bind (fun q4 => let u6 := q4.1; let I7 := q4.2; if u6 = 0 then (some I7) else ((rec 4 g1 I7).bind (fun q9 => let I11 := q9; (r_codes I11 z 3007).bind (fun q12 => let I14 := q12; r_readBothB_5 rec F z g1 k I14))))
def r_readBothB (rec : Nat → Int32 → (Nat → Nat → Int32) → Option ((Nat → Nat → Int32))) (F : Nat) (I : Nat → Nat → Int32) (z : Nat) (v1 : Int32) : Option ((Nat → Nat → Int32)) := (rec 4 v1 I).bind (fun q1 => let I3 := q1; (r_readBothB_5 rec F z v1 F I3).bind (fun q15 => let I17 := q15; some I17))
def r_readTruthB_5 (rec : Nat → Int32 → (Nat → Nat → Int32) → Option ((Nat → Nat → Int32))) (F : Nat) (z : Nat) (g1 : Int32) : Nat → (Nat → Nat → Int32) → Option ((Nat → Nat → Int32))
  | 0, _ => none
  | k + 1, I => (r_eats F I z 18).bind (fun q4 => let u6 := q4.1; let I7 := q4.2; if u6 = 0 then (some I7) else ((rec 5 g1 I7).bind (fun q9 => let I11 := q9; (r_codes I11 z 3008).bind (fun q12 => let I14 := q12; r_readTruthB_5 rec F z g1 k I14))))
def r_readTruthB (rec : Nat → Int32 → (Nat → Nat → Int32) → Option ((Nat → Nat → Int32))) (F : Nat) (I : Nat → Nat → Int32) (z : Nat) (v1 : Int32) : Option ((Nat → Nat → Int32)) := (rec 5 v1 I).bind (fun q1 => let I3 := q1; (r_readTruthB_5 rec F z v1 F I3).bind (fun q15 => let I17 := q15; some I17))
def r_parse (F : Nat) (z : Nat) : Nat → Nat → Int32 → (Nat → Nat → Int32) → Option ((Nat → Nat → Int32))
  | 0, _, _, _ => none
  | kr + 1, t, a0, I => if t = 0 then r_readAtomB (r_parse F z kr) F I z a0 else if t = 1 then r_readIfB (r_parse F z kr) F I z a0 else if t = 2 then r_readTermB (r_parse F z kr) F I z a0 else if t = 3 then r_readSumB (r_parse F z kr) F I z a0 else if t = 4 then r_readUnitB (r_parse F z kr) F I z a0 else if t = 5 then r_readBothB (r_parse F z kr) F I z a0 else r_readTruthB (r_parse F z kr) F I z a0
def r_parse_H (l : Launch) (D : va_G) (E : Nat → ClassId) (B : Nat → Prop) (n F : Nat) (T : Nat → Option (Nat × Nat)) (J : Nat → Nat → Int64) (P : Nat → Nat → Option Nat) (z : Nat) (k : Nat) : Prop := (∀ {a0 : Int32} {I : Nat → Nat → Int32} {r : (Nat → Nat → Int32)}, isMd T P z → r_parse F z k 0 a0 I = some r → Ct l D E B yX12_readAtom cX12_readAtom 2 none (20 + k) 0 0 [.ref z, .int a0] (n, T, I, J, P) (Ret (none) (n, T, r, J, P))) ∧ (∀ {a0 : Int32} {I : Nat → Nat → Int32} {r : (Nat → Nat → Int32)}, isMd T P z → r_parse F z k 1 a0 I = some r → Ct l D E B yX12_readIf cX12_readIf 2 none (20 + k) 0 0 [.ref z, .int a0] (n, T, I, J, P) (Ret (none) (n, T, r, J, P))) ∧ (∀ {a0 : Int32} {I : Nat → Nat → Int32} {r : (Nat → Nat → Int32)}, isMd T P z → r_parse F z k 2 a0 I = some r → Ct l D E B yX12_readTerm cX12_readTerm 2 none (20 + k) 0 0 [.ref z, .int a0] (n, T, I, J, P) (Ret (none) (n, T, r, J, P))) ∧ (∀ {a0 : Int32} {I : Nat → Nat → Int32} {r : (Nat → Nat → Int32)}, isMd T P z → r_parse F z k 3 a0 I = some r → Ct l D E B yX12_readSum cX12_readSum 3 none (20 + k) 0 0 [.ref z, .int a0] (n, T, I, J, P) (Ret (none) (n, T, r, J, P))) ∧ (∀ {a0 : Int32} {I : Nat → Nat → Int32} {r : (Nat → Nat → Int32)}, isMd T P z → r_parse F z k 4 a0 I = some r → Ct l D E B yX12_readUnit cX12_readUnit 3 none (20 + k) 0 0 [.ref z, .int a0] (n, T, I, J, P) (Ret (none) (n, T, r, J, P))) ∧ (∀ {a0 : Int32} {I : Nat → Nat → Int32} {r : (Nat → Nat → Int32)}, isMd T P z → r_parse F z k 5 a0 I = some r → Ct l D E B yX12_readBoth cX12_readBoth 2 none (20 + k) 0 0 [.ref z, .int a0] (n, T, I, J, P) (Ret (none) (n, T, r, J, P))) ∧ (∀ {a0 : Int32} {I : Nat → Nat → Int32} {r : (Nat → Nat → Int32)}, isMd T P z → r_parse F z k 6 a0 I = some r → Ct l D E B yX12_readTruth cX12_readTruth 2 none (20 + k) 0 0 [.ref z, .int a0] (n, T, I, J, P) (Ret (none) (n, T, r, J, P)))
theorem l_r_readTermB_5 {l : Launch} {D : va_G} {E : Nat → ClassId} {B : Nat → Prop} {n F : Nat} {Q : Option Value → HT → Prop} {T : Nat → Option (Nat × Nat)} {J : Nat → Nat → Int64} {P : Nat → Nat → Option Nat} {z : Nat} {g1 : Int32} (hs_z : isMd T P z) {kr : Nat} (ih0 : r_parse_H l D E B n F T J P z kr) (r : (Nat → Nat → Int32)) : ∀ (k : Nat) (I : (Nat → Nat → Int32)), r_readTermB_5 (r_parse F z kr) F z g1 k I = some r → V l D E B yX12_readTerm cX12_readTerm 2 none (20 + (kr + 1)) 0 0 Q 0 0 (n, T, r, J, P) 29 [(0, some (.ref z)), (1, some (.int g1))] [] → V l D E B yX12_readTerm cX12_readTerm 2 none (20 + (kr + 1)) 0 0 Q 0 0 (n, T, I, J, P) 5 [(0, some (.ref z)), (1, some (.int g1))] [] := by
  intro k
  induction k with
  | zero =>
    intro I hf hk
    cases hf
  | succ k ih =>
    intro I hf hk
    unfold r_readTermB_5 at hf
    refine V.aload_n dX12_readTerm_5 rfl ?_
    refine V.bipush (v := 34) dX12_readTerm_6 (by decide) ?_
    obtain ⟨⟨u6, I7⟩, hk5, hf⟩ := bnd_some hf
    try dsimp only at hf
    refine V.inv cv_X12_161 (c_r_eats hs_z hk5) dX12_readTerm_8 (hs_z.1 0 (12, 0) rfl) (by decide) rfl rfl rfl (Nat.le_of_ble_eq_true rfl) (by omega) (by decide) (Nat.le_refl _) (Nat.le_refl _) (fun _ _ hq => ?_)
    obtain ⟨rfl, rfl⟩ := hq
    try dsimp only
    refine V.if_eq 29 dX12_readTerm_11 (by decide) (fun c8 => ?_) (fun c8 => ?_)
    · rw [if_pos c8] at hf
      obtain rfl := Option.some.inj hf
      exact V.lo [(0, some (.ref z)), (1, some (.int g1))] (by simp only [Subs]; repeat' first | exact trivial | constructor | rfl) hk
    · rw [if_neg c8] at hf
      refine V.aload_n dX12_readTerm_14 rfl ?_
      refine V.iload_n dX12_readTerm_15 rfl ?_
      obtain ⟨I11, hk10, hf⟩ := bnd_some hf
      try dsimp only at hf
      refine V.inv cv_X12_170 ((ih0.1) hs_z hk10) dX12_readTerm_16 (hs_z.1 0 (12, 0) rfl) (by decide) rfl rfl rfl (Nat.le_of_ble_eq_true rfl) (by omega) (by decide) (Nat.le_refl _) (Nat.le_refl _) (fun _ _ hq => ?_)
      obtain ⟨rfl, rfl⟩ := hq
      refine V.aload_n dX12_readTerm_19 rfl ?_
      refine V.sipush (v := 3002) dX12_readTerm_20 (by decide) ?_
      obtain ⟨I14, hk13, hf⟩ := bnd_some hf
      try dsimp only at hf
      refine V.inv cv_X12_149 (c_r_codes hs_z hk13) dX12_readTerm_23 (hs_z.1 0 (12, 0) rfl) (by decide) rfl rfl rfl (Nat.le_of_ble_eq_true rfl) (by omega) (by decide) (Nat.le_refl _) (Nat.le_refl _) (fun _ _ hq => ?_)
      obtain ⟨rfl, rfl⟩ := hq
      refine V.goto 5 dX12_readTerm_26 (by decide) ?_
      exact V.lo [(0, some (.ref z)), (1, some (.int g1))] (by simp only [Subs]; repeat' first | exact trivial | constructor | rfl) (ih _ hf hk)
theorem l_r_readSumB_5 {l : Launch} {D : va_G} {E : Nat → ClassId} {B : Nat → Prop} {n F : Nat} {Q : Option Value → HT → Prop} {T : Nat → Option (Nat × Nat)} {J : Nat → Nat → Int64} {P : Nat → Nat → Option Nat} {z : Nat} {g1 : Int32} (hs_z : isMd T P z) {kr : Nat} (ih0 : r_parse_H l D E B n F T J P z kr) (r : (Nat → Nat → Int32)) : ∀ (k : Nat) (I : (Nat → Nat → Int32)), r_readSumB_5 (r_parse F z kr) F z g1 k I = some r → V l D E B yX12_readSum cX12_readSum 3 none (20 + (kr + 1)) 0 0 Q 0 0 (n, T, r, J, P) 59 [(0, some (.ref z)), (1, some (.int g1))] [] → V l D E B yX12_readSum cX12_readSum 3 none (20 + (kr + 1)) 0 0 Q 0 0 (n, T, I, J, P) 5 [(0, some (.ref z)), (1, some (.int g1))] [] := by
  intro k
  induction k with
  | zero =>
    intro I hf hk
    cases hf
  | succ k ih =>
    intro I hf hk
    unfold r_readSumB_5 at hf
    refine V.aload_n dX12_readSum_5 rfl ?_
    refine V.bipush (v := 32) dX12_readSum_6 (by decide) ?_
    refine V.inv cv_X12_135 (c_r_is hs_z) dX12_readSum_8 (hs_z.1 0 (12, 0) rfl) (by decide) rfl rfl rfl (Nat.le_of_ble_eq_true rfl) (by omega) (by decide) (Nat.le_refl _) (Nat.le_refl _) (fun _ _ hq => ?_)
    obtain ⟨rfl, rfl⟩ := hq
    refine V.if_ne 23 dX12_readSum_11 (by decide) (fun c4 => ?_) (fun c4 => ?_)
    · rw [if_neg c4] at hf
      refine V.aload_n dX12_readSum_23 rfl ?_
      refine V.getf fl_X12_111 dX12_readSum_24 (hs_z.1 0 (12, 0) rfl) (by decide) rfl ?_
      refine V.bipush (v := 32) dX12_readSum_27 (by decide) ?_
      refine V.icmp_ne 38 dX12_readSum_29 (by decide) (fun c5 => ?_) (fun c5 => ?_)
      · rw [if_neg c5] at hf
        refine V.sipush (v := 3001) dX12_readSum_38 (by decide) ?_
        refine V.istore_n dX12_readSum_41 rfl (by decide) (by first | exact rfl | exact trivial) ?_
        refine V.aload_n dX12_readSum_42 rfl ?_
        obtain ⟨I8, hk7, hf⟩ := bnd_some hf
        try dsimp only at hf
        refine V.inv cv_X12_138 (c_r_nextToken hs_z hk7) dX12_readSum_43 (hs_z.1 0 (12, 0) rfl) (by decide) rfl rfl rfl (Nat.le_of_ble_eq_true rfl) (by omega) (by decide) (Nat.le_refl _) (Nat.le_refl _) (fun _ _ hq => ?_)
        obtain ⟨rfl, rfl⟩ := hq
        refine V.aload_n dX12_readSum_46 rfl ?_
        refine V.iload_n dX12_readSum_47 rfl ?_
        obtain ⟨I11, hk10, hf⟩ := bnd_some hf
        try dsimp only at hf
        refine V.inv cv_X12_173 ((ih0.2.2.1) hs_z hk10) dX12_readSum_48 (hs_z.1 0 (12, 0) rfl) (by decide) rfl rfl rfl (Nat.le_of_ble_eq_true rfl) (by omega) (by decide) (Nat.le_refl _) (Nat.le_refl _) (fun _ _ hq => ?_)
        obtain ⟨rfl, rfl⟩ := hq
        refine V.aload_n dX12_readSum_51 rfl ?_
        refine V.iload_n dX12_readSum_52 rfl ?_
        obtain ⟨I14, hk13, hf⟩ := bnd_some hf
        try dsimp only at hf
        refine V.inv cv_X12_149 (c_r_codes hs_z hk13) dX12_readSum_53 (hs_z.1 0 (12, 0) rfl) (by decide) rfl rfl rfl (Nat.le_of_ble_eq_true rfl) (by omega) (by decide) (Nat.le_refl _) (Nat.le_refl _) (fun _ _ hq => ?_)
        obtain ⟨rfl, rfl⟩ := hq
        refine V.goto 5 dX12_readSum_56 (by decide) ?_
        exact V.lo [(0, some (.ref z)), (1, some (.int g1))] (by simp only [Subs]; repeat' first | exact trivial | constructor | rfl) (ih _ hf hk)
      · rw [if_pos c5] at hf
        refine V.sipush (v := 3000) dX12_readSum_32 (by decide) ?_
        refine V.goto 41 dX12_readSum_35 (by decide) ?_
        refine V.istore_n dX12_readSum_41 rfl (by decide) (by first | exact rfl | exact trivial) ?_
        refine V.aload_n dX12_readSum_42 rfl ?_
        obtain ⟨I17, hk16, hf⟩ := bnd_some hf
        try dsimp only at hf
        refine V.inv cv_X12_138 (c_r_nextToken hs_z hk16) dX12_readSum_43 (hs_z.1 0 (12, 0) rfl) (by decide) rfl rfl rfl (Nat.le_of_ble_eq_true rfl) (by omega) (by decide) (Nat.le_refl _) (Nat.le_refl _) (fun _ _ hq => ?_)
        obtain ⟨rfl, rfl⟩ := hq
        refine V.aload_n dX12_readSum_46 rfl ?_
        refine V.iload_n dX12_readSum_47 rfl ?_
        obtain ⟨I20, hk19, hf⟩ := bnd_some hf
        try dsimp only at hf
        refine V.inv cv_X12_173 ((ih0.2.2.1) hs_z hk19) dX12_readSum_48 (hs_z.1 0 (12, 0) rfl) (by decide) rfl rfl rfl (Nat.le_of_ble_eq_true rfl) (by omega) (by decide) (Nat.le_refl _) (Nat.le_refl _) (fun _ _ hq => ?_)
        obtain ⟨rfl, rfl⟩ := hq
        refine V.aload_n dX12_readSum_51 rfl ?_
        refine V.iload_n dX12_readSum_52 rfl ?_
        obtain ⟨I23, hk22, hf⟩ := bnd_some hf
        try dsimp only at hf
        refine V.inv cv_X12_149 (c_r_codes hs_z hk22) dX12_readSum_53 (hs_z.1 0 (12, 0) rfl) (by decide) rfl rfl rfl (Nat.le_of_ble_eq_true rfl) (by omega) (by decide) (Nat.le_refl _) (Nat.le_refl _) (fun _ _ hq => ?_)
        obtain ⟨rfl, rfl⟩ := hq
        refine V.goto 5 dX12_readSum_56 (by decide) ?_
        exact V.lo [(0, some (.ref z)), (1, some (.int g1))] (by simp only [Subs]; repeat' first | exact trivial | constructor | rfl) (ih _ hf hk)
    · rw [if_pos c4] at hf
      refine V.aload_n dX12_readSum_14 rfl ?_
      refine V.bipush (v := 33) dX12_readSum_15 (by decide) ?_
      refine V.inv cv_X12_135 (c_r_is hs_z) dX12_readSum_17 (hs_z.1 0 (12, 0) rfl) (by decide) rfl rfl rfl (Nat.le_of_ble_eq_true rfl) (by omega) (by decide) (Nat.le_refl _) (Nat.le_refl _) (fun _ _ hq => ?_)
      obtain ⟨rfl, rfl⟩ := hq
      refine V.if_eq 59 dX12_readSum_20 (by decide) (fun c24 => ?_) (fun c24 => ?_)
      · rw [if_pos c24] at hf
        obtain rfl := Option.some.inj hf
        exact V.lo [(0, some (.ref z)), (1, some (.int g1))] (by simp only [Subs]; repeat' first | exact trivial | constructor | rfl) hk
      · rw [if_neg c24] at hf
        refine V.aload_n dX12_readSum_23 rfl ?_
        refine V.getf fl_X12_111 dX12_readSum_24 (hs_z.1 0 (12, 0) rfl) (by decide) rfl ?_
        refine V.bipush (v := 32) dX12_readSum_27 (by decide) ?_
        refine V.icmp_ne 38 dX12_readSum_29 (by decide) (fun c25 => ?_) (fun c25 => ?_)
        · rw [if_neg c25] at hf
          refine V.sipush (v := 3001) dX12_readSum_38 (by decide) ?_
          refine V.istore_n dX12_readSum_41 rfl (by decide) (by first | exact rfl | exact trivial) ?_
          refine V.aload_n dX12_readSum_42 rfl ?_
          obtain ⟨I28, hk27, hf⟩ := bnd_some hf
          try dsimp only at hf
          refine V.inv cv_X12_138 (c_r_nextToken hs_z hk27) dX12_readSum_43 (hs_z.1 0 (12, 0) rfl) (by decide) rfl rfl rfl (Nat.le_of_ble_eq_true rfl) (by omega) (by decide) (Nat.le_refl _) (Nat.le_refl _) (fun _ _ hq => ?_)
          obtain ⟨rfl, rfl⟩ := hq
          refine V.aload_n dX12_readSum_46 rfl ?_
          refine V.iload_n dX12_readSum_47 rfl ?_
          obtain ⟨I31, hk30, hf⟩ := bnd_some hf
          try dsimp only at hf
          refine V.inv cv_X12_173 ((ih0.2.2.1) hs_z hk30) dX12_readSum_48 (hs_z.1 0 (12, 0) rfl) (by decide) rfl rfl rfl (Nat.le_of_ble_eq_true rfl) (by omega) (by decide) (Nat.le_refl _) (Nat.le_refl _) (fun _ _ hq => ?_)
          obtain ⟨rfl, rfl⟩ := hq
          refine V.aload_n dX12_readSum_51 rfl ?_
          refine V.iload_n dX12_readSum_52 rfl ?_
          obtain ⟨I34, hk33, hf⟩ := bnd_some hf
          try dsimp only at hf
          refine V.inv cv_X12_149 (c_r_codes hs_z hk33) dX12_readSum_53 (hs_z.1 0 (12, 0) rfl) (by decide) rfl rfl rfl (Nat.le_of_ble_eq_true rfl) (by omega) (by decide) (Nat.le_refl _) (Nat.le_refl _) (fun _ _ hq => ?_)
          obtain ⟨rfl, rfl⟩ := hq
          refine V.goto 5 dX12_readSum_56 (by decide) ?_
          exact V.lo [(0, some (.ref z)), (1, some (.int g1))] (by simp only [Subs]; repeat' first | exact trivial | constructor | rfl) (ih _ hf hk)
        · rw [if_pos c25] at hf
          refine V.sipush (v := 3000) dX12_readSum_32 (by decide) ?_
          refine V.goto 41 dX12_readSum_35 (by decide) ?_
          refine V.istore_n dX12_readSum_41 rfl (by decide) (by first | exact rfl | exact trivial) ?_
          refine V.aload_n dX12_readSum_42 rfl ?_
          obtain ⟨I37, hk36, hf⟩ := bnd_some hf
          try dsimp only at hf
          refine V.inv cv_X12_138 (c_r_nextToken hs_z hk36) dX12_readSum_43 (hs_z.1 0 (12, 0) rfl) (by decide) rfl rfl rfl (Nat.le_of_ble_eq_true rfl) (by omega) (by decide) (Nat.le_refl _) (Nat.le_refl _) (fun _ _ hq => ?_)
          obtain ⟨rfl, rfl⟩ := hq
          refine V.aload_n dX12_readSum_46 rfl ?_
          refine V.iload_n dX12_readSum_47 rfl ?_
          obtain ⟨I40, hk39, hf⟩ := bnd_some hf
          try dsimp only at hf
          refine V.inv cv_X12_173 ((ih0.2.2.1) hs_z hk39) dX12_readSum_48 (hs_z.1 0 (12, 0) rfl) (by decide) rfl rfl rfl (Nat.le_of_ble_eq_true rfl) (by omega) (by decide) (Nat.le_refl _) (Nat.le_refl _) (fun _ _ hq => ?_)
          obtain ⟨rfl, rfl⟩ := hq
          refine V.aload_n dX12_readSum_51 rfl ?_
          refine V.iload_n dX12_readSum_52 rfl ?_
          obtain ⟨I43, hk42, hf⟩ := bnd_some hf
          try dsimp only at hf
          refine V.inv cv_X12_149 (c_r_codes hs_z hk42) dX12_readSum_53 (hs_z.1 0 (12, 0) rfl) (by decide) rfl rfl rfl (Nat.le_of_ble_eq_true rfl) (by omega) (by decide) (Nat.le_refl _) (Nat.le_refl _) (fun _ _ hq => ?_)
          obtain ⟨rfl, rfl⟩ := hq
          refine V.goto 5 dX12_readSum_56 (by decide) ?_
          exact V.lo [(0, some (.ref z)), (1, some (.int g1))] (by simp only [Subs]; repeat' first | exact trivial | constructor | rfl) (ih _ hf hk)
theorem l_r_readBothB_5 {l : Launch} {D : va_G} {E : Nat → ClassId} {B : Nat → Prop} {n F : Nat} {Q : Option Value → HT → Prop} {T : Nat → Option (Nat × Nat)} {J : Nat → Nat → Int64} {P : Nat → Nat → Option Nat} {z : Nat} {g1 : Int32} (hs_z : isMd T P z) {kr : Nat} (ih0 : r_parse_H l D E B n F T J P z kr) (r : (Nat → Nat → Int32)) : ∀ (k : Nat) (I : (Nat → Nat → Int32)), r_readBothB_5 (r_parse F z kr) F z g1 k I = some r → V l D E B yX12_readBoth cX12_readBoth 2 none (20 + (kr + 1)) 0 0 Q 0 0 (n, T, r, J, P) 29 [(0, some (.ref z)), (1, some (.int g1))] [] → V l D E B yX12_readBoth cX12_readBoth 2 none (20 + (kr + 1)) 0 0 Q 0 0 (n, T, I, J, P) 5 [(0, some (.ref z)), (1, some (.int g1))] [] := by
  intro k
  induction k with
  | zero =>
    intro I hf hk
    cases hf
  | succ k ih =>
    intro I hf hk
    unfold r_readBothB_5 at hf
    refine V.aload_n dX12_readBoth_5 rfl ?_
    refine V.bipush (v := 17) dX12_readBoth_6 (by decide) ?_
    obtain ⟨⟨u6, I7⟩, hk5, hf⟩ := bnd_some hf
    try dsimp only at hf
    refine V.inv cv_X12_161 (c_r_eats hs_z hk5) dX12_readBoth_8 (hs_z.1 0 (12, 0) rfl) (by decide) rfl rfl rfl (Nat.le_of_ble_eq_true rfl) (by omega) (by decide) (Nat.le_refl _) (Nat.le_refl _) (fun _ _ hq => ?_)
    obtain ⟨rfl, rfl⟩ := hq
    try dsimp only
    refine V.if_eq 29 dX12_readBoth_11 (by decide) (fun c8 => ?_) (fun c8 => ?_)
    · rw [if_pos c8] at hf
      obtain rfl := Option.some.inj hf
      exact V.lo [(0, some (.ref z)), (1, some (.int g1))] (by simp only [Subs]; repeat' first | exact trivial | constructor | rfl) hk
    · rw [if_neg c8] at hf
      refine V.aload_n dX12_readBoth_14 rfl ?_
      refine V.iload_n dX12_readBoth_15 rfl ?_
      obtain ⟨I11, hk10, hf⟩ := bnd_some hf
      try dsimp only at hf
      refine V.inv cv_X12_176 ((ih0.2.2.2.2.1) hs_z hk10) dX12_readBoth_16 (hs_z.1 0 (12, 0) rfl) (by decide) rfl rfl rfl (Nat.le_of_ble_eq_true rfl) (by omega) (by decide) (Nat.le_refl _) (Nat.le_refl _) (fun _ _ hq => ?_)
      obtain ⟨rfl, rfl⟩ := hq
      refine V.aload_n dX12_readBoth_19 rfl ?_
      refine V.sipush (v := 3007) dX12_readBoth_20 (by decide) ?_
      obtain ⟨I14, hk13, hf⟩ := bnd_some hf
      try dsimp only at hf
      refine V.inv cv_X12_149 (c_r_codes hs_z hk13) dX12_readBoth_23 (hs_z.1 0 (12, 0) rfl) (by decide) rfl rfl rfl (Nat.le_of_ble_eq_true rfl) (by omega) (by decide) (Nat.le_refl _) (Nat.le_refl _) (fun _ _ hq => ?_)
      obtain ⟨rfl, rfl⟩ := hq
      refine V.goto 5 dX12_readBoth_26 (by decide) ?_
      exact V.lo [(0, some (.ref z)), (1, some (.int g1))] (by simp only [Subs]; repeat' first | exact trivial | constructor | rfl) (ih _ hf hk)
theorem l_r_readTruthB_5 {l : Launch} {D : va_G} {E : Nat → ClassId} {B : Nat → Prop} {n F : Nat} {Q : Option Value → HT → Prop} {T : Nat → Option (Nat × Nat)} {J : Nat → Nat → Int64} {P : Nat → Nat → Option Nat} {z : Nat} {g1 : Int32} (hs_z : isMd T P z) {kr : Nat} (ih0 : r_parse_H l D E B n F T J P z kr) (r : (Nat → Nat → Int32)) : ∀ (k : Nat) (I : (Nat → Nat → Int32)), r_readTruthB_5 (r_parse F z kr) F z g1 k I = some r → V l D E B yX12_readTruth cX12_readTruth 2 none (20 + (kr + 1)) 0 0 Q 0 0 (n, T, r, J, P) 29 [(0, some (.ref z)), (1, some (.int g1))] [] → V l D E B yX12_readTruth cX12_readTruth 2 none (20 + (kr + 1)) 0 0 Q 0 0 (n, T, I, J, P) 5 [(0, some (.ref z)), (1, some (.int g1))] [] := by
  intro k
  induction k with
  | zero =>
    intro I hf hk
    cases hf
  | succ k ih =>
    intro I hf hk
    unfold r_readTruthB_5 at hf
    refine V.aload_n dX12_readTruth_5 rfl ?_
    refine V.bipush (v := 18) dX12_readTruth_6 (by decide) ?_
    obtain ⟨⟨u6, I7⟩, hk5, hf⟩ := bnd_some hf
    try dsimp only at hf
    refine V.inv cv_X12_161 (c_r_eats hs_z hk5) dX12_readTruth_8 (hs_z.1 0 (12, 0) rfl) (by decide) rfl rfl rfl (Nat.le_of_ble_eq_true rfl) (by omega) (by decide) (Nat.le_refl _) (Nat.le_refl _) (fun _ _ hq => ?_)
    obtain ⟨rfl, rfl⟩ := hq
    try dsimp only
    refine V.if_eq 29 dX12_readTruth_11 (by decide) (fun c8 => ?_) (fun c8 => ?_)
    · rw [if_pos c8] at hf
      obtain rfl := Option.some.inj hf
      exact V.lo [(0, some (.ref z)), (1, some (.int g1))] (by simp only [Subs]; repeat' first | exact trivial | constructor | rfl) hk
    · rw [if_neg c8] at hf
      refine V.aload_n dX12_readTruth_14 rfl ?_
      refine V.iload_n dX12_readTruth_15 rfl ?_
      obtain ⟨I11, hk10, hf⟩ := bnd_some hf
      try dsimp only at hf
      refine V.inv cv_X12_179 ((ih0.2.2.2.2.2.1) hs_z hk10) dX12_readTruth_16 (hs_z.1 0 (12, 0) rfl) (by decide) rfl rfl rfl (Nat.le_of_ble_eq_true rfl) (by omega) (by decide) (Nat.le_refl _) (Nat.le_refl _) (fun _ _ hq => ?_)
      obtain ⟨rfl, rfl⟩ := hq
      refine V.aload_n dX12_readTruth_19 rfl ?_
      refine V.sipush (v := 3008) dX12_readTruth_20 (by decide) ?_
      obtain ⟨I14, hk13, hf⟩ := bnd_some hf
      try dsimp only at hf
      refine V.inv cv_X12_149 (c_r_codes hs_z hk13) dX12_readTruth_23 (hs_z.1 0 (12, 0) rfl) (by decide) rfl rfl rfl (Nat.le_of_ble_eq_true rfl) (by omega) (by decide) (Nat.le_refl _) (Nat.le_refl _) (fun _ _ hq => ?_)
      obtain ⟨rfl, rfl⟩ := hq
      refine V.goto 5 dX12_readTruth_26 (by decide) ?_
      exact V.lo [(0, some (.ref z)), (1, some (.int g1))] (by simp only [Subs]; repeat' first | exact trivial | constructor | rfl) (ih _ hf hk)
theorem s_r_readAtomB {l : Launch} {D : va_G} {E : Nat → ClassId} {B : Nat → Prop} {n F : Nat} {T : Nat → Option (Nat × Nat)} {J : Nat → Nat → Int64} {P : Nat → Nat → Option Nat} {z : Nat} {kr : Nat} (ih0 : r_parse_H l D E B n F T J P z kr) {v1 : Int32} {I : Nat → Nat → Int32} {r : (Nat → Nat → Int32)} (hs_z : isMd T P z) (hf : r_readAtomB (r_parse F z kr) F I z v1 = some r) : Ct l D E B yX12_readAtom cX12_readAtom 2 none (20 + (kr + 1)) 0 0 [.ref z, .int v1] (n, T, I, J, P) (Ret (none) (n, T, r, J, P)) := by
  unfold r_readAtomB at hf
  refine Ct.ofV (by decide) (Nat.le_of_ble_eq_true rfl) ?_
  refine V.aload_n dX12_readAtom_0 rfl ?_
  refine V.bipush (v := 23) dX12_readAtom_1 (by decide) ?_
  refine V.inv cv_X12_135 (c_r_is hs_z) dX12_readAtom_3 (hs_z.1 0 (12, 0) rfl) (by decide) rfl rfl rfl (Nat.le_of_ble_eq_true rfl) (by omega) (by decide) (Nat.le_refl _) (Nat.le_refl _) (fun _ _ hq => ?_)
  obtain ⟨rfl, rfl⟩ := hq
  refine V.if_eq 24 dX12_readAtom_6 (by decide) (fun c1 => ?_) (fun c1 => ?_)
  · rw [if_pos c1] at hf
    refine V.aload_n dX12_readAtom_24 rfl ?_
    refine V.getf fl_X12_129 dX12_readAtom_25 (hs_z.1 0 (12, 0) rfl) (by decide) rfl ?_
    refine V.if_ne 66 dX12_readAtom_28 (by decide) (fun c2 => ?_) (fun c2 => ?_)
    · rw [if_neg c2] at hf
      refine V.aload_n dX12_readAtom_66 rfl ?_
      refine V.bipush (v := 35) dX12_readAtom_67 (by decide) ?_
      refine V.inv cv_X12_135 (c_r_is hs_z) dX12_readAtom_69 (hs_z.1 0 (12, 0) rfl) (by decide) rfl rfl rfl (Nat.le_of_ble_eq_true rfl) (by omega) (by decide) (Nat.le_refl _) (Nat.le_refl _) (fun _ _ hq => ?_)
      obtain ⟨rfl, rfl⟩ := hq
      refine V.if_eq 108 dX12_readAtom_72 (by decide) (fun c3 => ?_) (fun c3 => ?_)
      · rw [if_pos c3] at hf
        refine V.aload_n dX12_readAtom_108 rfl ?_
        refine V.bipush (v := 9) dX12_readAtom_109 (by decide) ?_
        refine V.inv cv_X12_135 (c_r_is hs_z) dX12_readAtom_111 (hs_z.1 0 (12, 0) rfl) (by decide) rfl rfl rfl (Nat.le_of_ble_eq_true rfl) (by omega) (by decide) (Nat.le_refl _) (Nat.le_refl _) (fun _ _ hq => ?_)
        obtain ⟨rfl, rfl⟩ := hq
        refine V.if_eq 125 dX12_readAtom_114 (by decide) (fun c4 => ?_) (fun c4 => ?_)
        · rw [if_pos c4] at hf
          refine V.aload_n dX12_readAtom_125 rfl ?_
          refine V.iconst (v := 2) dX12_readAtom_126 (by decide) ?_
          obtain ⟨I7, hk6, hf⟩ := bnd_some hf
          try dsimp only at hf
          refine V.inv cv_X12_141 (c_r_fails hs_z hk6) dX12_readAtom_127 (hs_z.1 0 (12, 0) rfl) (by decide) rfl rfl rfl (Nat.le_of_ble_eq_true rfl) (by omega) (by decide) (Nat.le_refl _) (Nat.le_refl _) (fun _ _ hq => ?_)
          obtain ⟨rfl, rfl⟩ := hq
          obtain rfl := Option.some.inj hf
          exact V.vret dX12_readAtom_130 rfl (Nat.le_refl _) (Nat.le_refl _) ⟨rfl, rfl⟩
        · rw [if_neg c4] at hf
          refine V.aload_n dX12_readAtom_117 rfl ?_
          refine V.iload_n dX12_readAtom_118 rfl ?_
          obtain ⟨I10, hk9, hf⟩ := bnd_some hf
          try dsimp only at hf
          refine V.inv cv_X12_164 ((ih0.2.1) hs_z hk9) dX12_readAtom_119 (hs_z.1 0 (12, 0) rfl) (by decide) rfl rfl rfl (Nat.le_of_ble_eq_true rfl) (by omega) (by decide) (Nat.le_refl _) (Nat.le_refl _) (fun _ _ hq => ?_)
          obtain ⟨rfl, rfl⟩ := hq
          refine V.goto 130 dX12_readAtom_122 (by decide) ?_
          obtain rfl := Option.some.inj hf
          exact V.vret dX12_readAtom_130 rfl (Nat.le_refl _) (Nat.le_refl _) ⟨rfl, rfl⟩
      · rw [if_neg c3] at hf
        refine V.aload_n dX12_readAtom_75 rfl ?_
        refine V.iload_n dX12_readAtom_76 rfl ?_
        obtain ⟨⟨u13, I14⟩, hk12, hf⟩ := bnd_some hf
        try dsimp only at hf
        refine V.inv cv_X12_155 (c_r_goesIn hs_z hk12) dX12_readAtom_77 (hs_z.1 0 (12, 0) rfl) (by decide) rfl rfl rfl (Nat.le_of_ble_eq_true rfl) (by omega) (by decide) (Nat.le_refl _) (Nat.le_refl _) (fun _ _ hq => ?_)
        obtain ⟨rfl, rfl⟩ := hq
        try dsimp only
        refine V.if_ne 84 dX12_readAtom_80 (by decide) (fun c15 => ?_) (fun c15 => ?_)
        · rw [if_neg c15] at hf
          refine V.aload_n dX12_readAtom_84 rfl ?_
          refine V.iload_n dX12_readAtom_85 rfl ?_
          refine V.iconst (v := 1) dX12_readAtom_86 (by decide) ?_
          refine V.iadd dX12_readAtom_87 ?_
          obtain ⟨I18, hk17, hf⟩ := bnd_some hf
          try dsimp only at hf
          refine V.inv cv_X12_158 ((ih0.2.2.2.1) hs_z hk17) dX12_readAtom_88 (hs_z.1 0 (12, 0) rfl) (by decide) rfl rfl rfl (Nat.le_of_ble_eq_true rfl) (by omega) (by decide) (Nat.le_refl _) (Nat.le_refl _) (fun _ _ hq => ?_)
          obtain ⟨rfl, rfl⟩ := hq
          refine V.aload_n dX12_readAtom_91 rfl ?_
          refine V.bipush (v := 36) dX12_readAtom_92 (by decide) ?_
          obtain ⟨⟨u21, I22⟩, hk20, hf⟩ := bnd_some hf
          try dsimp only at hf
          refine V.inv cv_X12_161 (c_r_eats hs_z hk20) dX12_readAtom_94 (hs_z.1 0 (12, 0) rfl) (by decide) rfl rfl rfl (Nat.le_of_ble_eq_true rfl) (by omega) (by decide) (Nat.le_refl _) (Nat.le_refl _) (fun _ _ hq => ?_)
          obtain ⟨rfl, rfl⟩ := hq
          try dsimp only
          refine V.if_ne 130 dX12_readAtom_97 (by decide) (fun c23 => ?_) (fun c23 => ?_)
          · rw [if_neg c23] at hf
            obtain rfl := Option.some.inj hf
            exact V.vret dX12_readAtom_130 rfl (Nat.le_refl _) (Nat.le_refl _) ⟨rfl, rfl⟩
          · rw [if_pos c23] at hf
            refine V.aload_n dX12_readAtom_100 rfl ?_
            refine V.iconst (v := 2) dX12_readAtom_101 (by decide) ?_
            obtain ⟨I26, hk25, hf⟩ := bnd_some hf
            try dsimp only at hf
            refine V.inv cv_X12_141 (c_r_fails hs_z hk25) dX12_readAtom_102 (hs_z.1 0 (12, 0) rfl) (by decide) rfl rfl rfl (Nat.le_of_ble_eq_true rfl) (by omega) (by decide) (Nat.le_refl _) (Nat.le_refl _) (fun _ _ hq => ?_)
            obtain ⟨rfl, rfl⟩ := hq
            refine V.goto 130 dX12_readAtom_105 (by decide) ?_
            obtain rfl := Option.some.inj hf
            exact V.vret dX12_readAtom_130 rfl (Nat.le_refl _) (Nat.le_refl _) ⟨rfl, rfl⟩
        · rw [if_pos c15] at hf
          obtain rfl := Option.some.inj hf
          exact V.vret dX12_readAtom_83 rfl (Nat.le_refl _) (Nat.le_refl _) ⟨rfl, rfl⟩
    · rw [if_pos c2] at hf
      refine V.aload_n dX12_readAtom_31 rfl ?_
      refine V.aload_n dX12_readAtom_32 rfl ?_
      refine V.getf fl_X12_111 dX12_readAtom_33 (hs_z.1 0 (12, 0) rfl) (by decide) rfl ?_
      refine V.inv cv_X12_152 (c_r_wordOf hs_z) dX12_readAtom_36 (hs_z.1 0 (12, 0) rfl) (by decide) rfl rfl rfl (Nat.le_of_ble_eq_true rfl) (by omega) (by decide) (Nat.le_refl _) (Nat.le_refl _) (fun _ _ hq => ?_)
      obtain ⟨rfl, rfl⟩ := hq
      refine V.iconst (v := -1) dX12_readAtom_39 (by decide) ?_
      refine V.icmp_eq 66 dX12_readAtom_40 (by decide) (fun c27 => ?_) (fun c27 => ?_)
      · rw [if_pos c27] at hf
        refine V.aload_n dX12_readAtom_66 rfl ?_
        refine V.bipush (v := 35) dX12_readAtom_67 (by decide) ?_
        refine V.inv cv_X12_135 (c_r_is hs_z) dX12_readAtom_69 (hs_z.1 0 (12, 0) rfl) (by decide) rfl rfl rfl (Nat.le_of_ble_eq_true rfl) (by omega) (by decide) (Nat.le_refl _) (Nat.le_refl _) (fun _ _ hq => ?_)
        obtain ⟨rfl, rfl⟩ := hq
        refine V.if_eq 108 dX12_readAtom_72 (by decide) (fun c28 => ?_) (fun c28 => ?_)
        · rw [if_pos c28] at hf
          refine V.aload_n dX12_readAtom_108 rfl ?_
          refine V.bipush (v := 9) dX12_readAtom_109 (by decide) ?_
          refine V.inv cv_X12_135 (c_r_is hs_z) dX12_readAtom_111 (hs_z.1 0 (12, 0) rfl) (by decide) rfl rfl rfl (Nat.le_of_ble_eq_true rfl) (by omega) (by decide) (Nat.le_refl _) (Nat.le_refl _) (fun _ _ hq => ?_)
          obtain ⟨rfl, rfl⟩ := hq
          refine V.if_eq 125 dX12_readAtom_114 (by decide) (fun c29 => ?_) (fun c29 => ?_)
          · rw [if_pos c29] at hf
            refine V.aload_n dX12_readAtom_125 rfl ?_
            refine V.iconst (v := 2) dX12_readAtom_126 (by decide) ?_
            obtain ⟨I32, hk31, hf⟩ := bnd_some hf
            try dsimp only at hf
            refine V.inv cv_X12_141 (c_r_fails hs_z hk31) dX12_readAtom_127 (hs_z.1 0 (12, 0) rfl) (by decide) rfl rfl rfl (Nat.le_of_ble_eq_true rfl) (by omega) (by decide) (Nat.le_refl _) (Nat.le_refl _) (fun _ _ hq => ?_)
            obtain ⟨rfl, rfl⟩ := hq
            obtain rfl := Option.some.inj hf
            exact V.vret dX12_readAtom_130 rfl (Nat.le_refl _) (Nat.le_refl _) ⟨rfl, rfl⟩
          · rw [if_neg c29] at hf
            refine V.aload_n dX12_readAtom_117 rfl ?_
            refine V.iload_n dX12_readAtom_118 rfl ?_
            obtain ⟨I35, hk34, hf⟩ := bnd_some hf
            try dsimp only at hf
            refine V.inv cv_X12_164 ((ih0.2.1) hs_z hk34) dX12_readAtom_119 (hs_z.1 0 (12, 0) rfl) (by decide) rfl rfl rfl (Nat.le_of_ble_eq_true rfl) (by omega) (by decide) (Nat.le_refl _) (Nat.le_refl _) (fun _ _ hq => ?_)
            obtain ⟨rfl, rfl⟩ := hq
            refine V.goto 130 dX12_readAtom_122 (by decide) ?_
            obtain rfl := Option.some.inj hf
            exact V.vret dX12_readAtom_130 rfl (Nat.le_refl _) (Nat.le_refl _) ⟨rfl, rfl⟩
        · rw [if_neg c28] at hf
          refine V.aload_n dX12_readAtom_75 rfl ?_
          refine V.iload_n dX12_readAtom_76 rfl ?_
          obtain ⟨⟨u38, I39⟩, hk37, hf⟩ := bnd_some hf
          try dsimp only at hf
          refine V.inv cv_X12_155 (c_r_goesIn hs_z hk37) dX12_readAtom_77 (hs_z.1 0 (12, 0) rfl) (by decide) rfl rfl rfl (Nat.le_of_ble_eq_true rfl) (by omega) (by decide) (Nat.le_refl _) (Nat.le_refl _) (fun _ _ hq => ?_)
          obtain ⟨rfl, rfl⟩ := hq
          try dsimp only
          refine V.if_ne 84 dX12_readAtom_80 (by decide) (fun c40 => ?_) (fun c40 => ?_)
          · rw [if_neg c40] at hf
            refine V.aload_n dX12_readAtom_84 rfl ?_
            refine V.iload_n dX12_readAtom_85 rfl ?_
            refine V.iconst (v := 1) dX12_readAtom_86 (by decide) ?_
            refine V.iadd dX12_readAtom_87 ?_
            obtain ⟨I43, hk42, hf⟩ := bnd_some hf
            try dsimp only at hf
            refine V.inv cv_X12_158 ((ih0.2.2.2.1) hs_z hk42) dX12_readAtom_88 (hs_z.1 0 (12, 0) rfl) (by decide) rfl rfl rfl (Nat.le_of_ble_eq_true rfl) (by omega) (by decide) (Nat.le_refl _) (Nat.le_refl _) (fun _ _ hq => ?_)
            obtain ⟨rfl, rfl⟩ := hq
            refine V.aload_n dX12_readAtom_91 rfl ?_
            refine V.bipush (v := 36) dX12_readAtom_92 (by decide) ?_
            obtain ⟨⟨u46, I47⟩, hk45, hf⟩ := bnd_some hf
            try dsimp only at hf
            refine V.inv cv_X12_161 (c_r_eats hs_z hk45) dX12_readAtom_94 (hs_z.1 0 (12, 0) rfl) (by decide) rfl rfl rfl (Nat.le_of_ble_eq_true rfl) (by omega) (by decide) (Nat.le_refl _) (Nat.le_refl _) (fun _ _ hq => ?_)
            obtain ⟨rfl, rfl⟩ := hq
            try dsimp only
            refine V.if_ne 130 dX12_readAtom_97 (by decide) (fun c48 => ?_) (fun c48 => ?_)
            · rw [if_neg c48] at hf
              obtain rfl := Option.some.inj hf
              exact V.vret dX12_readAtom_130 rfl (Nat.le_refl _) (Nat.le_refl _) ⟨rfl, rfl⟩
            · rw [if_pos c48] at hf
              refine V.aload_n dX12_readAtom_100 rfl ?_
              refine V.iconst (v := 2) dX12_readAtom_101 (by decide) ?_
              obtain ⟨I51, hk50, hf⟩ := bnd_some hf
              try dsimp only at hf
              refine V.inv cv_X12_141 (c_r_fails hs_z hk50) dX12_readAtom_102 (hs_z.1 0 (12, 0) rfl) (by decide) rfl rfl rfl (Nat.le_of_ble_eq_true rfl) (by omega) (by decide) (Nat.le_refl _) (Nat.le_refl _) (fun _ _ hq => ?_)
              obtain ⟨rfl, rfl⟩ := hq
              refine V.goto 130 dX12_readAtom_105 (by decide) ?_
              obtain rfl := Option.some.inj hf
              exact V.vret dX12_readAtom_130 rfl (Nat.le_refl _) (Nat.le_refl _) ⟨rfl, rfl⟩
          · rw [if_pos c40] at hf
            obtain rfl := Option.some.inj hf
            exact V.vret dX12_readAtom_83 rfl (Nat.le_refl _) (Nat.le_refl _) ⟨rfl, rfl⟩
      · rw [if_neg c27] at hf
        refine V.aload_n dX12_readAtom_43 rfl ?_
        refine V.sipush (v := 1000) dX12_readAtom_44 (by decide) ?_
        refine V.aload_n dX12_readAtom_47 rfl ?_
        refine V.aload_n dX12_readAtom_48 rfl ?_
        refine V.getf fl_X12_111 dX12_readAtom_49 (hs_z.1 0 (12, 0) rfl) (by decide) rfl ?_
        refine V.inv cv_X12_152 (c_r_wordOf hs_z) dX12_readAtom_52 (hs_z.1 0 (12, 0) rfl) (by decide) rfl rfl rfl (Nat.le_of_ble_eq_true rfl) (by omega) (by decide) (Nat.le_refl _) (Nat.le_refl _) (fun _ _ hq => ?_)
        obtain ⟨rfl, rfl⟩ := hq
        refine V.iadd dX12_readAtom_55 ?_
        obtain ⟨I54, hk53, hf⟩ := bnd_some hf
        try dsimp only at hf
        refine V.inv cv_X12_149 (c_r_codes hs_z hk53) dX12_readAtom_56 (hs_z.1 0 (12, 0) rfl) (by decide) rfl rfl rfl (Nat.le_of_ble_eq_true rfl) (by omega) (by decide) (Nat.le_refl _) (Nat.le_refl _) (fun _ _ hq => ?_)
        obtain ⟨rfl, rfl⟩ := hq
        refine V.aload_n dX12_readAtom_59 rfl ?_
        obtain ⟨I57, hk56, hf⟩ := bnd_some hf
        try dsimp only at hf
        refine V.inv cv_X12_138 (c_r_nextToken hs_z hk56) dX12_readAtom_60 (hs_z.1 0 (12, 0) rfl) (by decide) rfl rfl rfl (Nat.le_of_ble_eq_true rfl) (by omega) (by decide) (Nat.le_refl _) (Nat.le_refl _) (fun _ _ hq => ?_)
        obtain ⟨rfl, rfl⟩ := hq
        refine V.goto 130 dX12_readAtom_63 (by decide) ?_
        obtain rfl := Option.some.inj hf
        exact V.vret dX12_readAtom_130 rfl (Nat.le_refl _) (Nat.le_refl _) ⟨rfl, rfl⟩
  · rw [if_neg c1] at hf
    refine V.aload_n dX12_readAtom_9 rfl ?_
    refine V.aload_n dX12_readAtom_10 rfl ?_
    refine V.getf fl_X12_124 dX12_readAtom_11 (hs_z.1 0 (12, 0) rfl) (by decide) rfl ?_
    obtain ⟨I60, hk59, hf⟩ := bnd_some hf
    try dsimp only at hf
    refine V.inv cv_X12_149 (c_r_codes hs_z hk59) dX12_readAtom_14 (hs_z.1 0 (12, 0) rfl) (by decide) rfl rfl rfl (Nat.le_of_ble_eq_true rfl) (by omega) (by decide) (Nat.le_refl _) (Nat.le_refl _) (fun _ _ hq => ?_)
    obtain ⟨rfl, rfl⟩ := hq
    refine V.aload_n dX12_readAtom_17 rfl ?_
    obtain ⟨I63, hk62, hf⟩ := bnd_some hf
    try dsimp only at hf
    refine V.inv cv_X12_138 (c_r_nextToken hs_z hk62) dX12_readAtom_18 (hs_z.1 0 (12, 0) rfl) (by decide) rfl rfl rfl (Nat.le_of_ble_eq_true rfl) (by omega) (by decide) (Nat.le_refl _) (Nat.le_refl _) (fun _ _ hq => ?_)
    obtain ⟨rfl, rfl⟩ := hq
    refine V.goto 130 dX12_readAtom_21 (by decide) ?_
    obtain rfl := Option.some.inj hf
    exact V.vret dX12_readAtom_130 rfl (Nat.le_refl _) (Nat.le_refl _) ⟨rfl, rfl⟩
theorem s_r_readIfB {l : Launch} {D : va_G} {E : Nat → ClassId} {B : Nat → Prop} {n F : Nat} {T : Nat → Option (Nat × Nat)} {J : Nat → Nat → Int64} {P : Nat → Nat → Option Nat} {z : Nat} {kr : Nat} (ih0 : r_parse_H l D E B n F T J P z kr) {v1 : Int32} {I : Nat → Nat → Int32} {r : (Nat → Nat → Int32)} (hs_z : isMd T P z) (hf : r_readIfB (r_parse F z kr) F I z v1 = some r) : Ct l D E B yX12_readIf cX12_readIf 2 none (20 + (kr + 1)) 0 0 [.ref z, .int v1] (n, T, I, J, P) (Ret (none) (n, T, r, J, P)) := by
  unfold r_readIfB at hf
  refine Ct.ofV (by decide) (Nat.le_of_ble_eq_true rfl) ?_
  refine V.aload_n dX12_readIf_0 rfl ?_
  refine V.iload_n dX12_readIf_1 rfl ?_
  obtain ⟨⟨u3, I4⟩, hk2, hf⟩ := bnd_some hf
  try dsimp only at hf
  refine V.inv cv_X12_155 (c_r_goesIn hs_z hk2) dX12_readIf_2 (hs_z.1 0 (12, 0) rfl) (by decide) rfl rfl rfl (Nat.le_of_ble_eq_true rfl) (by omega) (by decide) (Nat.le_refl _) (Nat.le_refl _) (fun _ _ hq => ?_)
  obtain ⟨rfl, rfl⟩ := hq
  try dsimp only
  refine V.if_ne 9 dX12_readIf_5 (by decide) (fun c5 => ?_) (fun c5 => ?_)
  · rw [if_neg c5] at hf
    refine V.aload_n dX12_readIf_9 rfl ?_
    refine V.iload_n dX12_readIf_10 rfl ?_
    refine V.iconst (v := 1) dX12_readIf_11 (by decide) ?_
    refine V.iadd dX12_readIf_12 ?_
    obtain ⟨I8, hk7, hf⟩ := bnd_some hf
    try dsimp only at hf
    refine V.inv cv_X12_167 ((ih0.2.2.2.2.2.2) hs_z hk7) dX12_readIf_13 (hs_z.1 0 (12, 0) rfl) (by decide) rfl rfl rfl (Nat.le_of_ble_eq_true rfl) (by omega) (by decide) (Nat.le_refl _) (Nat.le_refl _) (fun _ _ hq => ?_)
    obtain ⟨rfl, rfl⟩ := hq
    refine V.aload_n dX12_readIf_16 rfl ?_
    refine V.bipush (v := 10) dX12_readIf_17 (by decide) ?_
    obtain ⟨⟨u11, I12⟩, hk10, hf⟩ := bnd_some hf
    try dsimp only at hf
    refine V.inv cv_X12_161 (c_r_eats hs_z hk10) dX12_readIf_19 (hs_z.1 0 (12, 0) rfl) (by decide) rfl rfl rfl (Nat.le_of_ble_eq_true rfl) (by omega) (by decide) (Nat.le_refl _) (Nat.le_refl _) (fun _ _ hq => ?_)
    obtain ⟨rfl, rfl⟩ := hq
    try dsimp only
    refine V.if_ne 30 dX12_readIf_22 (by decide) (fun c13 => ?_) (fun c13 => ?_)
    · rw [if_neg c13] at hf
      refine V.aload_n dX12_readIf_30 rfl ?_
      refine V.iload_n dX12_readIf_31 rfl ?_
      refine V.iconst (v := 1) dX12_readIf_32 (by decide) ?_
      refine V.iadd dX12_readIf_33 ?_
      obtain ⟨I16, hk15, hf⟩ := bnd_some hf
      try dsimp only at hf
      refine V.inv cv_X12_158 ((ih0.2.2.2.1) hs_z hk15) dX12_readIf_34 (hs_z.1 0 (12, 0) rfl) (by decide) rfl rfl rfl (Nat.le_of_ble_eq_true rfl) (by omega) (by decide) (Nat.le_refl _) (Nat.le_refl _) (fun _ _ hq => ?_)
      obtain ⟨rfl, rfl⟩ := hq
      refine V.aload_n dX12_readIf_37 rfl ?_
      refine V.bipush (v := 11) dX12_readIf_38 (by decide) ?_
      obtain ⟨⟨u19, I20⟩, hk18, hf⟩ := bnd_some hf
      try dsimp only at hf
      refine V.inv cv_X12_161 (c_r_eats hs_z hk18) dX12_readIf_40 (hs_z.1 0 (12, 0) rfl) (by decide) rfl rfl rfl (Nat.le_of_ble_eq_true rfl) (by omega) (by decide) (Nat.le_refl _) (Nat.le_refl _) (fun _ _ hq => ?_)
      obtain ⟨rfl, rfl⟩ := hq
      try dsimp only
      refine V.if_ne 51 dX12_readIf_43 (by decide) (fun c21 => ?_) (fun c21 => ?_)
      · rw [if_neg c21] at hf
        refine V.aload_n dX12_readIf_51 rfl ?_
        refine V.iload_n dX12_readIf_52 rfl ?_
        refine V.iconst (v := 1) dX12_readIf_53 (by decide) ?_
        refine V.iadd dX12_readIf_54 ?_
        obtain ⟨I24, hk23, hf⟩ := bnd_some hf
        try dsimp only at hf
        refine V.inv cv_X12_158 ((ih0.2.2.2.1) hs_z hk23) dX12_readIf_55 (hs_z.1 0 (12, 0) rfl) (by decide) rfl rfl rfl (Nat.le_of_ble_eq_true rfl) (by omega) (by decide) (Nat.le_refl _) (Nat.le_refl _) (fun _ _ hq => ?_)
        obtain ⟨rfl, rfl⟩ := hq
        refine V.aload_n dX12_readIf_58 rfl ?_
        refine V.bipush (v := 12) dX12_readIf_59 (by decide) ?_
        obtain ⟨⟨u27, I28⟩, hk26, hf⟩ := bnd_some hf
        try dsimp only at hf
        refine V.inv cv_X12_161 (c_r_eats hs_z hk26) dX12_readIf_61 (hs_z.1 0 (12, 0) rfl) (by decide) rfl rfl rfl (Nat.le_of_ble_eq_true rfl) (by omega) (by decide) (Nat.le_refl _) (Nat.le_refl _) (fun _ _ hq => ?_)
        obtain ⟨rfl, rfl⟩ := hq
        try dsimp only
        refine V.if_ne 72 dX12_readIf_64 (by decide) (fun c29 => ?_) (fun c29 => ?_)
        · rw [if_neg c29] at hf
          refine V.aload_n dX12_readIf_72 rfl ?_
          refine V.sipush (v := 3009) dX12_readIf_73 (by decide) ?_
          obtain ⟨I32, hk31, hf⟩ := bnd_some hf
          try dsimp only at hf
          refine V.inv cv_X12_149 (c_r_codes hs_z hk31) dX12_readIf_76 (hs_z.1 0 (12, 0) rfl) (by decide) rfl rfl rfl (Nat.le_of_ble_eq_true rfl) (by omega) (by decide) (Nat.le_refl _) (Nat.le_refl _) (fun _ _ hq => ?_)
          obtain ⟨rfl, rfl⟩ := hq
          obtain rfl := Option.some.inj hf
          exact V.vret dX12_readIf_79 rfl (Nat.le_refl _) (Nat.le_refl _) ⟨rfl, rfl⟩
        · rw [if_pos c29] at hf
          refine V.aload_n dX12_readIf_67 rfl ?_
          refine V.iconst (v := 2) dX12_readIf_68 (by decide) ?_
          obtain ⟨I35, hk34, hf⟩ := bnd_some hf
          try dsimp only at hf
          refine V.inv cv_X12_141 (c_r_fails hs_z hk34) dX12_readIf_69 (hs_z.1 0 (12, 0) rfl) (by decide) rfl rfl rfl (Nat.le_of_ble_eq_true rfl) (by omega) (by decide) (Nat.le_refl _) (Nat.le_refl _) (fun _ _ hq => ?_)
          obtain ⟨rfl, rfl⟩ := hq
          refine V.aload_n dX12_readIf_72 rfl ?_
          refine V.sipush (v := 3009) dX12_readIf_73 (by decide) ?_
          obtain ⟨I38, hk37, hf⟩ := bnd_some hf
          try dsimp only at hf
          refine V.inv cv_X12_149 (c_r_codes hs_z hk37) dX12_readIf_76 (hs_z.1 0 (12, 0) rfl) (by decide) rfl rfl rfl (Nat.le_of_ble_eq_true rfl) (by omega) (by decide) (Nat.le_refl _) (Nat.le_refl _) (fun _ _ hq => ?_)
          obtain ⟨rfl, rfl⟩ := hq
          obtain rfl := Option.some.inj hf
          exact V.vret dX12_readIf_79 rfl (Nat.le_refl _) (Nat.le_refl _) ⟨rfl, rfl⟩
      · rw [if_pos c21] at hf
        refine V.aload_n dX12_readIf_46 rfl ?_
        refine V.iconst (v := 2) dX12_readIf_47 (by decide) ?_
        obtain ⟨I41, hk40, hf⟩ := bnd_some hf
        try dsimp only at hf
        refine V.inv cv_X12_141 (c_r_fails hs_z hk40) dX12_readIf_48 (hs_z.1 0 (12, 0) rfl) (by decide) rfl rfl rfl (Nat.le_of_ble_eq_true rfl) (by omega) (by decide) (Nat.le_refl _) (Nat.le_refl _) (fun _ _ hq => ?_)
        obtain ⟨rfl, rfl⟩ := hq
        refine V.aload_n dX12_readIf_51 rfl ?_
        refine V.iload_n dX12_readIf_52 rfl ?_
        refine V.iconst (v := 1) dX12_readIf_53 (by decide) ?_
        refine V.iadd dX12_readIf_54 ?_
        obtain ⟨I44, hk43, hf⟩ := bnd_some hf
        try dsimp only at hf
        refine V.inv cv_X12_158 ((ih0.2.2.2.1) hs_z hk43) dX12_readIf_55 (hs_z.1 0 (12, 0) rfl) (by decide) rfl rfl rfl (Nat.le_of_ble_eq_true rfl) (by omega) (by decide) (Nat.le_refl _) (Nat.le_refl _) (fun _ _ hq => ?_)
        obtain ⟨rfl, rfl⟩ := hq
        refine V.aload_n dX12_readIf_58 rfl ?_
        refine V.bipush (v := 12) dX12_readIf_59 (by decide) ?_
        obtain ⟨⟨u47, I48⟩, hk46, hf⟩ := bnd_some hf
        try dsimp only at hf
        refine V.inv cv_X12_161 (c_r_eats hs_z hk46) dX12_readIf_61 (hs_z.1 0 (12, 0) rfl) (by decide) rfl rfl rfl (Nat.le_of_ble_eq_true rfl) (by omega) (by decide) (Nat.le_refl _) (Nat.le_refl _) (fun _ _ hq => ?_)
        obtain ⟨rfl, rfl⟩ := hq
        try dsimp only
        refine V.if_ne 72 dX12_readIf_64 (by decide) (fun c49 => ?_) (fun c49 => ?_)
        · rw [if_neg c49] at hf
          refine V.aload_n dX12_readIf_72 rfl ?_
          refine V.sipush (v := 3009) dX12_readIf_73 (by decide) ?_
          obtain ⟨I52, hk51, hf⟩ := bnd_some hf
          try dsimp only at hf
          refine V.inv cv_X12_149 (c_r_codes hs_z hk51) dX12_readIf_76 (hs_z.1 0 (12, 0) rfl) (by decide) rfl rfl rfl (Nat.le_of_ble_eq_true rfl) (by omega) (by decide) (Nat.le_refl _) (Nat.le_refl _) (fun _ _ hq => ?_)
          obtain ⟨rfl, rfl⟩ := hq
          obtain rfl := Option.some.inj hf
          exact V.vret dX12_readIf_79 rfl (Nat.le_refl _) (Nat.le_refl _) ⟨rfl, rfl⟩
        · rw [if_pos c49] at hf
          refine V.aload_n dX12_readIf_67 rfl ?_
          refine V.iconst (v := 2) dX12_readIf_68 (by decide) ?_
          obtain ⟨I55, hk54, hf⟩ := bnd_some hf
          try dsimp only at hf
          refine V.inv cv_X12_141 (c_r_fails hs_z hk54) dX12_readIf_69 (hs_z.1 0 (12, 0) rfl) (by decide) rfl rfl rfl (Nat.le_of_ble_eq_true rfl) (by omega) (by decide) (Nat.le_refl _) (Nat.le_refl _) (fun _ _ hq => ?_)
          obtain ⟨rfl, rfl⟩ := hq
          refine V.aload_n dX12_readIf_72 rfl ?_
          refine V.sipush (v := 3009) dX12_readIf_73 (by decide) ?_
          obtain ⟨I58, hk57, hf⟩ := bnd_some hf
          try dsimp only at hf
          refine V.inv cv_X12_149 (c_r_codes hs_z hk57) dX12_readIf_76 (hs_z.1 0 (12, 0) rfl) (by decide) rfl rfl rfl (Nat.le_of_ble_eq_true rfl) (by omega) (by decide) (Nat.le_refl _) (Nat.le_refl _) (fun _ _ hq => ?_)
          obtain ⟨rfl, rfl⟩ := hq
          obtain rfl := Option.some.inj hf
          exact V.vret dX12_readIf_79 rfl (Nat.le_refl _) (Nat.le_refl _) ⟨rfl, rfl⟩
    · rw [if_pos c13] at hf
      refine V.aload_n dX12_readIf_25 rfl ?_
      refine V.iconst (v := 2) dX12_readIf_26 (by decide) ?_
      obtain ⟨I61, hk60, hf⟩ := bnd_some hf
      try dsimp only at hf
      refine V.inv cv_X12_141 (c_r_fails hs_z hk60) dX12_readIf_27 (hs_z.1 0 (12, 0) rfl) (by decide) rfl rfl rfl (Nat.le_of_ble_eq_true rfl) (by omega) (by decide) (Nat.le_refl _) (Nat.le_refl _) (fun _ _ hq => ?_)
      obtain ⟨rfl, rfl⟩ := hq
      refine V.aload_n dX12_readIf_30 rfl ?_
      refine V.iload_n dX12_readIf_31 rfl ?_
      refine V.iconst (v := 1) dX12_readIf_32 (by decide) ?_
      refine V.iadd dX12_readIf_33 ?_
      obtain ⟨I64, hk63, hf⟩ := bnd_some hf
      try dsimp only at hf
      refine V.inv cv_X12_158 ((ih0.2.2.2.1) hs_z hk63) dX12_readIf_34 (hs_z.1 0 (12, 0) rfl) (by decide) rfl rfl rfl (Nat.le_of_ble_eq_true rfl) (by omega) (by decide) (Nat.le_refl _) (Nat.le_refl _) (fun _ _ hq => ?_)
      obtain ⟨rfl, rfl⟩ := hq
      refine V.aload_n dX12_readIf_37 rfl ?_
      refine V.bipush (v := 11) dX12_readIf_38 (by decide) ?_
      obtain ⟨⟨u67, I68⟩, hk66, hf⟩ := bnd_some hf
      try dsimp only at hf
      refine V.inv cv_X12_161 (c_r_eats hs_z hk66) dX12_readIf_40 (hs_z.1 0 (12, 0) rfl) (by decide) rfl rfl rfl (Nat.le_of_ble_eq_true rfl) (by omega) (by decide) (Nat.le_refl _) (Nat.le_refl _) (fun _ _ hq => ?_)
      obtain ⟨rfl, rfl⟩ := hq
      try dsimp only
      refine V.if_ne 51 dX12_readIf_43 (by decide) (fun c69 => ?_) (fun c69 => ?_)
      · rw [if_neg c69] at hf
        refine V.aload_n dX12_readIf_51 rfl ?_
        refine V.iload_n dX12_readIf_52 rfl ?_
        refine V.iconst (v := 1) dX12_readIf_53 (by decide) ?_
        refine V.iadd dX12_readIf_54 ?_
        obtain ⟨I72, hk71, hf⟩ := bnd_some hf
        try dsimp only at hf
        refine V.inv cv_X12_158 ((ih0.2.2.2.1) hs_z hk71) dX12_readIf_55 (hs_z.1 0 (12, 0) rfl) (by decide) rfl rfl rfl (Nat.le_of_ble_eq_true rfl) (by omega) (by decide) (Nat.le_refl _) (Nat.le_refl _) (fun _ _ hq => ?_)
        obtain ⟨rfl, rfl⟩ := hq
        refine V.aload_n dX12_readIf_58 rfl ?_
        refine V.bipush (v := 12) dX12_readIf_59 (by decide) ?_
        obtain ⟨⟨u75, I76⟩, hk74, hf⟩ := bnd_some hf
        try dsimp only at hf
        refine V.inv cv_X12_161 (c_r_eats hs_z hk74) dX12_readIf_61 (hs_z.1 0 (12, 0) rfl) (by decide) rfl rfl rfl (Nat.le_of_ble_eq_true rfl) (by omega) (by decide) (Nat.le_refl _) (Nat.le_refl _) (fun _ _ hq => ?_)
        obtain ⟨rfl, rfl⟩ := hq
        try dsimp only
        refine V.if_ne 72 dX12_readIf_64 (by decide) (fun c77 => ?_) (fun c77 => ?_)
        · rw [if_neg c77] at hf
          refine V.aload_n dX12_readIf_72 rfl ?_
          refine V.sipush (v := 3009) dX12_readIf_73 (by decide) ?_
          obtain ⟨I80, hk79, hf⟩ := bnd_some hf
          try dsimp only at hf
          refine V.inv cv_X12_149 (c_r_codes hs_z hk79) dX12_readIf_76 (hs_z.1 0 (12, 0) rfl) (by decide) rfl rfl rfl (Nat.le_of_ble_eq_true rfl) (by omega) (by decide) (Nat.le_refl _) (Nat.le_refl _) (fun _ _ hq => ?_)
          obtain ⟨rfl, rfl⟩ := hq
          obtain rfl := Option.some.inj hf
          exact V.vret dX12_readIf_79 rfl (Nat.le_refl _) (Nat.le_refl _) ⟨rfl, rfl⟩
        · rw [if_pos c77] at hf
          refine V.aload_n dX12_readIf_67 rfl ?_
          refine V.iconst (v := 2) dX12_readIf_68 (by decide) ?_
          obtain ⟨I83, hk82, hf⟩ := bnd_some hf
          try dsimp only at hf
          refine V.inv cv_X12_141 (c_r_fails hs_z hk82) dX12_readIf_69 (hs_z.1 0 (12, 0) rfl) (by decide) rfl rfl rfl (Nat.le_of_ble_eq_true rfl) (by omega) (by decide) (Nat.le_refl _) (Nat.le_refl _) (fun _ _ hq => ?_)
          obtain ⟨rfl, rfl⟩ := hq
          refine V.aload_n dX12_readIf_72 rfl ?_
          refine V.sipush (v := 3009) dX12_readIf_73 (by decide) ?_
          obtain ⟨I86, hk85, hf⟩ := bnd_some hf
          try dsimp only at hf
          refine V.inv cv_X12_149 (c_r_codes hs_z hk85) dX12_readIf_76 (hs_z.1 0 (12, 0) rfl) (by decide) rfl rfl rfl (Nat.le_of_ble_eq_true rfl) (by omega) (by decide) (Nat.le_refl _) (Nat.le_refl _) (fun _ _ hq => ?_)
          obtain ⟨rfl, rfl⟩ := hq
          obtain rfl := Option.some.inj hf
          exact V.vret dX12_readIf_79 rfl (Nat.le_refl _) (Nat.le_refl _) ⟨rfl, rfl⟩
      · rw [if_pos c69] at hf
        refine V.aload_n dX12_readIf_46 rfl ?_
        refine V.iconst (v := 2) dX12_readIf_47 (by decide) ?_
        obtain ⟨I89, hk88, hf⟩ := bnd_some hf
        try dsimp only at hf
        refine V.inv cv_X12_141 (c_r_fails hs_z hk88) dX12_readIf_48 (hs_z.1 0 (12, 0) rfl) (by decide) rfl rfl rfl (Nat.le_of_ble_eq_true rfl) (by omega) (by decide) (Nat.le_refl _) (Nat.le_refl _) (fun _ _ hq => ?_)
        obtain ⟨rfl, rfl⟩ := hq
        refine V.aload_n dX12_readIf_51 rfl ?_
        refine V.iload_n dX12_readIf_52 rfl ?_
        refine V.iconst (v := 1) dX12_readIf_53 (by decide) ?_
        refine V.iadd dX12_readIf_54 ?_
        obtain ⟨I92, hk91, hf⟩ := bnd_some hf
        try dsimp only at hf
        refine V.inv cv_X12_158 ((ih0.2.2.2.1) hs_z hk91) dX12_readIf_55 (hs_z.1 0 (12, 0) rfl) (by decide) rfl rfl rfl (Nat.le_of_ble_eq_true rfl) (by omega) (by decide) (Nat.le_refl _) (Nat.le_refl _) (fun _ _ hq => ?_)
        obtain ⟨rfl, rfl⟩ := hq
        refine V.aload_n dX12_readIf_58 rfl ?_
        refine V.bipush (v := 12) dX12_readIf_59 (by decide) ?_
        obtain ⟨⟨u95, I96⟩, hk94, hf⟩ := bnd_some hf
        try dsimp only at hf
        refine V.inv cv_X12_161 (c_r_eats hs_z hk94) dX12_readIf_61 (hs_z.1 0 (12, 0) rfl) (by decide) rfl rfl rfl (Nat.le_of_ble_eq_true rfl) (by omega) (by decide) (Nat.le_refl _) (Nat.le_refl _) (fun _ _ hq => ?_)
        obtain ⟨rfl, rfl⟩ := hq
        try dsimp only
        refine V.if_ne 72 dX12_readIf_64 (by decide) (fun c97 => ?_) (fun c97 => ?_)
        · rw [if_neg c97] at hf
          refine V.aload_n dX12_readIf_72 rfl ?_
          refine V.sipush (v := 3009) dX12_readIf_73 (by decide) ?_
          obtain ⟨I100, hk99, hf⟩ := bnd_some hf
          try dsimp only at hf
          refine V.inv cv_X12_149 (c_r_codes hs_z hk99) dX12_readIf_76 (hs_z.1 0 (12, 0) rfl) (by decide) rfl rfl rfl (Nat.le_of_ble_eq_true rfl) (by omega) (by decide) (Nat.le_refl _) (Nat.le_refl _) (fun _ _ hq => ?_)
          obtain ⟨rfl, rfl⟩ := hq
          obtain rfl := Option.some.inj hf
          exact V.vret dX12_readIf_79 rfl (Nat.le_refl _) (Nat.le_refl _) ⟨rfl, rfl⟩
        · rw [if_pos c97] at hf
          refine V.aload_n dX12_readIf_67 rfl ?_
          refine V.iconst (v := 2) dX12_readIf_68 (by decide) ?_
          obtain ⟨I103, hk102, hf⟩ := bnd_some hf
          try dsimp only at hf
          refine V.inv cv_X12_141 (c_r_fails hs_z hk102) dX12_readIf_69 (hs_z.1 0 (12, 0) rfl) (by decide) rfl rfl rfl (Nat.le_of_ble_eq_true rfl) (by omega) (by decide) (Nat.le_refl _) (Nat.le_refl _) (fun _ _ hq => ?_)
          obtain ⟨rfl, rfl⟩ := hq
          refine V.aload_n dX12_readIf_72 rfl ?_
          refine V.sipush (v := 3009) dX12_readIf_73 (by decide) ?_
          obtain ⟨I106, hk105, hf⟩ := bnd_some hf
          try dsimp only at hf
          refine V.inv cv_X12_149 (c_r_codes hs_z hk105) dX12_readIf_76 (hs_z.1 0 (12, 0) rfl) (by decide) rfl rfl rfl (Nat.le_of_ble_eq_true rfl) (by omega) (by decide) (Nat.le_refl _) (Nat.le_refl _) (fun _ _ hq => ?_)
          obtain ⟨rfl, rfl⟩ := hq
          obtain rfl := Option.some.inj hf
          exact V.vret dX12_readIf_79 rfl (Nat.le_refl _) (Nat.le_refl _) ⟨rfl, rfl⟩
  · rw [if_pos c5] at hf
    obtain rfl := Option.some.inj hf
    exact V.vret dX12_readIf_8 rfl (Nat.le_refl _) (Nat.le_refl _) ⟨rfl, rfl⟩
theorem s_r_readTermB {l : Launch} {D : va_G} {E : Nat → ClassId} {B : Nat → Prop} {n F : Nat} {T : Nat → Option (Nat × Nat)} {J : Nat → Nat → Int64} {P : Nat → Nat → Option Nat} {z : Nat} {kr : Nat} (ih0 : r_parse_H l D E B n F T J P z kr) {v1 : Int32} {I : Nat → Nat → Int32} {r : (Nat → Nat → Int32)} (hs_z : isMd T P z) (hf : r_readTermB (r_parse F z kr) F I z v1 = some r) : Ct l D E B yX12_readTerm cX12_readTerm 2 none (20 + (kr + 1)) 0 0 [.ref z, .int v1] (n, T, I, J, P) (Ret (none) (n, T, r, J, P)) := by
  unfold r_readTermB at hf
  refine Ct.ofV (by decide) (Nat.le_of_ble_eq_true rfl) ?_
  refine V.aload_n dX12_readTerm_0 rfl ?_
  refine V.iload_n dX12_readTerm_1 rfl ?_
  obtain ⟨I3, hk2, hf⟩ := bnd_some hf
  try dsimp only at hf
  refine V.inv cv_X12_170 ((ih0.1) hs_z hk2) dX12_readTerm_2 (hs_z.1 0 (12, 0) rfl) (by decide) rfl rfl rfl (Nat.le_of_ble_eq_true rfl) (by omega) (by decide) (Nat.le_refl _) (Nat.le_refl _) (fun _ _ hq => ?_)
  obtain ⟨rfl, rfl⟩ := hq
  obtain ⟨I17, hk16, hf⟩ := bnd_some hf
  try dsimp only at hf
  refine V.lo [(0, some (.ref z)), (1, some (.int v1))] (by simp only [Subs]; repeat' first | exact trivial | constructor | rfl) (l_r_readTermB_5 hs_z ih0 _ F _ hk16 ?_)
  try dsimp only
  obtain rfl := Option.some.inj hf
  exact V.vret dX12_readTerm_29 rfl (Nat.le_refl _) (Nat.le_refl _) ⟨rfl, rfl⟩
theorem s_r_readSumB {l : Launch} {D : va_G} {E : Nat → ClassId} {B : Nat → Prop} {n F : Nat} {T : Nat → Option (Nat × Nat)} {J : Nat → Nat → Int64} {P : Nat → Nat → Option Nat} {z : Nat} {kr : Nat} (ih0 : r_parse_H l D E B n F T J P z kr) {v1 : Int32} {I : Nat → Nat → Int32} {r : (Nat → Nat → Int32)} (hs_z : isMd T P z) (hf : r_readSumB (r_parse F z kr) F I z v1 = some r) : Ct l D E B yX12_readSum cX12_readSum 3 none (20 + (kr + 1)) 0 0 [.ref z, .int v1] (n, T, I, J, P) (Ret (none) (n, T, r, J, P)) := by
  unfold r_readSumB at hf
  refine Ct.ofV (by decide) (Nat.le_of_ble_eq_true rfl) ?_
  refine V.aload_n dX12_readSum_0 rfl ?_
  refine V.iload_n dX12_readSum_1 rfl ?_
  obtain ⟨I3, hk2, hf⟩ := bnd_some hf
  try dsimp only at hf
  refine V.inv cv_X12_173 ((ih0.2.2.1) hs_z hk2) dX12_readSum_2 (hs_z.1 0 (12, 0) rfl) (by decide) rfl rfl rfl (Nat.le_of_ble_eq_true rfl) (by omega) (by decide) (Nat.le_refl _) (Nat.le_refl _) (fun _ _ hq => ?_)
  obtain ⟨rfl, rfl⟩ := hq
  obtain ⟨I46, hk45, hf⟩ := bnd_some hf
  try dsimp only at hf
  refine V.lo [(0, some (.ref z)), (1, some (.int v1))] (by simp only [Subs]; repeat' first | exact trivial | constructor | rfl) (l_r_readSumB_5 hs_z ih0 _ F _ hk45 ?_)
  try dsimp only
  obtain rfl := Option.some.inj hf
  exact V.vret dX12_readSum_59 rfl (Nat.le_refl _) (Nat.le_refl _) ⟨rfl, rfl⟩
theorem s_r_readUnitB {l : Launch} {D : va_G} {E : Nat → ClassId} {B : Nat → Prop} {n F : Nat} {T : Nat → Option (Nat × Nat)} {J : Nat → Nat → Int64} {P : Nat → Nat → Option Nat} {z : Nat} {kr : Nat} (ih0 : r_parse_H l D E B n F T J P z kr) {v1 : Int32} {I : Nat → Nat → Int32} {r : (Nat → Nat → Int32)} (hs_z : isMd T P z) (hf : r_readUnitB (r_parse F z kr) F I z v1 = some r) : Ct l D E B yX12_readUnit cX12_readUnit 3 none (20 + (kr + 1)) 0 0 [.ref z, .int v1] (n, T, I, J, P) (Ret (none) (n, T, r, J, P)) := by
  unfold r_readUnitB at hf
  refine Ct.ofV (by decide) (Nat.le_of_ble_eq_true rfl) ?_
  refine V.aload_n dX12_readUnit_0 rfl ?_
  refine V.bipush (v := 19) dX12_readUnit_1 (by decide) ?_
  refine V.inv cv_X12_135 (c_r_is hs_z) dX12_readUnit_3 (hs_z.1 0 (12, 0) rfl) (by decide) rfl rfl rfl (Nat.le_of_ble_eq_true rfl) (by omega) (by decide) (Nat.le_refl _) (Nat.le_refl _) (fun _ _ hq => ?_)
  obtain ⟨rfl, rfl⟩ := hq
  refine V.if_eq 33 dX12_readUnit_6 (by decide) (fun c1 => ?_) (fun c1 => ?_)
  · rw [if_pos c1] at hf
    refine V.aload_n dX12_readUnit_33 rfl ?_
    refine V.bipush (v := 37) dX12_readUnit_34 (by decide) ?_
    refine V.inv cv_X12_135 (c_r_is hs_z) dX12_readUnit_36 (hs_z.1 0 (12, 0) rfl) (by decide) rfl rfl rfl (Nat.le_of_ble_eq_true rfl) (by omega) (by decide) (Nat.le_refl _) (Nat.le_refl _) (fun _ _ hq => ?_)
    obtain ⟨rfl, rfl⟩ := hq
    refine V.if_eq 73 dX12_readUnit_39 (by decide) (fun c2 => ?_) (fun c2 => ?_)
    · rw [if_pos c2] at hf
      refine V.aload_n dX12_readUnit_73 rfl ?_
      refine V.iload_n dX12_readUnit_74 rfl ?_
      obtain ⟨I5, hk4, hf⟩ := bnd_some hf
      try dsimp only at hf
      refine V.inv cv_X12_158 ((ih0.2.2.2.1) hs_z hk4) dX12_readUnit_75 (hs_z.1 0 (12, 0) rfl) (by decide) rfl rfl rfl (Nat.le_of_ble_eq_true rfl) (by omega) (by decide) (Nat.le_refl _) (Nat.le_refl _) (fun _ _ hq => ?_)
      obtain ⟨rfl, rfl⟩ := hq
      refine V.aload_n dX12_readUnit_78 rfl ?_
      refine V.bipush (v := 39) dX12_readUnit_79 (by decide) ?_
      refine V.inv cv_X12_135 (c_r_is hs_z) dX12_readUnit_81 (hs_z.1 0 (12, 0) rfl) (by decide) rfl rfl rfl (Nat.le_of_ble_eq_true rfl) (by omega) (by decide) (Nat.le_refl _) (Nat.le_refl _) (fun _ _ hq => ?_)
      obtain ⟨rfl, rfl⟩ := hq
      refine V.if_eq 93 dX12_readUnit_84 (by decide) (fun c6 => ?_) (fun c6 => ?_)
      · rw [if_pos c6] at hf
        refine V.aload_n dX12_readUnit_93 rfl ?_
        refine V.bipush (v := 40) dX12_readUnit_94 (by decide) ?_
        refine V.inv cv_X12_135 (c_r_is hs_z) dX12_readUnit_96 (hs_z.1 0 (12, 0) rfl) (by decide) rfl rfl rfl (Nat.le_of_ble_eq_true rfl) (by omega) (by decide) (Nat.le_refl _) (Nat.le_refl _) (fun _ _ hq => ?_)
        obtain ⟨rfl, rfl⟩ := hq
        refine V.if_eq 108 dX12_readUnit_99 (by decide) (fun c7 => ?_) (fun c7 => ?_)
        · rw [if_pos c7] at hf
          refine V.sipush (v := 3005) dX12_readUnit_108 (by decide) ?_
          refine V.istore_n dX12_readUnit_111 rfl (by decide) (by first | exact rfl | exact trivial) ?_
          refine V.aload_n dX12_readUnit_112 rfl ?_
          refine V.bipush (v := 39) dX12_readUnit_113 (by decide) ?_
          refine V.inv cv_X12_135 (c_r_is hs_z) dX12_readUnit_115 (hs_z.1 0 (12, 0) rfl) (by decide) rfl rfl rfl (Nat.le_of_ble_eq_true rfl) (by omega) (by decide) (Nat.le_refl _) (Nat.le_refl _) (fun _ _ hq => ?_)
          obtain ⟨rfl, rfl⟩ := hq
          refine V.if_ne 139 dX12_readUnit_118 (by decide) (fun c8 => ?_) (fun c8 => ?_)
          · rw [if_neg c8] at hf
            refine V.aload_n dX12_readUnit_139 rfl ?_
            obtain ⟨I11, hk10, hf⟩ := bnd_some hf
            try dsimp only at hf
            refine V.inv cv_X12_138 (c_r_nextToken hs_z hk10) dX12_readUnit_140 (hs_z.1 0 (12, 0) rfl) (by decide) rfl rfl rfl (Nat.le_of_ble_eq_true rfl) (by omega) (by decide) (Nat.le_refl _) (Nat.le_refl _) (fun _ _ hq => ?_)
            obtain ⟨rfl, rfl⟩ := hq
            refine V.goto 151 dX12_readUnit_143 (by decide) ?_
            refine V.aload_n dX12_readUnit_151 rfl ?_
            refine V.iload_n dX12_readUnit_152 rfl ?_
            obtain ⟨I14, hk13, hf⟩ := bnd_some hf
            try dsimp only at hf
            refine V.inv cv_X12_158 ((ih0.2.2.2.1) hs_z hk13) dX12_readUnit_153 (hs_z.1 0 (12, 0) rfl) (by decide) rfl rfl rfl (Nat.le_of_ble_eq_true rfl) (by omega) (by decide) (Nat.le_refl _) (Nat.le_refl _) (fun _ _ hq => ?_)
            obtain ⟨rfl, rfl⟩ := hq
            refine V.aload_n dX12_readUnit_156 rfl ?_
            refine V.iload_n dX12_readUnit_157 rfl ?_
            obtain ⟨I17, hk16, hf⟩ := bnd_some hf
            try dsimp only at hf
            refine V.inv cv_X12_149 (c_r_codes hs_z hk16) dX12_readUnit_158 (hs_z.1 0 (12, 0) rfl) (by decide) rfl rfl rfl (Nat.le_of_ble_eq_true rfl) (by omega) (by decide) (Nat.le_refl _) (Nat.le_refl _) (fun _ _ hq => ?_)
            obtain ⟨rfl, rfl⟩ := hq
            obtain rfl := Option.some.inj hf
            exact V.vret dX12_readUnit_161 rfl (Nat.le_refl _) (Nat.le_refl _) ⟨rfl, rfl⟩
          · rw [if_pos c8] at hf
            refine V.aload_n dX12_readUnit_121 rfl ?_
            refine V.bipush (v := 40) dX12_readUnit_122 (by decide) ?_
            refine V.inv cv_X12_135 (c_r_is hs_z) dX12_readUnit_124 (hs_z.1 0 (12, 0) rfl) (by decide) rfl rfl rfl (Nat.le_of_ble_eq_true rfl) (by omega) (by decide) (Nat.le_refl _) (Nat.le_refl _) (fun _ _ hq => ?_)
            obtain ⟨rfl, rfl⟩ := hq
            refine V.if_ne 139 dX12_readUnit_127 (by decide) (fun c18 => ?_) (fun c18 => ?_)
            · rw [if_neg c18] at hf
              refine V.aload_n dX12_readUnit_139 rfl ?_
              obtain ⟨I21, hk20, hf⟩ := bnd_some hf
              try dsimp only at hf
              refine V.inv cv_X12_138 (c_r_nextToken hs_z hk20) dX12_readUnit_140 (hs_z.1 0 (12, 0) rfl) (by decide) rfl rfl rfl (Nat.le_of_ble_eq_true rfl) (by omega) (by decide) (Nat.le_refl _) (Nat.le_refl _) (fun _ _ hq => ?_)
              obtain ⟨rfl, rfl⟩ := hq
              refine V.goto 151 dX12_readUnit_143 (by decide) ?_
              refine V.aload_n dX12_readUnit_151 rfl ?_
              refine V.iload_n dX12_readUnit_152 rfl ?_
              obtain ⟨I24, hk23, hf⟩ := bnd_some hf
              try dsimp only at hf
              refine V.inv cv_X12_158 ((ih0.2.2.2.1) hs_z hk23) dX12_readUnit_153 (hs_z.1 0 (12, 0) rfl) (by decide) rfl rfl rfl (Nat.le_of_ble_eq_true rfl) (by omega) (by decide) (Nat.le_refl _) (Nat.le_refl _) (fun _ _ hq => ?_)
              obtain ⟨rfl, rfl⟩ := hq
              refine V.aload_n dX12_readUnit_156 rfl ?_
              refine V.iload_n dX12_readUnit_157 rfl ?_
              obtain ⟨I27, hk26, hf⟩ := bnd_some hf
              try dsimp only at hf
              refine V.inv cv_X12_149 (c_r_codes hs_z hk26) dX12_readUnit_158 (hs_z.1 0 (12, 0) rfl) (by decide) rfl rfl rfl (Nat.le_of_ble_eq_true rfl) (by omega) (by decide) (Nat.le_refl _) (Nat.le_refl _) (fun _ _ hq => ?_)
              obtain ⟨rfl, rfl⟩ := hq
              obtain rfl := Option.some.inj hf
              exact V.vret dX12_readUnit_161 rfl (Nat.le_refl _) (Nat.le_refl _) ⟨rfl, rfl⟩
            · rw [if_pos c18] at hf
              refine V.aload_n dX12_readUnit_130 rfl ?_
              refine V.bipush (v := 41) dX12_readUnit_131 (by decide) ?_
              refine V.inv cv_X12_135 (c_r_is hs_z) dX12_readUnit_133 (hs_z.1 0 (12, 0) rfl) (by decide) rfl rfl rfl (Nat.le_of_ble_eq_true rfl) (by omega) (by decide) (Nat.le_refl _) (Nat.le_refl _) (fun _ _ hq => ?_)
              obtain ⟨rfl, rfl⟩ := hq
              refine V.if_eq 146 dX12_readUnit_136 (by decide) (fun c28 => ?_) (fun c28 => ?_)
              · rw [if_pos c28] at hf
                refine V.aload_n dX12_readUnit_146 rfl ?_
                refine V.iconst (v := 2) dX12_readUnit_147 (by decide) ?_
                obtain ⟨I31, hk30, hf⟩ := bnd_some hf
                try dsimp only at hf
                refine V.inv cv_X12_141 (c_r_fails hs_z hk30) dX12_readUnit_148 (hs_z.1 0 (12, 0) rfl) (by decide) rfl rfl rfl (Nat.le_of_ble_eq_true rfl) (by omega) (by decide) (Nat.le_refl _) (Nat.le_refl _) (fun _ _ hq => ?_)
                obtain ⟨rfl, rfl⟩ := hq
                refine V.aload_n dX12_readUnit_151 rfl ?_
                refine V.iload_n dX12_readUnit_152 rfl ?_
                obtain ⟨I34, hk33, hf⟩ := bnd_some hf
                try dsimp only at hf
                refine V.inv cv_X12_158 ((ih0.2.2.2.1) hs_z hk33) dX12_readUnit_153 (hs_z.1 0 (12, 0) rfl) (by decide) rfl rfl rfl (Nat.le_of_ble_eq_true rfl) (by omega) (by decide) (Nat.le_refl _) (Nat.le_refl _) (fun _ _ hq => ?_)
                obtain ⟨rfl, rfl⟩ := hq
                refine V.aload_n dX12_readUnit_156 rfl ?_
                refine V.iload_n dX12_readUnit_157 rfl ?_
                obtain ⟨I37, hk36, hf⟩ := bnd_some hf
                try dsimp only at hf
                refine V.inv cv_X12_149 (c_r_codes hs_z hk36) dX12_readUnit_158 (hs_z.1 0 (12, 0) rfl) (by decide) rfl rfl rfl (Nat.le_of_ble_eq_true rfl) (by omega) (by decide) (Nat.le_refl _) (Nat.le_refl _) (fun _ _ hq => ?_)
                obtain ⟨rfl, rfl⟩ := hq
                obtain rfl := Option.some.inj hf
                exact V.vret dX12_readUnit_161 rfl (Nat.le_refl _) (Nat.le_refl _) ⟨rfl, rfl⟩
              · rw [if_neg c28] at hf
                refine V.aload_n dX12_readUnit_139 rfl ?_
                obtain ⟨I40, hk39, hf⟩ := bnd_some hf
                try dsimp only at hf
                refine V.inv cv_X12_138 (c_r_nextToken hs_z hk39) dX12_readUnit_140 (hs_z.1 0 (12, 0) rfl) (by decide) rfl rfl rfl (Nat.le_of_ble_eq_true rfl) (by omega) (by decide) (Nat.le_refl _) (Nat.le_refl _) (fun _ _ hq => ?_)
                obtain ⟨rfl, rfl⟩ := hq
                refine V.goto 151 dX12_readUnit_143 (by decide) ?_
                refine V.aload_n dX12_readUnit_151 rfl ?_
                refine V.iload_n dX12_readUnit_152 rfl ?_
                obtain ⟨I43, hk42, hf⟩ := bnd_some hf
                try dsimp only at hf
                refine V.inv cv_X12_158 ((ih0.2.2.2.1) hs_z hk42) dX12_readUnit_153 (hs_z.1 0 (12, 0) rfl) (by decide) rfl rfl rfl (Nat.le_of_ble_eq_true rfl) (by omega) (by decide) (Nat.le_refl _) (Nat.le_refl _) (fun _ _ hq => ?_)
                obtain ⟨rfl, rfl⟩ := hq
                refine V.aload_n dX12_readUnit_156 rfl ?_
                refine V.iload_n dX12_readUnit_157 rfl ?_
                obtain ⟨I46, hk45, hf⟩ := bnd_some hf
                try dsimp only at hf
                refine V.inv cv_X12_149 (c_r_codes hs_z hk45) dX12_readUnit_158 (hs_z.1 0 (12, 0) rfl) (by decide) rfl rfl rfl (Nat.le_of_ble_eq_true rfl) (by omega) (by decide) (Nat.le_refl _) (Nat.le_refl _) (fun _ _ hq => ?_)
                obtain ⟨rfl, rfl⟩ := hq
                obtain rfl := Option.some.inj hf
                exact V.vret dX12_readUnit_161 rfl (Nat.le_refl _) (Nat.le_refl _) ⟨rfl, rfl⟩
        · rw [if_neg c7] at hf
          refine V.sipush (v := 3004) dX12_readUnit_102 (by decide) ?_
          refine V.goto 111 dX12_readUnit_105 (by decide) ?_
          refine V.istore_n dX12_readUnit_111 rfl (by decide) (by first | exact rfl | exact trivial) ?_
          refine V.aload_n dX12_readUnit_112 rfl ?_
          refine V.bipush (v := 39) dX12_readUnit_113 (by decide) ?_
          refine V.inv cv_X12_135 (c_r_is hs_z) dX12_readUnit_115 (hs_z.1 0 (12, 0) rfl) (by decide) rfl rfl rfl (Nat.le_of_ble_eq_true rfl) (by omega) (by decide) (Nat.le_refl _) (Nat.le_refl _) (fun _ _ hq => ?_)
          obtain ⟨rfl, rfl⟩ := hq
          refine V.if_ne 139 dX12_readUnit_118 (by decide) (fun c47 => ?_) (fun c47 => ?_)
          · rw [if_neg c47] at hf
            refine V.aload_n dX12_readUnit_139 rfl ?_
            obtain ⟨I50, hk49, hf⟩ := bnd_some hf
            try dsimp only at hf
            refine V.inv cv_X12_138 (c_r_nextToken hs_z hk49) dX12_readUnit_140 (hs_z.1 0 (12, 0) rfl) (by decide) rfl rfl rfl (Nat.le_of_ble_eq_true rfl) (by omega) (by decide) (Nat.le_refl _) (Nat.le_refl _) (fun _ _ hq => ?_)
            obtain ⟨rfl, rfl⟩ := hq
            refine V.goto 151 dX12_readUnit_143 (by decide) ?_
            refine V.aload_n dX12_readUnit_151 rfl ?_
            refine V.iload_n dX12_readUnit_152 rfl ?_
            obtain ⟨I53, hk52, hf⟩ := bnd_some hf
            try dsimp only at hf
            refine V.inv cv_X12_158 ((ih0.2.2.2.1) hs_z hk52) dX12_readUnit_153 (hs_z.1 0 (12, 0) rfl) (by decide) rfl rfl rfl (Nat.le_of_ble_eq_true rfl) (by omega) (by decide) (Nat.le_refl _) (Nat.le_refl _) (fun _ _ hq => ?_)
            obtain ⟨rfl, rfl⟩ := hq
            refine V.aload_n dX12_readUnit_156 rfl ?_
            refine V.iload_n dX12_readUnit_157 rfl ?_
            obtain ⟨I56, hk55, hf⟩ := bnd_some hf
            try dsimp only at hf
            refine V.inv cv_X12_149 (c_r_codes hs_z hk55) dX12_readUnit_158 (hs_z.1 0 (12, 0) rfl) (by decide) rfl rfl rfl (Nat.le_of_ble_eq_true rfl) (by omega) (by decide) (Nat.le_refl _) (Nat.le_refl _) (fun _ _ hq => ?_)
            obtain ⟨rfl, rfl⟩ := hq
            obtain rfl := Option.some.inj hf
            exact V.vret dX12_readUnit_161 rfl (Nat.le_refl _) (Nat.le_refl _) ⟨rfl, rfl⟩
          · rw [if_pos c47] at hf
            refine V.aload_n dX12_readUnit_121 rfl ?_
            refine V.bipush (v := 40) dX12_readUnit_122 (by decide) ?_
            refine V.inv cv_X12_135 (c_r_is hs_z) dX12_readUnit_124 (hs_z.1 0 (12, 0) rfl) (by decide) rfl rfl rfl (Nat.le_of_ble_eq_true rfl) (by omega) (by decide) (Nat.le_refl _) (Nat.le_refl _) (fun _ _ hq => ?_)
            obtain ⟨rfl, rfl⟩ := hq
            refine V.if_ne 139 dX12_readUnit_127 (by decide) (fun c57 => ?_) (fun c57 => ?_)
            · rw [if_neg c57] at hf
              refine V.aload_n dX12_readUnit_139 rfl ?_
              obtain ⟨I60, hk59, hf⟩ := bnd_some hf
              try dsimp only at hf
              refine V.inv cv_X12_138 (c_r_nextToken hs_z hk59) dX12_readUnit_140 (hs_z.1 0 (12, 0) rfl) (by decide) rfl rfl rfl (Nat.le_of_ble_eq_true rfl) (by omega) (by decide) (Nat.le_refl _) (Nat.le_refl _) (fun _ _ hq => ?_)
              obtain ⟨rfl, rfl⟩ := hq
              refine V.goto 151 dX12_readUnit_143 (by decide) ?_
              refine V.aload_n dX12_readUnit_151 rfl ?_
              refine V.iload_n dX12_readUnit_152 rfl ?_
              obtain ⟨I63, hk62, hf⟩ := bnd_some hf
              try dsimp only at hf
              refine V.inv cv_X12_158 ((ih0.2.2.2.1) hs_z hk62) dX12_readUnit_153 (hs_z.1 0 (12, 0) rfl) (by decide) rfl rfl rfl (Nat.le_of_ble_eq_true rfl) (by omega) (by decide) (Nat.le_refl _) (Nat.le_refl _) (fun _ _ hq => ?_)
              obtain ⟨rfl, rfl⟩ := hq
              refine V.aload_n dX12_readUnit_156 rfl ?_
              refine V.iload_n dX12_readUnit_157 rfl ?_
              obtain ⟨I66, hk65, hf⟩ := bnd_some hf
              try dsimp only at hf
              refine V.inv cv_X12_149 (c_r_codes hs_z hk65) dX12_readUnit_158 (hs_z.1 0 (12, 0) rfl) (by decide) rfl rfl rfl (Nat.le_of_ble_eq_true rfl) (by omega) (by decide) (Nat.le_refl _) (Nat.le_refl _) (fun _ _ hq => ?_)
              obtain ⟨rfl, rfl⟩ := hq
              obtain rfl := Option.some.inj hf
              exact V.vret dX12_readUnit_161 rfl (Nat.le_refl _) (Nat.le_refl _) ⟨rfl, rfl⟩
            · rw [if_pos c57] at hf
              refine V.aload_n dX12_readUnit_130 rfl ?_
              refine V.bipush (v := 41) dX12_readUnit_131 (by decide) ?_
              refine V.inv cv_X12_135 (c_r_is hs_z) dX12_readUnit_133 (hs_z.1 0 (12, 0) rfl) (by decide) rfl rfl rfl (Nat.le_of_ble_eq_true rfl) (by omega) (by decide) (Nat.le_refl _) (Nat.le_refl _) (fun _ _ hq => ?_)
              obtain ⟨rfl, rfl⟩ := hq
              refine V.if_eq 146 dX12_readUnit_136 (by decide) (fun c67 => ?_) (fun c67 => ?_)
              · rw [if_pos c67] at hf
                refine V.aload_n dX12_readUnit_146 rfl ?_
                refine V.iconst (v := 2) dX12_readUnit_147 (by decide) ?_
                obtain ⟨I70, hk69, hf⟩ := bnd_some hf
                try dsimp only at hf
                refine V.inv cv_X12_141 (c_r_fails hs_z hk69) dX12_readUnit_148 (hs_z.1 0 (12, 0) rfl) (by decide) rfl rfl rfl (Nat.le_of_ble_eq_true rfl) (by omega) (by decide) (Nat.le_refl _) (Nat.le_refl _) (fun _ _ hq => ?_)
                obtain ⟨rfl, rfl⟩ := hq
                refine V.aload_n dX12_readUnit_151 rfl ?_
                refine V.iload_n dX12_readUnit_152 rfl ?_
                obtain ⟨I73, hk72, hf⟩ := bnd_some hf
                try dsimp only at hf
                refine V.inv cv_X12_158 ((ih0.2.2.2.1) hs_z hk72) dX12_readUnit_153 (hs_z.1 0 (12, 0) rfl) (by decide) rfl rfl rfl (Nat.le_of_ble_eq_true rfl) (by omega) (by decide) (Nat.le_refl _) (Nat.le_refl _) (fun _ _ hq => ?_)
                obtain ⟨rfl, rfl⟩ := hq
                refine V.aload_n dX12_readUnit_156 rfl ?_
                refine V.iload_n dX12_readUnit_157 rfl ?_
                obtain ⟨I76, hk75, hf⟩ := bnd_some hf
                try dsimp only at hf
                refine V.inv cv_X12_149 (c_r_codes hs_z hk75) dX12_readUnit_158 (hs_z.1 0 (12, 0) rfl) (by decide) rfl rfl rfl (Nat.le_of_ble_eq_true rfl) (by omega) (by decide) (Nat.le_refl _) (Nat.le_refl _) (fun _ _ hq => ?_)
                obtain ⟨rfl, rfl⟩ := hq
                obtain rfl := Option.some.inj hf
                exact V.vret dX12_readUnit_161 rfl (Nat.le_refl _) (Nat.le_refl _) ⟨rfl, rfl⟩
              · rw [if_neg c67] at hf
                refine V.aload_n dX12_readUnit_139 rfl ?_
                obtain ⟨I79, hk78, hf⟩ := bnd_some hf
                try dsimp only at hf
                refine V.inv cv_X12_138 (c_r_nextToken hs_z hk78) dX12_readUnit_140 (hs_z.1 0 (12, 0) rfl) (by decide) rfl rfl rfl (Nat.le_of_ble_eq_true rfl) (by omega) (by decide) (Nat.le_refl _) (Nat.le_refl _) (fun _ _ hq => ?_)
                obtain ⟨rfl, rfl⟩ := hq
                refine V.goto 151 dX12_readUnit_143 (by decide) ?_
                refine V.aload_n dX12_readUnit_151 rfl ?_
                refine V.iload_n dX12_readUnit_152 rfl ?_
                obtain ⟨I82, hk81, hf⟩ := bnd_some hf
                try dsimp only at hf
                refine V.inv cv_X12_158 ((ih0.2.2.2.1) hs_z hk81) dX12_readUnit_153 (hs_z.1 0 (12, 0) rfl) (by decide) rfl rfl rfl (Nat.le_of_ble_eq_true rfl) (by omega) (by decide) (Nat.le_refl _) (Nat.le_refl _) (fun _ _ hq => ?_)
                obtain ⟨rfl, rfl⟩ := hq
                refine V.aload_n dX12_readUnit_156 rfl ?_
                refine V.iload_n dX12_readUnit_157 rfl ?_
                obtain ⟨I85, hk84, hf⟩ := bnd_some hf
                try dsimp only at hf
                refine V.inv cv_X12_149 (c_r_codes hs_z hk84) dX12_readUnit_158 (hs_z.1 0 (12, 0) rfl) (by decide) rfl rfl rfl (Nat.le_of_ble_eq_true rfl) (by omega) (by decide) (Nat.le_refl _) (Nat.le_refl _) (fun _ _ hq => ?_)
                obtain ⟨rfl, rfl⟩ := hq
                obtain rfl := Option.some.inj hf
                exact V.vret dX12_readUnit_161 rfl (Nat.le_refl _) (Nat.le_refl _) ⟨rfl, rfl⟩
      · rw [if_neg c6] at hf
        refine V.sipush (v := 3003) dX12_readUnit_87 (by decide) ?_
        refine V.goto 111 dX12_readUnit_90 (by decide) ?_
        refine V.istore_n dX12_readUnit_111 rfl (by decide) (by first | exact rfl | exact trivial) ?_
        refine V.aload_n dX12_readUnit_112 rfl ?_
        refine V.bipush (v := 39) dX12_readUnit_113 (by decide) ?_
        refine V.inv cv_X12_135 (c_r_is hs_z) dX12_readUnit_115 (hs_z.1 0 (12, 0) rfl) (by decide) rfl rfl rfl (Nat.le_of_ble_eq_true rfl) (by omega) (by decide) (Nat.le_refl _) (Nat.le_refl _) (fun _ _ hq => ?_)
        obtain ⟨rfl, rfl⟩ := hq
        refine V.if_ne 139 dX12_readUnit_118 (by decide) (fun c86 => ?_) (fun c86 => ?_)
        · rw [if_neg c86] at hf
          refine V.aload_n dX12_readUnit_139 rfl ?_
          obtain ⟨I89, hk88, hf⟩ := bnd_some hf
          try dsimp only at hf
          refine V.inv cv_X12_138 (c_r_nextToken hs_z hk88) dX12_readUnit_140 (hs_z.1 0 (12, 0) rfl) (by decide) rfl rfl rfl (Nat.le_of_ble_eq_true rfl) (by omega) (by decide) (Nat.le_refl _) (Nat.le_refl _) (fun _ _ hq => ?_)
          obtain ⟨rfl, rfl⟩ := hq
          refine V.goto 151 dX12_readUnit_143 (by decide) ?_
          refine V.aload_n dX12_readUnit_151 rfl ?_
          refine V.iload_n dX12_readUnit_152 rfl ?_
          obtain ⟨I92, hk91, hf⟩ := bnd_some hf
          try dsimp only at hf
          refine V.inv cv_X12_158 ((ih0.2.2.2.1) hs_z hk91) dX12_readUnit_153 (hs_z.1 0 (12, 0) rfl) (by decide) rfl rfl rfl (Nat.le_of_ble_eq_true rfl) (by omega) (by decide) (Nat.le_refl _) (Nat.le_refl _) (fun _ _ hq => ?_)
          obtain ⟨rfl, rfl⟩ := hq
          refine V.aload_n dX12_readUnit_156 rfl ?_
          refine V.iload_n dX12_readUnit_157 rfl ?_
          obtain ⟨I95, hk94, hf⟩ := bnd_some hf
          try dsimp only at hf
          refine V.inv cv_X12_149 (c_r_codes hs_z hk94) dX12_readUnit_158 (hs_z.1 0 (12, 0) rfl) (by decide) rfl rfl rfl (Nat.le_of_ble_eq_true rfl) (by omega) (by decide) (Nat.le_refl _) (Nat.le_refl _) (fun _ _ hq => ?_)
          obtain ⟨rfl, rfl⟩ := hq
          obtain rfl := Option.some.inj hf
          exact V.vret dX12_readUnit_161 rfl (Nat.le_refl _) (Nat.le_refl _) ⟨rfl, rfl⟩
        · rw [if_pos c86] at hf
          refine V.aload_n dX12_readUnit_121 rfl ?_
          refine V.bipush (v := 40) dX12_readUnit_122 (by decide) ?_
          refine V.inv cv_X12_135 (c_r_is hs_z) dX12_readUnit_124 (hs_z.1 0 (12, 0) rfl) (by decide) rfl rfl rfl (Nat.le_of_ble_eq_true rfl) (by omega) (by decide) (Nat.le_refl _) (Nat.le_refl _) (fun _ _ hq => ?_)
          obtain ⟨rfl, rfl⟩ := hq
          refine V.if_ne 139 dX12_readUnit_127 (by decide) (fun c96 => ?_) (fun c96 => ?_)
          · rw [if_neg c96] at hf
            refine V.aload_n dX12_readUnit_139 rfl ?_
            obtain ⟨I99, hk98, hf⟩ := bnd_some hf
            try dsimp only at hf
            refine V.inv cv_X12_138 (c_r_nextToken hs_z hk98) dX12_readUnit_140 (hs_z.1 0 (12, 0) rfl) (by decide) rfl rfl rfl (Nat.le_of_ble_eq_true rfl) (by omega) (by decide) (Nat.le_refl _) (Nat.le_refl _) (fun _ _ hq => ?_)
            obtain ⟨rfl, rfl⟩ := hq
            refine V.goto 151 dX12_readUnit_143 (by decide) ?_
            refine V.aload_n dX12_readUnit_151 rfl ?_
            refine V.iload_n dX12_readUnit_152 rfl ?_
            obtain ⟨I102, hk101, hf⟩ := bnd_some hf
            try dsimp only at hf
            refine V.inv cv_X12_158 ((ih0.2.2.2.1) hs_z hk101) dX12_readUnit_153 (hs_z.1 0 (12, 0) rfl) (by decide) rfl rfl rfl (Nat.le_of_ble_eq_true rfl) (by omega) (by decide) (Nat.le_refl _) (Nat.le_refl _) (fun _ _ hq => ?_)
            obtain ⟨rfl, rfl⟩ := hq
            refine V.aload_n dX12_readUnit_156 rfl ?_
            refine V.iload_n dX12_readUnit_157 rfl ?_
            obtain ⟨I105, hk104, hf⟩ := bnd_some hf
            try dsimp only at hf
            refine V.inv cv_X12_149 (c_r_codes hs_z hk104) dX12_readUnit_158 (hs_z.1 0 (12, 0) rfl) (by decide) rfl rfl rfl (Nat.le_of_ble_eq_true rfl) (by omega) (by decide) (Nat.le_refl _) (Nat.le_refl _) (fun _ _ hq => ?_)
            obtain ⟨rfl, rfl⟩ := hq
            obtain rfl := Option.some.inj hf
            exact V.vret dX12_readUnit_161 rfl (Nat.le_refl _) (Nat.le_refl _) ⟨rfl, rfl⟩
          · rw [if_pos c96] at hf
            refine V.aload_n dX12_readUnit_130 rfl ?_
            refine V.bipush (v := 41) dX12_readUnit_131 (by decide) ?_
            refine V.inv cv_X12_135 (c_r_is hs_z) dX12_readUnit_133 (hs_z.1 0 (12, 0) rfl) (by decide) rfl rfl rfl (Nat.le_of_ble_eq_true rfl) (by omega) (by decide) (Nat.le_refl _) (Nat.le_refl _) (fun _ _ hq => ?_)
            obtain ⟨rfl, rfl⟩ := hq
            refine V.if_eq 146 dX12_readUnit_136 (by decide) (fun c106 => ?_) (fun c106 => ?_)
            · rw [if_pos c106] at hf
              refine V.aload_n dX12_readUnit_146 rfl ?_
              refine V.iconst (v := 2) dX12_readUnit_147 (by decide) ?_
              obtain ⟨I109, hk108, hf⟩ := bnd_some hf
              try dsimp only at hf
              refine V.inv cv_X12_141 (c_r_fails hs_z hk108) dX12_readUnit_148 (hs_z.1 0 (12, 0) rfl) (by decide) rfl rfl rfl (Nat.le_of_ble_eq_true rfl) (by omega) (by decide) (Nat.le_refl _) (Nat.le_refl _) (fun _ _ hq => ?_)
              obtain ⟨rfl, rfl⟩ := hq
              refine V.aload_n dX12_readUnit_151 rfl ?_
              refine V.iload_n dX12_readUnit_152 rfl ?_
              obtain ⟨I112, hk111, hf⟩ := bnd_some hf
              try dsimp only at hf
              refine V.inv cv_X12_158 ((ih0.2.2.2.1) hs_z hk111) dX12_readUnit_153 (hs_z.1 0 (12, 0) rfl) (by decide) rfl rfl rfl (Nat.le_of_ble_eq_true rfl) (by omega) (by decide) (Nat.le_refl _) (Nat.le_refl _) (fun _ _ hq => ?_)
              obtain ⟨rfl, rfl⟩ := hq
              refine V.aload_n dX12_readUnit_156 rfl ?_
              refine V.iload_n dX12_readUnit_157 rfl ?_
              obtain ⟨I115, hk114, hf⟩ := bnd_some hf
              try dsimp only at hf
              refine V.inv cv_X12_149 (c_r_codes hs_z hk114) dX12_readUnit_158 (hs_z.1 0 (12, 0) rfl) (by decide) rfl rfl rfl (Nat.le_of_ble_eq_true rfl) (by omega) (by decide) (Nat.le_refl _) (Nat.le_refl _) (fun _ _ hq => ?_)
              obtain ⟨rfl, rfl⟩ := hq
              obtain rfl := Option.some.inj hf
              exact V.vret dX12_readUnit_161 rfl (Nat.le_refl _) (Nat.le_refl _) ⟨rfl, rfl⟩
            · rw [if_neg c106] at hf
              refine V.aload_n dX12_readUnit_139 rfl ?_
              obtain ⟨I118, hk117, hf⟩ := bnd_some hf
              try dsimp only at hf
              refine V.inv cv_X12_138 (c_r_nextToken hs_z hk117) dX12_readUnit_140 (hs_z.1 0 (12, 0) rfl) (by decide) rfl rfl rfl (Nat.le_of_ble_eq_true rfl) (by omega) (by decide) (Nat.le_refl _) (Nat.le_refl _) (fun _ _ hq => ?_)
              obtain ⟨rfl, rfl⟩ := hq
              refine V.goto 151 dX12_readUnit_143 (by decide) ?_
              refine V.aload_n dX12_readUnit_151 rfl ?_
              refine V.iload_n dX12_readUnit_152 rfl ?_
              obtain ⟨I121, hk120, hf⟩ := bnd_some hf
              try dsimp only at hf
              refine V.inv cv_X12_158 ((ih0.2.2.2.1) hs_z hk120) dX12_readUnit_153 (hs_z.1 0 (12, 0) rfl) (by decide) rfl rfl rfl (Nat.le_of_ble_eq_true rfl) (by omega) (by decide) (Nat.le_refl _) (Nat.le_refl _) (fun _ _ hq => ?_)
              obtain ⟨rfl, rfl⟩ := hq
              refine V.aload_n dX12_readUnit_156 rfl ?_
              refine V.iload_n dX12_readUnit_157 rfl ?_
              obtain ⟨I124, hk123, hf⟩ := bnd_some hf
              try dsimp only at hf
              refine V.inv cv_X12_149 (c_r_codes hs_z hk123) dX12_readUnit_158 (hs_z.1 0 (12, 0) rfl) (by decide) rfl rfl rfl (Nat.le_of_ble_eq_true rfl) (by omega) (by decide) (Nat.le_refl _) (Nat.le_refl _) (fun _ _ hq => ?_)
              obtain ⟨rfl, rfl⟩ := hq
              obtain rfl := Option.some.inj hf
              exact V.vret dX12_readUnit_161 rfl (Nat.le_refl _) (Nat.le_refl _) ⟨rfl, rfl⟩
    · rw [if_neg c2] at hf
      refine V.aload_n dX12_readUnit_42 rfl ?_
      refine V.iload_n dX12_readUnit_43 rfl ?_
      obtain ⟨⟨u127, I128⟩, hk126, hf⟩ := bnd_some hf
      try dsimp only at hf
      refine V.inv cv_X12_155 (c_r_goesIn hs_z hk126) dX12_readUnit_44 (hs_z.1 0 (12, 0) rfl) (by decide) rfl rfl rfl (Nat.le_of_ble_eq_true rfl) (by omega) (by decide) (Nat.le_refl _) (Nat.le_refl _) (fun _ _ hq => ?_)
      obtain ⟨rfl, rfl⟩ := hq
      try dsimp only
      refine V.if_ne 51 dX12_readUnit_47 (by decide) (fun c129 => ?_) (fun c129 => ?_)
      · rw [if_neg c129] at hf
        refine V.aload_n dX12_readUnit_51 rfl ?_
        refine V.iload_n dX12_readUnit_52 rfl ?_
        refine V.iconst (v := 1) dX12_readUnit_53 (by decide) ?_
        refine V.iadd dX12_readUnit_54 ?_
        obtain ⟨I132, hk131, hf⟩ := bnd_some hf
        try dsimp only at hf
        refine V.inv cv_X12_167 ((ih0.2.2.2.2.2.2) hs_z hk131) dX12_readUnit_55 (hs_z.1 0 (12, 0) rfl) (by decide) rfl rfl rfl (Nat.le_of_ble_eq_true rfl) (by omega) (by decide) (Nat.le_refl _) (Nat.le_refl _) (fun _ _ hq => ?_)
        obtain ⟨rfl, rfl⟩ := hq
        refine V.aload_n dX12_readUnit_58 rfl ?_
        refine V.bipush (v := 38) dX12_readUnit_59 (by decide) ?_
        obtain ⟨⟨u135, I136⟩, hk134, hf⟩ := bnd_some hf
        try dsimp only at hf
        refine V.inv cv_X12_161 (c_r_eats hs_z hk134) dX12_readUnit_61 (hs_z.1 0 (12, 0) rfl) (by decide) rfl rfl rfl (Nat.le_of_ble_eq_true rfl) (by omega) (by decide) (Nat.le_refl _) (Nat.le_refl _) (fun _ _ hq => ?_)
        obtain ⟨rfl, rfl⟩ := hq
        try dsimp only
        refine V.if_ne 72 dX12_readUnit_64 (by decide) (fun c137 => ?_) (fun c137 => ?_)
        · rw [if_neg c137] at hf
          obtain rfl := Option.some.inj hf
          exact V.vret dX12_readUnit_72 rfl (Nat.le_refl _) (Nat.le_refl _) ⟨rfl, rfl⟩
        · rw [if_pos c137] at hf
          refine V.aload_n dX12_readUnit_67 rfl ?_
          refine V.iconst (v := 2) dX12_readUnit_68 (by decide) ?_
          obtain ⟨I140, hk139, hf⟩ := bnd_some hf
          try dsimp only at hf
          refine V.inv cv_X12_141 (c_r_fails hs_z hk139) dX12_readUnit_69 (hs_z.1 0 (12, 0) rfl) (by decide) rfl rfl rfl (Nat.le_of_ble_eq_true rfl) (by omega) (by decide) (Nat.le_refl _) (Nat.le_refl _) (fun _ _ hq => ?_)
          obtain ⟨rfl, rfl⟩ := hq
          obtain rfl := Option.some.inj hf
          exact V.vret dX12_readUnit_72 rfl (Nat.le_refl _) (Nat.le_refl _) ⟨rfl, rfl⟩
      · rw [if_pos c129] at hf
        obtain rfl := Option.some.inj hf
        exact V.vret dX12_readUnit_50 rfl (Nat.le_refl _) (Nat.le_refl _) ⟨rfl, rfl⟩
  · rw [if_neg c1] at hf
    refine V.aload_n dX12_readUnit_9 rfl ?_
    refine V.iload_n dX12_readUnit_10 rfl ?_
    obtain ⟨⟨u143, I144⟩, hk142, hf⟩ := bnd_some hf
    try dsimp only at hf
    refine V.inv cv_X12_155 (c_r_goesIn hs_z hk142) dX12_readUnit_11 (hs_z.1 0 (12, 0) rfl) (by decide) rfl rfl rfl (Nat.le_of_ble_eq_true rfl) (by omega) (by decide) (Nat.le_refl _) (Nat.le_refl _) (fun _ _ hq => ?_)
    obtain ⟨rfl, rfl⟩ := hq
    try dsimp only
    refine V.if_ne 18 dX12_readUnit_14 (by decide) (fun c145 => ?_) (fun c145 => ?_)
    · rw [if_neg c145] at hf
      refine V.aload_n dX12_readUnit_18 rfl ?_
      refine V.iload_n dX12_readUnit_19 rfl ?_
      refine V.iconst (v := 1) dX12_readUnit_20 (by decide) ?_
      refine V.iadd dX12_readUnit_21 ?_
      obtain ⟨I148, hk147, hf⟩ := bnd_some hf
      try dsimp only at hf
      refine V.inv cv_X12_176 ((ih0.2.2.2.2.1) hs_z hk147) dX12_readUnit_22 (hs_z.1 0 (12, 0) rfl) (by decide) rfl rfl rfl (Nat.le_of_ble_eq_true rfl) (by omega) (by decide) (Nat.le_refl _) (Nat.le_refl _) (fun _ _ hq => ?_)
      obtain ⟨rfl, rfl⟩ := hq
      refine V.aload_n dX12_readUnit_25 rfl ?_
      refine V.sipush (v := 3006) dX12_readUnit_26 (by decide) ?_
      obtain ⟨I151, hk150, hf⟩ := bnd_some hf
      try dsimp only at hf
      refine V.inv cv_X12_149 (c_r_codes hs_z hk150) dX12_readUnit_29 (hs_z.1 0 (12, 0) rfl) (by decide) rfl rfl rfl (Nat.le_of_ble_eq_true rfl) (by omega) (by decide) (Nat.le_refl _) (Nat.le_refl _) (fun _ _ hq => ?_)
      obtain ⟨rfl, rfl⟩ := hq
      obtain rfl := Option.some.inj hf
      exact V.vret dX12_readUnit_32 rfl (Nat.le_refl _) (Nat.le_refl _) ⟨rfl, rfl⟩
    · rw [if_pos c145] at hf
      obtain rfl := Option.some.inj hf
      exact V.vret dX12_readUnit_17 rfl (Nat.le_refl _) (Nat.le_refl _) ⟨rfl, rfl⟩
theorem s_r_readBothB {l : Launch} {D : va_G} {E : Nat → ClassId} {B : Nat → Prop} {n F : Nat} {T : Nat → Option (Nat × Nat)} {J : Nat → Nat → Int64} {P : Nat → Nat → Option Nat} {z : Nat} {kr : Nat} (ih0 : r_parse_H l D E B n F T J P z kr) {v1 : Int32} {I : Nat → Nat → Int32} {r : (Nat → Nat → Int32)} (hs_z : isMd T P z) (hf : r_readBothB (r_parse F z kr) F I z v1 = some r) : Ct l D E B yX12_readBoth cX12_readBoth 2 none (20 + (kr + 1)) 0 0 [.ref z, .int v1] (n, T, I, J, P) (Ret (none) (n, T, r, J, P)) := by
  unfold r_readBothB at hf
  refine Ct.ofV (by decide) (Nat.le_of_ble_eq_true rfl) ?_
  refine V.aload_n dX12_readBoth_0 rfl ?_
  refine V.iload_n dX12_readBoth_1 rfl ?_
  obtain ⟨I3, hk2, hf⟩ := bnd_some hf
  try dsimp only at hf
  refine V.inv cv_X12_176 ((ih0.2.2.2.2.1) hs_z hk2) dX12_readBoth_2 (hs_z.1 0 (12, 0) rfl) (by decide) rfl rfl rfl (Nat.le_of_ble_eq_true rfl) (by omega) (by decide) (Nat.le_refl _) (Nat.le_refl _) (fun _ _ hq => ?_)
  obtain ⟨rfl, rfl⟩ := hq
  obtain ⟨I17, hk16, hf⟩ := bnd_some hf
  try dsimp only at hf
  refine V.lo [(0, some (.ref z)), (1, some (.int v1))] (by simp only [Subs]; repeat' first | exact trivial | constructor | rfl) (l_r_readBothB_5 hs_z ih0 _ F _ hk16 ?_)
  try dsimp only
  obtain rfl := Option.some.inj hf
  exact V.vret dX12_readBoth_29 rfl (Nat.le_refl _) (Nat.le_refl _) ⟨rfl, rfl⟩
theorem s_r_readTruthB {l : Launch} {D : va_G} {E : Nat → ClassId} {B : Nat → Prop} {n F : Nat} {T : Nat → Option (Nat × Nat)} {J : Nat → Nat → Int64} {P : Nat → Nat → Option Nat} {z : Nat} {kr : Nat} (ih0 : r_parse_H l D E B n F T J P z kr) {v1 : Int32} {I : Nat → Nat → Int32} {r : (Nat → Nat → Int32)} (hs_z : isMd T P z) (hf : r_readTruthB (r_parse F z kr) F I z v1 = some r) : Ct l D E B yX12_readTruth cX12_readTruth 2 none (20 + (kr + 1)) 0 0 [.ref z, .int v1] (n, T, I, J, P) (Ret (none) (n, T, r, J, P)) := by
  unfold r_readTruthB at hf
  refine Ct.ofV (by decide) (Nat.le_of_ble_eq_true rfl) ?_
  refine V.aload_n dX12_readTruth_0 rfl ?_
  refine V.iload_n dX12_readTruth_1 rfl ?_
  obtain ⟨I3, hk2, hf⟩ := bnd_some hf
  try dsimp only at hf
  refine V.inv cv_X12_179 ((ih0.2.2.2.2.2.1) hs_z hk2) dX12_readTruth_2 (hs_z.1 0 (12, 0) rfl) (by decide) rfl rfl rfl (Nat.le_of_ble_eq_true rfl) (by omega) (by decide) (Nat.le_refl _) (Nat.le_refl _) (fun _ _ hq => ?_)
  obtain ⟨rfl, rfl⟩ := hq
  obtain ⟨I17, hk16, hf⟩ := bnd_some hf
  try dsimp only at hf
  refine V.lo [(0, some (.ref z)), (1, some (.int v1))] (by simp only [Subs]; repeat' first | exact trivial | constructor | rfl) (l_r_readTruthB_5 hs_z ih0 _ F _ hk16 ?_)
  try dsimp only
  obtain rfl := Option.some.inj hf
  exact V.vret dX12_readTruth_29 rfl (Nat.le_refl _) (Nat.le_refl _) ⟨rfl, rfl⟩
theorem r_parse_all {l : Launch} {D : va_G} {E : Nat → ClassId} {B : Nat → Prop} {n F : Nat} {T : Nat → Option (Nat × Nat)} {J : Nat → Nat → Int64} {P : Nat → Nat → Option Nat} {z : Nat} : ∀ k, r_parse_H l D E B n F T J P z k := by
  intro k
  induction k with
  | zero =>
    exact ⟨(fun _ hf => by cases hf), (fun _ hf => by cases hf), (fun _ hf => by cases hf), (fun _ hf => by cases hf), (fun _ hf => by cases hf), (fun _ hf => by cases hf), (fun _ hf => by cases hf)⟩
  | succ kr ih0 =>
    exact ⟨(fun hs_z hf => s_r_readAtomB ih0 hs_z hf), (fun hs_z hf => s_r_readIfB ih0 hs_z hf), (fun hs_z hf => s_r_readTermB ih0 hs_z hf), (fun hs_z hf => s_r_readSumB ih0 hs_z hf), (fun hs_z hf => s_r_readUnitB ih0 hs_z hf), (fun hs_z hf => s_r_readBothB ih0 hs_z hf), (fun hs_z hf => s_r_readTruthB ih0 hs_z hf)⟩
def r_readAtomB_f (F : Nat) (I : Nat → Nat → Int32) (z : Nat) (v1 : Int32) : Option ((Nat → Nat → Int32)) := r_parse F z 70 0 v1 I
theorem c_r_readAtomB_f {l : Launch} {D : va_G} {E : Nat → ClassId} {B : Nat → Prop} {n F : Nat} {T : Nat → Option (Nat × Nat)} {J : Nat → Nat → Int64} {P : Nat → Nat → Option Nat} {z : Nat} {v1 : Int32} {I : Nat → Nat → Int32} {r : (Nat → Nat → Int32)} (hs_z : isMd T P z) (hf : r_readAtomB_f F I z v1 = some r) : Ct l D E B yX12_readAtom cX12_readAtom 2 none 90 0 0 [.ref z, .int v1] (n, T, I, J, P) (Ret (none) (n, T, r, J, P)) := (r_parse_all 70).1 hs_z hf
def r_readIfB_f (F : Nat) (I : Nat → Nat → Int32) (z : Nat) (v1 : Int32) : Option ((Nat → Nat → Int32)) := r_parse F z 70 1 v1 I
theorem c_r_readIfB_f {l : Launch} {D : va_G} {E : Nat → ClassId} {B : Nat → Prop} {n F : Nat} {T : Nat → Option (Nat × Nat)} {J : Nat → Nat → Int64} {P : Nat → Nat → Option Nat} {z : Nat} {v1 : Int32} {I : Nat → Nat → Int32} {r : (Nat → Nat → Int32)} (hs_z : isMd T P z) (hf : r_readIfB_f F I z v1 = some r) : Ct l D E B yX12_readIf cX12_readIf 2 none 90 0 0 [.ref z, .int v1] (n, T, I, J, P) (Ret (none) (n, T, r, J, P)) := (r_parse_all 70).2.1 hs_z hf
def r_readTermB_f (F : Nat) (I : Nat → Nat → Int32) (z : Nat) (v1 : Int32) : Option ((Nat → Nat → Int32)) := r_parse F z 70 2 v1 I
theorem c_r_readTermB_f {l : Launch} {D : va_G} {E : Nat → ClassId} {B : Nat → Prop} {n F : Nat} {T : Nat → Option (Nat × Nat)} {J : Nat → Nat → Int64} {P : Nat → Nat → Option Nat} {z : Nat} {v1 : Int32} {I : Nat → Nat → Int32} {r : (Nat → Nat → Int32)} (hs_z : isMd T P z) (hf : r_readTermB_f F I z v1 = some r) : Ct l D E B yX12_readTerm cX12_readTerm 2 none 90 0 0 [.ref z, .int v1] (n, T, I, J, P) (Ret (none) (n, T, r, J, P)) := (r_parse_all 70).2.2.1 hs_z hf
def r_readSumB_f (F : Nat) (I : Nat → Nat → Int32) (z : Nat) (v1 : Int32) : Option ((Nat → Nat → Int32)) := r_parse F z 70 3 v1 I
theorem c_r_readSumB_f {l : Launch} {D : va_G} {E : Nat → ClassId} {B : Nat → Prop} {n F : Nat} {T : Nat → Option (Nat × Nat)} {J : Nat → Nat → Int64} {P : Nat → Nat → Option Nat} {z : Nat} {v1 : Int32} {I : Nat → Nat → Int32} {r : (Nat → Nat → Int32)} (hs_z : isMd T P z) (hf : r_readSumB_f F I z v1 = some r) : Ct l D E B yX12_readSum cX12_readSum 3 none 90 0 0 [.ref z, .int v1] (n, T, I, J, P) (Ret (none) (n, T, r, J, P)) := (r_parse_all 70).2.2.2.1 hs_z hf
def r_readUnitB_f (F : Nat) (I : Nat → Nat → Int32) (z : Nat) (v1 : Int32) : Option ((Nat → Nat → Int32)) := r_parse F z 70 4 v1 I
theorem c_r_readUnitB_f {l : Launch} {D : va_G} {E : Nat → ClassId} {B : Nat → Prop} {n F : Nat} {T : Nat → Option (Nat × Nat)} {J : Nat → Nat → Int64} {P : Nat → Nat → Option Nat} {z : Nat} {v1 : Int32} {I : Nat → Nat → Int32} {r : (Nat → Nat → Int32)} (hs_z : isMd T P z) (hf : r_readUnitB_f F I z v1 = some r) : Ct l D E B yX12_readUnit cX12_readUnit 3 none 90 0 0 [.ref z, .int v1] (n, T, I, J, P) (Ret (none) (n, T, r, J, P)) := (r_parse_all 70).2.2.2.2.1 hs_z hf
def r_readBothB_f (F : Nat) (I : Nat → Nat → Int32) (z : Nat) (v1 : Int32) : Option ((Nat → Nat → Int32)) := r_parse F z 70 5 v1 I
theorem c_r_readBothB_f {l : Launch} {D : va_G} {E : Nat → ClassId} {B : Nat → Prop} {n F : Nat} {T : Nat → Option (Nat × Nat)} {J : Nat → Nat → Int64} {P : Nat → Nat → Option Nat} {z : Nat} {v1 : Int32} {I : Nat → Nat → Int32} {r : (Nat → Nat → Int32)} (hs_z : isMd T P z) (hf : r_readBothB_f F I z v1 = some r) : Ct l D E B yX12_readBoth cX12_readBoth 2 none 90 0 0 [.ref z, .int v1] (n, T, I, J, P) (Ret (none) (n, T, r, J, P)) := (r_parse_all 70).2.2.2.2.2.1 hs_z hf
def r_readTruthB_f (F : Nat) (I : Nat → Nat → Int32) (z : Nat) (v1 : Int32) : Option ((Nat → Nat → Int32)) := r_parse F z 70 6 v1 I
theorem c_r_readTruthB_f {l : Launch} {D : va_G} {E : Nat → ClassId} {B : Nat → Prop} {n F : Nat} {T : Nat → Option (Nat × Nat)} {J : Nat → Nat → Int64} {P : Nat → Nat → Option Nat} {z : Nat} {v1 : Int32} {I : Nat → Nat → Int32} {r : (Nat → Nat → Int32)} (hs_z : isMd T P z) (hf : r_readTruthB_f F I z v1 = some r) : Ct l D E B yX12_readTruth cX12_readTruth 2 none 90 0 0 [.ref z, .int v1] (n, T, I, J, P) (Ret (none) (n, T, r, J, P)) := (r_parse_all 70).2.2.2.2.2.2 hs_z hf
theorem dX12_readPerson_0 : decode cX12_readPerson 0 = .ok (.aload_n 0, 1) := by decide +kernel
theorem dX12_readPerson_1 : decode cX12_readPerson 1 = .ok (.getfield 24, 3) := by decide +kernel
theorem dX12_readPerson_4 : decode cX12_readPerson 4 = .ok (.iconst 1, 1) := by decide +kernel
theorem dX12_readPerson_5 : decode cX12_readPerson 5 = .ok (.iaload, 1) := by decide +kernel
theorem dX12_readPerson_6 : decode cX12_readPerson 6 = .ok (.istore_n 1, 1) := by decide +kernel
theorem dX12_readPerson_7 : decode cX12_readPerson 7 = .ok (.iload_n 1, 1) := by decide +kernel
theorem dX12_readPerson_8 : decode cX12_readPerson 8 = .ok (.bipush 6, 2) := by decide +kernel
theorem dX12_readPerson_10 : decode cX12_readPerson 10 = .ok (.if_icmp .ne 8, 3) := by decide +kernel
theorem dX12_readPerson_13 : decode cX12_readPerson 13 = .ok (.aload_n 0, 1) := by decide +kernel
theorem dX12_readPerson_14 : decode cX12_readPerson 14 = .ok (.iconst 4, 1) := by decide +kernel
theorem dX12_readPerson_15 : decode cX12_readPerson 15 = .ok (.invokevirtual 141, 3) := by decide +kernel
theorem dX12_readPerson_18 : decode cX12_readPerson 18 = .ok (.aload_n 0, 1) := by decide +kernel
theorem dX12_readPerson_19 : decode cX12_readPerson 19 = .ok (.getfield 129, 3) := by decide +kernel
theorem dX12_readPerson_22 : decode cX12_readPerson 22 = .ok (.ifCond .eq 4, 3) := by decide +kernel
theorem dX12_readPerson_25 : decode cX12_readPerson 25 = .ok (.return_, 1) := by decide +kernel
theorem dX12_readPerson_26 : decode cX12_readPerson 26 = .ok (.aload_n 0, 1) := by decide +kernel
theorem dX12_readPerson_27 : decode cX12_readPerson 27 = .ok (.invokevirtual 138, 3) := by decide +kernel
theorem dX12_readPerson_30 : decode cX12_readPerson 30 = .ok (.aload_n 0, 1) := by decide +kernel
theorem dX12_readPerson_31 : decode cX12_readPerson 31 = .ok (.iconst 2, 1) := by decide +kernel
theorem dX12_readPerson_32 : decode cX12_readPerson 32 = .ok (.invokevirtual 161, 3) := by decide +kernel
theorem dX12_readPerson_35 : decode cX12_readPerson 35 = .ok (.ifCond .ne 8, 3) := by decide +kernel
theorem dX12_readPerson_38 : decode cX12_readPerson 38 = .ok (.aload_n 0, 1) := by decide +kernel
theorem dX12_readPerson_39 : decode cX12_readPerson 39 = .ok (.iconst 2, 1) := by decide +kernel
theorem dX12_readPerson_40 : decode cX12_readPerson 40 = .ok (.invokevirtual 141, 3) := by decide +kernel
theorem dX12_readPerson_43 : decode cX12_readPerson 43 = .ok (.aload_n 0, 1) := by decide +kernel
theorem dX12_readPerson_44 : decode cX12_readPerson 44 = .ok (.getfield 24, 3) := by decide +kernel
theorem dX12_readPerson_47 : decode cX12_readPerson 47 = .ok (.bipush 10, 2) := by decide +kernel
theorem dX12_readPerson_49 : decode cX12_readPerson 49 = .ok (.iload_n 1, 1) := by decide +kernel
theorem dX12_readPerson_50 : decode cX12_readPerson 50 = .ok (.iadd, 1) := by decide +kernel
theorem dX12_readPerson_51 : decode cX12_readPerson 51 = .ok (.aload_n 0, 1) := by decide +kernel
theorem dX12_readPerson_52 : decode cX12_readPerson 52 = .ok (.iconst 0, 1) := by decide +kernel
theorem dX12_readPerson_53 : decode cX12_readPerson 53 = .ok (.bipush 99, 2) := by decide +kernel
theorem dX12_readPerson_55 : decode cX12_readPerson 55 = .ok (.invokevirtual 182, 3) := by decide +kernel
theorem dX12_readPerson_58 : decode cX12_readPerson 58 = .ok (.iastore, 1) := by decide +kernel
theorem dX12_readPerson_59 : decode cX12_readPerson 59 = .ok (.aload_n 0, 1) := by decide +kernel
theorem dX12_readPerson_60 : decode cX12_readPerson 60 = .ok (.getfield 129, 3) := by decide +kernel
theorem dX12_readPerson_63 : decode cX12_readPerson 63 = .ok (.ifCond .ne 30, 3) := by decide +kernel
theorem dX12_readPerson_66 : decode cX12_readPerson 66 = .ok (.aload_n 0, 1) := by decide +kernel
theorem dX12_readPerson_67 : decode cX12_readPerson 67 = .ok (.iconst 3, 1) := by decide +kernel
theorem dX12_readPerson_68 : decode cX12_readPerson 68 = .ok (.invokevirtual 161, 3) := by decide +kernel
theorem dX12_readPerson_71 : decode cX12_readPerson 71 = .ok (.ifCond .eq 22, 3) := by decide +kernel
theorem dX12_readPerson_74 : decode cX12_readPerson 74 = .ok (.aload_n 0, 1) := by decide +kernel
theorem dX12_readPerson_75 : decode cX12_readPerson 75 = .ok (.getfield 24, 3) := by decide +kernel
theorem dX12_readPerson_78 : decode cX12_readPerson 78 = .ok (.bipush 16, 2) := by decide +kernel
theorem dX12_readPerson_80 : decode cX12_readPerson 80 = .ok (.iload_n 1, 1) := by decide +kernel
theorem dX12_readPerson_81 : decode cX12_readPerson 81 = .ok (.iadd, 1) := by decide +kernel
theorem dX12_readPerson_82 : decode cX12_readPerson 82 = .ok (.aload_n 0, 1) := by decide +kernel
theorem dX12_readPerson_83 : decode cX12_readPerson 83 = .ok (.iconst 0, 1) := by decide +kernel
theorem dX12_readPerson_84 : decode cX12_readPerson 84 = .ok (.bipush 9, 2) := by decide +kernel
theorem dX12_readPerson_86 : decode cX12_readPerson 86 = .ok (.invokevirtual 182, 3) := by decide +kernel
theorem dX12_readPerson_89 : decode cX12_readPerson 89 = .ok (.iastore, 1) := by decide +kernel
theorem dX12_readPerson_90 : decode cX12_readPerson 90 = .ok (.goto (-31), 3) := by decide +kernel
theorem dX12_readPerson_93 : decode cX12_readPerson 93 = .ok (.aload_n 0, 1) := by decide +kernel
theorem dX12_readPerson_94 : decode cX12_readPerson 94 = .ok (.getfield 129, 3) := by decide +kernel
theorem dX12_readPerson_97 : decode cX12_readPerson 97 = .ok (.ifCond .ne 13, 3) := by decide +kernel
theorem dX12_readPerson_100 : decode cX12_readPerson 100 = .ok (.aload_n 0, 1) := by decide +kernel
theorem dX12_readPerson_101 : decode cX12_readPerson 101 = .ok (.getfield 24, 3) := by decide +kernel
theorem dX12_readPerson_104 : decode cX12_readPerson 104 = .ok (.iconst 1, 1) := by decide +kernel
theorem dX12_readPerson_105 : decode cX12_readPerson 105 = .ok (.dup2, 1) := by decide +kernel
theorem dX12_readPerson_106 : decode cX12_readPerson 106 = .ok (.iaload, 1) := by decide +kernel
theorem dX12_readPerson_107 : decode cX12_readPerson 107 = .ok (.iconst 1, 1) := by decide +kernel
theorem dX12_readPerson_108 : decode cX12_readPerson 108 = .ok (.iadd, 1) := by decide +kernel
theorem dX12_readPerson_109 : decode cX12_readPerson 109 = .ok (.iastore, 1) := by decide +kernel
theorem dX12_readPerson_110 : decode cX12_readPerson 110 = .ok (.return_, 1) := by decide +kernel
def r_readPerson_59 (F : Nat) (z : Nat) (g1 : Int32) : Nat → (Nat → Nat → Int32) → Option ((Nat → Nat → Int32))
  | 0, _ => none
  | k + 1, I => if (I z 11) = 0 then ((r_eats F I z 3).bind (fun q21 => let u23 := q21.1; let I24 := q21.2; if u23 = 0 then (some I24) else ((r_takes F I24 z 0 9).bind (fun q26 => let u28 := q26.1; let I29 := q26.2; chk (16 + g1) 1297 (let I31 := uI I29 (z + 4) (Int32.toNatClampNeg (16 + g1)) u28; r_readPerson_59 F z g1 k I31))))) else (some I)
def r_readPerson (F : Nat) (I : Nat → Nat → Int32) (z : Nat) : Option ((Nat → Nat → Int32)) := let x1 := (I (z + 4) (Int32.toNatClampNeg 1)); if x1 = 6 then ((r_fails I z 4).bind (fun q55 => let I57 := q55; if (I57 z 11) = 0 then ((r_nextToken F I57 z).bind (fun q59 => let I61 := q59; (r_eats F I61 z 2).bind (fun q62 => let u64 := q62.1; let I65 := q62.2; if u64 = 0 then ((r_fails I65 z 2).bind (fun q80 => let I82 := q80; (r_takes F I82 z 0 99).bind (fun q83 => let u85 := q83.1; let I86 := q83.2; chk (10 + x1) 1297 (let I88 := uI I86 (z + 4) (Int32.toNatClampNeg (10 + x1)) u85; (r_readPerson_59 F z x1 F I88).bind (fun q90 => let I92 := q90; if (I92 z 11) = 0 then (let I94 := uI I92 (z + 4) (Int32.toNatClampNeg 1) ((I92 (z + 4) (Int32.toNatClampNeg 1)) + 1); some I94) else (some I92)))))) else ((r_takes F I65 z 0 99).bind (fun q67 => let u69 := q67.1; let I70 := q67.2; chk (10 + x1) 1297 (let I72 := uI I70 (z + 4) (Int32.toNatClampNeg (10 + x1)) u69; (r_readPerson_59 F z x1 F I72).bind (fun q74 => let I76 := q74; if (I76 z 11) = 0 then (let I78 := uI I76 (z + 4) (Int32.toNatClampNeg 1) ((I76 (z + 4) (Int32.toNatClampNeg 1)) + 1); some I78) else (some I76)))))))) else (some I57))) else (if (I z 11) = 0 then ((r_nextToken F I z).bind (fun q5 => let I7 := q5; (r_eats F I7 z 2).bind (fun q8 => let u10 := q8.1; let I11 := q8.2; if u10 = 0 then ((r_fails I11 z 2).bind (fun q39 => let I41 := q39; (r_takes F I41 z 0 99).bind (fun q42 => let u44 := q42.1; let I45 := q42.2; chk (10 + x1) 1297 (let I47 := uI I45 (z + 4) (Int32.toNatClampNeg (10 + x1)) u44; (r_readPerson_59 F z x1 F I47).bind (fun q49 => let I51 := q49; if (I51 z 11) = 0 then (let I53 := uI I51 (z + 4) (Int32.toNatClampNeg 1) ((I51 (z + 4) (Int32.toNatClampNeg 1)) + 1); some I53) else (some I51)))))) else ((r_takes F I11 z 0 99).bind (fun q13 => let u15 := q13.1; let I16 := q13.2; chk (10 + x1) 1297 (let I18 := uI I16 (z + 4) (Int32.toNatClampNeg (10 + x1)) u15; (r_readPerson_59 F z x1 F I18).bind (fun q33 => let I35 := q33; if (I35 z 11) = 0 then (let I37 := uI I35 (z + 4) (Int32.toNatClampNeg 1) ((I35 (z + 4) (Int32.toNatClampNeg 1)) + 1); some I37) else (some I35)))))))) else (some I))
theorem l_r_readPerson_59 {l : Launch} {D : va_G} {E : Nat → ClassId} {B : Nat → Prop} {n F : Nat} {Q : Option Value → HT → Prop} {T : Nat → Option (Nat × Nat)} {J : Nat → Nat → Int64} {P : Nat → Nat → Option Nat} {z : Nat} {g1 : Int32} (hs_z : isMd T P z)  (r : (Nat → Nat → Int32)) : ∀ (k : Nat) (I : (Nat → Nat → Int32)), r_readPerson_59 F z g1 k I = some r → V l D E B yX12_readPerson cX12_readPerson 2 none 7 0 0 Q 0 0 (n, T, r, J, P) 93 [(0, some (.ref z)), (1, some (.int g1))] [] → V l D E B yX12_readPerson cX12_readPerson 2 none 7 0 0 Q 0 0 (n, T, I, J, P) 59 [(0, some (.ref z)), (1, some (.int g1))] [] := by
  intro k
  induction k with
  | zero =>
    intro I hf hk
    cases hf
  | succ k ih =>
    intro I hf hk
    unfold r_readPerson_59 at hf
    refine V.aload_n dX12_readPerson_59 rfl ?_
    refine V.getf fl_X12_129 dX12_readPerson_60 (hs_z.1 0 (12, 0) rfl) (by decide) rfl ?_
    refine V.if_ne 93 dX12_readPerson_63 (by decide) (fun c20 => ?_) (fun c20 => ?_)
    · rw [if_neg c20] at hf
      obtain rfl := Option.some.inj hf
      exact V.lo [(0, some (.ref z)), (1, some (.int g1))] (by simp only [Subs]; repeat' first | exact trivial | constructor | rfl) hk
    · rw [if_pos c20] at hf
      refine V.aload_n dX12_readPerson_66 rfl ?_
      refine V.iconst (v := 3) dX12_readPerson_67 (by decide) ?_
      obtain ⟨⟨u23, I24⟩, hk22, hf⟩ := bnd_some hf
      try dsimp only at hf
      refine V.inv cv_X12_161 (c_r_eats hs_z hk22) dX12_readPerson_68 (hs_z.1 0 (12, 0) rfl) (by decide) rfl rfl rfl (Nat.le_of_ble_eq_true rfl) (by decide) (by decide) (Nat.le_refl _) (Nat.le_refl _) (fun _ _ hq => ?_)
      obtain ⟨rfl, rfl⟩ := hq
      try dsimp only
      refine V.if_eq 93 dX12_readPerson_71 (by decide) (fun c25 => ?_) (fun c25 => ?_)
      · rw [if_pos c25] at hf
        obtain rfl := Option.some.inj hf
        exact V.lo [(0, some (.ref z)), (1, some (.int g1))] (by simp only [Subs]; repeat' first | exact trivial | constructor | rfl) hk
      · rw [if_neg c25] at hf
        refine V.aload_n dX12_readPerson_74 rfl ?_
        refine V.getr fl_X12_24 dX12_readPerson_75 (hs_z.1 0 (12, 0) rfl) (hs_z.2 0 4 4 rfl) (by decide) rfl ?_
        refine V.bipush (v := 16) dX12_readPerson_78 (by decide) ?_
        refine V.iload_n dX12_readPerson_80 rfl ?_
        refine V.iadd dX12_readPerson_81 ?_
        refine V.aload_n dX12_readPerson_82 rfl ?_
        refine V.iconst (v := 0) dX12_readPerson_83 (by decide) ?_
        refine V.bipush (v := 9) dX12_readPerson_84 (by decide) ?_
        obtain ⟨⟨u28, I29⟩, hk27, hf⟩ := bnd_some hf
        try dsimp only at hf
        refine V.inv cv_X12_182 (c_r_takes hs_z hk27) dX12_readPerson_86 (hs_z.1 0 (12, 0) rfl) (by decide) rfl rfl rfl (Nat.le_of_ble_eq_true rfl) (by decide) (by decide) (Nat.le_refl _) (Nat.le_refl _) (fun _ _ hq => ?_)
        obtain ⟨rfl, rfl⟩ := hq
        try dsimp only
        obtain ⟨hb30, hf⟩ := chk_some hf
        refine V.iastE dX12_readPerson_89 (hs_z.1 4 (20, 1297) rfl) hb30 (fun I31 e32 => ?_)
        rw [← e32] at hf
        try dsimp only at hf
        clear e32
        refine V.goto 59 dX12_readPerson_90 (by decide) ?_
        exact V.lo [(0, some (.ref z)), (1, some (.int g1))] (by simp only [Subs]; repeat' first | exact trivial | constructor | rfl) (ih _ hf hk)
theorem c_r_readPerson {l : Launch} {D : va_G} {E : Nat → ClassId} {B : Nat → Prop} {n F : Nat} {T : Nat → Option (Nat × Nat)} {I : Nat → Nat → Int32} {J : Nat → Nat → Int64} {P : Nat → Nat → Option Nat} {z : Nat}  {r : (Nat → Nat → Int32)} (hs_z : isMd T P z) (hf : r_readPerson F I z = some r) : Ct l D E B yX12_readPerson cX12_readPerson 2 none 7 0 0 [.ref z] (n, T, I, J, P) (Ret (none) (n, T, r, J, P)) := by
  unfold r_readPerson at hf
  refine Ct.ofV (by decide) (Nat.le_of_ble_eq_true rfl) ?_
  refine V.aload_n dX12_readPerson_0 rfl ?_
  refine V.getr fl_X12_24 dX12_readPerson_1 (hs_z.1 0 (12, 0) rfl) (hs_z.2 0 4 4 rfl) (by decide) rfl ?_
  refine V.iconst (v := 1) dX12_readPerson_4 (by decide) ?_
  refine V.iald dX12_readPerson_5 (hs_z.1 4 (20, 1297) rfl) (vp_lit (by decide)) ?_
  refine V.istore_n dX12_readPerson_6 rfl (by decide) (by first | exact rfl | exact trivial) ?_
  obtain ⟨x1, e2⟩ : ∃ zz_, zz_ = (I (z + 4) (Int32.toNatClampNeg 1)) := ⟨_, rfl⟩
  rw [← e2] at hf ⊢
  try dsimp only at hf
  refine V.iload_n dX12_readPerson_7 rfl ?_
  refine V.bipush (v := 6) dX12_readPerson_8 (by decide) ?_
  refine V.icmp_ne 18 dX12_readPerson_10 (by decide) (fun c3 => ?_) (fun c3 => ?_)
  · rw [if_neg c3] at hf
    refine V.aload_n dX12_readPerson_18 rfl ?_
    refine V.getf fl_X12_129 dX12_readPerson_19 (hs_z.1 0 (12, 0) rfl) (by decide) rfl ?_
    refine V.if_eq 26 dX12_readPerson_22 (by decide) (fun c4 => ?_) (fun c4 => ?_)
    · rw [if_pos c4] at hf
      refine V.aload_n dX12_readPerson_26 rfl ?_
      obtain ⟨I7, hk6, hf⟩ := bnd_some hf
      try dsimp only at hf
      refine V.inv cv_X12_138 (c_r_nextToken hs_z hk6) dX12_readPerson_27 (hs_z.1 0 (12, 0) rfl) (by decide) rfl rfl rfl (Nat.le_of_ble_eq_true rfl) (by decide) (by decide) (Nat.le_refl _) (Nat.le_refl _) (fun _ _ hq => ?_)
      obtain ⟨rfl, rfl⟩ := hq
      refine V.aload_n dX12_readPerson_30 rfl ?_
      refine V.iconst (v := 2) dX12_readPerson_31 (by decide) ?_
      obtain ⟨⟨u10, I11⟩, hk9, hf⟩ := bnd_some hf
      try dsimp only at hf
      refine V.inv cv_X12_161 (c_r_eats hs_z hk9) dX12_readPerson_32 (hs_z.1 0 (12, 0) rfl) (by decide) rfl rfl rfl (Nat.le_of_ble_eq_true rfl) (by decide) (by decide) (Nat.le_refl _) (Nat.le_refl _) (fun _ _ hq => ?_)
      obtain ⟨rfl, rfl⟩ := hq
      try dsimp only
      refine V.if_ne 43 dX12_readPerson_35 (by decide) (fun c12 => ?_) (fun c12 => ?_)
      · rw [if_neg c12] at hf
        refine V.aload_n dX12_readPerson_43 rfl ?_
        refine V.getr fl_X12_24 dX12_readPerson_44 (hs_z.1 0 (12, 0) rfl) (hs_z.2 0 4 4 rfl) (by decide) rfl ?_
        refine V.bipush (v := 10) dX12_readPerson_47 (by decide) ?_
        refine V.iload_n dX12_readPerson_49 rfl ?_
        refine V.iadd dX12_readPerson_50 ?_
        refine V.aload_n dX12_readPerson_51 rfl ?_
        refine V.iconst (v := 0) dX12_readPerson_52 (by decide) ?_
        refine V.bipush (v := 99) dX12_readPerson_53 (by decide) ?_
        obtain ⟨⟨u15, I16⟩, hk14, hf⟩ := bnd_some hf
        try dsimp only at hf
        refine V.inv cv_X12_182 (c_r_takes hs_z hk14) dX12_readPerson_55 (hs_z.1 0 (12, 0) rfl) (by decide) rfl rfl rfl (Nat.le_of_ble_eq_true rfl) (by decide) (by decide) (Nat.le_refl _) (Nat.le_refl _) (fun _ _ hq => ?_)
        obtain ⟨rfl, rfl⟩ := hq
        try dsimp only
        obtain ⟨hb17, hf⟩ := chk_some hf
        refine V.iastE dX12_readPerson_58 (hs_z.1 4 (20, 1297) rfl) hb17 (fun I18 e19 => ?_)
        rw [← e19] at hf
        try dsimp only at hf
        clear e19
        obtain ⟨I35, hk34, hf⟩ := bnd_some hf
        try dsimp only at hf
        refine V.lo [(0, some (.ref z)), (1, some (.int x1))] (by simp only [Subs]; repeat' first | exact trivial | constructor | rfl) (l_r_readPerson_59 hs_z _ F _ hk34 ?_)
        try dsimp only
        refine V.aload_n dX12_readPerson_93 rfl ?_
        refine V.getf fl_X12_129 dX12_readPerson_94 (hs_z.1 0 (12, 0) rfl) (by decide) rfl ?_
        refine V.if_ne 110 dX12_readPerson_97 (by decide) (fun c36 => ?_) (fun c36 => ?_)
        · rw [if_neg c36] at hf
          obtain rfl := Option.some.inj hf
          exact V.vret dX12_readPerson_110 rfl (Nat.le_refl _) (Nat.le_refl _) ⟨rfl, rfl⟩
        · rw [if_pos c36] at hf
          refine V.aload_n dX12_readPerson_100 rfl ?_
          refine V.getr fl_X12_24 dX12_readPerson_101 (hs_z.1 0 (12, 0) rfl) (hs_z.2 0 4 4 rfl) (by decide) rfl ?_
          refine V.iconst (v := 1) dX12_readPerson_104 (by decide) ?_
          refine V.dup2 dX12_readPerson_105 rfl rfl ?_
          refine V.iald dX12_readPerson_106 (hs_z.1 4 (20, 1297) rfl) (vp_lit (by decide)) ?_
          refine V.iconst (v := 1) dX12_readPerson_107 (by decide) ?_
          refine V.iadd dX12_readPerson_108 ?_
          refine V.iastE dX12_readPerson_109 (hs_z.1 4 (20, 1297) rfl) (vp_lit (by decide)) (fun I37 e38 => ?_)
          rw [← e38] at hf
          try dsimp only at hf
          clear e38
          obtain rfl := Option.some.inj hf
          exact V.vret dX12_readPerson_110 rfl (Nat.le_refl _) (Nat.le_refl _) ⟨rfl, rfl⟩
      · rw [if_pos c12] at hf
        refine V.aload_n dX12_readPerson_38 rfl ?_
        refine V.iconst (v := 2) dX12_readPerson_39 (by decide) ?_
        obtain ⟨I41, hk40, hf⟩ := bnd_some hf
        try dsimp only at hf
        refine V.inv cv_X12_141 (c_r_fails hs_z hk40) dX12_readPerson_40 (hs_z.1 0 (12, 0) rfl) (by decide) rfl rfl rfl (Nat.le_of_ble_eq_true rfl) (by decide) (by decide) (Nat.le_refl _) (Nat.le_refl _) (fun _ _ hq => ?_)
        obtain ⟨rfl, rfl⟩ := hq
        refine V.aload_n dX12_readPerson_43 rfl ?_
        refine V.getr fl_X12_24 dX12_readPerson_44 (hs_z.1 0 (12, 0) rfl) (hs_z.2 0 4 4 rfl) (by decide) rfl ?_
        refine V.bipush (v := 10) dX12_readPerson_47 (by decide) ?_
        refine V.iload_n dX12_readPerson_49 rfl ?_
        refine V.iadd dX12_readPerson_50 ?_
        refine V.aload_n dX12_readPerson_51 rfl ?_
        refine V.iconst (v := 0) dX12_readPerson_52 (by decide) ?_
        refine V.bipush (v := 99) dX12_readPerson_53 (by decide) ?_
        obtain ⟨⟨u44, I45⟩, hk43, hf⟩ := bnd_some hf
        try dsimp only at hf
        refine V.inv cv_X12_182 (c_r_takes hs_z hk43) dX12_readPerson_55 (hs_z.1 0 (12, 0) rfl) (by decide) rfl rfl rfl (Nat.le_of_ble_eq_true rfl) (by decide) (by decide) (Nat.le_refl _) (Nat.le_refl _) (fun _ _ hq => ?_)
        obtain ⟨rfl, rfl⟩ := hq
        try dsimp only
        obtain ⟨hb46, hf⟩ := chk_some hf
        refine V.iastE dX12_readPerson_58 (hs_z.1 4 (20, 1297) rfl) hb46 (fun I47 e48 => ?_)
        rw [← e48] at hf
        try dsimp only at hf
        clear e48
        obtain ⟨I51, hk50, hf⟩ := bnd_some hf
        try dsimp only at hf
        refine V.lo [(0, some (.ref z)), (1, some (.int x1))] (by simp only [Subs]; repeat' first | exact trivial | constructor | rfl) (l_r_readPerson_59 hs_z _ F _ hk50 ?_)
        try dsimp only
        refine V.aload_n dX12_readPerson_93 rfl ?_
        refine V.getf fl_X12_129 dX12_readPerson_94 (hs_z.1 0 (12, 0) rfl) (by decide) rfl ?_
        refine V.if_ne 110 dX12_readPerson_97 (by decide) (fun c52 => ?_) (fun c52 => ?_)
        · rw [if_neg c52] at hf
          obtain rfl := Option.some.inj hf
          exact V.vret dX12_readPerson_110 rfl (Nat.le_refl _) (Nat.le_refl _) ⟨rfl, rfl⟩
        · rw [if_pos c52] at hf
          refine V.aload_n dX12_readPerson_100 rfl ?_
          refine V.getr fl_X12_24 dX12_readPerson_101 (hs_z.1 0 (12, 0) rfl) (hs_z.2 0 4 4 rfl) (by decide) rfl ?_
          refine V.iconst (v := 1) dX12_readPerson_104 (by decide) ?_
          refine V.dup2 dX12_readPerson_105 rfl rfl ?_
          refine V.iald dX12_readPerson_106 (hs_z.1 4 (20, 1297) rfl) (vp_lit (by decide)) ?_
          refine V.iconst (v := 1) dX12_readPerson_107 (by decide) ?_
          refine V.iadd dX12_readPerson_108 ?_
          refine V.iastE dX12_readPerson_109 (hs_z.1 4 (20, 1297) rfl) (vp_lit (by decide)) (fun I53 e54 => ?_)
          rw [← e54] at hf
          try dsimp only at hf
          clear e54
          obtain rfl := Option.some.inj hf
          exact V.vret dX12_readPerson_110 rfl (Nat.le_refl _) (Nat.le_refl _) ⟨rfl, rfl⟩
    · rw [if_neg c4] at hf
      obtain rfl := Option.some.inj hf
      exact V.vret dX12_readPerson_25 rfl (Nat.le_refl _) (Nat.le_refl _) ⟨rfl, rfl⟩
  · rw [if_pos c3] at hf
    refine V.aload_n dX12_readPerson_13 rfl ?_
    refine V.iconst (v := 4) dX12_readPerson_14 (by decide) ?_
    obtain ⟨I57, hk56, hf⟩ := bnd_some hf
    try dsimp only at hf
    refine V.inv cv_X12_141 (c_r_fails hs_z hk56) dX12_readPerson_15 (hs_z.1 0 (12, 0) rfl) (by decide) rfl rfl rfl (Nat.le_of_ble_eq_true rfl) (by decide) (by decide) (Nat.le_refl _) (Nat.le_refl _) (fun _ _ hq => ?_)
    obtain ⟨rfl, rfl⟩ := hq
    refine V.aload_n dX12_readPerson_18 rfl ?_
    refine V.getf fl_X12_129 dX12_readPerson_19 (hs_z.1 0 (12, 0) rfl) (by decide) rfl ?_
    refine V.if_eq 26 dX12_readPerson_22 (by decide) (fun c58 => ?_) (fun c58 => ?_)
    · rw [if_pos c58] at hf
      refine V.aload_n dX12_readPerson_26 rfl ?_
      obtain ⟨I61, hk60, hf⟩ := bnd_some hf
      try dsimp only at hf
      refine V.inv cv_X12_138 (c_r_nextToken hs_z hk60) dX12_readPerson_27 (hs_z.1 0 (12, 0) rfl) (by decide) rfl rfl rfl (Nat.le_of_ble_eq_true rfl) (by decide) (by decide) (Nat.le_refl _) (Nat.le_refl _) (fun _ _ hq => ?_)
      obtain ⟨rfl, rfl⟩ := hq
      refine V.aload_n dX12_readPerson_30 rfl ?_
      refine V.iconst (v := 2) dX12_readPerson_31 (by decide) ?_
      obtain ⟨⟨u64, I65⟩, hk63, hf⟩ := bnd_some hf
      try dsimp only at hf
      refine V.inv cv_X12_161 (c_r_eats hs_z hk63) dX12_readPerson_32 (hs_z.1 0 (12, 0) rfl) (by decide) rfl rfl rfl (Nat.le_of_ble_eq_true rfl) (by decide) (by decide) (Nat.le_refl _) (Nat.le_refl _) (fun _ _ hq => ?_)
      obtain ⟨rfl, rfl⟩ := hq
      try dsimp only
      refine V.if_ne 43 dX12_readPerson_35 (by decide) (fun c66 => ?_) (fun c66 => ?_)
      · rw [if_neg c66] at hf
        refine V.aload_n dX12_readPerson_43 rfl ?_
        refine V.getr fl_X12_24 dX12_readPerson_44 (hs_z.1 0 (12, 0) rfl) (hs_z.2 0 4 4 rfl) (by decide) rfl ?_
        refine V.bipush (v := 10) dX12_readPerson_47 (by decide) ?_
        refine V.iload_n dX12_readPerson_49 rfl ?_
        refine V.iadd dX12_readPerson_50 ?_
        refine V.aload_n dX12_readPerson_51 rfl ?_
        refine V.iconst (v := 0) dX12_readPerson_52 (by decide) ?_
        refine V.bipush (v := 99) dX12_readPerson_53 (by decide) ?_
        obtain ⟨⟨u69, I70⟩, hk68, hf⟩ := bnd_some hf
        try dsimp only at hf
        refine V.inv cv_X12_182 (c_r_takes hs_z hk68) dX12_readPerson_55 (hs_z.1 0 (12, 0) rfl) (by decide) rfl rfl rfl (Nat.le_of_ble_eq_true rfl) (by decide) (by decide) (Nat.le_refl _) (Nat.le_refl _) (fun _ _ hq => ?_)
        obtain ⟨rfl, rfl⟩ := hq
        try dsimp only
        obtain ⟨hb71, hf⟩ := chk_some hf
        refine V.iastE dX12_readPerson_58 (hs_z.1 4 (20, 1297) rfl) hb71 (fun I72 e73 => ?_)
        rw [← e73] at hf
        try dsimp only at hf
        clear e73
        obtain ⟨I76, hk75, hf⟩ := bnd_some hf
        try dsimp only at hf
        refine V.lo [(0, some (.ref z)), (1, some (.int x1))] (by simp only [Subs]; repeat' first | exact trivial | constructor | rfl) (l_r_readPerson_59 hs_z _ F _ hk75 ?_)
        try dsimp only
        refine V.aload_n dX12_readPerson_93 rfl ?_
        refine V.getf fl_X12_129 dX12_readPerson_94 (hs_z.1 0 (12, 0) rfl) (by decide) rfl ?_
        refine V.if_ne 110 dX12_readPerson_97 (by decide) (fun c77 => ?_) (fun c77 => ?_)
        · rw [if_neg c77] at hf
          obtain rfl := Option.some.inj hf
          exact V.vret dX12_readPerson_110 rfl (Nat.le_refl _) (Nat.le_refl _) ⟨rfl, rfl⟩
        · rw [if_pos c77] at hf
          refine V.aload_n dX12_readPerson_100 rfl ?_
          refine V.getr fl_X12_24 dX12_readPerson_101 (hs_z.1 0 (12, 0) rfl) (hs_z.2 0 4 4 rfl) (by decide) rfl ?_
          refine V.iconst (v := 1) dX12_readPerson_104 (by decide) ?_
          refine V.dup2 dX12_readPerson_105 rfl rfl ?_
          refine V.iald dX12_readPerson_106 (hs_z.1 4 (20, 1297) rfl) (vp_lit (by decide)) ?_
          refine V.iconst (v := 1) dX12_readPerson_107 (by decide) ?_
          refine V.iadd dX12_readPerson_108 ?_
          refine V.iastE dX12_readPerson_109 (hs_z.1 4 (20, 1297) rfl) (vp_lit (by decide)) (fun I78 e79 => ?_)
          rw [← e79] at hf
          try dsimp only at hf
          clear e79
          obtain rfl := Option.some.inj hf
          exact V.vret dX12_readPerson_110 rfl (Nat.le_refl _) (Nat.le_refl _) ⟨rfl, rfl⟩
      · rw [if_pos c66] at hf
        refine V.aload_n dX12_readPerson_38 rfl ?_
        refine V.iconst (v := 2) dX12_readPerson_39 (by decide) ?_
        obtain ⟨I82, hk81, hf⟩ := bnd_some hf
        try dsimp only at hf
        refine V.inv cv_X12_141 (c_r_fails hs_z hk81) dX12_readPerson_40 (hs_z.1 0 (12, 0) rfl) (by decide) rfl rfl rfl (Nat.le_of_ble_eq_true rfl) (by decide) (by decide) (Nat.le_refl _) (Nat.le_refl _) (fun _ _ hq => ?_)
        obtain ⟨rfl, rfl⟩ := hq
        refine V.aload_n dX12_readPerson_43 rfl ?_
        refine V.getr fl_X12_24 dX12_readPerson_44 (hs_z.1 0 (12, 0) rfl) (hs_z.2 0 4 4 rfl) (by decide) rfl ?_
        refine V.bipush (v := 10) dX12_readPerson_47 (by decide) ?_
        refine V.iload_n dX12_readPerson_49 rfl ?_
        refine V.iadd dX12_readPerson_50 ?_
        refine V.aload_n dX12_readPerson_51 rfl ?_
        refine V.iconst (v := 0) dX12_readPerson_52 (by decide) ?_
        refine V.bipush (v := 99) dX12_readPerson_53 (by decide) ?_
        obtain ⟨⟨u85, I86⟩, hk84, hf⟩ := bnd_some hf
        try dsimp only at hf
        refine V.inv cv_X12_182 (c_r_takes hs_z hk84) dX12_readPerson_55 (hs_z.1 0 (12, 0) rfl) (by decide) rfl rfl rfl (Nat.le_of_ble_eq_true rfl) (by decide) (by decide) (Nat.le_refl _) (Nat.le_refl _) (fun _ _ hq => ?_)
        obtain ⟨rfl, rfl⟩ := hq
        try dsimp only
        obtain ⟨hb87, hf⟩ := chk_some hf
        refine V.iastE dX12_readPerson_58 (hs_z.1 4 (20, 1297) rfl) hb87 (fun I88 e89 => ?_)
        rw [← e89] at hf
        try dsimp only at hf
        clear e89
        obtain ⟨I92, hk91, hf⟩ := bnd_some hf
        try dsimp only at hf
        refine V.lo [(0, some (.ref z)), (1, some (.int x1))] (by simp only [Subs]; repeat' first | exact trivial | constructor | rfl) (l_r_readPerson_59 hs_z _ F _ hk91 ?_)
        try dsimp only
        refine V.aload_n dX12_readPerson_93 rfl ?_
        refine V.getf fl_X12_129 dX12_readPerson_94 (hs_z.1 0 (12, 0) rfl) (by decide) rfl ?_
        refine V.if_ne 110 dX12_readPerson_97 (by decide) (fun c93 => ?_) (fun c93 => ?_)
        · rw [if_neg c93] at hf
          obtain rfl := Option.some.inj hf
          exact V.vret dX12_readPerson_110 rfl (Nat.le_refl _) (Nat.le_refl _) ⟨rfl, rfl⟩
        · rw [if_pos c93] at hf
          refine V.aload_n dX12_readPerson_100 rfl ?_
          refine V.getr fl_X12_24 dX12_readPerson_101 (hs_z.1 0 (12, 0) rfl) (hs_z.2 0 4 4 rfl) (by decide) rfl ?_
          refine V.iconst (v := 1) dX12_readPerson_104 (by decide) ?_
          refine V.dup2 dX12_readPerson_105 rfl rfl ?_
          refine V.iald dX12_readPerson_106 (hs_z.1 4 (20, 1297) rfl) (vp_lit (by decide)) ?_
          refine V.iconst (v := 1) dX12_readPerson_107 (by decide) ?_
          refine V.iadd dX12_readPerson_108 ?_
          refine V.iastE dX12_readPerson_109 (hs_z.1 4 (20, 1297) rfl) (vp_lit (by decide)) (fun I94 e95 => ?_)
          rw [← e95] at hf
          try dsimp only at hf
          clear e95
          obtain rfl := Option.some.inj hf
          exact V.vret dX12_readPerson_110 rfl (Nat.le_refl _) (Nat.le_refl _) ⟨rfl, rfl⟩
    · rw [if_neg c58] at hf
      obtain rfl := Option.some.inj hf
      exact V.vret dX12_readPerson_25 rfl (Nat.le_refl _) (Nat.le_refl _) ⟨rfl, rfl⟩
theorem dX12_readTune_0 : decode cX12_readTune 0 = .ok (.aload_n 0, 1) := by decide +kernel
theorem dX12_readTune_1 : decode cX12_readTune 1 = .ok (.getfield 24, 3) := by decide +kernel
theorem dX12_readTune_4 : decode cX12_readTune 4 = .ok (.iconst 2, 1) := by decide +kernel
theorem dX12_readTune_5 : decode cX12_readTune 5 = .ok (.iaload, 1) := by decide +kernel
theorem dX12_readTune_6 : decode cX12_readTune 6 = .ok (.istore_n 1, 1) := by decide +kernel
theorem dX12_readTune_7 : decode cX12_readTune 7 = .ok (.iload_n 1, 1) := by decide +kernel
theorem dX12_readTune_8 : decode cX12_readTune 8 = .ok (.iconst 4, 1) := by decide +kernel
theorem dX12_readTune_9 : decode cX12_readTune 9 = .ok (.if_icmp .ne 8, 3) := by decide +kernel
theorem dX12_readTune_12 : decode cX12_readTune 12 = .ok (.aload_n 0, 1) := by decide +kernel
theorem dX12_readTune_13 : decode cX12_readTune 13 = .ok (.iconst 4, 1) := by decide +kernel
theorem dX12_readTune_14 : decode cX12_readTune 14 = .ok (.invokevirtual 141, 3) := by decide +kernel
theorem dX12_readTune_17 : decode cX12_readTune 17 = .ok (.aload_n 0, 1) := by decide +kernel
theorem dX12_readTune_18 : decode cX12_readTune 18 = .ok (.getfield 129, 3) := by decide +kernel
theorem dX12_readTune_21 : decode cX12_readTune 21 = .ok (.ifCond .eq 4, 3) := by decide +kernel
theorem dX12_readTune_24 : decode cX12_readTune 24 = .ok (.return_, 1) := by decide +kernel
theorem dX12_readTune_25 : decode cX12_readTune 25 = .ok (.aload_n 0, 1) := by decide +kernel
theorem dX12_readTune_26 : decode cX12_readTune 26 = .ok (.invokevirtual 138, 3) := by decide +kernel
theorem dX12_readTune_29 : decode cX12_readTune 29 = .ok (.aload_n 0, 1) := by decide +kernel
theorem dX12_readTune_30 : decode cX12_readTune 30 = .ok (.getfield 24, 3) := by decide +kernel
theorem dX12_readTune_33 : decode cX12_readTune 33 = .ok (.bipush 22, 2) := by decide +kernel
theorem dX12_readTune_35 : decode cX12_readTune 35 = .ok (.iload_n 1, 1) := by decide +kernel
theorem dX12_readTune_36 : decode cX12_readTune 36 = .ok (.iadd, 1) := by decide +kernel
theorem dX12_readTune_37 : decode cX12_readTune 37 = .ok (.iconst 1, 1) := by decide +kernel
theorem dX12_readTune_38 : decode cX12_readTune 38 = .ok (.iastore, 1) := by decide +kernel
theorem dX12_readTune_39 : decode cX12_readTune 39 = .ok (.aload_n 0, 1) := by decide +kernel
theorem dX12_readTune_40 : decode cX12_readTune 40 = .ok (.getfield 129, 3) := by decide +kernel
theorem dX12_readTune_43 : decode cX12_readTune 43 = .ok (.ifCond .ne 30, 3) := by decide +kernel
theorem dX12_readTune_46 : decode cX12_readTune 46 = .ok (.aload_n 0, 1) := by decide +kernel
theorem dX12_readTune_47 : decode cX12_readTune 47 = .ok (.iconst 5, 1) := by decide +kernel
theorem dX12_readTune_48 : decode cX12_readTune 48 = .ok (.invokevirtual 161, 3) := by decide +kernel
theorem dX12_readTune_51 : decode cX12_readTune 51 = .ok (.ifCond .eq 22, 3) := by decide +kernel
theorem dX12_readTune_54 : decode cX12_readTune 54 = .ok (.aload_n 0, 1) := by decide +kernel
theorem dX12_readTune_55 : decode cX12_readTune 55 = .ok (.getfield 24, 3) := by decide +kernel
theorem dX12_readTune_58 : decode cX12_readTune 58 = .ok (.bipush 22, 2) := by decide +kernel
theorem dX12_readTune_60 : decode cX12_readTune 60 = .ok (.iload_n 1, 1) := by decide +kernel
theorem dX12_readTune_61 : decode cX12_readTune 61 = .ok (.iadd, 1) := by decide +kernel
theorem dX12_readTune_62 : decode cX12_readTune 62 = .ok (.aload_n 0, 1) := by decide +kernel
theorem dX12_readTune_63 : decode cX12_readTune 63 = .ok (.iconst 0, 1) := by decide +kernel
theorem dX12_readTune_64 : decode cX12_readTune 64 = .ok (.bipush 9, 2) := by decide +kernel
theorem dX12_readTune_66 : decode cX12_readTune 66 = .ok (.invokevirtual 182, 3) := by decide +kernel
theorem dX12_readTune_69 : decode cX12_readTune 69 = .ok (.iastore, 1) := by decide +kernel
theorem dX12_readTune_70 : decode cX12_readTune 70 = .ok (.goto (-31), 3) := by decide +kernel
theorem dX12_readTune_73 : decode cX12_readTune 73 = .ok (.aload_n 0, 1) := by decide +kernel
theorem dX12_readTune_74 : decode cX12_readTune 74 = .ok (.getfield 129, 3) := by decide +kernel
theorem dX12_readTune_77 : decode cX12_readTune 77 = .ok (.ifCond .ne 13, 3) := by decide +kernel
theorem dX12_readTune_80 : decode cX12_readTune 80 = .ok (.aload_n 0, 1) := by decide +kernel
theorem dX12_readTune_81 : decode cX12_readTune 81 = .ok (.getfield 24, 3) := by decide +kernel
theorem dX12_readTune_84 : decode cX12_readTune 84 = .ok (.iconst 2, 1) := by decide +kernel
theorem dX12_readTune_85 : decode cX12_readTune 85 = .ok (.dup2, 1) := by decide +kernel
theorem dX12_readTune_86 : decode cX12_readTune 86 = .ok (.iaload, 1) := by decide +kernel
theorem dX12_readTune_87 : decode cX12_readTune 87 = .ok (.iconst 1, 1) := by decide +kernel
theorem dX12_readTune_88 : decode cX12_readTune 88 = .ok (.iadd, 1) := by decide +kernel
theorem dX12_readTune_89 : decode cX12_readTune 89 = .ok (.iastore, 1) := by decide +kernel
theorem dX12_readTune_90 : decode cX12_readTune 90 = .ok (.return_, 1) := by decide +kernel
def r_readTune_39 (F : Nat) (z : Nat) (g1 : Int32) : Nat → (Nat → Nat → Int32) → Option ((Nat → Nat → Int32))
  | 0, _ => none
  | k + 1, I => if (I z 11) = 0 then ((r_eats F I z 5).bind (fun q12 => let u14 := q12.1; let I15 := q12.2; if u14 = 0 then (some I15) else ((r_takes F I15 z 0 9).bind (fun q17 => let u19 := q17.1; let I20 := q17.2; chk (22 + g1) 1297 (let I22 := uI I20 (z + 4) (Int32.toNatClampNeg (22 + g1)) u19; r_readTune_39 F z g1 k I22))))) else (some I)
def r_readTune (F : Nat) (I : Nat → Nat → Int32) (z : Nat) : Option ((Nat → Nat → Int32)) := let x1 := (I (z + 4) (Int32.toNatClampNeg 2)); if x1 = 4 then ((r_fails I z 4).bind (fun q30 => let I32 := q30; if (I32 z 11) = 0 then ((r_nextToken F I32 z).bind (fun q34 => let I36 := q34; chk (22 + x1) 1297 (let I38 := uI I36 (z + 4) (Int32.toNatClampNeg (22 + x1)) 1; (r_readTune_39 F z x1 F I38).bind (fun q40 => let I42 := q40; if (I42 z 11) = 0 then (let I44 := uI I42 (z + 4) (Int32.toNatClampNeg 2) ((I42 (z + 4) (Int32.toNatClampNeg 2)) + 1); some I44) else (some I42))))) else (some I32))) else (if (I z 11) = 0 then ((r_nextToken F I z).bind (fun q5 => let I7 := q5; chk (22 + x1) 1297 (let I9 := uI I7 (z + 4) (Int32.toNatClampNeg (22 + x1)) 1; (r_readTune_39 F z x1 F I9).bind (fun q24 => let I26 := q24; if (I26 z 11) = 0 then (let I28 := uI I26 (z + 4) (Int32.toNatClampNeg 2) ((I26 (z + 4) (Int32.toNatClampNeg 2)) + 1); some I28) else (some I26))))) else (some I))
theorem l_r_readTune_39 {l : Launch} {D : va_G} {E : Nat → ClassId} {B : Nat → Prop} {n F : Nat} {Q : Option Value → HT → Prop} {T : Nat → Option (Nat × Nat)} {J : Nat → Nat → Int64} {P : Nat → Nat → Option Nat} {z : Nat} {g1 : Int32} (hs_z : isMd T P z)  (r : (Nat → Nat → Int32)) : ∀ (k : Nat) (I : (Nat → Nat → Int32)), r_readTune_39 F z g1 k I = some r → V l D E B yX12_readTune cX12_readTune 2 none 7 0 0 Q 0 0 (n, T, r, J, P) 73 [(0, some (.ref z)), (1, some (.int g1))] [] → V l D E B yX12_readTune cX12_readTune 2 none 7 0 0 Q 0 0 (n, T, I, J, P) 39 [(0, some (.ref z)), (1, some (.int g1))] [] := by
  intro k
  induction k with
  | zero =>
    intro I hf hk
    cases hf
  | succ k ih =>
    intro I hf hk
    unfold r_readTune_39 at hf
    refine V.aload_n dX12_readTune_39 rfl ?_
    refine V.getf fl_X12_129 dX12_readTune_40 (hs_z.1 0 (12, 0) rfl) (by decide) rfl ?_
    refine V.if_ne 73 dX12_readTune_43 (by decide) (fun c11 => ?_) (fun c11 => ?_)
    · rw [if_neg c11] at hf
      obtain rfl := Option.some.inj hf
      exact V.lo [(0, some (.ref z)), (1, some (.int g1))] (by simp only [Subs]; repeat' first | exact trivial | constructor | rfl) hk
    · rw [if_pos c11] at hf
      refine V.aload_n dX12_readTune_46 rfl ?_
      refine V.iconst (v := 5) dX12_readTune_47 (by decide) ?_
      obtain ⟨⟨u14, I15⟩, hk13, hf⟩ := bnd_some hf
      try dsimp only at hf
      refine V.inv cv_X12_161 (c_r_eats hs_z hk13) dX12_readTune_48 (hs_z.1 0 (12, 0) rfl) (by decide) rfl rfl rfl (Nat.le_of_ble_eq_true rfl) (by decide) (by decide) (Nat.le_refl _) (Nat.le_refl _) (fun _ _ hq => ?_)
      obtain ⟨rfl, rfl⟩ := hq
      try dsimp only
      refine V.if_eq 73 dX12_readTune_51 (by decide) (fun c16 => ?_) (fun c16 => ?_)
      · rw [if_pos c16] at hf
        obtain rfl := Option.some.inj hf
        exact V.lo [(0, some (.ref z)), (1, some (.int g1))] (by simp only [Subs]; repeat' first | exact trivial | constructor | rfl) hk
      · rw [if_neg c16] at hf
        refine V.aload_n dX12_readTune_54 rfl ?_
        refine V.getr fl_X12_24 dX12_readTune_55 (hs_z.1 0 (12, 0) rfl) (hs_z.2 0 4 4 rfl) (by decide) rfl ?_
        refine V.bipush (v := 22) dX12_readTune_58 (by decide) ?_
        refine V.iload_n dX12_readTune_60 rfl ?_
        refine V.iadd dX12_readTune_61 ?_
        refine V.aload_n dX12_readTune_62 rfl ?_
        refine V.iconst (v := 0) dX12_readTune_63 (by decide) ?_
        refine V.bipush (v := 9) dX12_readTune_64 (by decide) ?_
        obtain ⟨⟨u19, I20⟩, hk18, hf⟩ := bnd_some hf
        try dsimp only at hf
        refine V.inv cv_X12_182 (c_r_takes hs_z hk18) dX12_readTune_66 (hs_z.1 0 (12, 0) rfl) (by decide) rfl rfl rfl (Nat.le_of_ble_eq_true rfl) (by decide) (by decide) (Nat.le_refl _) (Nat.le_refl _) (fun _ _ hq => ?_)
        obtain ⟨rfl, rfl⟩ := hq
        try dsimp only
        obtain ⟨hb21, hf⟩ := chk_some hf
        refine V.iastE dX12_readTune_69 (hs_z.1 4 (20, 1297) rfl) hb21 (fun I22 e23 => ?_)
        rw [← e23] at hf
        try dsimp only at hf
        clear e23
        refine V.goto 39 dX12_readTune_70 (by decide) ?_
        exact V.lo [(0, some (.ref z)), (1, some (.int g1))] (by simp only [Subs]; repeat' first | exact trivial | constructor | rfl) (ih _ hf hk)
theorem c_r_readTune {l : Launch} {D : va_G} {E : Nat → ClassId} {B : Nat → Prop} {n F : Nat} {T : Nat → Option (Nat × Nat)} {I : Nat → Nat → Int32} {J : Nat → Nat → Int64} {P : Nat → Nat → Option Nat} {z : Nat}  {r : (Nat → Nat → Int32)} (hs_z : isMd T P z) (hf : r_readTune F I z = some r) : Ct l D E B yX12_readTune cX12_readTune 2 none 7 0 0 [.ref z] (n, T, I, J, P) (Ret (none) (n, T, r, J, P)) := by
  unfold r_readTune at hf
  refine Ct.ofV (by decide) (Nat.le_of_ble_eq_true rfl) ?_
  refine V.aload_n dX12_readTune_0 rfl ?_
  refine V.getr fl_X12_24 dX12_readTune_1 (hs_z.1 0 (12, 0) rfl) (hs_z.2 0 4 4 rfl) (by decide) rfl ?_
  refine V.iconst (v := 2) dX12_readTune_4 (by decide) ?_
  refine V.iald dX12_readTune_5 (hs_z.1 4 (20, 1297) rfl) (vp_lit (by decide)) ?_
  refine V.istore_n dX12_readTune_6 rfl (by decide) (by first | exact rfl | exact trivial) ?_
  obtain ⟨x1, e2⟩ : ∃ zz_, zz_ = (I (z + 4) (Int32.toNatClampNeg 2)) := ⟨_, rfl⟩
  rw [← e2] at hf ⊢
  try dsimp only at hf
  refine V.iload_n dX12_readTune_7 rfl ?_
  refine V.iconst (v := 4) dX12_readTune_8 (by decide) ?_
  refine V.icmp_ne 17 dX12_readTune_9 (by decide) (fun c3 => ?_) (fun c3 => ?_)
  · rw [if_neg c3] at hf
    refine V.aload_n dX12_readTune_17 rfl ?_
    refine V.getf fl_X12_129 dX12_readTune_18 (hs_z.1 0 (12, 0) rfl) (by decide) rfl ?_
    refine V.if_eq 25 dX12_readTune_21 (by decide) (fun c4 => ?_) (fun c4 => ?_)
    · rw [if_pos c4] at hf
      refine V.aload_n dX12_readTune_25 rfl ?_
      obtain ⟨I7, hk6, hf⟩ := bnd_some hf
      try dsimp only at hf
      refine V.inv cv_X12_138 (c_r_nextToken hs_z hk6) dX12_readTune_26 (hs_z.1 0 (12, 0) rfl) (by decide) rfl rfl rfl (Nat.le_of_ble_eq_true rfl) (by decide) (by decide) (Nat.le_refl _) (Nat.le_refl _) (fun _ _ hq => ?_)
      obtain ⟨rfl, rfl⟩ := hq
      refine V.aload_n dX12_readTune_29 rfl ?_
      refine V.getr fl_X12_24 dX12_readTune_30 (hs_z.1 0 (12, 0) rfl) (hs_z.2 0 4 4 rfl) (by decide) rfl ?_
      refine V.bipush (v := 22) dX12_readTune_33 (by decide) ?_
      refine V.iload_n dX12_readTune_35 rfl ?_
      refine V.iadd dX12_readTune_36 ?_
      refine V.iconst (v := 1) dX12_readTune_37 (by decide) ?_
      obtain ⟨hb8, hf⟩ := chk_some hf
      refine V.iastE dX12_readTune_38 (hs_z.1 4 (20, 1297) rfl) hb8 (fun I9 e10 => ?_)
      rw [← e10] at hf
      try dsimp only at hf
      clear e10
      obtain ⟨I26, hk25, hf⟩ := bnd_some hf
      try dsimp only at hf
      refine V.lo [(0, some (.ref z)), (1, some (.int x1))] (by simp only [Subs]; repeat' first | exact trivial | constructor | rfl) (l_r_readTune_39 hs_z _ F _ hk25 ?_)
      try dsimp only
      refine V.aload_n dX12_readTune_73 rfl ?_
      refine V.getf fl_X12_129 dX12_readTune_74 (hs_z.1 0 (12, 0) rfl) (by decide) rfl ?_
      refine V.if_ne 90 dX12_readTune_77 (by decide) (fun c27 => ?_) (fun c27 => ?_)
      · rw [if_neg c27] at hf
        obtain rfl := Option.some.inj hf
        exact V.vret dX12_readTune_90 rfl (Nat.le_refl _) (Nat.le_refl _) ⟨rfl, rfl⟩
      · rw [if_pos c27] at hf
        refine V.aload_n dX12_readTune_80 rfl ?_
        refine V.getr fl_X12_24 dX12_readTune_81 (hs_z.1 0 (12, 0) rfl) (hs_z.2 0 4 4 rfl) (by decide) rfl ?_
        refine V.iconst (v := 2) dX12_readTune_84 (by decide) ?_
        refine V.dup2 dX12_readTune_85 rfl rfl ?_
        refine V.iald dX12_readTune_86 (hs_z.1 4 (20, 1297) rfl) (vp_lit (by decide)) ?_
        refine V.iconst (v := 1) dX12_readTune_87 (by decide) ?_
        refine V.iadd dX12_readTune_88 ?_
        refine V.iastE dX12_readTune_89 (hs_z.1 4 (20, 1297) rfl) (vp_lit (by decide)) (fun I28 e29 => ?_)
        rw [← e29] at hf
        try dsimp only at hf
        clear e29
        obtain rfl := Option.some.inj hf
        exact V.vret dX12_readTune_90 rfl (Nat.le_refl _) (Nat.le_refl _) ⟨rfl, rfl⟩
    · rw [if_neg c4] at hf
      obtain rfl := Option.some.inj hf
      exact V.vret dX12_readTune_24 rfl (Nat.le_refl _) (Nat.le_refl _) ⟨rfl, rfl⟩
  · rw [if_pos c3] at hf
    refine V.aload_n dX12_readTune_12 rfl ?_
    refine V.iconst (v := 4) dX12_readTune_13 (by decide) ?_
    obtain ⟨I32, hk31, hf⟩ := bnd_some hf
    try dsimp only at hf
    refine V.inv cv_X12_141 (c_r_fails hs_z hk31) dX12_readTune_14 (hs_z.1 0 (12, 0) rfl) (by decide) rfl rfl rfl (Nat.le_of_ble_eq_true rfl) (by decide) (by decide) (Nat.le_refl _) (Nat.le_refl _) (fun _ _ hq => ?_)
    obtain ⟨rfl, rfl⟩ := hq
    refine V.aload_n dX12_readTune_17 rfl ?_
    refine V.getf fl_X12_129 dX12_readTune_18 (hs_z.1 0 (12, 0) rfl) (by decide) rfl ?_
    refine V.if_eq 25 dX12_readTune_21 (by decide) (fun c33 => ?_) (fun c33 => ?_)
    · rw [if_pos c33] at hf
      refine V.aload_n dX12_readTune_25 rfl ?_
      obtain ⟨I36, hk35, hf⟩ := bnd_some hf
      try dsimp only at hf
      refine V.inv cv_X12_138 (c_r_nextToken hs_z hk35) dX12_readTune_26 (hs_z.1 0 (12, 0) rfl) (by decide) rfl rfl rfl (Nat.le_of_ble_eq_true rfl) (by decide) (by decide) (Nat.le_refl _) (Nat.le_refl _) (fun _ _ hq => ?_)
      obtain ⟨rfl, rfl⟩ := hq
      refine V.aload_n dX12_readTune_29 rfl ?_
      refine V.getr fl_X12_24 dX12_readTune_30 (hs_z.1 0 (12, 0) rfl) (hs_z.2 0 4 4 rfl) (by decide) rfl ?_
      refine V.bipush (v := 22) dX12_readTune_33 (by decide) ?_
      refine V.iload_n dX12_readTune_35 rfl ?_
      refine V.iadd dX12_readTune_36 ?_
      refine V.iconst (v := 1) dX12_readTune_37 (by decide) ?_
      obtain ⟨hb37, hf⟩ := chk_some hf
      refine V.iastE dX12_readTune_38 (hs_z.1 4 (20, 1297) rfl) hb37 (fun I38 e39 => ?_)
      rw [← e39] at hf
      try dsimp only at hf
      clear e39
      obtain ⟨I42, hk41, hf⟩ := bnd_some hf
      try dsimp only at hf
      refine V.lo [(0, some (.ref z)), (1, some (.int x1))] (by simp only [Subs]; repeat' first | exact trivial | constructor | rfl) (l_r_readTune_39 hs_z _ F _ hk41 ?_)
      try dsimp only
      refine V.aload_n dX12_readTune_73 rfl ?_
      refine V.getf fl_X12_129 dX12_readTune_74 (hs_z.1 0 (12, 0) rfl) (by decide) rfl ?_
      refine V.if_ne 90 dX12_readTune_77 (by decide) (fun c43 => ?_) (fun c43 => ?_)
      · rw [if_neg c43] at hf
        obtain rfl := Option.some.inj hf
        exact V.vret dX12_readTune_90 rfl (Nat.le_refl _) (Nat.le_refl _) ⟨rfl, rfl⟩
      · rw [if_pos c43] at hf
        refine V.aload_n dX12_readTune_80 rfl ?_
        refine V.getr fl_X12_24 dX12_readTune_81 (hs_z.1 0 (12, 0) rfl) (hs_z.2 0 4 4 rfl) (by decide) rfl ?_
        refine V.iconst (v := 2) dX12_readTune_84 (by decide) ?_
        refine V.dup2 dX12_readTune_85 rfl rfl ?_
        refine V.iald dX12_readTune_86 (hs_z.1 4 (20, 1297) rfl) (vp_lit (by decide)) ?_
        refine V.iconst (v := 1) dX12_readTune_87 (by decide) ?_
        refine V.iadd dX12_readTune_88 ?_
        refine V.iastE dX12_readTune_89 (hs_z.1 4 (20, 1297) rfl) (vp_lit (by decide)) (fun I44 e45 => ?_)
        rw [← e45] at hf
        try dsimp only at hf
        clear e45
        obtain rfl := Option.some.inj hf
        exact V.vret dX12_readTune_90 rfl (Nat.le_refl _) (Nat.le_refl _) ⟨rfl, rfl⟩
    · rw [if_neg c33] at hf
      obtain rfl := Option.some.inj hf
      exact V.vret dX12_readTune_24 rfl (Nat.le_refl _) (Nat.le_refl _) ⟨rfl, rfl⟩
theorem dX12_readOffice_0 : decode cX12_readOffice 0 = .ok (.aload_n 0, 1) := by decide +kernel
theorem dX12_readOffice_1 : decode cX12_readOffice 1 = .ok (.getfield 24, 3) := by decide +kernel
theorem dX12_readOffice_4 : decode cX12_readOffice 4 = .ok (.iconst 3, 1) := by decide +kernel
theorem dX12_readOffice_5 : decode cX12_readOffice 5 = .ok (.iaload, 1) := by decide +kernel
theorem dX12_readOffice_6 : decode cX12_readOffice 6 = .ok (.istore_n 1, 1) := by decide +kernel
theorem dX12_readOffice_7 : decode cX12_readOffice 7 = .ok (.iload_n 1, 1) := by decide +kernel
theorem dX12_readOffice_8 : decode cX12_readOffice 8 = .ok (.bipush 6, 2) := by decide +kernel
theorem dX12_readOffice_10 : decode cX12_readOffice 10 = .ok (.if_icmp .ne 8, 3) := by decide +kernel
theorem dX12_readOffice_13 : decode cX12_readOffice 13 = .ok (.aload_n 0, 1) := by decide +kernel
theorem dX12_readOffice_14 : decode cX12_readOffice 14 = .ok (.iconst 4, 1) := by decide +kernel
theorem dX12_readOffice_15 : decode cX12_readOffice 15 = .ok (.invokevirtual 141, 3) := by decide +kernel
theorem dX12_readOffice_18 : decode cX12_readOffice 18 = .ok (.aload_n 0, 1) := by decide +kernel
theorem dX12_readOffice_19 : decode cX12_readOffice 19 = .ok (.getfield 129, 3) := by decide +kernel
theorem dX12_readOffice_22 : decode cX12_readOffice 22 = .ok (.ifCond .eq 4, 3) := by decide +kernel
theorem dX12_readOffice_25 : decode cX12_readOffice 25 = .ok (.return_, 1) := by decide +kernel
theorem dX12_readOffice_26 : decode cX12_readOffice 26 = .ok (.aload_n 0, 1) := by decide +kernel
theorem dX12_readOffice_27 : decode cX12_readOffice 27 = .ok (.invokevirtual 138, 3) := by decide +kernel
theorem dX12_readOffice_30 : decode cX12_readOffice 30 = .ok (.aload_n 0, 1) := by decide +kernel
theorem dX12_readOffice_31 : decode cX12_readOffice 31 = .ok (.getfield 24, 3) := by decide +kernel
theorem dX12_readOffice_34 : decode cX12_readOffice 34 = .ok (.bipush 26, 2) := by decide +kernel
theorem dX12_readOffice_36 : decode cX12_readOffice 36 = .ok (.iload_n 1, 1) := by decide +kernel
theorem dX12_readOffice_37 : decode cX12_readOffice 37 = .ok (.iadd, 1) := by decide +kernel
theorem dX12_readOffice_38 : decode cX12_readOffice 38 = .ok (.aload_n 0, 1) := by decide +kernel
theorem dX12_readOffice_39 : decode cX12_readOffice 39 = .ok (.iconst 0, 1) := by decide +kernel
theorem dX12_readOffice_40 : decode cX12_readOffice 40 = .ok (.bipush 99, 2) := by decide +kernel
theorem dX12_readOffice_42 : decode cX12_readOffice 42 = .ok (.invokevirtual 182, 3) := by decide +kernel
theorem dX12_readOffice_45 : decode cX12_readOffice 45 = .ok (.iastore, 1) := by decide +kernel
theorem dX12_readOffice_46 : decode cX12_readOffice 46 = .ok (.aload_n 0, 1) := by decide +kernel
theorem dX12_readOffice_47 : decode cX12_readOffice 47 = .ok (.getfield 129, 3) := by decide +kernel
theorem dX12_readOffice_50 : decode cX12_readOffice 50 = .ok (.ifCond .ne 13, 3) := by decide +kernel
theorem dX12_readOffice_53 : decode cX12_readOffice 53 = .ok (.aload_n 0, 1) := by decide +kernel
theorem dX12_readOffice_54 : decode cX12_readOffice 54 = .ok (.getfield 24, 3) := by decide +kernel
theorem dX12_readOffice_57 : decode cX12_readOffice 57 = .ok (.iconst 3, 1) := by decide +kernel
theorem dX12_readOffice_58 : decode cX12_readOffice 58 = .ok (.dup2, 1) := by decide +kernel
theorem dX12_readOffice_59 : decode cX12_readOffice 59 = .ok (.iaload, 1) := by decide +kernel
theorem dX12_readOffice_60 : decode cX12_readOffice 60 = .ok (.iconst 1, 1) := by decide +kernel
theorem dX12_readOffice_61 : decode cX12_readOffice 61 = .ok (.iadd, 1) := by decide +kernel
theorem dX12_readOffice_62 : decode cX12_readOffice 62 = .ok (.iastore, 1) := by decide +kernel
theorem dX12_readOffice_63 : decode cX12_readOffice 63 = .ok (.return_, 1) := by decide +kernel
def r_readOffice (F : Nat) (I : Nat → Nat → Int32) (z : Nat) : Option ((Nat → Nat → Int32)) := let x1 := (I (z + 4) (Int32.toNatClampNeg 3)); if x1 = 6 then ((r_fails I z 4).bind (fun q18 => let I20 := q18; if (I20 z 11) = 0 then ((r_nextToken F I20 z).bind (fun q22 => let I24 := q22; (r_takes F I24 z 0 99).bind (fun q25 => let u27 := q25.1; let I28 := q25.2; chk (26 + x1) 1297 (let I30 := uI I28 (z + 4) (Int32.toNatClampNeg (26 + x1)) u27; if (I30 z 11) = 0 then (let I33 := uI I30 (z + 4) (Int32.toNatClampNeg 3) ((I30 (z + 4) (Int32.toNatClampNeg 3)) + 1); some I33) else (some I30))))) else (some I20))) else (if (I z 11) = 0 then ((r_nextToken F I z).bind (fun q5 => let I7 := q5; (r_takes F I7 z 0 99).bind (fun q8 => let u10 := q8.1; let I11 := q8.2; chk (26 + x1) 1297 (let I13 := uI I11 (z + 4) (Int32.toNatClampNeg (26 + x1)) u10; if (I13 z 11) = 0 then (let I16 := uI I13 (z + 4) (Int32.toNatClampNeg 3) ((I13 (z + 4) (Int32.toNatClampNeg 3)) + 1); some I16) else (some I13))))) else (some I))
theorem c_r_readOffice {l : Launch} {D : va_G} {E : Nat → ClassId} {B : Nat → Prop} {n F : Nat} {T : Nat → Option (Nat × Nat)} {I : Nat → Nat → Int32} {J : Nat → Nat → Int64} {P : Nat → Nat → Option Nat} {z : Nat}  {r : (Nat → Nat → Int32)} (hs_z : isMd T P z) (hf : r_readOffice F I z = some r) : Ct l D E B yX12_readOffice cX12_readOffice 2 none 7 0 0 [.ref z] (n, T, I, J, P) (Ret (none) (n, T, r, J, P)) := by
  unfold r_readOffice at hf
  refine Ct.ofV (by decide) (Nat.le_of_ble_eq_true rfl) ?_
  refine V.aload_n dX12_readOffice_0 rfl ?_
  refine V.getr fl_X12_24 dX12_readOffice_1 (hs_z.1 0 (12, 0) rfl) (hs_z.2 0 4 4 rfl) (by decide) rfl ?_
  refine V.iconst (v := 3) dX12_readOffice_4 (by decide) ?_
  refine V.iald dX12_readOffice_5 (hs_z.1 4 (20, 1297) rfl) (vp_lit (by decide)) ?_
  refine V.istore_n dX12_readOffice_6 rfl (by decide) (by first | exact rfl | exact trivial) ?_
  obtain ⟨x1, e2⟩ : ∃ zz_, zz_ = (I (z + 4) (Int32.toNatClampNeg 3)) := ⟨_, rfl⟩
  rw [← e2] at hf ⊢
  try dsimp only at hf
  refine V.iload_n dX12_readOffice_7 rfl ?_
  refine V.bipush (v := 6) dX12_readOffice_8 (by decide) ?_
  refine V.icmp_ne 18 dX12_readOffice_10 (by decide) (fun c3 => ?_) (fun c3 => ?_)
  · rw [if_neg c3] at hf
    refine V.aload_n dX12_readOffice_18 rfl ?_
    refine V.getf fl_X12_129 dX12_readOffice_19 (hs_z.1 0 (12, 0) rfl) (by decide) rfl ?_
    refine V.if_eq 26 dX12_readOffice_22 (by decide) (fun c4 => ?_) (fun c4 => ?_)
    · rw [if_pos c4] at hf
      refine V.aload_n dX12_readOffice_26 rfl ?_
      obtain ⟨I7, hk6, hf⟩ := bnd_some hf
      try dsimp only at hf
      refine V.inv cv_X12_138 (c_r_nextToken hs_z hk6) dX12_readOffice_27 (hs_z.1 0 (12, 0) rfl) (by decide) rfl rfl rfl (Nat.le_of_ble_eq_true rfl) (by decide) (by decide) (Nat.le_refl _) (Nat.le_refl _) (fun _ _ hq => ?_)
      obtain ⟨rfl, rfl⟩ := hq
      refine V.aload_n dX12_readOffice_30 rfl ?_
      refine V.getr fl_X12_24 dX12_readOffice_31 (hs_z.1 0 (12, 0) rfl) (hs_z.2 0 4 4 rfl) (by decide) rfl ?_
      refine V.bipush (v := 26) dX12_readOffice_34 (by decide) ?_
      refine V.iload_n dX12_readOffice_36 rfl ?_
      refine V.iadd dX12_readOffice_37 ?_
      refine V.aload_n dX12_readOffice_38 rfl ?_
      refine V.iconst (v := 0) dX12_readOffice_39 (by decide) ?_
      refine V.bipush (v := 99) dX12_readOffice_40 (by decide) ?_
      obtain ⟨⟨u10, I11⟩, hk9, hf⟩ := bnd_some hf
      try dsimp only at hf
      refine V.inv cv_X12_182 (c_r_takes hs_z hk9) dX12_readOffice_42 (hs_z.1 0 (12, 0) rfl) (by decide) rfl rfl rfl (Nat.le_of_ble_eq_true rfl) (by decide) (by decide) (Nat.le_refl _) (Nat.le_refl _) (fun _ _ hq => ?_)
      obtain ⟨rfl, rfl⟩ := hq
      try dsimp only
      obtain ⟨hb12, hf⟩ := chk_some hf
      refine V.iastE dX12_readOffice_45 (hs_z.1 4 (20, 1297) rfl) hb12 (fun I13 e14 => ?_)
      rw [← e14] at hf
      try dsimp only at hf
      clear e14
      refine V.aload_n dX12_readOffice_46 rfl ?_
      refine V.getf fl_X12_129 dX12_readOffice_47 (hs_z.1 0 (12, 0) rfl) (by decide) rfl ?_
      refine V.if_ne 63 dX12_readOffice_50 (by decide) (fun c15 => ?_) (fun c15 => ?_)
      · rw [if_neg c15] at hf
        obtain rfl := Option.some.inj hf
        exact V.vret dX12_readOffice_63 rfl (Nat.le_refl _) (Nat.le_refl _) ⟨rfl, rfl⟩
      · rw [if_pos c15] at hf
        refine V.aload_n dX12_readOffice_53 rfl ?_
        refine V.getr fl_X12_24 dX12_readOffice_54 (hs_z.1 0 (12, 0) rfl) (hs_z.2 0 4 4 rfl) (by decide) rfl ?_
        refine V.iconst (v := 3) dX12_readOffice_57 (by decide) ?_
        refine V.dup2 dX12_readOffice_58 rfl rfl ?_
        refine V.iald dX12_readOffice_59 (hs_z.1 4 (20, 1297) rfl) (vp_lit (by decide)) ?_
        refine V.iconst (v := 1) dX12_readOffice_60 (by decide) ?_
        refine V.iadd dX12_readOffice_61 ?_
        refine V.iastE dX12_readOffice_62 (hs_z.1 4 (20, 1297) rfl) (vp_lit (by decide)) (fun I16 e17 => ?_)
        rw [← e17] at hf
        try dsimp only at hf
        clear e17
        obtain rfl := Option.some.inj hf
        exact V.vret dX12_readOffice_63 rfl (Nat.le_refl _) (Nat.le_refl _) ⟨rfl, rfl⟩
    · rw [if_neg c4] at hf
      obtain rfl := Option.some.inj hf
      exact V.vret dX12_readOffice_25 rfl (Nat.le_refl _) (Nat.le_refl _) ⟨rfl, rfl⟩
  · rw [if_pos c3] at hf
    refine V.aload_n dX12_readOffice_13 rfl ?_
    refine V.iconst (v := 4) dX12_readOffice_14 (by decide) ?_
    obtain ⟨I20, hk19, hf⟩ := bnd_some hf
    try dsimp only at hf
    refine V.inv cv_X12_141 (c_r_fails hs_z hk19) dX12_readOffice_15 (hs_z.1 0 (12, 0) rfl) (by decide) rfl rfl rfl (Nat.le_of_ble_eq_true rfl) (by decide) (by decide) (Nat.le_refl _) (Nat.le_refl _) (fun _ _ hq => ?_)
    obtain ⟨rfl, rfl⟩ := hq
    refine V.aload_n dX12_readOffice_18 rfl ?_
    refine V.getf fl_X12_129 dX12_readOffice_19 (hs_z.1 0 (12, 0) rfl) (by decide) rfl ?_
    refine V.if_eq 26 dX12_readOffice_22 (by decide) (fun c21 => ?_) (fun c21 => ?_)
    · rw [if_pos c21] at hf
      refine V.aload_n dX12_readOffice_26 rfl ?_
      obtain ⟨I24, hk23, hf⟩ := bnd_some hf
      try dsimp only at hf
      refine V.inv cv_X12_138 (c_r_nextToken hs_z hk23) dX12_readOffice_27 (hs_z.1 0 (12, 0) rfl) (by decide) rfl rfl rfl (Nat.le_of_ble_eq_true rfl) (by decide) (by decide) (Nat.le_refl _) (Nat.le_refl _) (fun _ _ hq => ?_)
      obtain ⟨rfl, rfl⟩ := hq
      refine V.aload_n dX12_readOffice_30 rfl ?_
      refine V.getr fl_X12_24 dX12_readOffice_31 (hs_z.1 0 (12, 0) rfl) (hs_z.2 0 4 4 rfl) (by decide) rfl ?_
      refine V.bipush (v := 26) dX12_readOffice_34 (by decide) ?_
      refine V.iload_n dX12_readOffice_36 rfl ?_
      refine V.iadd dX12_readOffice_37 ?_
      refine V.aload_n dX12_readOffice_38 rfl ?_
      refine V.iconst (v := 0) dX12_readOffice_39 (by decide) ?_
      refine V.bipush (v := 99) dX12_readOffice_40 (by decide) ?_
      obtain ⟨⟨u27, I28⟩, hk26, hf⟩ := bnd_some hf
      try dsimp only at hf
      refine V.inv cv_X12_182 (c_r_takes hs_z hk26) dX12_readOffice_42 (hs_z.1 0 (12, 0) rfl) (by decide) rfl rfl rfl (Nat.le_of_ble_eq_true rfl) (by decide) (by decide) (Nat.le_refl _) (Nat.le_refl _) (fun _ _ hq => ?_)
      obtain ⟨rfl, rfl⟩ := hq
      try dsimp only
      obtain ⟨hb29, hf⟩ := chk_some hf
      refine V.iastE dX12_readOffice_45 (hs_z.1 4 (20, 1297) rfl) hb29 (fun I30 e31 => ?_)
      rw [← e31] at hf
      try dsimp only at hf
      clear e31
      refine V.aload_n dX12_readOffice_46 rfl ?_
      refine V.getf fl_X12_129 dX12_readOffice_47 (hs_z.1 0 (12, 0) rfl) (by decide) rfl ?_
      refine V.if_ne 63 dX12_readOffice_50 (by decide) (fun c32 => ?_) (fun c32 => ?_)
      · rw [if_neg c32] at hf
        obtain rfl := Option.some.inj hf
        exact V.vret dX12_readOffice_63 rfl (Nat.le_refl _) (Nat.le_refl _) ⟨rfl, rfl⟩
      · rw [if_pos c32] at hf
        refine V.aload_n dX12_readOffice_53 rfl ?_
        refine V.getr fl_X12_24 dX12_readOffice_54 (hs_z.1 0 (12, 0) rfl) (hs_z.2 0 4 4 rfl) (by decide) rfl ?_
        refine V.iconst (v := 3) dX12_readOffice_57 (by decide) ?_
        refine V.dup2 dX12_readOffice_58 rfl rfl ?_
        refine V.iald dX12_readOffice_59 (hs_z.1 4 (20, 1297) rfl) (vp_lit (by decide)) ?_
        refine V.iconst (v := 1) dX12_readOffice_60 (by decide) ?_
        refine V.iadd dX12_readOffice_61 ?_
        refine V.iastE dX12_readOffice_62 (hs_z.1 4 (20, 1297) rfl) (vp_lit (by decide)) (fun I33 e34 => ?_)
        rw [← e34] at hf
        try dsimp only at hf
        clear e34
        obtain rfl := Option.some.inj hf
        exact V.vret dX12_readOffice_63 rfl (Nat.le_refl _) (Nat.le_refl _) ⟨rfl, rfl⟩
    · rw [if_neg c21] at hf
      obtain rfl := Option.some.inj hf
      exact V.vret dX12_readOffice_25 rfl (Nat.le_refl _) (Nat.le_refl _) ⟨rfl, rfl⟩
theorem dX12_readLaw_0 : decode cX12_readLaw 0 = .ok (.aload_n 0, 1) := by decide +kernel
theorem dX12_readLaw_1 : decode cX12_readLaw 1 = .ok (.invokevirtual 138, 3) := by decide +kernel
theorem dX12_readLaw_4 : decode cX12_readLaw 4 = .ok (.aload_n 0, 1) := by decide +kernel
theorem dX12_readLaw_5 : decode cX12_readLaw 5 = .ok (.bipush 31, 2) := by decide +kernel
theorem dX12_readLaw_7 : decode cX12_readLaw 7 = .ok (.invokevirtual 161, 3) := by decide +kernel
theorem dX12_readLaw_10 : decode cX12_readLaw 10 = .ok (.ifCond .ne 8, 3) := by decide +kernel
theorem dX12_readLaw_13 : decode cX12_readLaw 13 = .ok (.aload_n 0, 1) := by decide +kernel
theorem dX12_readLaw_14 : decode cX12_readLaw 14 = .ok (.iconst 2, 1) := by decide +kernel
theorem dX12_readLaw_15 : decode cX12_readLaw 15 = .ok (.invokevirtual 141, 3) := by decide +kernel
theorem dX12_readLaw_18 : decode cX12_readLaw 18 = .ok (.aload_n 0, 1) := by decide +kernel
theorem dX12_readLaw_19 : decode cX12_readLaw 19 = .ok (.getfield 24, 3) := by decide +kernel
theorem dX12_readLaw_22 : decode cX12_readLaw 22 = .ok (.sipush 396, 3) := by decide +kernel
theorem dX12_readLaw_25 : decode cX12_readLaw 25 = .ok (.iaload, 1) := by decide +kernel
theorem dX12_readLaw_26 : decode cX12_readLaw 26 = .ok (.istore_n 2, 1) := by decide +kernel
theorem dX12_readLaw_27 : decode cX12_readLaw 27 = .ok (.aload_n 0, 1) := by decide +kernel
theorem dX12_readLaw_28 : decode cX12_readLaw 28 = .ok (.iconst 0, 1) := by decide +kernel
theorem dX12_readLaw_29 : decode cX12_readLaw 29 = .ok (.invokevirtual 158, 3) := by decide +kernel
theorem dX12_readLaw_32 : decode cX12_readLaw 32 = .ok (.aload_n 0, 1) := by decide +kernel
theorem dX12_readLaw_33 : decode cX12_readLaw 33 = .ok (.getfield 129, 3) := by decide +kernel
theorem dX12_readLaw_36 : decode cX12_readLaw 36 = .ok (.ifCond .eq 4, 3) := by decide +kernel
theorem dX12_readLaw_39 : decode cX12_readLaw 39 = .ok (.return_, 1) := by decide +kernel
theorem dX12_readLaw_40 : decode cX12_readLaw 40 = .ok (.aload_n 0, 1) := by decide +kernel
theorem dX12_readLaw_41 : decode cX12_readLaw 41 = .ok (.getfield 24, 3) := by decide +kernel
theorem dX12_readLaw_44 : decode cX12_readLaw 44 = .ok (.iconst 4, 1) := by decide +kernel
theorem dX12_readLaw_45 : decode cX12_readLaw 45 = .ok (.iload_n 1, 1) := by decide +kernel
theorem dX12_readLaw_46 : decode cX12_readLaw 46 = .ok (.iadd, 1) := by decide +kernel
theorem dX12_readLaw_47 : decode cX12_readLaw 47 = .ok (.iconst 1, 1) := by decide +kernel
theorem dX12_readLaw_48 : decode cX12_readLaw 48 = .ok (.iastore, 1) := by decide +kernel
theorem dX12_readLaw_49 : decode cX12_readLaw 49 = .ok (.aload_n 0, 1) := by decide +kernel
theorem dX12_readLaw_50 : decode cX12_readLaw 50 = .ok (.getfield 24, 3) := by decide +kernel
theorem dX12_readLaw_53 : decode cX12_readLaw 53 = .ok (.bipush 6, 2) := by decide +kernel
theorem dX12_readLaw_55 : decode cX12_readLaw 55 = .ok (.iload_n 1, 1) := by decide +kernel
theorem dX12_readLaw_56 : decode cX12_readLaw 56 = .ok (.iadd, 1) := by decide +kernel
theorem dX12_readLaw_57 : decode cX12_readLaw 57 = .ok (.iload_n 2, 1) := by decide +kernel
theorem dX12_readLaw_58 : decode cX12_readLaw 58 = .ok (.iastore, 1) := by decide +kernel
theorem dX12_readLaw_59 : decode cX12_readLaw 59 = .ok (.aload_n 0, 1) := by decide +kernel
theorem dX12_readLaw_60 : decode cX12_readLaw 60 = .ok (.getfield 24, 3) := by decide +kernel
theorem dX12_readLaw_63 : decode cX12_readLaw 63 = .ok (.bipush 8, 2) := by decide +kernel
theorem dX12_readLaw_65 : decode cX12_readLaw 65 = .ok (.iload_n 1, 1) := by decide +kernel
theorem dX12_readLaw_66 : decode cX12_readLaw 66 = .ok (.iadd, 1) := by decide +kernel
theorem dX12_readLaw_67 : decode cX12_readLaw 67 = .ok (.aload_n 0, 1) := by decide +kernel
theorem dX12_readLaw_68 : decode cX12_readLaw 68 = .ok (.getfield 24, 3) := by decide +kernel
theorem dX12_readLaw_71 : decode cX12_readLaw 71 = .ok (.sipush 396, 3) := by decide +kernel
theorem dX12_readLaw_74 : decode cX12_readLaw 74 = .ok (.iaload, 1) := by decide +kernel
theorem dX12_readLaw_75 : decode cX12_readLaw 75 = .ok (.iload_n 2, 1) := by decide +kernel
theorem dX12_readLaw_76 : decode cX12_readLaw 76 = .ok (.isub, 1) := by decide +kernel
theorem dX12_readLaw_77 : decode cX12_readLaw 77 = .ok (.iastore, 1) := by decide +kernel
theorem dX12_readLaw_78 : decode cX12_readLaw 78 = .ok (.return_, 1) := by decide +kernel
def r_readLaw (F : Nat) (I : Nat → Nat → Int32) (z : Nat) (v1 : Int32) : Option ((Nat → Nat → Int32)) := (r_nextToken F I z).bind (fun q1 => let I3 := q1; (r_eats F I3 z 31).bind (fun q4 => let u6 := q4.1; let I7 := q4.2; if u6 = 0 then ((r_fails I7 z 2).bind (fun q24 => let I26 := q24; let x27 := (I26 (z + 4) (Int32.toNatClampNeg 396)); (r_readSumB_f F I26 z 0).bind (fun q29 => let I31 := q29; if (I31 z 11) = 0 then (chk (4 + v1) 1297 (let I34 := uI I31 (z + 4) (Int32.toNatClampNeg (4 + v1)) 1; chk (6 + v1) 1297 (let I37 := uI I34 (z + 4) (Int32.toNatClampNeg (6 + v1)) x27; chk (8 + v1) 1297 (let I40 := uI I37 (z + 4) (Int32.toNatClampNeg (8 + v1)) ((I37 (z + 4) (Int32.toNatClampNeg 396)) - x27); some I40)))) else (some I31)))) else (let x9 := (I7 (z + 4) (Int32.toNatClampNeg 396)); (r_readSumB_f F I7 z 0).bind (fun q11 => let I13 := q11; if (I13 z 11) = 0 then (chk (4 + v1) 1297 (let I16 := uI I13 (z + 4) (Int32.toNatClampNeg (4 + v1)) 1; chk (6 + v1) 1297 (let I19 := uI I16 (z + 4) (Int32.toNatClampNeg (6 + v1)) x9; chk (8 + v1) 1297 (let I22 := uI I19 (z + 4) (Int32.toNatClampNeg (8 + v1)) ((I19 (z + 4) (Int32.toNatClampNeg 396)) - x9); some I22)))) else (some I13)))))
theorem c_r_readLaw {l : Launch} {D : va_G} {E : Nat → ClassId} {B : Nat → Prop} {n F : Nat} {T : Nat → Option (Nat × Nat)} {I : Nat → Nat → Int32} {J : Nat → Nat → Int64} {P : Nat → Nat → Option Nat} {z : Nat} {v1 : Int32} {r : (Nat → Nat → Int32)} (hs_z : isMd T P z) (hf : r_readLaw F I z v1 = some r) : Ct l D E B yX12_readLaw cX12_readLaw 3 none 91 0 0 [.ref z, .int v1] (n, T, I, J, P) (Ret (none) (n, T, r, J, P)) := by
  unfold r_readLaw at hf
  refine Ct.ofV (by decide) (Nat.le_of_ble_eq_true rfl) ?_
  refine V.aload_n dX12_readLaw_0 rfl ?_
  obtain ⟨I3, hk2, hf⟩ := bnd_some hf
  try dsimp only at hf
  refine V.inv cv_X12_138 (c_r_nextToken hs_z hk2) dX12_readLaw_1 (hs_z.1 0 (12, 0) rfl) (by decide) rfl rfl rfl (Nat.le_of_ble_eq_true rfl) (by decide) (by decide) (Nat.le_refl _) (Nat.le_refl _) (fun _ _ hq => ?_)
  obtain ⟨rfl, rfl⟩ := hq
  refine V.aload_n dX12_readLaw_4 rfl ?_
  refine V.bipush (v := 31) dX12_readLaw_5 (by decide) ?_
  obtain ⟨⟨u6, I7⟩, hk5, hf⟩ := bnd_some hf
  try dsimp only at hf
  refine V.inv cv_X12_161 (c_r_eats hs_z hk5) dX12_readLaw_7 (hs_z.1 0 (12, 0) rfl) (by decide) rfl rfl rfl (Nat.le_of_ble_eq_true rfl) (by decide) (by decide) (Nat.le_refl _) (Nat.le_refl _) (fun _ _ hq => ?_)
  obtain ⟨rfl, rfl⟩ := hq
  try dsimp only
  refine V.if_ne 18 dX12_readLaw_10 (by decide) (fun c8 => ?_) (fun c8 => ?_)
  · rw [if_neg c8] at hf
    refine V.aload_n dX12_readLaw_18 rfl ?_
    refine V.getr fl_X12_24 dX12_readLaw_19 (hs_z.1 0 (12, 0) rfl) (hs_z.2 0 4 4 rfl) (by decide) rfl ?_
    refine V.sipush (v := 396) dX12_readLaw_22 (by decide) ?_
    refine V.iald dX12_readLaw_25 (hs_z.1 4 (20, 1297) rfl) (vp_lit (by decide)) ?_
    refine V.istore_n dX12_readLaw_26 rfl (by decide) (by first | exact rfl | exact trivial) ?_
    obtain ⟨x9, e10⟩ : ∃ zz_, zz_ = (I7 (z + 4) (Int32.toNatClampNeg 396)) := ⟨_, rfl⟩
    rw [← e10] at hf ⊢
    try dsimp only at hf
    refine V.aload_n dX12_readLaw_27 rfl ?_
    refine V.iconst (v := 0) dX12_readLaw_28 (by decide) ?_
    obtain ⟨I13, hk12, hf⟩ := bnd_some hf
    try dsimp only at hf
    refine V.inv cv_X12_158 (c_r_readSumB_f hs_z hk12) dX12_readLaw_29 (hs_z.1 0 (12, 0) rfl) (by decide) rfl rfl rfl (Nat.le_of_ble_eq_true rfl) (by decide) (by decide) (Nat.le_refl _) (Nat.le_refl _) (fun _ _ hq => ?_)
    obtain ⟨rfl, rfl⟩ := hq
    refine V.aload_n dX12_readLaw_32 rfl ?_
    refine V.getf fl_X12_129 dX12_readLaw_33 (hs_z.1 0 (12, 0) rfl) (by decide) rfl ?_
    refine V.if_eq 40 dX12_readLaw_36 (by decide) (fun c14 => ?_) (fun c14 => ?_)
    · rw [if_pos c14] at hf
      refine V.aload_n dX12_readLaw_40 rfl ?_
      refine V.getr fl_X12_24 dX12_readLaw_41 (hs_z.1 0 (12, 0) rfl) (hs_z.2 0 4 4 rfl) (by decide) rfl ?_
      refine V.iconst (v := 4) dX12_readLaw_44 (by decide) ?_
      refine V.iload_n dX12_readLaw_45 rfl ?_
      refine V.iadd dX12_readLaw_46 ?_
      refine V.iconst (v := 1) dX12_readLaw_47 (by decide) ?_
      obtain ⟨hb15, hf⟩ := chk_some hf
      refine V.iastE dX12_readLaw_48 (hs_z.1 4 (20, 1297) rfl) hb15 (fun I16 e17 => ?_)
      rw [← e17] at hf
      try dsimp only at hf
      clear e17
      refine V.aload_n dX12_readLaw_49 rfl ?_
      refine V.getr fl_X12_24 dX12_readLaw_50 (hs_z.1 0 (12, 0) rfl) (hs_z.2 0 4 4 rfl) (by decide) rfl ?_
      refine V.bipush (v := 6) dX12_readLaw_53 (by decide) ?_
      refine V.iload_n dX12_readLaw_55 rfl ?_
      refine V.iadd dX12_readLaw_56 ?_
      refine V.iload_n dX12_readLaw_57 rfl ?_
      obtain ⟨hb18, hf⟩ := chk_some hf
      refine V.iastE dX12_readLaw_58 (hs_z.1 4 (20, 1297) rfl) hb18 (fun I19 e20 => ?_)
      rw [← e20] at hf
      try dsimp only at hf
      clear e20
      refine V.aload_n dX12_readLaw_59 rfl ?_
      refine V.getr fl_X12_24 dX12_readLaw_60 (hs_z.1 0 (12, 0) rfl) (hs_z.2 0 4 4 rfl) (by decide) rfl ?_
      refine V.bipush (v := 8) dX12_readLaw_63 (by decide) ?_
      refine V.iload_n dX12_readLaw_65 rfl ?_
      refine V.iadd dX12_readLaw_66 ?_
      refine V.aload_n dX12_readLaw_67 rfl ?_
      refine V.getr fl_X12_24 dX12_readLaw_68 (hs_z.1 0 (12, 0) rfl) (hs_z.2 0 4 4 rfl) (by decide) rfl ?_
      refine V.sipush (v := 396) dX12_readLaw_71 (by decide) ?_
      refine V.iald dX12_readLaw_74 (hs_z.1 4 (20, 1297) rfl) (vp_lit (by decide)) ?_
      refine V.iload_n dX12_readLaw_75 rfl ?_
      refine V.isub dX12_readLaw_76 ?_
      obtain ⟨hb21, hf⟩ := chk_some hf
      refine V.iastE dX12_readLaw_77 (hs_z.1 4 (20, 1297) rfl) hb21 (fun I22 e23 => ?_)
      rw [← e23] at hf
      try dsimp only at hf
      clear e23
      obtain rfl := Option.some.inj hf
      exact V.vret dX12_readLaw_78 rfl (Nat.le_refl _) (Nat.le_refl _) ⟨rfl, rfl⟩
    · rw [if_neg c14] at hf
      obtain rfl := Option.some.inj hf
      exact V.vret dX12_readLaw_39 rfl (Nat.le_refl _) (Nat.le_refl _) ⟨rfl, rfl⟩
  · rw [if_pos c8] at hf
    refine V.aload_n dX12_readLaw_13 rfl ?_
    refine V.iconst (v := 2) dX12_readLaw_14 (by decide) ?_
    obtain ⟨I26, hk25, hf⟩ := bnd_some hf
    try dsimp only at hf
    refine V.inv cv_X12_141 (c_r_fails hs_z hk25) dX12_readLaw_15 (hs_z.1 0 (12, 0) rfl) (by decide) rfl rfl rfl (Nat.le_of_ble_eq_true rfl) (by decide) (by decide) (Nat.le_refl _) (Nat.le_refl _) (fun _ _ hq => ?_)
    obtain ⟨rfl, rfl⟩ := hq
    refine V.aload_n dX12_readLaw_18 rfl ?_
    refine V.getr fl_X12_24 dX12_readLaw_19 (hs_z.1 0 (12, 0) rfl) (hs_z.2 0 4 4 rfl) (by decide) rfl ?_
    refine V.sipush (v := 396) dX12_readLaw_22 (by decide) ?_
    refine V.iald dX12_readLaw_25 (hs_z.1 4 (20, 1297) rfl) (vp_lit (by decide)) ?_
    refine V.istore_n dX12_readLaw_26 rfl (by decide) (by first | exact rfl | exact trivial) ?_
    obtain ⟨x27, e28⟩ : ∃ zz_, zz_ = (I26 (z + 4) (Int32.toNatClampNeg 396)) := ⟨_, rfl⟩
    rw [← e28] at hf ⊢
    try dsimp only at hf
    refine V.aload_n dX12_readLaw_27 rfl ?_
    refine V.iconst (v := 0) dX12_readLaw_28 (by decide) ?_
    obtain ⟨I31, hk30, hf⟩ := bnd_some hf
    try dsimp only at hf
    refine V.inv cv_X12_158 (c_r_readSumB_f hs_z hk30) dX12_readLaw_29 (hs_z.1 0 (12, 0) rfl) (by decide) rfl rfl rfl (Nat.le_of_ble_eq_true rfl) (by decide) (by decide) (Nat.le_refl _) (Nat.le_refl _) (fun _ _ hq => ?_)
    obtain ⟨rfl, rfl⟩ := hq
    refine V.aload_n dX12_readLaw_32 rfl ?_
    refine V.getf fl_X12_129 dX12_readLaw_33 (hs_z.1 0 (12, 0) rfl) (by decide) rfl ?_
    refine V.if_eq 40 dX12_readLaw_36 (by decide) (fun c32 => ?_) (fun c32 => ?_)
    · rw [if_pos c32] at hf
      refine V.aload_n dX12_readLaw_40 rfl ?_
      refine V.getr fl_X12_24 dX12_readLaw_41 (hs_z.1 0 (12, 0) rfl) (hs_z.2 0 4 4 rfl) (by decide) rfl ?_
      refine V.iconst (v := 4) dX12_readLaw_44 (by decide) ?_
      refine V.iload_n dX12_readLaw_45 rfl ?_
      refine V.iadd dX12_readLaw_46 ?_
      refine V.iconst (v := 1) dX12_readLaw_47 (by decide) ?_
      obtain ⟨hb33, hf⟩ := chk_some hf
      refine V.iastE dX12_readLaw_48 (hs_z.1 4 (20, 1297) rfl) hb33 (fun I34 e35 => ?_)
      rw [← e35] at hf
      try dsimp only at hf
      clear e35
      refine V.aload_n dX12_readLaw_49 rfl ?_
      refine V.getr fl_X12_24 dX12_readLaw_50 (hs_z.1 0 (12, 0) rfl) (hs_z.2 0 4 4 rfl) (by decide) rfl ?_
      refine V.bipush (v := 6) dX12_readLaw_53 (by decide) ?_
      refine V.iload_n dX12_readLaw_55 rfl ?_
      refine V.iadd dX12_readLaw_56 ?_
      refine V.iload_n dX12_readLaw_57 rfl ?_
      obtain ⟨hb36, hf⟩ := chk_some hf
      refine V.iastE dX12_readLaw_58 (hs_z.1 4 (20, 1297) rfl) hb36 (fun I37 e38 => ?_)
      rw [← e38] at hf
      try dsimp only at hf
      clear e38
      refine V.aload_n dX12_readLaw_59 rfl ?_
      refine V.getr fl_X12_24 dX12_readLaw_60 (hs_z.1 0 (12, 0) rfl) (hs_z.2 0 4 4 rfl) (by decide) rfl ?_
      refine V.bipush (v := 8) dX12_readLaw_63 (by decide) ?_
      refine V.iload_n dX12_readLaw_65 rfl ?_
      refine V.iadd dX12_readLaw_66 ?_
      refine V.aload_n dX12_readLaw_67 rfl ?_
      refine V.getr fl_X12_24 dX12_readLaw_68 (hs_z.1 0 (12, 0) rfl) (hs_z.2 0 4 4 rfl) (by decide) rfl ?_
      refine V.sipush (v := 396) dX12_readLaw_71 (by decide) ?_
      refine V.iald dX12_readLaw_74 (hs_z.1 4 (20, 1297) rfl) (vp_lit (by decide)) ?_
      refine V.iload_n dX12_readLaw_75 rfl ?_
      refine V.isub dX12_readLaw_76 ?_
      obtain ⟨hb39, hf⟩ := chk_some hf
      refine V.iastE dX12_readLaw_77 (hs_z.1 4 (20, 1297) rfl) hb39 (fun I40 e41 => ?_)
      rw [← e41] at hf
      try dsimp only at hf
      clear e41
      obtain rfl := Option.some.inj hf
      exact V.vret dX12_readLaw_78 rfl (Nat.le_refl _) (Nat.le_refl _) ⟨rfl, rfl⟩
    · rw [if_neg c32] at hf
      obtain rfl := Option.some.inj hf
      exact V.vret dX12_readLaw_39 rfl (Nat.le_refl _) (Nat.le_refl _) ⟨rfl, rfl⟩
theorem dX12_readLine_0 : decode cX12_readLine 0 = .ok (.aload_n 0, 1) := by decide +kernel
theorem dX12_readLine_1 : decode cX12_readLine 1 = .ok (.getfield 129, 3) := by decide +kernel
theorem dX12_readLine_4 : decode cX12_readLine 4 = .ok (.ifCond .eq 4, 3) := by decide +kernel
theorem dX12_readLine_7 : decode cX12_readLine 7 = .ok (.return_, 1) := by decide +kernel
theorem dX12_readLine_8 : decode cX12_readLine 8 = .ok (.aload_n 0, 1) := by decide +kernel
theorem dX12_readLine_9 : decode cX12_readLine 9 = .ok (.iconst 1, 1) := by decide +kernel
theorem dX12_readLine_10 : decode cX12_readLine 10 = .ok (.invokevirtual 135, 3) := by decide +kernel
theorem dX12_readLine_13 : decode cX12_readLine 13 = .ok (.ifCond .eq 10, 3) := by decide +kernel
theorem dX12_readLine_16 : decode cX12_readLine 16 = .ok (.aload_n 0, 1) := by decide +kernel
theorem dX12_readLine_17 : decode cX12_readLine 17 = .ok (.invokevirtual 186, 3) := by decide +kernel
theorem dX12_readLine_20 : decode cX12_readLine 20 = .ok (.goto 71, 3) := by decide +kernel
theorem dX12_readLine_23 : decode cX12_readLine 23 = .ok (.aload_n 0, 1) := by decide +kernel
theorem dX12_readLine_24 : decode cX12_readLine 24 = .ok (.iconst 4, 1) := by decide +kernel
theorem dX12_readLine_25 : decode cX12_readLine 25 = .ok (.invokevirtual 135, 3) := by decide +kernel
theorem dX12_readLine_28 : decode cX12_readLine 28 = .ok (.ifCond .eq 10, 3) := by decide +kernel
theorem dX12_readLine_31 : decode cX12_readLine 31 = .ok (.aload_n 0, 1) := by decide +kernel
theorem dX12_readLine_32 : decode cX12_readLine 32 = .ok (.invokevirtual 189, 3) := by decide +kernel
theorem dX12_readLine_35 : decode cX12_readLine 35 = .ok (.goto 56, 3) := by decide +kernel
theorem dX12_readLine_38 : decode cX12_readLine 38 = .ok (.aload_n 0, 1) := by decide +kernel
theorem dX12_readLine_39 : decode cX12_readLine 39 = .ok (.bipush 6, 2) := by decide +kernel
theorem dX12_readLine_41 : decode cX12_readLine 41 = .ok (.invokevirtual 135, 3) := by decide +kernel
theorem dX12_readLine_44 : decode cX12_readLine 44 = .ok (.ifCond .eq 10, 3) := by decide +kernel
theorem dX12_readLine_47 : decode cX12_readLine 47 = .ok (.aload_n 0, 1) := by decide +kernel
theorem dX12_readLine_48 : decode cX12_readLine 48 = .ok (.invokevirtual 192, 3) := by decide +kernel
theorem dX12_readLine_51 : decode cX12_readLine 51 = .ok (.goto 40, 3) := by decide +kernel
theorem dX12_readLine_54 : decode cX12_readLine 54 = .ok (.aload_n 0, 1) := by decide +kernel
theorem dX12_readLine_55 : decode cX12_readLine 55 = .ok (.bipush 7, 2) := by decide +kernel
theorem dX12_readLine_57 : decode cX12_readLine 57 = .ok (.invokevirtual 135, 3) := by decide +kernel
theorem dX12_readLine_60 : decode cX12_readLine 60 = .ok (.ifCond .ne 12, 3) := by decide +kernel
theorem dX12_readLine_63 : decode cX12_readLine 63 = .ok (.aload_n 0, 1) := by decide +kernel
theorem dX12_readLine_64 : decode cX12_readLine 64 = .ok (.bipush 8, 2) := by decide +kernel
theorem dX12_readLine_66 : decode cX12_readLine 66 = .ok (.invokevirtual 135, 3) := by decide +kernel
theorem dX12_readLine_69 : decode cX12_readLine 69 = .ok (.ifCond .eq 17, 3) := by decide +kernel
theorem dX12_readLine_72 : decode cX12_readLine 72 = .ok (.aload_n 0, 1) := by decide +kernel
theorem dX12_readLine_73 : decode cX12_readLine 73 = .ok (.aload_n 0, 1) := by decide +kernel
theorem dX12_readLine_74 : decode cX12_readLine 74 = .ok (.getfield 111, 3) := by decide +kernel
theorem dX12_readLine_77 : decode cX12_readLine 77 = .ok (.bipush 7, 2) := by decide +kernel
theorem dX12_readLine_79 : decode cX12_readLine 79 = .ok (.isub, 1) := by decide +kernel
theorem dX12_readLine_80 : decode cX12_readLine 80 = .ok (.invokevirtual 195, 3) := by decide +kernel
theorem dX12_readLine_83 : decode cX12_readLine 83 = .ok (.goto 8, 3) := by decide +kernel
theorem dX12_readLine_86 : decode cX12_readLine 86 = .ok (.aload_n 0, 1) := by decide +kernel
theorem dX12_readLine_87 : decode cX12_readLine 87 = .ok (.iconst 2, 1) := by decide +kernel
theorem dX12_readLine_88 : decode cX12_readLine 88 = .ok (.invokevirtual 141, 3) := by decide +kernel
theorem dX12_readLine_91 : decode cX12_readLine 91 = .ok (.return_, 1) := by decide +kernel
def r_readLine (F : Nat) (I : Nat → Nat → Int32) (z : Nat) : Option ((Nat → Nat → Int32)) := if (I z 11) = 0 then (if (r_is I z 1) = 0 then (if (r_is I z 4) = 0 then (if (r_is I z 6) = 0 then (if (r_is I z 7) = 0 then (if (r_is I z 8) = 0 then ((r_fails I z 2).bind (fun q10 => let I12 := q10; some I12)) else ((r_readLaw F I z ((I z 9) - 7)).bind (fun q13 => let I15 := q13; some I15))) else ((r_readLaw F I z ((I z 9) - 7)).bind (fun q6 => let I8 := q6; some I8))) else ((r_readOffice F I z).bind (fun q16 => let I18 := q16; some I18))) else ((r_readTune F I z).bind (fun q19 => let I21 := q19; some I21))) else ((r_readPerson F I z).bind (fun q22 => let I24 := q22; some I24))) else (some I)
theorem c_r_readLine {l : Launch} {D : va_G} {E : Nat → ClassId} {B : Nat → Prop} {n F : Nat} {T : Nat → Option (Nat × Nat)} {I : Nat → Nat → Int32} {J : Nat → Nat → Int64} {P : Nat → Nat → Option Nat} {z : Nat}  {r : (Nat → Nat → Int32)} (hs_z : isMd T P z) (hf : r_readLine F I z = some r) : Ct l D E B yX12_readLine cX12_readLine 1 none 92 0 0 [.ref z] (n, T, I, J, P) (Ret (none) (n, T, r, J, P)) := by
  unfold r_readLine at hf
  refine Ct.ofV (by decide) (Nat.le_of_ble_eq_true rfl) ?_
  refine V.aload_n dX12_readLine_0 rfl ?_
  refine V.getf fl_X12_129 dX12_readLine_1 (hs_z.1 0 (12, 0) rfl) (by decide) rfl ?_
  refine V.if_eq 8 dX12_readLine_4 (by decide) (fun c1 => ?_) (fun c1 => ?_)
  · rw [if_pos c1] at hf
    refine V.aload_n dX12_readLine_8 rfl ?_
    refine V.iconst (v := 1) dX12_readLine_9 (by decide) ?_
    refine V.inv cv_X12_135 (c_r_is hs_z) dX12_readLine_10 (hs_z.1 0 (12, 0) rfl) (by decide) rfl rfl rfl (Nat.le_of_ble_eq_true rfl) (by decide) (by decide) (Nat.le_refl _) (Nat.le_refl _) (fun _ _ hq => ?_)
    obtain ⟨rfl, rfl⟩ := hq
    refine V.if_eq 23 dX12_readLine_13 (by decide) (fun c2 => ?_) (fun c2 => ?_)
    · rw [if_pos c2] at hf
      refine V.aload_n dX12_readLine_23 rfl ?_
      refine V.iconst (v := 4) dX12_readLine_24 (by decide) ?_
      refine V.inv cv_X12_135 (c_r_is hs_z) dX12_readLine_25 (hs_z.1 0 (12, 0) rfl) (by decide) rfl rfl rfl (Nat.le_of_ble_eq_true rfl) (by decide) (by decide) (Nat.le_refl _) (Nat.le_refl _) (fun _ _ hq => ?_)
      obtain ⟨rfl, rfl⟩ := hq
      refine V.if_eq 38 dX12_readLine_28 (by decide) (fun c3 => ?_) (fun c3 => ?_)
      · rw [if_pos c3] at hf
        refine V.aload_n dX12_readLine_38 rfl ?_
        refine V.bipush (v := 6) dX12_readLine_39 (by decide) ?_
        refine V.inv cv_X12_135 (c_r_is hs_z) dX12_readLine_41 (hs_z.1 0 (12, 0) rfl) (by decide) rfl rfl rfl (Nat.le_of_ble_eq_true rfl) (by decide) (by decide) (Nat.le_refl _) (Nat.le_refl _) (fun _ _ hq => ?_)
        obtain ⟨rfl, rfl⟩ := hq
        refine V.if_eq 54 dX12_readLine_44 (by decide) (fun c4 => ?_) (fun c4 => ?_)
        · rw [if_pos c4] at hf
          refine V.aload_n dX12_readLine_54 rfl ?_
          refine V.bipush (v := 7) dX12_readLine_55 (by decide) ?_
          refine V.inv cv_X12_135 (c_r_is hs_z) dX12_readLine_57 (hs_z.1 0 (12, 0) rfl) (by decide) rfl rfl rfl (Nat.le_of_ble_eq_true rfl) (by decide) (by decide) (Nat.le_refl _) (Nat.le_refl _) (fun _ _ hq => ?_)
          obtain ⟨rfl, rfl⟩ := hq
          refine V.if_ne 72 dX12_readLine_60 (by decide) (fun c5 => ?_) (fun c5 => ?_)
          · rw [if_neg c5] at hf
            refine V.aload_n dX12_readLine_72 rfl ?_
            refine V.aload_n dX12_readLine_73 rfl ?_
            refine V.getf fl_X12_111 dX12_readLine_74 (hs_z.1 0 (12, 0) rfl) (by decide) rfl ?_
            refine V.bipush (v := 7) dX12_readLine_77 (by decide) ?_
            refine V.isub dX12_readLine_79 ?_
            obtain ⟨I8, hk7, hf⟩ := bnd_some hf
            try dsimp only at hf
            refine V.inv cv_X12_195 (c_r_readLaw hs_z hk7) dX12_readLine_80 (hs_z.1 0 (12, 0) rfl) (by decide) rfl rfl rfl (Nat.le_of_ble_eq_true rfl) (by decide) (by decide) (Nat.le_refl _) (Nat.le_refl _) (fun _ _ hq => ?_)
            obtain ⟨rfl, rfl⟩ := hq
            refine V.goto 91 dX12_readLine_83 (by decide) ?_
            obtain rfl := Option.some.inj hf
            exact V.vret dX12_readLine_91 rfl (Nat.le_refl _) (Nat.le_refl _) ⟨rfl, rfl⟩
          · rw [if_pos c5] at hf
            refine V.aload_n dX12_readLine_63 rfl ?_
            refine V.bipush (v := 8) dX12_readLine_64 (by decide) ?_
            refine V.inv cv_X12_135 (c_r_is hs_z) dX12_readLine_66 (hs_z.1 0 (12, 0) rfl) (by decide) rfl rfl rfl (Nat.le_of_ble_eq_true rfl) (by decide) (by decide) (Nat.le_refl _) (Nat.le_refl _) (fun _ _ hq => ?_)
            obtain ⟨rfl, rfl⟩ := hq
            refine V.if_eq 86 dX12_readLine_69 (by decide) (fun c9 => ?_) (fun c9 => ?_)
            · rw [if_pos c9] at hf
              refine V.aload_n dX12_readLine_86 rfl ?_
              refine V.iconst (v := 2) dX12_readLine_87 (by decide) ?_
              obtain ⟨I12, hk11, hf⟩ := bnd_some hf
              try dsimp only at hf
              refine V.inv cv_X12_141 (c_r_fails hs_z hk11) dX12_readLine_88 (hs_z.1 0 (12, 0) rfl) (by decide) rfl rfl rfl (Nat.le_of_ble_eq_true rfl) (by decide) (by decide) (Nat.le_refl _) (Nat.le_refl _) (fun _ _ hq => ?_)
              obtain ⟨rfl, rfl⟩ := hq
              obtain rfl := Option.some.inj hf
              exact V.vret dX12_readLine_91 rfl (Nat.le_refl _) (Nat.le_refl _) ⟨rfl, rfl⟩
            · rw [if_neg c9] at hf
              refine V.aload_n dX12_readLine_72 rfl ?_
              refine V.aload_n dX12_readLine_73 rfl ?_
              refine V.getf fl_X12_111 dX12_readLine_74 (hs_z.1 0 (12, 0) rfl) (by decide) rfl ?_
              refine V.bipush (v := 7) dX12_readLine_77 (by decide) ?_
              refine V.isub dX12_readLine_79 ?_
              obtain ⟨I15, hk14, hf⟩ := bnd_some hf
              try dsimp only at hf
              refine V.inv cv_X12_195 (c_r_readLaw hs_z hk14) dX12_readLine_80 (hs_z.1 0 (12, 0) rfl) (by decide) rfl rfl rfl (Nat.le_of_ble_eq_true rfl) (by decide) (by decide) (Nat.le_refl _) (Nat.le_refl _) (fun _ _ hq => ?_)
              obtain ⟨rfl, rfl⟩ := hq
              refine V.goto 91 dX12_readLine_83 (by decide) ?_
              obtain rfl := Option.some.inj hf
              exact V.vret dX12_readLine_91 rfl (Nat.le_refl _) (Nat.le_refl _) ⟨rfl, rfl⟩
        · rw [if_neg c4] at hf
          refine V.aload_n dX12_readLine_47 rfl ?_
          obtain ⟨I18, hk17, hf⟩ := bnd_some hf
          try dsimp only at hf
          refine V.inv cv_X12_192 (c_r_readOffice hs_z hk17) dX12_readLine_48 (hs_z.1 0 (12, 0) rfl) (by decide) rfl rfl rfl (Nat.le_of_ble_eq_true rfl) (by decide) (by decide) (Nat.le_refl _) (Nat.le_refl _) (fun _ _ hq => ?_)
          obtain ⟨rfl, rfl⟩ := hq
          refine V.goto 91 dX12_readLine_51 (by decide) ?_
          obtain rfl := Option.some.inj hf
          exact V.vret dX12_readLine_91 rfl (Nat.le_refl _) (Nat.le_refl _) ⟨rfl, rfl⟩
      · rw [if_neg c3] at hf
        refine V.aload_n dX12_readLine_31 rfl ?_
        obtain ⟨I21, hk20, hf⟩ := bnd_some hf
        try dsimp only at hf
        refine V.inv cv_X12_189 (c_r_readTune hs_z hk20) dX12_readLine_32 (hs_z.1 0 (12, 0) rfl) (by decide) rfl rfl rfl (Nat.le_of_ble_eq_true rfl) (by decide) (by decide) (Nat.le_refl _) (Nat.le_refl _) (fun _ _ hq => ?_)
        obtain ⟨rfl, rfl⟩ := hq
        refine V.goto 91 dX12_readLine_35 (by decide) ?_
        obtain rfl := Option.some.inj hf
        exact V.vret dX12_readLine_91 rfl (Nat.le_refl _) (Nat.le_refl _) ⟨rfl, rfl⟩
    · rw [if_neg c2] at hf
      refine V.aload_n dX12_readLine_16 rfl ?_
      obtain ⟨I24, hk23, hf⟩ := bnd_some hf
      try dsimp only at hf
      refine V.inv cv_X12_186 (c_r_readPerson hs_z hk23) dX12_readLine_17 (hs_z.1 0 (12, 0) rfl) (by decide) rfl rfl rfl (Nat.le_of_ble_eq_true rfl) (by decide) (by decide) (Nat.le_refl _) (Nat.le_refl _) (fun _ _ hq => ?_)
      obtain ⟨rfl, rfl⟩ := hq
      refine V.goto 91 dX12_readLine_20 (by decide) ?_
      obtain rfl := Option.some.inj hf
      exact V.vret dX12_readLine_91 rfl (Nat.le_refl _) (Nat.le_refl _) ⟨rfl, rfl⟩
  · rw [if_neg c1] at hf
    obtain rfl := Option.some.inj hf
    exact V.vret dX12_readLine_7 rfl (Nat.le_refl _) (Nat.le_refl _) ⟨rfl, rfl⟩
theorem dX12_ends_0 : decode cX12_ends 0 = .ok (.aload_n 0, 1) := by decide +kernel
theorem dX12_ends_1 : decode cX12_ends 1 = .ok (.bipush 30, 2) := by decide +kernel
theorem dX12_ends_3 : decode cX12_ends 3 = .ok (.invokevirtual 161, 3) := by decide +kernel
theorem dX12_ends_6 : decode cX12_ends 6 = .ok (.ifCond .ne 8, 3) := by decide +kernel
theorem dX12_ends_9 : decode cX12_ends 9 = .ok (.aload_n 0, 1) := by decide +kernel
theorem dX12_ends_10 : decode cX12_ends 10 = .ok (.iconst 2, 1) := by decide +kernel
theorem dX12_ends_11 : decode cX12_ends 11 = .ok (.invokevirtual 141, 3) := by decide +kernel
theorem dX12_ends_14 : decode cX12_ends 14 = .ok (.aload_n 0, 1) := by decide +kernel
theorem dX12_ends_15 : decode cX12_ends 15 = .ok (.getfield 24, 3) := by decide +kernel
theorem dX12_ends_18 : decode cX12_ends 18 = .ok (.iconst 0, 1) := by decide +kernel
theorem dX12_ends_19 : decode cX12_ends 19 = .ok (.dup2, 1) := by decide +kernel
theorem dX12_ends_20 : decode cX12_ends 20 = .ok (.iaload, 1) := by decide +kernel
theorem dX12_ends_21 : decode cX12_ends 21 = .ok (.iconst 1, 1) := by decide +kernel
theorem dX12_ends_22 : decode cX12_ends 22 = .ok (.iadd, 1) := by decide +kernel
theorem dX12_ends_23 : decode cX12_ends 23 = .ok (.iastore, 1) := by decide +kernel
theorem dX12_ends_24 : decode cX12_ends 24 = .ok (.return_, 1) := by decide +kernel
def r_ends (F : Nat) (I : Nat → Nat → Int32) (z : Nat) : Option ((Nat → Nat → Int32)) := (r_eats F I z 30).bind (fun q1 => let u3 := q1.1; let I4 := q1.2; if u3 = 0 then ((r_fails I4 z 2).bind (fun q8 => let I10 := q8; let I11 := uI I10 (z + 4) (Int32.toNatClampNeg 0) ((I10 (z + 4) (Int32.toNatClampNeg 0)) + 1); some I11)) else (let I6 := uI I4 (z + 4) (Int32.toNatClampNeg 0) ((I4 (z + 4) (Int32.toNatClampNeg 0)) + 1); some I6))
theorem c_r_ends {l : Launch} {D : va_G} {E : Nat → ClassId} {B : Nat → Prop} {n F : Nat} {T : Nat → Option (Nat × Nat)} {I : Nat → Nat → Int32} {J : Nat → Nat → Int64} {P : Nat → Nat → Option Nat} {z : Nat}  {r : (Nat → Nat → Int32)} (hs_z : isMd T P z) (hf : r_ends F I z = some r) : Ct l D E B yX12_ends cX12_ends 1 none 7 0 0 [.ref z] (n, T, I, J, P) (Ret (none) (n, T, r, J, P)) := by
  unfold r_ends at hf
  refine Ct.ofV (by decide) (Nat.le_of_ble_eq_true rfl) ?_
  refine V.aload_n dX12_ends_0 rfl ?_
  refine V.bipush (v := 30) dX12_ends_1 (by decide) ?_
  obtain ⟨⟨u3, I4⟩, hk2, hf⟩ := bnd_some hf
  try dsimp only at hf
  refine V.inv cv_X12_161 (c_r_eats hs_z hk2) dX12_ends_3 (hs_z.1 0 (12, 0) rfl) (by decide) rfl rfl rfl (Nat.le_of_ble_eq_true rfl) (by decide) (by decide) (Nat.le_refl _) (Nat.le_refl _) (fun _ _ hq => ?_)
  obtain ⟨rfl, rfl⟩ := hq
  try dsimp only
  refine V.if_ne 14 dX12_ends_6 (by decide) (fun c5 => ?_) (fun c5 => ?_)
  · rw [if_neg c5] at hf
    refine V.aload_n dX12_ends_14 rfl ?_
    refine V.getr fl_X12_24 dX12_ends_15 (hs_z.1 0 (12, 0) rfl) (hs_z.2 0 4 4 rfl) (by decide) rfl ?_
    refine V.iconst (v := 0) dX12_ends_18 (by decide) ?_
    refine V.dup2 dX12_ends_19 rfl rfl ?_
    refine V.iald dX12_ends_20 (hs_z.1 4 (20, 1297) rfl) (vp_lit (by decide)) ?_
    refine V.iconst (v := 1) dX12_ends_21 (by decide) ?_
    refine V.iadd dX12_ends_22 ?_
    refine V.iastE dX12_ends_23 (hs_z.1 4 (20, 1297) rfl) (vp_lit (by decide)) (fun I6 e7 => ?_)
    rw [← e7] at hf
    try dsimp only at hf
    clear e7
    obtain rfl := Option.some.inj hf
    exact V.vret dX12_ends_24 rfl (Nat.le_refl _) (Nat.le_refl _) ⟨rfl, rfl⟩
  · rw [if_pos c5] at hf
    refine V.aload_n dX12_ends_9 rfl ?_
    refine V.iconst (v := 2) dX12_ends_10 (by decide) ?_
    obtain ⟨I10, hk9, hf⟩ := bnd_some hf
    try dsimp only at hf
    refine V.inv cv_X12_141 (c_r_fails hs_z hk9) dX12_ends_11 (hs_z.1 0 (12, 0) rfl) (by decide) rfl rfl rfl (Nat.le_of_ble_eq_true rfl) (by decide) (by decide) (Nat.le_refl _) (Nat.le_refl _) (fun _ _ hq => ?_)
    obtain ⟨rfl, rfl⟩ := hq
    refine V.aload_n dX12_ends_14 rfl ?_
    refine V.getr fl_X12_24 dX12_ends_15 (hs_z.1 0 (12, 0) rfl) (hs_z.2 0 4 4 rfl) (by decide) rfl ?_
    refine V.iconst (v := 0) dX12_ends_18 (by decide) ?_
    refine V.dup2 dX12_ends_19 rfl rfl ?_
    refine V.iald dX12_ends_20 (hs_z.1 4 (20, 1297) rfl) (vp_lit (by decide)) ?_
    refine V.iconst (v := 1) dX12_ends_21 (by decide) ?_
    refine V.iadd dX12_ends_22 ?_
    refine V.iastE dX12_ends_23 (hs_z.1 4 (20, 1297) rfl) (vp_lit (by decide)) (fun I11 e12 => ?_)
    rw [← e12] at hf
    try dsimp only at hf
    clear e12
    obtain rfl := Option.some.inj hf
    exact V.vret dX12_ends_24 rfl (Nat.le_refl _) (Nat.le_refl _) ⟨rfl, rfl⟩
theorem dX12_court_0 : decode cX12_court 0 = .ok (.aload_n 0, 1) := by decide +kernel
theorem dX12_court_1 : decode cX12_court 1 = .ok (.iconst 0, 1) := by decide +kernel
theorem dX12_court_2 : decode cX12_court 2 = .ok (.putfield 1, 3) := by decide +kernel
theorem dX12_court_5 : decode cX12_court 5 = .ok (.iload_n 1, 1) := by decide +kernel
theorem dX12_court_6 : decode cX12_court 6 = .ok (.i2l, 1) := by decide +kernel
theorem dX12_court_7 : decode cX12_court 7 = .ok (.lconst 0, 1) := by decide +kernel
theorem dX12_court_8 : decode cX12_court 8 = .ok (.aload_n 0, 1) := by decide +kernel
theorem dX12_court_9 : decode cX12_court 9 = .ok (.getfield 83, 3) := by decide +kernel
theorem dX12_court_12 : decode cX12_court 12 = .ok (.i2l, 1) := by decide +kernel
theorem dX12_court_13 : decode cX12_court 13 = .ok (.invokestatic 145, 3) := by decide +kernel
theorem dX12_court_16 : decode cX12_court 16 = .ok (.ifCond .ne 6, 3) := by decide +kernel
theorem dX12_court_19 : decode cX12_court 19 = .ok (.bipush (-3), 2) := by decide +kernel
theorem dX12_court_21 : decode cX12_court 21 = .ok (.ireturn, 1) := by decide +kernel
theorem dX12_court_22 : decode cX12_court 22 = .ok (.aload_n 0, 1) := by decide +kernel
theorem dX12_court_23 : decode cX12_court 23 = .ok (.iload_n 1, 1) := by decide +kernel
theorem dX12_court_24 : decode cX12_court 24 = .ok (.putfield 86, 3) := by decide +kernel
theorem dX12_court_27 : decode cX12_court 27 = .ok (.aload_n 0, 1) := by decide +kernel
theorem dX12_court_28 : decode cX12_court 28 = .ok (.iconst 0, 1) := by decide +kernel
theorem dX12_court_29 : decode cX12_court 29 = .ok (.putfield 83, 3) := by decide +kernel
theorem dX12_court_32 : decode cX12_court 32 = .ok (.aload_n 0, 1) := by decide +kernel
theorem dX12_court_33 : decode cX12_court 33 = .ok (.iconst 0, 1) := by decide +kernel
theorem dX12_court_34 : decode cX12_court 34 = .ok (.putfield 104, 3) := by decide +kernel
theorem dX12_court_37 : decode cX12_court 37 = .ok (.aload_n 0, 1) := by decide +kernel
theorem dX12_court_38 : decode cX12_court 38 = .ok (.iconst 0, 1) := by decide +kernel
theorem dX12_court_39 : decode cX12_court 39 = .ok (.putfield 129, 3) := by decide +kernel
theorem dX12_court_42 : decode cX12_court 42 = .ok (.aload_n 0, 1) := by decide +kernel
theorem dX12_court_43 : decode cX12_court 43 = .ok (.getfield 24, 3) := by decide +kernel
theorem dX12_court_46 : decode cX12_court 46 = .ok (.invokestatic 79, 3) := by decide +kernel
theorem dX12_court_49 : decode cX12_court 49 = .ok (.aload_n 0, 1) := by decide +kernel
theorem dX12_court_50 : decode cX12_court 50 = .ok (.invokevirtual 138, 3) := by decide +kernel
theorem dX12_court_53 : decode cX12_court 53 = .ok (.aload_n 0, 1) := by decide +kernel
theorem dX12_court_54 : decode cX12_court 54 = .ok (.iconst 0, 1) := by decide +kernel
theorem dX12_court_55 : decode cX12_court 55 = .ok (.invokevirtual 161, 3) := by decide +kernel
theorem dX12_court_58 : decode cX12_court 58 = .ok (.ifCond .ne 8, 3) := by decide +kernel
theorem dX12_court_61 : decode cX12_court 61 = .ok (.aload_n 0, 1) := by decide +kernel
theorem dX12_court_62 : decode cX12_court 62 = .ok (.iconst 2, 1) := by decide +kernel
theorem dX12_court_63 : decode cX12_court 63 = .ok (.invokevirtual 141, 3) := by decide +kernel
theorem dX12_court_66 : decode cX12_court 66 = .ok (.aload_n 0, 1) := by decide +kernel
theorem dX12_court_67 : decode cX12_court 67 = .ok (.invokevirtual 198, 3) := by decide +kernel
theorem dX12_court_70 : decode cX12_court 70 = .ok (.aload_n 0, 1) := by decide +kernel
theorem dX12_court_71 : decode cX12_court 71 = .ok (.getfield 129, 3) := by decide +kernel
theorem dX12_court_74 : decode cX12_court 74 = .ok (.ifCond .ne 23, 3) := by decide +kernel
theorem dX12_court_77 : decode cX12_court 77 = .ok (.aload_n 0, 1) := by decide +kernel
theorem dX12_court_78 : decode cX12_court 78 = .ok (.getfield 111, 3) := by decide +kernel
theorem dX12_court_81 : decode cX12_court 81 = .ok (.bipush 24, 2) := by decide +kernel
theorem dX12_court_83 : decode cX12_court 83 = .ok (.if_icmp .eq 14, 3) := by decide +kernel
theorem dX12_court_86 : decode cX12_court 86 = .ok (.aload_n 0, 1) := by decide +kernel
theorem dX12_court_87 : decode cX12_court 87 = .ok (.invokevirtual 201, 3) := by decide +kernel
theorem dX12_court_90 : decode cX12_court 90 = .ok (.aload_n 0, 1) := by decide +kernel
theorem dX12_court_91 : decode cX12_court 91 = .ok (.invokevirtual 198, 3) := by decide +kernel
theorem dX12_court_94 : decode cX12_court 94 = .ok (.goto (-24), 3) := by decide +kernel
theorem dX12_court_97 : decode cX12_court 97 = .ok (.aload_n 0, 1) := by decide +kernel
theorem dX12_court_98 : decode cX12_court 98 = .ok (.aload_n 0, 1) := by decide +kernel
theorem dX12_court_99 : decode cX12_court 99 = .ok (.getfield 129, 3) := by decide +kernel
theorem dX12_court_102 : decode cX12_court 102 = .ok (.putfield 204, 3) := by decide +kernel
theorem dX12_court_105 : decode cX12_court 105 = .ok (.aload_n 0, 1) := by decide +kernel
theorem dX12_court_106 : decode cX12_court 106 = .ok (.aload_n 0, 1) := by decide +kernel
theorem dX12_court_107 : decode cX12_court 107 = .ok (.getfield 129, 3) := by decide +kernel
theorem dX12_court_110 : decode cX12_court 110 = .ok (.ifCond .ne 7, 3) := by decide +kernel
theorem dX12_court_113 : decode cX12_court 113 = .ok (.iconst (-1), 1) := by decide +kernel
theorem dX12_court_114 : decode cX12_court 114 = .ok (.goto 7, 3) := by decide +kernel
theorem dX12_court_117 : decode cX12_court 117 = .ok (.aload_n 0, 1) := by decide +kernel
theorem dX12_court_118 : decode cX12_court 118 = .ok (.getfield 132, 3) := by decide +kernel
theorem dX12_court_121 : decode cX12_court 121 = .ok (.putfield 27, 3) := by decide +kernel
theorem dX12_court_124 : decode cX12_court 124 = .ok (.aload_n 0, 1) := by decide +kernel
theorem dX12_court_125 : decode cX12_court 125 = .ok (.getfield 129, 3) := by decide +kernel
theorem dX12_court_128 : decode cX12_court 128 = .ok (.ifCond .eq 11, 3) := by decide +kernel
theorem dX12_court_131 : decode cX12_court 131 = .ok (.bipush (-30), 2) := by decide +kernel
theorem dX12_court_133 : decode cX12_court 133 = .ok (.aload_n 0, 1) := by decide +kernel
theorem dX12_court_134 : decode cX12_court 134 = .ok (.getfield 129, 3) := by decide +kernel
theorem dX12_court_137 : decode cX12_court 137 = .ok (.isub, 1) := by decide +kernel
theorem dX12_court_138 : decode cX12_court 138 = .ok (.ireturn, 1) := by decide +kernel
theorem dX12_court_139 : decode cX12_court 139 = .ok (.iconst 0, 1) := by decide +kernel
theorem dX12_court_140 : decode cX12_court 140 = .ok (.istore_n 2, 1) := by decide +kernel
theorem dX12_court_141 : decode cX12_court 141 = .ok (.iload_n 2, 1) := by decide +kernel
theorem dX12_court_142 : decode cX12_court 142 = .ok (.sipush 1297, 3) := by decide +kernel
theorem dX12_court_145 : decode cX12_court 145 = .ok (.if_icmp .ge 21, 3) := by decide +kernel
theorem dX12_court_148 : decode cX12_court 148 = .ok (.aload_n 0, 1) := by decide +kernel
theorem dX12_court_149 : decode cX12_court 149 = .ok (.getfield 13, 3) := by decide +kernel
theorem dX12_court_152 : decode cX12_court 152 = .ok (.iload_n 2, 1) := by decide +kernel
theorem dX12_court_153 : decode cX12_court 153 = .ok (.aload_n 0, 1) := by decide +kernel
theorem dX12_court_154 : decode cX12_court 154 = .ok (.getfield 24, 3) := by decide +kernel
theorem dX12_court_157 : decode cX12_court 157 = .ok (.iload_n 2, 1) := by decide +kernel
theorem dX12_court_158 : decode cX12_court 158 = .ok (.iaload, 1) := by decide +kernel
theorem dX12_court_159 : decode cX12_court 159 = .ok (.iastore, 1) := by decide +kernel
theorem dX12_court_160 : decode cX12_court 160 = .ok (.iinc 2 1, 3) := by decide +kernel
theorem dX12_court_163 : decode cX12_court 163 = .ok (.goto (-22), 3) := by decide +kernel
theorem dX12_court_166 : decode cX12_court 166 = .ok (.iconst 0, 1) := by decide +kernel
theorem dX12_court_167 : decode cX12_court 167 = .ok (.istore_n 2, 1) := by decide +kernel
theorem dX12_court_168 : decode cX12_court 168 = .ok (.iload_n 2, 1) := by decide +kernel
theorem dX12_court_169 : decode cX12_court 169 = .ok (.bipush 6, 2) := by decide +kernel
theorem dX12_court_171 : decode cX12_court 171 = .ok (.if_icmp .ge 19, 3) := by decide +kernel
theorem dX12_court_174 : decode cX12_court 174 = .ok (.aload_n 0, 1) := by decide +kernel
theorem dX12_court_175 : decode cX12_court 175 = .ok (.getfield 13, 3) := by decide +kernel
theorem dX12_court_178 : decode cX12_court 178 = .ok (.bipush 35, 2) := by decide +kernel
theorem dX12_court_180 : decode cX12_court 180 = .ok (.iload_n 2, 1) := by decide +kernel
theorem dX12_court_181 : decode cX12_court 181 = .ok (.iadd, 1) := by decide +kernel
theorem dX12_court_182 : decode cX12_court 182 = .ok (.iload_n 2, 1) := by decide +kernel
theorem dX12_court_183 : decode cX12_court 183 = .ok (.iastore, 1) := by decide +kernel
theorem dX12_court_184 : decode cX12_court 184 = .ok (.iinc 2 1, 3) := by decide +kernel
theorem dX12_court_187 : decode cX12_court 187 = .ok (.goto (-19), 3) := by decide +kernel
theorem dX12_court_190 : decode cX12_court 190 = .ok (.aload_n 0, 1) := by decide +kernel
theorem dX12_court_191 : decode cX12_court 191 = .ok (.invokevirtual 207, 3) := by decide +kernel
theorem dX12_court_194 : decode cX12_court 194 = .ok (.aload_n 0, 1) := by decide +kernel
theorem dX12_court_195 : decode cX12_court 195 = .ok (.getfield 13, 3) := by decide +kernel
theorem dX12_court_198 : decode cX12_court 198 = .ok (.iconst 0, 1) := by decide +kernel
theorem dX12_court_199 : decode cX12_court 199 = .ok (.iaload, 1) := by decide +kernel
theorem dX12_court_200 : decode cX12_court 200 = .ok (.ireturn, 1) := by decide +kernel
def r_court_70 (F : Nat) (z : Nat) (g1 : Int32) : Nat → (Nat → Nat → Int32) → Option ((Nat → Nat → Int32))
  | 0, _ => none
  | k + 1, I => if (I z 11) = 0 then (if (I z 9) = 24 then (some I) else ((r_readLine F I z).bind (fun q28 => let I30 := q28; (r_ends F I30 z).bind (fun q31 => let I33 := q31; r_court_70 F z g1 k I33)))) else (some I)
def r_court_141 (F : Nat) (z : Nat) (g1 : Int32) : Nat → Int32 → (Nat → Nat → Int32) → Option (Int32 × (Nat → Nat → Int32))
  | 0, _, _ => none
  | k + 1, l2, I => if 1297 ≤ l2 then (some (l2, I)) else (chk l2 1297 (chk l2 3891 (let I46 := uI I (z + 1) (Int32.toNatClampNeg l2) (I (z + 4) (Int32.toNatClampNeg l2)); r_court_141 F z g1 k (l2 + 1) I46)))
def r_court_168 (F : Nat) (z : Nat) (g1 : Int32) : Nat → Int32 → (Nat → Nat → Int32) → Option (Int32 × (Nat → Nat → Int32))
  | 0, _, _ => none
  | k + 1, l2, I => if 6 ≤ l2 then (some (l2, I)) else (chk (35 + l2) 3891 (let I54 := uI I (z + 1) (Int32.toNatClampNeg (35 + l2)) l2; r_court_168 F z g1 k (l2 + 1) I54))
def r_court (F : Nat) (T : Nat → Option (Nat × Nat)) (I : Nat → Nat → Int32) (z : Nat) (v1 : Int32) : Option (Int32 × (Nat → Nat → Int32)) := let I1 := uI I z 0 0; if (r_within (Int32.toInt64 v1) 0 (Int32.toInt64 (I1 z 5))) = 0 then (some ((-3), I1)) else (let I4 := uI I1 z 8 v1; let I6 := uI I4 z 5 0; let I8 := uI I6 z 7 0; let I10 := uI I8 z 11 0; (r_plain F T I10 (z + 4)).bind (fun q12 => let I14 := q12; (r_nextToken F I14 z).bind (fun q15 => let I17 := q15; (r_eats F I17 z 0).bind (fun q18 => let u20 := q18.1; let I21 := q18.2; if u20 = 0 then ((r_fails I21 z 2).bind (fun q77 => let I79 := q77; (r_ends F I79 z).bind (fun q80 => let I82 := q80; (r_court_70 F z v1 F I82).bind (fun q83 => let I85 := q83; let I86 := uI I85 z 13 (I85 z 11); if (I86 z 11) = 0 then (let I103 := uI I86 z 14 (-1); if (I103 z 11) = 0 then ((r_court_141 F z v1 F 0 I103).bind (fun q106 => let m108 := q106.1; let I109 := q106.2; (r_court_168 F z v1 F 0 I109).bind (fun q110 => let m112 := q110.1; let I113 := q110.2; (r_evenings F I113 z).bind (fun q114 => let I116 := q114; some ((I116 (z + 1) (Int32.toNatClampNeg 0)), I116))))) else (some (((-30) - (I103 z 11)), I103))) else (let I89 := uI I86 z 14 (I86 z 12); if (I89 z 11) = 0 then ((r_court_141 F z v1 F 0 I89).bind (fun q92 => let m94 := q92.1; let I95 := q92.2; (r_court_168 F z v1 F 0 I95).bind (fun q96 => let m98 := q96.1; let I99 := q96.2; (r_evenings F I99 z).bind (fun q100 => let I102 := q100; some ((I102 (z + 1) (Int32.toNatClampNeg 0)), I102))))) else (some (((-30) - (I89 z 11)), I89))))))) else ((r_ends F I21 z).bind (fun q23 => let I25 := q23; (r_court_70 F z v1 F I25).bind (fun q34 => let I36 := q34; let I37 := uI I36 z 13 (I36 z 11); if (I37 z 11) = 0 then (let I63 := uI I37 z 14 (-1); if (I63 z 11) = 0 then ((r_court_141 F z v1 F 0 I63).bind (fun q66 => let m68 := q66.1; let I69 := q66.2; (r_court_168 F z v1 F 0 I69).bind (fun q70 => let m72 := q70.1; let I73 := q70.2; (r_evenings F I73 z).bind (fun q74 => let I76 := q74; some ((I76 (z + 1) (Int32.toNatClampNeg 0)), I76))))) else (some (((-30) - (I63 z 11)), I63))) else (let I40 := uI I37 z 14 (I37 z 12); if (I40 z 11) = 0 then ((r_court_141 F z v1 F 0 I40).bind (fun q48 => let m50 := q48.1; let I51 := q48.2; (r_court_168 F z v1 F 0 I51).bind (fun q56 => let m58 := q56.1; let I59 := q56.2; (r_evenings F I59 z).bind (fun q60 => let I62 := q60; some ((I62 (z + 1) (Int32.toNatClampNeg 0)), I62))))) else (some (((-30) - (I40 z 11)), I40))))))))))
theorem l_r_court_70 {l : Launch} {D : va_G} {E : Nat → ClassId} {B : Nat → Prop} {n F : Nat} {Q : Option Value → HT → Prop} {T : Nat → Option (Nat × Nat)} {J : Nat → Nat → Int64} {P : Nat → Nat → Option Nat} {z : Nat} {g1 : Int32} (hs_z : isMd T P z)  (r : (Nat → Nat → Int32)) : ∀ (k : Nat) (I : (Nat → Nat → Int32)), r_court_70 F z g1 k I = some r → V l D E B yX12_court cX12_court 3 (some .int) 93 0 0 Q 0 0 (n, T, r, J, P) 97 [(0, some (.ref z)), (1, some (.int g1))] [] → V l D E B yX12_court cX12_court 3 (some .int) 93 0 0 Q 0 0 (n, T, I, J, P) 70 [(0, some (.ref z)), (1, some (.int g1))] [] := by
  intro k
  induction k with
  | zero =>
    intro I hf hk
    cases hf
  | succ k ih =>
    intro I hf hk
    unfold r_court_70 at hf
    refine V.aload_n dX12_court_70 rfl ?_
    refine V.getf fl_X12_129 dX12_court_71 (hs_z.1 0 (12, 0) rfl) (by decide) rfl ?_
    refine V.if_ne 97 dX12_court_74 (by decide) (fun c26 => ?_) (fun c26 => ?_)
    · rw [if_neg c26] at hf
      obtain rfl := Option.some.inj hf
      exact V.lo [(0, some (.ref z)), (1, some (.int g1))] (by simp only [Subs]; repeat' first | exact trivial | constructor | rfl) hk
    · rw [if_pos c26] at hf
      refine V.aload_n dX12_court_77 rfl ?_
      refine V.getf fl_X12_111 dX12_court_78 (hs_z.1 0 (12, 0) rfl) (by decide) rfl ?_
      refine V.bipush (v := 24) dX12_court_81 (by decide) ?_
      refine V.icmp_eq 97 dX12_court_83 (by decide) (fun c27 => ?_) (fun c27 => ?_)
      · rw [if_pos c27] at hf
        obtain rfl := Option.some.inj hf
        exact V.lo [(0, some (.ref z)), (1, some (.int g1))] (by simp only [Subs]; repeat' first | exact trivial | constructor | rfl) hk
      · rw [if_neg c27] at hf
        refine V.aload_n dX12_court_86 rfl ?_
        obtain ⟨I30, hk29, hf⟩ := bnd_some hf
        try dsimp only at hf
        refine V.inv cv_X12_201 (c_r_readLine hs_z hk29) dX12_court_87 (hs_z.1 0 (12, 0) rfl) (by decide) rfl rfl rfl (Nat.le_of_ble_eq_true rfl) (by decide) (by decide) (Nat.le_refl _) (Nat.le_refl _) (fun _ _ hq => ?_)
        obtain ⟨rfl, rfl⟩ := hq
        refine V.aload_n dX12_court_90 rfl ?_
        obtain ⟨I33, hk32, hf⟩ := bnd_some hf
        try dsimp only at hf
        refine V.inv cv_X12_198 (c_r_ends hs_z hk32) dX12_court_91 (hs_z.1 0 (12, 0) rfl) (by decide) rfl rfl rfl (Nat.le_of_ble_eq_true rfl) (by decide) (by decide) (Nat.le_refl _) (Nat.le_refl _) (fun _ _ hq => ?_)
        obtain ⟨rfl, rfl⟩ := hq
        refine V.goto 70 dX12_court_94 (by decide) ?_
        exact V.lo [(0, some (.ref z)), (1, some (.int g1))] (by simp only [Subs]; repeat' first | exact trivial | constructor | rfl) (ih _ hf hk)
theorem l_r_court_141 {l : Launch} {D : va_G} {E : Nat → ClassId} {B : Nat → Prop} {n F : Nat} {Q : Option Value → HT → Prop} {T : Nat → Option (Nat × Nat)} {J : Nat → Nat → Int64} {P : Nat → Nat → Option Nat} {z : Nat} {g1 : Int32} (hs_z : isMd T P z)  (r : Int32 × (Nat → Nat → Int32)) : ∀ (k : Nat) (l2 : Int32) (I : (Nat → Nat → Int32)), r_court_141 F z g1 k l2 I = some r → V l D E B yX12_court cX12_court 3 (some .int) 93 0 0 Q 0 0 (n, T, r.2, J, P) 166 [(0, some (.ref z)), (1, some (.int g1)), (2, some (.int (r.1)))] [] → V l D E B yX12_court cX12_court 3 (some .int) 93 0 0 Q 0 0 (n, T, I, J, P) 141 [(0, some (.ref z)), (1, some (.int g1)), (2, some (.int l2))] [] := by
  intro k
  induction k with
  | zero =>
    intro l2 I hf hk
    cases hf
  | succ k ih =>
    intro l2 I hf hk
    unfold r_court_141 at hf
    refine V.iload_n dX12_court_141 rfl ?_
    refine V.sipush (v := 1297) dX12_court_142 (by decide) ?_
    refine V.icmp_ge 166 dX12_court_145 (by decide) (fun c43 => ?_) (fun c43 => ?_)
    · rw [if_pos c43] at hf
      obtain rfl := Option.some.inj hf
      exact V.lo [(0, some (.ref z)), (1, some (.int g1)), (2, some (.int l2))] (by simp only [Subs]; repeat' first | exact trivial | constructor | rfl) hk
    · rw [if_neg c43] at hf
      refine V.aload_n dX12_court_148 rfl ?_
      refine V.getr fl_X12_13 dX12_court_149 (hs_z.1 0 (12, 0) rfl) (hs_z.2 0 1 1 rfl) (by decide) rfl ?_
      refine V.iload_n dX12_court_152 rfl ?_
      refine V.aload_n dX12_court_153 rfl ?_
      refine V.getr fl_X12_24 dX12_court_154 (hs_z.1 0 (12, 0) rfl) (hs_z.2 0 4 4 rfl) (by decide) rfl ?_
      refine V.iload_n dX12_court_157 rfl ?_
      obtain ⟨hb44, hf⟩ := chk_some hf
      refine V.iald dX12_court_158 (hs_z.1 4 (20, 1297) rfl) hb44 ?_
      obtain ⟨hb45, hf⟩ := chk_some hf
      refine V.iastE dX12_court_159 (hs_z.1 1 (20, 3891) rfl) hb45 (fun I46 e47 => ?_)
      rw [← e47] at hf
      try dsimp only at hf
      clear e47
      refine V.iinc (v := (l2 + 1)) dX12_court_160 rfl rfl (by first | exact rfl | exact trivial) ?_
      refine V.goto 141 dX12_court_163 (by decide) ?_
      exact V.lo [(0, some (.ref z)), (1, some (.int g1)), (2, some (.int (l2 + 1)))] (by simp only [Subs]; repeat' first | exact trivial | constructor | rfl) (ih _ _ hf hk)
theorem l_r_court_168 {l : Launch} {D : va_G} {E : Nat → ClassId} {B : Nat → Prop} {n F : Nat} {Q : Option Value → HT → Prop} {T : Nat → Option (Nat × Nat)} {J : Nat → Nat → Int64} {P : Nat → Nat → Option Nat} {z : Nat} {g1 : Int32} (hs_z : isMd T P z)  (r : Int32 × (Nat → Nat → Int32)) : ∀ (k : Nat) (l2 : Int32) (I : (Nat → Nat → Int32)), r_court_168 F z g1 k l2 I = some r → V l D E B yX12_court cX12_court 3 (some .int) 93 0 0 Q 0 0 (n, T, r.2, J, P) 190 [(0, some (.ref z)), (1, some (.int g1)), (2, some (.int (r.1)))] [] → V l D E B yX12_court cX12_court 3 (some .int) 93 0 0 Q 0 0 (n, T, I, J, P) 168 [(0, some (.ref z)), (1, some (.int g1)), (2, some (.int l2))] [] := by
  intro k
  induction k with
  | zero =>
    intro l2 I hf hk
    cases hf
  | succ k ih =>
    intro l2 I hf hk
    unfold r_court_168 at hf
    refine V.iload_n dX12_court_168 rfl ?_
    refine V.bipush (v := 6) dX12_court_169 (by decide) ?_
    refine V.icmp_ge 190 dX12_court_171 (by decide) (fun c52 => ?_) (fun c52 => ?_)
    · rw [if_pos c52] at hf
      obtain rfl := Option.some.inj hf
      exact V.lo [(0, some (.ref z)), (1, some (.int g1)), (2, some (.int l2))] (by simp only [Subs]; repeat' first | exact trivial | constructor | rfl) hk
    · rw [if_neg c52] at hf
      refine V.aload_n dX12_court_174 rfl ?_
      refine V.getr fl_X12_13 dX12_court_175 (hs_z.1 0 (12, 0) rfl) (hs_z.2 0 1 1 rfl) (by decide) rfl ?_
      refine V.bipush (v := 35) dX12_court_178 (by decide) ?_
      refine V.iload_n dX12_court_180 rfl ?_
      refine V.iadd dX12_court_181 ?_
      refine V.iload_n dX12_court_182 rfl ?_
      obtain ⟨hb53, hf⟩ := chk_some hf
      refine V.iastE dX12_court_183 (hs_z.1 1 (20, 3891) rfl) hb53 (fun I54 e55 => ?_)
      rw [← e55] at hf
      try dsimp only at hf
      clear e55
      refine V.iinc (v := (l2 + 1)) dX12_court_184 rfl rfl (by first | exact rfl | exact trivial) ?_
      refine V.goto 168 dX12_court_187 (by decide) ?_
      exact V.lo [(0, some (.ref z)), (1, some (.int g1)), (2, some (.int (l2 + 1)))] (by simp only [Subs]; repeat' first | exact trivial | constructor | rfl) (ih _ _ hf hk)
theorem c_r_court {l : Launch} {D : va_G} {E : Nat → ClassId} {B : Nat → Prop} {n F : Nat} {T : Nat → Option (Nat × Nat)} {I : Nat → Nat → Int32} {J : Nat → Nat → Int64} {P : Nat → Nat → Option Nat} {z : Nat} {v1 : Int32} {r : Int32 × (Nat → Nat → Int32)} (hs_z : isMd T P z) (hf : r_court F T I z v1 = some r) : Ct l D E B yX12_court cX12_court 3 (some .int) 93 0 0 [.ref z, .int v1] (n, T, I, J, P) (Ret (some (.int r.1)) (n, T, r.2, J, P)) := by
  unfold r_court at hf
  refine Ct.ofV (by decide) (Nat.le_of_ble_eq_true rfl) ?_
  refine V.aload_n dX12_court_0 rfl ?_
  refine V.iconst (v := 0) dX12_court_1 (by decide) ?_
  refine V.putiE fl_X12_1 dX12_court_2 (hs_z.1 0 (12, 0) rfl) (by decide) (fun h => by cases h) rfl rfl rfl (Nat.le_of_ble_eq_true rfl) (fun I1 e2 => ?_)
  rw [← e2] at hf
  try dsimp only at hf
  clear e2
  refine V.iload_n dX12_court_5 rfl ?_
  refine V.i2l dX12_court_6 ?_
  refine V.lconst (v := 0) dX12_court_7 (by decide) ?_
  refine V.aload_n dX12_court_8 rfl ?_
  refine V.getf fl_X12_83 dX12_court_9 (hs_z.1 0 (12, 0) rfl) (by decide) rfl ?_
  refine V.i2l dX12_court_12 ?_
  refine V.ins cs_X12_145 (c_r_within) dX12_court_13 rfl rfl (Nat.le_of_ble_eq_true rfl) (by decide) (by decide) (Nat.le_refl _) (Nat.le_refl _) (fun _ _ hq => ?_)
  obtain ⟨rfl, rfl⟩ := hq
  refine V.if_ne 22 dX12_court_16 (by decide) (fun c3 => ?_) (fun c3 => ?_)
  · rw [if_neg c3] at hf
    refine V.aload_n dX12_court_22 rfl ?_
    refine V.iload_n dX12_court_23 rfl ?_
    refine V.putiE fl_X12_86 dX12_court_24 (hs_z.1 0 (12, 0) rfl) (by decide) (fun h => by cases h) rfl rfl rfl (Nat.le_of_ble_eq_true rfl) (fun I4 e5 => ?_)
    rw [← e5] at hf
    try dsimp only at hf
    clear e5
    refine V.aload_n dX12_court_27 rfl ?_
    refine V.iconst (v := 0) dX12_court_28 (by decide) ?_
    refine V.putiE fl_X12_83 dX12_court_29 (hs_z.1 0 (12, 0) rfl) (by decide) (fun h => by cases h) rfl rfl rfl (Nat.le_of_ble_eq_true rfl) (fun I6 e7 => ?_)
    rw [← e7] at hf
    try dsimp only at hf
    clear e7
    refine V.aload_n dX12_court_32 rfl ?_
    refine V.iconst (v := 0) dX12_court_33 (by decide) ?_
    refine V.putiE fl_X12_104 dX12_court_34 (hs_z.1 0 (12, 0) rfl) (by decide) (fun h => by cases h) rfl rfl rfl (Nat.le_of_ble_eq_true rfl) (fun I8 e9 => ?_)
    rw [← e9] at hf
    try dsimp only at hf
    clear e9
    refine V.aload_n dX12_court_37 rfl ?_
    refine V.iconst (v := 0) dX12_court_38 (by decide) ?_
    refine V.putiE fl_X12_129 dX12_court_39 (hs_z.1 0 (12, 0) rfl) (by decide) (fun h => by cases h) rfl rfl rfl (Nat.le_of_ble_eq_true rfl) (fun I10 e11 => ?_)
    rw [← e11] at hf
    try dsimp only at hf
    clear e11
    refine V.aload_n dX12_court_42 rfl ?_
    refine V.getr fl_X12_24 dX12_court_43 (hs_z.1 0 (12, 0) rfl) (hs_z.2 0 4 4 rfl) (by decide) rfl ?_
    obtain ⟨I14, hk13, hf⟩ := bnd_some hf
    try dsimp only at hf
    refine V.ins cs_X12_79 (c_r_plain (lenT_of (hs_z.1 4 (20, 1297) rfl)) hk13) dX12_court_46 rfl rfl (Nat.le_of_ble_eq_true rfl) (by decide) (by decide) (Nat.le_refl _) (Nat.le_refl _) (fun _ _ hq => ?_)
    obtain ⟨rfl, rfl⟩ := hq
    refine V.aload_n dX12_court_49 rfl ?_
    obtain ⟨I17, hk16, hf⟩ := bnd_some hf
    try dsimp only at hf
    refine V.inv cv_X12_138 (c_r_nextToken hs_z hk16) dX12_court_50 (hs_z.1 0 (12, 0) rfl) (by decide) rfl rfl rfl (Nat.le_of_ble_eq_true rfl) (by decide) (by decide) (Nat.le_refl _) (Nat.le_refl _) (fun _ _ hq => ?_)
    obtain ⟨rfl, rfl⟩ := hq
    refine V.aload_n dX12_court_53 rfl ?_
    refine V.iconst (v := 0) dX12_court_54 (by decide) ?_
    obtain ⟨⟨u20, I21⟩, hk19, hf⟩ := bnd_some hf
    try dsimp only at hf
    refine V.inv cv_X12_161 (c_r_eats hs_z hk19) dX12_court_55 (hs_z.1 0 (12, 0) rfl) (by decide) rfl rfl rfl (Nat.le_of_ble_eq_true rfl) (by decide) (by decide) (Nat.le_refl _) (Nat.le_refl _) (fun _ _ hq => ?_)
    obtain ⟨rfl, rfl⟩ := hq
    try dsimp only
    refine V.if_ne 66 dX12_court_58 (by decide) (fun c22 => ?_) (fun c22 => ?_)
    · rw [if_neg c22] at hf
      refine V.aload_n dX12_court_66 rfl ?_
      obtain ⟨I25, hk24, hf⟩ := bnd_some hf
      try dsimp only at hf
      refine V.inv cv_X12_198 (c_r_ends hs_z hk24) dX12_court_67 (hs_z.1 0 (12, 0) rfl) (by decide) rfl rfl rfl (Nat.le_of_ble_eq_true rfl) (by decide) (by decide) (Nat.le_refl _) (Nat.le_refl _) (fun _ _ hq => ?_)
      obtain ⟨rfl, rfl⟩ := hq
      obtain ⟨I36, hk35, hf⟩ := bnd_some hf
      try dsimp only at hf
      refine V.lo [(0, some (.ref z)), (1, some (.int v1))] (by simp only [Subs]; repeat' first | exact trivial | constructor | rfl) (l_r_court_70 hs_z _ F _ hk35 ?_)
      try dsimp only
      refine V.aload_n dX12_court_97 rfl ?_
      refine V.aload_n dX12_court_98 rfl ?_
      refine V.getf fl_X12_129 dX12_court_99 (hs_z.1 0 (12, 0) rfl) (by decide) rfl ?_
      refine V.putiE fl_X12_204 dX12_court_102 (hs_z.1 0 (12, 0) rfl) (by decide) (fun h => by cases h) rfl rfl rfl (Nat.le_of_ble_eq_true rfl) (fun I37 e38 => ?_)
      rw [← e38] at hf
      try dsimp only at hf
      clear e38
      refine V.aload_n dX12_court_105 rfl ?_
      refine V.aload_n dX12_court_106 rfl ?_
      refine V.getf fl_X12_129 dX12_court_107 (hs_z.1 0 (12, 0) rfl) (by decide) rfl ?_
      refine V.if_ne 117 dX12_court_110 (by decide) (fun c39 => ?_) (fun c39 => ?_)
      · rw [if_neg c39] at hf
        refine V.aload_n dX12_court_117 rfl ?_
        refine V.getf fl_X12_132 dX12_court_118 (hs_z.1 0 (12, 0) rfl) (by decide) rfl ?_
        refine V.putiE fl_X12_27 dX12_court_121 (hs_z.1 0 (12, 0) rfl) (by decide) (fun h => by cases h) rfl rfl rfl (Nat.le_of_ble_eq_true rfl) (fun I40 e41 => ?_)
        rw [← e41] at hf
        try dsimp only at hf
        clear e41
        refine V.aload_n dX12_court_124 rfl ?_
        refine V.getf fl_X12_129 dX12_court_125 (hs_z.1 0 (12, 0) rfl) (by decide) rfl ?_
        refine V.if_eq 139 dX12_court_128 (by decide) (fun c42 => ?_) (fun c42 => ?_)
        · rw [if_pos c42] at hf
          refine V.iconst (v := 0) dX12_court_139 (by decide) ?_
          refine V.istore_n dX12_court_140 rfl (by decide) (by first | exact rfl | exact trivial) ?_
          obtain ⟨⟨m50, I51⟩, hk49, hf⟩ := bnd_some hf
          try dsimp only at hf
          refine V.lo [(0, some (.ref z)), (1, some (.int v1)), (2, some (.int 0))] (by simp only [Subs]; repeat' first | exact trivial | constructor | rfl) (l_r_court_141 hs_z _ F _ _ hk49 ?_)
          try dsimp only
          refine V.iconst (v := 0) dX12_court_166 (by decide) ?_
          refine V.istore_n dX12_court_167 rfl (by decide) (by first | exact rfl | exact trivial) ?_
          obtain ⟨⟨m58, I59⟩, hk57, hf⟩ := bnd_some hf
          try dsimp only at hf
          refine V.lo [(0, some (.ref z)), (1, some (.int v1)), (2, some (.int 0))] (by simp only [Subs]; repeat' first | exact trivial | constructor | rfl) (l_r_court_168 hs_z _ F _ _ hk57 ?_)
          try dsimp only
          refine V.aload_n dX12_court_190 rfl ?_
          obtain ⟨I62, hk61, hf⟩ := bnd_some hf
          try dsimp only at hf
          refine V.inv cv_X12_207 (c_r_evenings hs_z hk61) dX12_court_191 (hs_z.1 0 (12, 0) rfl) (by decide) rfl rfl rfl (Nat.le_of_ble_eq_true rfl) (by decide) (by decide) (Nat.le_refl _) (Nat.le_refl _) (fun _ _ hq => ?_)
          obtain ⟨rfl, rfl⟩ := hq
          refine V.aload_n dX12_court_194 rfl ?_
          refine V.getr fl_X12_13 dX12_court_195 (hs_z.1 0 (12, 0) rfl) (hs_z.2 0 1 1 rfl) (by decide) rfl ?_
          refine V.iconst (v := 0) dX12_court_198 (by decide) ?_
          refine V.iald dX12_court_199 (hs_z.1 1 (20, 3891) rfl) (vp_lit (by decide)) ?_
          obtain rfl := Option.some.inj hf
          exact V.iret dX12_court_200 rfl (Nat.le_refl _) (Nat.le_refl _) ⟨rfl, rfl⟩
        · rw [if_neg c42] at hf
          refine V.bipush (v := -30) dX12_court_131 (by decide) ?_
          refine V.aload_n dX12_court_133 rfl ?_
          refine V.getf fl_X12_129 dX12_court_134 (hs_z.1 0 (12, 0) rfl) (by decide) rfl ?_
          refine V.isub dX12_court_137 ?_
          obtain rfl := Option.some.inj hf
          exact V.iret dX12_court_138 rfl (Nat.le_refl _) (Nat.le_refl _) ⟨rfl, rfl⟩
      · rw [if_pos c39] at hf
        refine V.iconst (v := -1) dX12_court_113 (by decide) ?_
        refine V.goto 121 dX12_court_114 (by decide) ?_
        refine V.putiE fl_X12_27 dX12_court_121 (hs_z.1 0 (12, 0) rfl) (by decide) (fun h => by cases h) rfl rfl rfl (Nat.le_of_ble_eq_true rfl) (fun I63 e64 => ?_)
        rw [← e64] at hf
        try dsimp only at hf
        clear e64
        refine V.aload_n dX12_court_124 rfl ?_
        refine V.getf fl_X12_129 dX12_court_125 (hs_z.1 0 (12, 0) rfl) (by decide) rfl ?_
        refine V.if_eq 139 dX12_court_128 (by decide) (fun c65 => ?_) (fun c65 => ?_)
        · rw [if_pos c65] at hf
          refine V.iconst (v := 0) dX12_court_139 (by decide) ?_
          refine V.istore_n dX12_court_140 rfl (by decide) (by first | exact rfl | exact trivial) ?_
          obtain ⟨⟨m68, I69⟩, hk67, hf⟩ := bnd_some hf
          try dsimp only at hf
          refine V.lo [(0, some (.ref z)), (1, some (.int v1)), (2, some (.int 0))] (by simp only [Subs]; repeat' first | exact trivial | constructor | rfl) (l_r_court_141 hs_z _ F _ _ hk67 ?_)
          try dsimp only
          refine V.iconst (v := 0) dX12_court_166 (by decide) ?_
          refine V.istore_n dX12_court_167 rfl (by decide) (by first | exact rfl | exact trivial) ?_
          obtain ⟨⟨m72, I73⟩, hk71, hf⟩ := bnd_some hf
          try dsimp only at hf
          refine V.lo [(0, some (.ref z)), (1, some (.int v1)), (2, some (.int 0))] (by simp only [Subs]; repeat' first | exact trivial | constructor | rfl) (l_r_court_168 hs_z _ F _ _ hk71 ?_)
          try dsimp only
          refine V.aload_n dX12_court_190 rfl ?_
          obtain ⟨I76, hk75, hf⟩ := bnd_some hf
          try dsimp only at hf
          refine V.inv cv_X12_207 (c_r_evenings hs_z hk75) dX12_court_191 (hs_z.1 0 (12, 0) rfl) (by decide) rfl rfl rfl (Nat.le_of_ble_eq_true rfl) (by decide) (by decide) (Nat.le_refl _) (Nat.le_refl _) (fun _ _ hq => ?_)
          obtain ⟨rfl, rfl⟩ := hq
          refine V.aload_n dX12_court_194 rfl ?_
          refine V.getr fl_X12_13 dX12_court_195 (hs_z.1 0 (12, 0) rfl) (hs_z.2 0 1 1 rfl) (by decide) rfl ?_
          refine V.iconst (v := 0) dX12_court_198 (by decide) ?_
          refine V.iald dX12_court_199 (hs_z.1 1 (20, 3891) rfl) (vp_lit (by decide)) ?_
          obtain rfl := Option.some.inj hf
          exact V.iret dX12_court_200 rfl (Nat.le_refl _) (Nat.le_refl _) ⟨rfl, rfl⟩
        · rw [if_neg c65] at hf
          refine V.bipush (v := -30) dX12_court_131 (by decide) ?_
          refine V.aload_n dX12_court_133 rfl ?_
          refine V.getf fl_X12_129 dX12_court_134 (hs_z.1 0 (12, 0) rfl) (by decide) rfl ?_
          refine V.isub dX12_court_137 ?_
          obtain rfl := Option.some.inj hf
          exact V.iret dX12_court_138 rfl (Nat.le_refl _) (Nat.le_refl _) ⟨rfl, rfl⟩
    · rw [if_pos c22] at hf
      refine V.aload_n dX12_court_61 rfl ?_
      refine V.iconst (v := 2) dX12_court_62 (by decide) ?_
      obtain ⟨I79, hk78, hf⟩ := bnd_some hf
      try dsimp only at hf
      refine V.inv cv_X12_141 (c_r_fails hs_z hk78) dX12_court_63 (hs_z.1 0 (12, 0) rfl) (by decide) rfl rfl rfl (Nat.le_of_ble_eq_true rfl) (by decide) (by decide) (Nat.le_refl _) (Nat.le_refl _) (fun _ _ hq => ?_)
      obtain ⟨rfl, rfl⟩ := hq
      refine V.aload_n dX12_court_66 rfl ?_
      obtain ⟨I82, hk81, hf⟩ := bnd_some hf
      try dsimp only at hf
      refine V.inv cv_X12_198 (c_r_ends hs_z hk81) dX12_court_67 (hs_z.1 0 (12, 0) rfl) (by decide) rfl rfl rfl (Nat.le_of_ble_eq_true rfl) (by decide) (by decide) (Nat.le_refl _) (Nat.le_refl _) (fun _ _ hq => ?_)
      obtain ⟨rfl, rfl⟩ := hq
      obtain ⟨I85, hk84, hf⟩ := bnd_some hf
      try dsimp only at hf
      refine V.lo [(0, some (.ref z)), (1, some (.int v1))] (by simp only [Subs]; repeat' first | exact trivial | constructor | rfl) (l_r_court_70 hs_z _ F _ hk84 ?_)
      try dsimp only
      refine V.aload_n dX12_court_97 rfl ?_
      refine V.aload_n dX12_court_98 rfl ?_
      refine V.getf fl_X12_129 dX12_court_99 (hs_z.1 0 (12, 0) rfl) (by decide) rfl ?_
      refine V.putiE fl_X12_204 dX12_court_102 (hs_z.1 0 (12, 0) rfl) (by decide) (fun h => by cases h) rfl rfl rfl (Nat.le_of_ble_eq_true rfl) (fun I86 e87 => ?_)
      rw [← e87] at hf
      try dsimp only at hf
      clear e87
      refine V.aload_n dX12_court_105 rfl ?_
      refine V.aload_n dX12_court_106 rfl ?_
      refine V.getf fl_X12_129 dX12_court_107 (hs_z.1 0 (12, 0) rfl) (by decide) rfl ?_
      refine V.if_ne 117 dX12_court_110 (by decide) (fun c88 => ?_) (fun c88 => ?_)
      · rw [if_neg c88] at hf
        refine V.aload_n dX12_court_117 rfl ?_
        refine V.getf fl_X12_132 dX12_court_118 (hs_z.1 0 (12, 0) rfl) (by decide) rfl ?_
        refine V.putiE fl_X12_27 dX12_court_121 (hs_z.1 0 (12, 0) rfl) (by decide) (fun h => by cases h) rfl rfl rfl (Nat.le_of_ble_eq_true rfl) (fun I89 e90 => ?_)
        rw [← e90] at hf
        try dsimp only at hf
        clear e90
        refine V.aload_n dX12_court_124 rfl ?_
        refine V.getf fl_X12_129 dX12_court_125 (hs_z.1 0 (12, 0) rfl) (by decide) rfl ?_
        refine V.if_eq 139 dX12_court_128 (by decide) (fun c91 => ?_) (fun c91 => ?_)
        · rw [if_pos c91] at hf
          refine V.iconst (v := 0) dX12_court_139 (by decide) ?_
          refine V.istore_n dX12_court_140 rfl (by decide) (by first | exact rfl | exact trivial) ?_
          obtain ⟨⟨m94, I95⟩, hk93, hf⟩ := bnd_some hf
          try dsimp only at hf
          refine V.lo [(0, some (.ref z)), (1, some (.int v1)), (2, some (.int 0))] (by simp only [Subs]; repeat' first | exact trivial | constructor | rfl) (l_r_court_141 hs_z _ F _ _ hk93 ?_)
          try dsimp only
          refine V.iconst (v := 0) dX12_court_166 (by decide) ?_
          refine V.istore_n dX12_court_167 rfl (by decide) (by first | exact rfl | exact trivial) ?_
          obtain ⟨⟨m98, I99⟩, hk97, hf⟩ := bnd_some hf
          try dsimp only at hf
          refine V.lo [(0, some (.ref z)), (1, some (.int v1)), (2, some (.int 0))] (by simp only [Subs]; repeat' first | exact trivial | constructor | rfl) (l_r_court_168 hs_z _ F _ _ hk97 ?_)
          try dsimp only
          refine V.aload_n dX12_court_190 rfl ?_
          obtain ⟨I102, hk101, hf⟩ := bnd_some hf
          try dsimp only at hf
          refine V.inv cv_X12_207 (c_r_evenings hs_z hk101) dX12_court_191 (hs_z.1 0 (12, 0) rfl) (by decide) rfl rfl rfl (Nat.le_of_ble_eq_true rfl) (by decide) (by decide) (Nat.le_refl _) (Nat.le_refl _) (fun _ _ hq => ?_)
          obtain ⟨rfl, rfl⟩ := hq
          refine V.aload_n dX12_court_194 rfl ?_
          refine V.getr fl_X12_13 dX12_court_195 (hs_z.1 0 (12, 0) rfl) (hs_z.2 0 1 1 rfl) (by decide) rfl ?_
          refine V.iconst (v := 0) dX12_court_198 (by decide) ?_
          refine V.iald dX12_court_199 (hs_z.1 1 (20, 3891) rfl) (vp_lit (by decide)) ?_
          obtain rfl := Option.some.inj hf
          exact V.iret dX12_court_200 rfl (Nat.le_refl _) (Nat.le_refl _) ⟨rfl, rfl⟩
        · rw [if_neg c91] at hf
          refine V.bipush (v := -30) dX12_court_131 (by decide) ?_
          refine V.aload_n dX12_court_133 rfl ?_
          refine V.getf fl_X12_129 dX12_court_134 (hs_z.1 0 (12, 0) rfl) (by decide) rfl ?_
          refine V.isub dX12_court_137 ?_
          obtain rfl := Option.some.inj hf
          exact V.iret dX12_court_138 rfl (Nat.le_refl _) (Nat.le_refl _) ⟨rfl, rfl⟩
      · rw [if_pos c88] at hf
        refine V.iconst (v := -1) dX12_court_113 (by decide) ?_
        refine V.goto 121 dX12_court_114 (by decide) ?_
        refine V.putiE fl_X12_27 dX12_court_121 (hs_z.1 0 (12, 0) rfl) (by decide) (fun h => by cases h) rfl rfl rfl (Nat.le_of_ble_eq_true rfl) (fun I103 e104 => ?_)
        rw [← e104] at hf
        try dsimp only at hf
        clear e104
        refine V.aload_n dX12_court_124 rfl ?_
        refine V.getf fl_X12_129 dX12_court_125 (hs_z.1 0 (12, 0) rfl) (by decide) rfl ?_
        refine V.if_eq 139 dX12_court_128 (by decide) (fun c105 => ?_) (fun c105 => ?_)
        · rw [if_pos c105] at hf
          refine V.iconst (v := 0) dX12_court_139 (by decide) ?_
          refine V.istore_n dX12_court_140 rfl (by decide) (by first | exact rfl | exact trivial) ?_
          obtain ⟨⟨m108, I109⟩, hk107, hf⟩ := bnd_some hf
          try dsimp only at hf
          refine V.lo [(0, some (.ref z)), (1, some (.int v1)), (2, some (.int 0))] (by simp only [Subs]; repeat' first | exact trivial | constructor | rfl) (l_r_court_141 hs_z _ F _ _ hk107 ?_)
          try dsimp only
          refine V.iconst (v := 0) dX12_court_166 (by decide) ?_
          refine V.istore_n dX12_court_167 rfl (by decide) (by first | exact rfl | exact trivial) ?_
          obtain ⟨⟨m112, I113⟩, hk111, hf⟩ := bnd_some hf
          try dsimp only at hf
          refine V.lo [(0, some (.ref z)), (1, some (.int v1)), (2, some (.int 0))] (by simp only [Subs]; repeat' first | exact trivial | constructor | rfl) (l_r_court_168 hs_z _ F _ _ hk111 ?_)
          try dsimp only
          refine V.aload_n dX12_court_190 rfl ?_
          obtain ⟨I116, hk115, hf⟩ := bnd_some hf
          try dsimp only at hf
          refine V.inv cv_X12_207 (c_r_evenings hs_z hk115) dX12_court_191 (hs_z.1 0 (12, 0) rfl) (by decide) rfl rfl rfl (Nat.le_of_ble_eq_true rfl) (by decide) (by decide) (Nat.le_refl _) (Nat.le_refl _) (fun _ _ hq => ?_)
          obtain ⟨rfl, rfl⟩ := hq
          refine V.aload_n dX12_court_194 rfl ?_
          refine V.getr fl_X12_13 dX12_court_195 (hs_z.1 0 (12, 0) rfl) (hs_z.2 0 1 1 rfl) (by decide) rfl ?_
          refine V.iconst (v := 0) dX12_court_198 (by decide) ?_
          refine V.iald dX12_court_199 (hs_z.1 1 (20, 3891) rfl) (vp_lit (by decide)) ?_
          obtain rfl := Option.some.inj hf
          exact V.iret dX12_court_200 rfl (Nat.le_refl _) (Nat.le_refl _) ⟨rfl, rfl⟩
        · rw [if_neg c105] at hf
          refine V.bipush (v := -30) dX12_court_131 (by decide) ?_
          refine V.aload_n dX12_court_133 rfl ?_
          refine V.getf fl_X12_129 dX12_court_134 (hs_z.1 0 (12, 0) rfl) (by decide) rfl ?_
          refine V.isub dX12_court_137 ?_
          obtain rfl := Option.some.inj hf
          exact V.iret dX12_court_138 rfl (Nat.le_refl _) (Nat.le_refl _) ⟨rfl, rfl⟩
  · rw [if_pos c3] at hf
    refine V.bipush (v := -3) dX12_court_19 (by decide) ?_
    obtain rfl := Option.some.inj hf
    exact V.iret dX12_court_21 rfl (Nat.le_refl _) (Nat.le_refl _) ⟨rfl, rfl⟩
theorem dX7_readSum_0 : decode cX7_readSum 0 = .ok (.aload_n 0, 1) := by decide +kernel
theorem dX7_readSum_1 : decode cX7_readSum 1 = .ok (.iload_n 1, 1) := by decide +kernel
theorem dX7_readSum_2 : decode cX7_readSum 2 = .ok (.invokevirtual 167, 3) := by decide +kernel
theorem dX7_readSum_5 : decode cX7_readSum 5 = .ok (.istore_n 2, 1) := by decide +kernel
theorem dX7_readSum_6 : decode cX7_readSum 6 = .ok (.iconst 0, 1) := by decide +kernel
theorem dX7_readSum_7 : decode cX7_readSum 7 = .ok (.istore_n 3, 1) := by decide +kernel
theorem dX7_readSum_8 : decode cX7_readSum 8 = .ok (.iload_n 3, 1) := by decide +kernel
theorem dX7_readSum_9 : decode cX7_readSum 9 = .ok (.sipush 900, 3) := by decide +kernel
theorem dX7_readSum_12 : decode cX7_readSum 12 = .ok (.if_icmp .ge 65, 3) := by decide +kernel
theorem dX7_readSum_15 : decode cX7_readSum 15 = .ok (.iload_n 2, 1) := by decide +kernel
theorem dX7_readSum_16 : decode cX7_readSum 16 = .ok (.ifCond .eq 61, 3) := by decide +kernel
theorem dX7_readSum_19 : decode cX7_readSum 19 = .ok (.aload_n 0, 1) := by decide +kernel
theorem dX7_readSum_20 : decode cX7_readSum 20 = .ok (.getfield 56, 3) := by decide +kernel
theorem dX7_readSum_23 : decode cX7_readSum 23 = .ok (.bipush 43, 2) := by decide +kernel
theorem dX7_readSum_25 : decode cX7_readSum 25 = .ok (.if_icmp .eq 12, 3) := by decide +kernel
theorem dX7_readSum_28 : decode cX7_readSum 28 = .ok (.aload_n 0, 1) := by decide +kernel
theorem dX7_readSum_29 : decode cX7_readSum 29 = .ok (.getfield 56, 3) := by decide +kernel
theorem dX7_readSum_32 : decode cX7_readSum 32 = .ok (.bipush 45, 2) := by decide +kernel
theorem dX7_readSum_34 : decode cX7_readSum 34 = .ok (.if_icmp .ne 43, 3) := by decide +kernel
theorem dX7_readSum_37 : decode cX7_readSum 37 = .ok (.aload_n 0, 1) := by decide +kernel
theorem dX7_readSum_38 : decode cX7_readSum 38 = .ok (.getfield 56, 3) := by decide +kernel
theorem dX7_readSum_41 : decode cX7_readSum 41 = .ok (.bipush 43, 2) := by decide +kernel
theorem dX7_readSum_43 : decode cX7_readSum 43 = .ok (.if_icmp .ne 7, 3) := by decide +kernel
theorem dX7_readSum_46 : decode cX7_readSum 46 = .ok (.iconst 2, 1) := by decide +kernel
theorem dX7_readSum_47 : decode cX7_readSum 47 = .ok (.goto 4, 3) := by decide +kernel
theorem dX7_readSum_50 : decode cX7_readSum 50 = .ok (.iconst 3, 1) := by decide +kernel
theorem dX7_readSum_51 : decode cX7_readSum 51 = .ok (.istore 4, 2) := by decide +kernel
theorem dX7_readSum_53 : decode cX7_readSum 53 = .ok (.aload_n 0, 1) := by decide +kernel
theorem dX7_readSum_54 : decode cX7_readSum 54 = .ok (.invokevirtual 45, 3) := by decide +kernel
theorem dX7_readSum_57 : decode cX7_readSum 57 = .ok (.aload_n 0, 1) := by decide +kernel
theorem dX7_readSum_58 : decode cX7_readSum 58 = .ok (.iload_n 1, 1) := by decide +kernel
theorem dX7_readSum_59 : decode cX7_readSum 59 = .ok (.invokevirtual 167, 3) := by decide +kernel
theorem dX7_readSum_62 : decode cX7_readSum 62 = .ok (.istore_n 2, 1) := by decide +kernel
theorem dX7_readSum_63 : decode cX7_readSum 63 = .ok (.aload_n 0, 1) := by decide +kernel
theorem dX7_readSum_64 : decode cX7_readSum 64 = .ok (.iload 4, 2) := by decide +kernel
theorem dX7_readSum_66 : decode cX7_readSum 66 = .ok (.iconst 0, 1) := by decide +kernel
theorem dX7_readSum_67 : decode cX7_readSum 67 = .ok (.invokevirtual 170, 3) := by decide +kernel
theorem dX7_readSum_70 : decode cX7_readSum 70 = .ok (.pop, 1) := by decide +kernel
theorem dX7_readSum_71 : decode cX7_readSum 71 = .ok (.iinc 3 1, 3) := by decide +kernel
theorem dX7_readSum_74 : decode cX7_readSum 74 = .ok (.goto (-66), 3) := by decide +kernel
theorem dX7_readSum_77 : decode cX7_readSum 77 = .ok (.iload_n 2, 1) := by decide +kernel
theorem dX7_readSum_78 : decode cX7_readSum 78 = .ok (.ireturn, 1) := by decide +kernel
theorem dX7_readTerm_0 : decode cX7_readTerm 0 = .ok (.aload_n 0, 1) := by decide +kernel
theorem dX7_readTerm_1 : decode cX7_readTerm 1 = .ok (.iload_n 1, 1) := by decide +kernel
theorem dX7_readTerm_2 : decode cX7_readTerm 2 = .ok (.invokevirtual 173, 3) := by decide +kernel
theorem dX7_readTerm_5 : decode cX7_readTerm 5 = .ok (.istore_n 2, 1) := by decide +kernel
theorem dX7_readTerm_6 : decode cX7_readTerm 6 = .ok (.iconst 0, 1) := by decide +kernel
theorem dX7_readTerm_7 : decode cX7_readTerm 7 = .ok (.istore_n 3, 1) := by decide +kernel
theorem dX7_readTerm_8 : decode cX7_readTerm 8 = .ok (.iload_n 3, 1) := by decide +kernel
theorem dX7_readTerm_9 : decode cX7_readTerm 9 = .ok (.sipush 900, 3) := by decide +kernel
theorem dX7_readTerm_12 : decode cX7_readTerm 12 = .ok (.if_icmp .ge 39, 3) := by decide +kernel
theorem dX7_readTerm_15 : decode cX7_readTerm 15 = .ok (.iload_n 2, 1) := by decide +kernel
theorem dX7_readTerm_16 : decode cX7_readTerm 16 = .ok (.ifCond .eq 35, 3) := by decide +kernel
theorem dX7_readTerm_19 : decode cX7_readTerm 19 = .ok (.aload_n 0, 1) := by decide +kernel
theorem dX7_readTerm_20 : decode cX7_readTerm 20 = .ok (.getfield 56, 3) := by decide +kernel
theorem dX7_readTerm_23 : decode cX7_readTerm 23 = .ok (.bipush 42, 2) := by decide +kernel
theorem dX7_readTerm_25 : decode cX7_readTerm 25 = .ok (.if_icmp .ne 26, 3) := by decide +kernel
theorem dX7_readTerm_28 : decode cX7_readTerm 28 = .ok (.aload_n 0, 1) := by decide +kernel
theorem dX7_readTerm_29 : decode cX7_readTerm 29 = .ok (.invokevirtual 45, 3) := by decide +kernel
theorem dX7_readTerm_32 : decode cX7_readTerm 32 = .ok (.aload_n 0, 1) := by decide +kernel
theorem dX7_readTerm_33 : decode cX7_readTerm 33 = .ok (.iload_n 1, 1) := by decide +kernel
theorem dX7_readTerm_34 : decode cX7_readTerm 34 = .ok (.invokevirtual 173, 3) := by decide +kernel
theorem dX7_readTerm_37 : decode cX7_readTerm 37 = .ok (.istore_n 2, 1) := by decide +kernel
theorem dX7_readTerm_38 : decode cX7_readTerm 38 = .ok (.aload_n 0, 1) := by decide +kernel
theorem dX7_readTerm_39 : decode cX7_readTerm 39 = .ok (.iconst 4, 1) := by decide +kernel
theorem dX7_readTerm_40 : decode cX7_readTerm 40 = .ok (.iconst 0, 1) := by decide +kernel
theorem dX7_readTerm_41 : decode cX7_readTerm 41 = .ok (.invokevirtual 170, 3) := by decide +kernel
theorem dX7_readTerm_44 : decode cX7_readTerm 44 = .ok (.pop, 1) := by decide +kernel
theorem dX7_readTerm_45 : decode cX7_readTerm 45 = .ok (.iinc 3 1, 3) := by decide +kernel
theorem dX7_readTerm_48 : decode cX7_readTerm 48 = .ok (.goto (-40), 3) := by decide +kernel
theorem dX7_readTerm_51 : decode cX7_readTerm 51 = .ok (.iload_n 2, 1) := by decide +kernel
theorem dX7_readTerm_52 : decode cX7_readTerm 52 = .ok (.ireturn, 1) := by decide +kernel
theorem dX7_readAtom_0 : decode cX7_readAtom 0 = .ok (.aload_n 0, 1) := by decide +kernel
theorem dX7_readAtom_1 : decode cX7_readAtom 1 = .ok (.getfield 56, 3) := by decide +kernel
theorem dX7_readAtom_4 : decode cX7_readAtom 4 = .ok (.iconst 1, 1) := by decide +kernel
theorem dX7_readAtom_5 : decode cX7_readAtom 5 = .ok (.if_icmp .ne 19, 3) := by decide +kernel
theorem dX7_readAtom_8 : decode cX7_readAtom 8 = .ok (.aload_n 0, 1) := by decide +kernel
theorem dX7_readAtom_9 : decode cX7_readAtom 9 = .ok (.iconst 0, 1) := by decide +kernel
theorem dX7_readAtom_10 : decode cX7_readAtom 10 = .ok (.aload_n 0, 1) := by decide +kernel
theorem dX7_readAtom_11 : decode cX7_readAtom 11 = .ok (.getfield 85, 3) := by decide +kernel
theorem dX7_readAtom_14 : decode cX7_readAtom 14 = .ok (.invokevirtual 170, 3) := by decide +kernel
theorem dX7_readAtom_17 : decode cX7_readAtom 17 = .ok (.pop, 1) := by decide +kernel
theorem dX7_readAtom_18 : decode cX7_readAtom 18 = .ok (.aload_n 0, 1) := by decide +kernel
theorem dX7_readAtom_19 : decode cX7_readAtom 19 = .ok (.invokevirtual 45, 3) := by decide +kernel
theorem dX7_readAtom_22 : decode cX7_readAtom 22 = .ok (.iconst 1, 1) := by decide +kernel
theorem dX7_readAtom_23 : decode cX7_readAtom 23 = .ok (.ireturn, 1) := by decide +kernel
theorem dX7_readAtom_24 : decode cX7_readAtom 24 = .ok (.aload_n 0, 1) := by decide +kernel
theorem dX7_readAtom_25 : decode cX7_readAtom 25 = .ok (.getfield 56, 3) := by decide +kernel
theorem dX7_readAtom_28 : decode cX7_readAtom 28 = .ok (.sipush 200, 3) := by decide +kernel
theorem dX7_readAtom_31 : decode cX7_readAtom 31 = .ok (.if_icmp .lt 33, 3) := by decide +kernel
theorem dX7_readAtom_34 : decode cX7_readAtom 34 = .ok (.aload_n 0, 1) := by decide +kernel
theorem dX7_readAtom_35 : decode cX7_readAtom 35 = .ok (.getfield 56, 3) := by decide +kernel
theorem dX7_readAtom_38 : decode cX7_readAtom 38 = .ok (.sipush 207, 3) := by decide +kernel
theorem dX7_readAtom_41 : decode cX7_readAtom 41 = .ok (.if_icmp .ge 23, 3) := by decide +kernel
theorem dX7_readAtom_44 : decode cX7_readAtom 44 = .ok (.aload_n 0, 1) := by decide +kernel
theorem dX7_readAtom_45 : decode cX7_readAtom 45 = .ok (.iconst 1, 1) := by decide +kernel
theorem dX7_readAtom_46 : decode cX7_readAtom 46 = .ok (.aload_n 0, 1) := by decide +kernel
theorem dX7_readAtom_47 : decode cX7_readAtom 47 = .ok (.getfield 56, 3) := by decide +kernel
theorem dX7_readAtom_50 : decode cX7_readAtom 50 = .ok (.sipush 200, 3) := by decide +kernel
theorem dX7_readAtom_53 : decode cX7_readAtom 53 = .ok (.isub, 1) := by decide +kernel
theorem dX7_readAtom_54 : decode cX7_readAtom 54 = .ok (.invokevirtual 170, 3) := by decide +kernel
theorem dX7_readAtom_57 : decode cX7_readAtom 57 = .ok (.pop, 1) := by decide +kernel
theorem dX7_readAtom_58 : decode cX7_readAtom 58 = .ok (.aload_n 0, 1) := by decide +kernel
theorem dX7_readAtom_59 : decode cX7_readAtom 59 = .ok (.invokevirtual 45, 3) := by decide +kernel
theorem dX7_readAtom_62 : decode cX7_readAtom 62 = .ok (.iconst 1, 1) := by decide +kernel
theorem dX7_readAtom_63 : decode cX7_readAtom 63 = .ok (.ireturn, 1) := by decide +kernel
theorem dX7_readAtom_64 : decode cX7_readAtom 64 = .ok (.aload_n 0, 1) := by decide +kernel
theorem dX7_readAtom_65 : decode cX7_readAtom 65 = .ok (.getfield 56, 3) := by decide +kernel
theorem dX7_readAtom_68 : decode cX7_readAtom 68 = .ok (.bipush 40, 2) := by decide +kernel
theorem dX7_readAtom_70 : decode cX7_readAtom 70 = .ok (.if_icmp .ne 36, 3) := by decide +kernel
theorem dX7_readAtom_73 : decode cX7_readAtom 73 = .ok (.aload_n 0, 1) := by decide +kernel
theorem dX7_readAtom_74 : decode cX7_readAtom 74 = .ok (.iload_n 1, 1) := by decide +kernel
theorem dX7_readAtom_75 : decode cX7_readAtom 75 = .ok (.invokevirtual 176, 3) := by decide +kernel
theorem dX7_readAtom_78 : decode cX7_readAtom 78 = .ok (.ifCond .eq 26, 3) := by decide +kernel
theorem dX7_readAtom_81 : decode cX7_readAtom 81 = .ok (.aload_n 0, 1) := by decide +kernel
theorem dX7_readAtom_82 : decode cX7_readAtom 82 = .ok (.iload_n 1, 1) := by decide +kernel
theorem dX7_readAtom_83 : decode cX7_readAtom 83 = .ok (.iconst 1, 1) := by decide +kernel
theorem dX7_readAtom_84 : decode cX7_readAtom 84 = .ok (.iadd, 1) := by decide +kernel
theorem dX7_readAtom_85 : decode cX7_readAtom 85 = .ok (.invokevirtual 161, 3) := by decide +kernel
theorem dX7_readAtom_88 : decode cX7_readAtom 88 = .ok (.ifCond .eq 16, 3) := by decide +kernel
theorem dX7_readAtom_91 : decode cX7_readAtom 91 = .ok (.aload_n 0, 1) := by decide +kernel
theorem dX7_readAtom_92 : decode cX7_readAtom 92 = .ok (.bipush 41, 2) := by decide +kernel
theorem dX7_readAtom_94 : decode cX7_readAtom 94 = .ok (.invokevirtual 48, 3) := by decide +kernel
theorem dX7_readAtom_97 : decode cX7_readAtom 97 = .ok (.ifCond .eq 7, 3) := by decide +kernel
theorem dX7_readAtom_100 : decode cX7_readAtom 100 = .ok (.iconst 1, 1) := by decide +kernel
theorem dX7_readAtom_101 : decode cX7_readAtom 101 = .ok (.goto 4, 3) := by decide +kernel
theorem dX7_readAtom_104 : decode cX7_readAtom 104 = .ok (.iconst 0, 1) := by decide +kernel
theorem dX7_readAtom_105 : decode cX7_readAtom 105 = .ok (.ireturn, 1) := by decide +kernel
theorem dX7_readAtom_106 : decode cX7_readAtom 106 = .ok (.aload_n 0, 1) := by decide +kernel
theorem dX7_readAtom_107 : decode cX7_readAtom 107 = .ok (.getfield 56, 3) := by decide +kernel
theorem dX7_readAtom_110 : decode cX7_readAtom 110 = .ok (.sipush 213, 3) := by decide +kernel
theorem dX7_readAtom_113 : decode cX7_readAtom 113 = .ok (.if_icmp .ne 11, 3) := by decide +kernel
theorem dX7_readAtom_116 : decode cX7_readAtom 116 = .ok (.aload_n 0, 1) := by decide +kernel
theorem dX7_readAtom_117 : decode cX7_readAtom 117 = .ok (.iload_n 1, 1) := by decide +kernel
theorem dX7_readAtom_118 : decode cX7_readAtom 118 = .ok (.invokevirtual 179, 3) := by decide +kernel
theorem dX7_readAtom_121 : decode cX7_readAtom 121 = .ok (.goto 8, 3) := by decide +kernel
theorem dX7_readAtom_124 : decode cX7_readAtom 124 = .ok (.aload_n 0, 1) := by decide +kernel
theorem dX7_readAtom_125 : decode cX7_readAtom 125 = .ok (.iconst 2, 1) := by decide +kernel
theorem dX7_readAtom_126 : decode cX7_readAtom 126 = .ok (.invokevirtual 68, 3) := by decide +kernel
theorem dX7_readAtom_129 : decode cX7_readAtom 129 = .ok (.ireturn, 1) := by decide +kernel
theorem dX7_readChoice_0 : decode cX7_readChoice 0 = .ok (.aload_n 0, 1) := by decide +kernel
theorem dX7_readChoice_1 : decode cX7_readChoice 1 = .ok (.iload_n 1, 1) := by decide +kernel
theorem dX7_readChoice_2 : decode cX7_readChoice 2 = .ok (.invokevirtual 176, 3) := by decide +kernel
theorem dX7_readChoice_5 : decode cX7_readChoice 5 = .ok (.ifCond .eq 13, 3) := by decide +kernel
theorem dX7_readChoice_8 : decode cX7_readChoice 8 = .ok (.aload_n 0, 1) := by decide +kernel
theorem dX7_readChoice_9 : decode cX7_readChoice 9 = .ok (.iload_n 1, 1) := by decide +kernel
theorem dX7_readChoice_10 : decode cX7_readChoice 10 = .ok (.iconst 1, 1) := by decide +kernel
theorem dX7_readChoice_11 : decode cX7_readChoice 11 = .ok (.iadd, 1) := by decide +kernel
theorem dX7_readChoice_12 : decode cX7_readChoice 12 = .ok (.invokevirtual 182, 3) := by decide +kernel
theorem dX7_readChoice_15 : decode cX7_readChoice 15 = .ok (.ifCond .ne 5, 3) := by decide +kernel
theorem dX7_readChoice_18 : decode cX7_readChoice 18 = .ok (.iconst 0, 1) := by decide +kernel
theorem dX7_readChoice_19 : decode cX7_readChoice 19 = .ok (.ireturn, 1) := by decide +kernel
theorem dX7_readChoice_20 : decode cX7_readChoice 20 = .ok (.aload_n 0, 1) := by decide +kernel
theorem dX7_readChoice_21 : decode cX7_readChoice 21 = .ok (.bipush 11, 2) := by decide +kernel
theorem dX7_readChoice_23 : decode cX7_readChoice 23 = .ok (.iconst 0, 1) := by decide +kernel
theorem dX7_readChoice_24 : decode cX7_readChoice 24 = .ok (.invokevirtual 170, 3) := by decide +kernel
theorem dX7_readChoice_27 : decode cX7_readChoice 27 = .ok (.istore_n 2, 1) := by decide +kernel
theorem dX7_readChoice_28 : decode cX7_readChoice 28 = .ok (.aload_n 0, 1) := by decide +kernel
theorem dX7_readChoice_29 : decode cX7_readChoice 29 = .ok (.sipush 214, 3) := by decide +kernel
theorem dX7_readChoice_32 : decode cX7_readChoice 32 = .ok (.invokevirtual 48, 3) := by decide +kernel
theorem dX7_readChoice_35 : decode cX7_readChoice 35 = .ok (.ifCond .eq 13, 3) := by decide +kernel
theorem dX7_readChoice_38 : decode cX7_readChoice 38 = .ok (.aload_n 0, 1) := by decide +kernel
theorem dX7_readChoice_39 : decode cX7_readChoice 39 = .ok (.iload_n 1, 1) := by decide +kernel
theorem dX7_readChoice_40 : decode cX7_readChoice 40 = .ok (.iconst 1, 1) := by decide +kernel
theorem dX7_readChoice_41 : decode cX7_readChoice 41 = .ok (.iadd, 1) := by decide +kernel
theorem dX7_readChoice_42 : decode cX7_readChoice 42 = .ok (.invokevirtual 161, 3) := by decide +kernel
theorem dX7_readChoice_45 : decode cX7_readChoice 45 = .ok (.ifCond .ne 5, 3) := by decide +kernel
theorem dX7_readChoice_48 : decode cX7_readChoice 48 = .ok (.iconst 0, 1) := by decide +kernel
theorem dX7_readChoice_49 : decode cX7_readChoice 49 = .ok (.ireturn, 1) := by decide +kernel
theorem dX7_readChoice_50 : decode cX7_readChoice 50 = .ok (.aload_n 0, 1) := by decide +kernel
theorem dX7_readChoice_51 : decode cX7_readChoice 51 = .ok (.bipush 12, 2) := by decide +kernel
theorem dX7_readChoice_53 : decode cX7_readChoice 53 = .ok (.iconst 0, 1) := by decide +kernel
theorem dX7_readChoice_54 : decode cX7_readChoice 54 = .ok (.invokevirtual 170, 3) := by decide +kernel
theorem dX7_readChoice_57 : decode cX7_readChoice 57 = .ok (.istore_n 3, 1) := by decide +kernel
theorem dX7_readChoice_58 : decode cX7_readChoice 58 = .ok (.aload_n 0, 1) := by decide +kernel
theorem dX7_readChoice_59 : decode cX7_readChoice 59 = .ok (.iload_n 2, 1) := by decide +kernel
theorem dX7_readChoice_60 : decode cX7_readChoice 60 = .ok (.bipush 11, 2) := by decide +kernel
theorem dX7_readChoice_62 : decode cX7_readChoice 62 = .ok (.invokevirtual 185, 3) := by decide +kernel
theorem dX7_readChoice_65 : decode cX7_readChoice 65 = .ok (.aload_n 0, 1) := by decide +kernel
theorem dX7_readChoice_66 : decode cX7_readChoice 66 = .ok (.sipush 215, 3) := by decide +kernel
theorem dX7_readChoice_69 : decode cX7_readChoice 69 = .ok (.invokevirtual 48, 3) := by decide +kernel
theorem dX7_readChoice_72 : decode cX7_readChoice 72 = .ok (.ifCond .eq 13, 3) := by decide +kernel
theorem dX7_readChoice_75 : decode cX7_readChoice 75 = .ok (.aload_n 0, 1) := by decide +kernel
theorem dX7_readChoice_76 : decode cX7_readChoice 76 = .ok (.iload_n 1, 1) := by decide +kernel
theorem dX7_readChoice_77 : decode cX7_readChoice 77 = .ok (.iconst 1, 1) := by decide +kernel
theorem dX7_readChoice_78 : decode cX7_readChoice 78 = .ok (.iadd, 1) := by decide +kernel
theorem dX7_readChoice_79 : decode cX7_readChoice 79 = .ok (.invokevirtual 161, 3) := by decide +kernel
theorem dX7_readChoice_82 : decode cX7_readChoice 82 = .ok (.ifCond .ne 5, 3) := by decide +kernel
theorem dX7_readChoice_85 : decode cX7_readChoice 85 = .ok (.iconst 0, 1) := by decide +kernel
theorem dX7_readChoice_86 : decode cX7_readChoice 86 = .ok (.ireturn, 1) := by decide +kernel
theorem dX7_readChoice_87 : decode cX7_readChoice 87 = .ok (.aload_n 0, 1) := by decide +kernel
theorem dX7_readChoice_88 : decode cX7_readChoice 88 = .ok (.iload_n 3, 1) := by decide +kernel
theorem dX7_readChoice_89 : decode cX7_readChoice 89 = .ok (.bipush 12, 2) := by decide +kernel
theorem dX7_readChoice_91 : decode cX7_readChoice 91 = .ok (.invokevirtual 185, 3) := by decide +kernel
theorem dX7_readChoice_94 : decode cX7_readChoice 94 = .ok (.aload_n 0, 1) := by decide +kernel
theorem dX7_readChoice_95 : decode cX7_readChoice 95 = .ok (.sipush 216, 3) := by decide +kernel
theorem dX7_readChoice_98 : decode cX7_readChoice 98 = .ok (.invokevirtual 48, 3) := by decide +kernel
theorem dX7_readChoice_101 : decode cX7_readChoice 101 = .ok (.ireturn, 1) := by decide +kernel
theorem dX7_readTruth_0 : decode cX7_readTruth 0 = .ok (.aload_n 0, 1) := by decide +kernel
theorem dX7_readTruth_1 : decode cX7_readTruth 1 = .ok (.iload_n 1, 1) := by decide +kernel
theorem dX7_readTruth_2 : decode cX7_readTruth 2 = .ok (.invokevirtual 189, 3) := by decide +kernel
theorem dX7_readTruth_5 : decode cX7_readTruth 5 = .ok (.istore_n 2, 1) := by decide +kernel
theorem dX7_readTruth_6 : decode cX7_readTruth 6 = .ok (.iconst 0, 1) := by decide +kernel
theorem dX7_readTruth_7 : decode cX7_readTruth 7 = .ok (.istore_n 3, 1) := by decide +kernel
theorem dX7_readTruth_8 : decode cX7_readTruth 8 = .ok (.iload_n 3, 1) := by decide +kernel
theorem dX7_readTruth_9 : decode cX7_readTruth 9 = .ok (.sipush 900, 3) := by decide +kernel
theorem dX7_readTruth_12 : decode cX7_readTruth 12 = .ok (.if_icmp .ge 41, 3) := by decide +kernel
theorem dX7_readTruth_15 : decode cX7_readTruth 15 = .ok (.iload_n 2, 1) := by decide +kernel
theorem dX7_readTruth_16 : decode cX7_readTruth 16 = .ok (.ifCond .eq 37, 3) := by decide +kernel
theorem dX7_readTruth_19 : decode cX7_readTruth 19 = .ok (.aload_n 0, 1) := by decide +kernel
theorem dX7_readTruth_20 : decode cX7_readTruth 20 = .ok (.getfield 56, 3) := by decide +kernel
theorem dX7_readTruth_23 : decode cX7_readTruth 23 = .ok (.sipush 219, 3) := by decide +kernel
theorem dX7_readTruth_26 : decode cX7_readTruth 26 = .ok (.if_icmp .ne 27, 3) := by decide +kernel
theorem dX7_readTruth_29 : decode cX7_readTruth 29 = .ok (.aload_n 0, 1) := by decide +kernel
theorem dX7_readTruth_30 : decode cX7_readTruth 30 = .ok (.invokevirtual 45, 3) := by decide +kernel
theorem dX7_readTruth_33 : decode cX7_readTruth 33 = .ok (.aload_n 0, 1) := by decide +kernel
theorem dX7_readTruth_34 : decode cX7_readTruth 34 = .ok (.iload_n 1, 1) := by decide +kernel
theorem dX7_readTruth_35 : decode cX7_readTruth 35 = .ok (.invokevirtual 189, 3) := by decide +kernel
theorem dX7_readTruth_38 : decode cX7_readTruth 38 = .ok (.istore_n 2, 1) := by decide +kernel
theorem dX7_readTruth_39 : decode cX7_readTruth 39 = .ok (.aload_n 0, 1) := by decide +kernel
theorem dX7_readTruth_40 : decode cX7_readTruth 40 = .ok (.bipush 9, 2) := by decide +kernel
theorem dX7_readTruth_42 : decode cX7_readTruth 42 = .ok (.iconst 0, 1) := by decide +kernel
theorem dX7_readTruth_43 : decode cX7_readTruth 43 = .ok (.invokevirtual 170, 3) := by decide +kernel
theorem dX7_readTruth_46 : decode cX7_readTruth 46 = .ok (.pop, 1) := by decide +kernel
theorem dX7_readTruth_47 : decode cX7_readTruth 47 = .ok (.iinc 3 1, 3) := by decide +kernel
theorem dX7_readTruth_50 : decode cX7_readTruth 50 = .ok (.goto (-42), 3) := by decide +kernel
theorem dX7_readTruth_53 : decode cX7_readTruth 53 = .ok (.iload_n 2, 1) := by decide +kernel
theorem dX7_readTruth_54 : decode cX7_readTruth 54 = .ok (.ireturn, 1) := by decide +kernel
theorem dX7_readBoth_0 : decode cX7_readBoth 0 = .ok (.aload_n 0, 1) := by decide +kernel
theorem dX7_readBoth_1 : decode cX7_readBoth 1 = .ok (.iload_n 1, 1) := by decide +kernel
theorem dX7_readBoth_2 : decode cX7_readBoth 2 = .ok (.invokevirtual 192, 3) := by decide +kernel
theorem dX7_readBoth_5 : decode cX7_readBoth 5 = .ok (.istore_n 2, 1) := by decide +kernel
theorem dX7_readBoth_6 : decode cX7_readBoth 6 = .ok (.iconst 0, 1) := by decide +kernel
theorem dX7_readBoth_7 : decode cX7_readBoth 7 = .ok (.istore_n 3, 1) := by decide +kernel
theorem dX7_readBoth_8 : decode cX7_readBoth 8 = .ok (.iload_n 3, 1) := by decide +kernel
theorem dX7_readBoth_9 : decode cX7_readBoth 9 = .ok (.sipush 900, 3) := by decide +kernel
theorem dX7_readBoth_12 : decode cX7_readBoth 12 = .ok (.if_icmp .ge 41, 3) := by decide +kernel
theorem dX7_readBoth_15 : decode cX7_readBoth 15 = .ok (.iload_n 2, 1) := by decide +kernel
theorem dX7_readBoth_16 : decode cX7_readBoth 16 = .ok (.ifCond .eq 37, 3) := by decide +kernel
theorem dX7_readBoth_19 : decode cX7_readBoth 19 = .ok (.aload_n 0, 1) := by decide +kernel
theorem dX7_readBoth_20 : decode cX7_readBoth 20 = .ok (.getfield 56, 3) := by decide +kernel
theorem dX7_readBoth_23 : decode cX7_readBoth 23 = .ok (.sipush 218, 3) := by decide +kernel
theorem dX7_readBoth_26 : decode cX7_readBoth 26 = .ok (.if_icmp .ne 27, 3) := by decide +kernel
theorem dX7_readBoth_29 : decode cX7_readBoth 29 = .ok (.aload_n 0, 1) := by decide +kernel
theorem dX7_readBoth_30 : decode cX7_readBoth 30 = .ok (.invokevirtual 45, 3) := by decide +kernel
theorem dX7_readBoth_33 : decode cX7_readBoth 33 = .ok (.aload_n 0, 1) := by decide +kernel
theorem dX7_readBoth_34 : decode cX7_readBoth 34 = .ok (.iload_n 1, 1) := by decide +kernel
theorem dX7_readBoth_35 : decode cX7_readBoth 35 = .ok (.invokevirtual 192, 3) := by decide +kernel
theorem dX7_readBoth_38 : decode cX7_readBoth 38 = .ok (.istore_n 2, 1) := by decide +kernel
theorem dX7_readBoth_39 : decode cX7_readBoth 39 = .ok (.aload_n 0, 1) := by decide +kernel
theorem dX7_readBoth_40 : decode cX7_readBoth 40 = .ok (.bipush 8, 2) := by decide +kernel
theorem dX7_readBoth_42 : decode cX7_readBoth 42 = .ok (.iconst 0, 1) := by decide +kernel
theorem dX7_readBoth_43 : decode cX7_readBoth 43 = .ok (.invokevirtual 170, 3) := by decide +kernel
theorem dX7_readBoth_46 : decode cX7_readBoth 46 = .ok (.pop, 1) := by decide +kernel
theorem dX7_readBoth_47 : decode cX7_readBoth 47 = .ok (.iinc 3 1, 3) := by decide +kernel
theorem dX7_readBoth_50 : decode cX7_readBoth 50 = .ok (.goto (-42), 3) := by decide +kernel
theorem dX7_readBoth_53 : decode cX7_readBoth 53 = .ok (.iload_n 2, 1) := by decide +kernel
theorem dX7_readBoth_54 : decode cX7_readBoth 54 = .ok (.ireturn, 1) := by decide +kernel
theorem dX7_readUnit_0 : decode cX7_readUnit 0 = .ok (.aload_n 0, 1) := by decide +kernel
theorem dX7_readUnit_1 : decode cX7_readUnit 1 = .ok (.getfield 56, 3) := by decide +kernel
theorem dX7_readUnit_4 : decode cX7_readUnit 4 = .ok (.sipush 217, 3) := by decide +kernel
theorem dX7_readUnit_7 : decode cX7_readUnit 7 = .ok (.if_icmp .ne 37, 3) := by decide +kernel
theorem dX7_readUnit_10 : decode cX7_readUnit 10 = .ok (.aload_n 0, 1) := by decide +kernel
theorem dX7_readUnit_11 : decode cX7_readUnit 11 = .ok (.iload_n 1, 1) := by decide +kernel
theorem dX7_readUnit_12 : decode cX7_readUnit 12 = .ok (.invokevirtual 176, 3) := by decide +kernel
theorem dX7_readUnit_15 : decode cX7_readUnit 15 = .ok (.ifCond .eq 17, 3) := by decide +kernel
theorem dX7_readUnit_18 : decode cX7_readUnit 18 = .ok (.aload_n 0, 1) := by decide +kernel
theorem dX7_readUnit_19 : decode cX7_readUnit 19 = .ok (.iload_n 1, 1) := by decide +kernel
theorem dX7_readUnit_20 : decode cX7_readUnit 20 = .ok (.iconst 1, 1) := by decide +kernel
theorem dX7_readUnit_21 : decode cX7_readUnit 21 = .ok (.iadd, 1) := by decide +kernel
theorem dX7_readUnit_22 : decode cX7_readUnit 22 = .ok (.invokevirtual 192, 3) := by decide +kernel
theorem dX7_readUnit_25 : decode cX7_readUnit 25 = .ok (.ifCond .eq 7, 3) := by decide +kernel
theorem dX7_readUnit_28 : decode cX7_readUnit 28 = .ok (.iconst 1, 1) := by decide +kernel
theorem dX7_readUnit_29 : decode cX7_readUnit 29 = .ok (.goto 4, 3) := by decide +kernel
theorem dX7_readUnit_32 : decode cX7_readUnit 32 = .ok (.iconst 0, 1) := by decide +kernel
theorem dX7_readUnit_33 : decode cX7_readUnit 33 = .ok (.istore_n 2, 1) := by decide +kernel
theorem dX7_readUnit_34 : decode cX7_readUnit 34 = .ok (.aload_n 0, 1) := by decide +kernel
theorem dX7_readUnit_35 : decode cX7_readUnit 35 = .ok (.bipush 10, 2) := by decide +kernel
theorem dX7_readUnit_37 : decode cX7_readUnit 37 = .ok (.iconst 0, 1) := by decide +kernel
theorem dX7_readUnit_38 : decode cX7_readUnit 38 = .ok (.invokevirtual 170, 3) := by decide +kernel
theorem dX7_readUnit_41 : decode cX7_readUnit 41 = .ok (.pop, 1) := by decide +kernel
theorem dX7_readUnit_42 : decode cX7_readUnit 42 = .ok (.iload_n 2, 1) := by decide +kernel
theorem dX7_readUnit_43 : decode cX7_readUnit 43 = .ok (.ireturn, 1) := by decide +kernel
theorem dX7_readUnit_44 : decode cX7_readUnit 44 = .ok (.aload_n 0, 1) := by decide +kernel
theorem dX7_readUnit_45 : decode cX7_readUnit 45 = .ok (.getfield 56, 3) := by decide +kernel
theorem dX7_readUnit_48 : decode cX7_readUnit 48 = .ok (.bipush 91, 2) := by decide +kernel
theorem dX7_readUnit_50 : decode cX7_readUnit 50 = .ok (.if_icmp .ne 36, 3) := by decide +kernel
theorem dX7_readUnit_53 : decode cX7_readUnit 53 = .ok (.aload_n 0, 1) := by decide +kernel
theorem dX7_readUnit_54 : decode cX7_readUnit 54 = .ok (.iload_n 1, 1) := by decide +kernel
theorem dX7_readUnit_55 : decode cX7_readUnit 55 = .ok (.invokevirtual 176, 3) := by decide +kernel
theorem dX7_readUnit_58 : decode cX7_readUnit 58 = .ok (.ifCond .eq 26, 3) := by decide +kernel
theorem dX7_readUnit_61 : decode cX7_readUnit 61 = .ok (.aload_n 0, 1) := by decide +kernel
theorem dX7_readUnit_62 : decode cX7_readUnit 62 = .ok (.iload_n 1, 1) := by decide +kernel
theorem dX7_readUnit_63 : decode cX7_readUnit 63 = .ok (.iconst 1, 1) := by decide +kernel
theorem dX7_readUnit_64 : decode cX7_readUnit 64 = .ok (.iadd, 1) := by decide +kernel
theorem dX7_readUnit_65 : decode cX7_readUnit 65 = .ok (.invokevirtual 182, 3) := by decide +kernel
theorem dX7_readUnit_68 : decode cX7_readUnit 68 = .ok (.ifCond .eq 16, 3) := by decide +kernel
theorem dX7_readUnit_71 : decode cX7_readUnit 71 = .ok (.aload_n 0, 1) := by decide +kernel
theorem dX7_readUnit_72 : decode cX7_readUnit 72 = .ok (.bipush 93, 2) := by decide +kernel
theorem dX7_readUnit_74 : decode cX7_readUnit 74 = .ok (.invokevirtual 48, 3) := by decide +kernel
theorem dX7_readUnit_77 : decode cX7_readUnit 77 = .ok (.ifCond .eq 7, 3) := by decide +kernel
theorem dX7_readUnit_80 : decode cX7_readUnit 80 = .ok (.iconst 1, 1) := by decide +kernel
theorem dX7_readUnit_81 : decode cX7_readUnit 81 = .ok (.goto 4, 3) := by decide +kernel
theorem dX7_readUnit_84 : decode cX7_readUnit 84 = .ok (.iconst 0, 1) := by decide +kernel
theorem dX7_readUnit_85 : decode cX7_readUnit 85 = .ok (.ireturn, 1) := by decide +kernel
theorem dX7_readUnit_86 : decode cX7_readUnit 86 = .ok (.aload_n 0, 1) := by decide +kernel
theorem dX7_readUnit_87 : decode cX7_readUnit 87 = .ok (.iload_n 1, 1) := by decide +kernel
theorem dX7_readUnit_88 : decode cX7_readUnit 88 = .ok (.invokevirtual 161, 3) := by decide +kernel
theorem dX7_readUnit_91 : decode cX7_readUnit 91 = .ok (.ifCond .eq 15, 3) := by decide +kernel
theorem dX7_readUnit_94 : decode cX7_readUnit 94 = .ok (.aload_n 0, 1) := by decide +kernel
theorem dX7_readUnit_95 : decode cX7_readUnit 95 = .ok (.iload_n 1, 1) := by decide +kernel
theorem dX7_readUnit_96 : decode cX7_readUnit 96 = .ok (.invokevirtual 195, 3) := by decide +kernel
theorem dX7_readUnit_99 : decode cX7_readUnit 99 = .ok (.ifCond .eq 7, 3) := by decide +kernel
theorem dX7_readUnit_102 : decode cX7_readUnit 102 = .ok (.iconst 1, 1) := by decide +kernel
theorem dX7_readUnit_103 : decode cX7_readUnit 103 = .ok (.goto 4, 3) := by decide +kernel
theorem dX7_readUnit_106 : decode cX7_readUnit 106 = .ok (.iconst 0, 1) := by decide +kernel
theorem dX7_readUnit_107 : decode cX7_readUnit 107 = .ok (.ireturn, 1) := by decide +kernel
theorem dX7_readComparison_0 : decode cX7_readComparison 0 = .ok (.aload_n 0, 1) := by decide +kernel
theorem dX7_readComparison_1 : decode cX7_readComparison 1 = .ok (.getfield 56, 3) := by decide +kernel
theorem dX7_readComparison_4 : decode cX7_readComparison 4 = .ok (.tableswitch 45 60 62 #[33, 28, 39], 28) := by decide +kernel
theorem dX7_readComparison_32 : decode cX7_readComparison 32 = .ok (.iconst 5, 1) := by decide +kernel
theorem dX7_readComparison_33 : decode cX7_readComparison 33 = .ok (.istore_n 2, 1) := by decide +kernel
theorem dX7_readComparison_34 : decode cX7_readComparison 34 = .ok (.goto 21, 3) := by decide +kernel
theorem dX7_readComparison_37 : decode cX7_readComparison 37 = .ok (.bipush 6, 2) := by decide +kernel
theorem dX7_readComparison_39 : decode cX7_readComparison 39 = .ok (.istore_n 2, 1) := by decide +kernel
theorem dX7_readComparison_40 : decode cX7_readComparison 40 = .ok (.goto 15, 3) := by decide +kernel
theorem dX7_readComparison_43 : decode cX7_readComparison 43 = .ok (.bipush 7, 2) := by decide +kernel
theorem dX7_readComparison_45 : decode cX7_readComparison 45 = .ok (.istore_n 2, 1) := by decide +kernel
theorem dX7_readComparison_46 : decode cX7_readComparison 46 = .ok (.goto 9, 3) := by decide +kernel
theorem dX7_readComparison_49 : decode cX7_readComparison 49 = .ok (.aload_n 0, 1) := by decide +kernel
theorem dX7_readComparison_50 : decode cX7_readComparison 50 = .ok (.iconst 2, 1) := by decide +kernel
theorem dX7_readComparison_51 : decode cX7_readComparison 51 = .ok (.invokevirtual 68, 3) := by decide +kernel
theorem dX7_readComparison_54 : decode cX7_readComparison 54 = .ok (.ireturn, 1) := by decide +kernel
theorem dX7_readComparison_55 : decode cX7_readComparison 55 = .ok (.aload_n 0, 1) := by decide +kernel
theorem dX7_readComparison_56 : decode cX7_readComparison 56 = .ok (.invokevirtual 45, 3) := by decide +kernel
theorem dX7_readComparison_59 : decode cX7_readComparison 59 = .ok (.aload_n 0, 1) := by decide +kernel
theorem dX7_readComparison_60 : decode cX7_readComparison 60 = .ok (.iload_n 1, 1) := by decide +kernel
theorem dX7_readComparison_61 : decode cX7_readComparison 61 = .ok (.invokevirtual 161, 3) := by decide +kernel
theorem dX7_readComparison_64 : decode cX7_readComparison 64 = .ok (.istore_n 3, 1) := by decide +kernel
theorem dX7_readComparison_65 : decode cX7_readComparison 65 = .ok (.aload_n 0, 1) := by decide +kernel
theorem dX7_readComparison_66 : decode cX7_readComparison 66 = .ok (.iload_n 2, 1) := by decide +kernel
theorem dX7_readComparison_67 : decode cX7_readComparison 67 = .ok (.iconst 0, 1) := by decide +kernel
theorem dX7_readComparison_68 : decode cX7_readComparison 68 = .ok (.invokevirtual 170, 3) := by decide +kernel
theorem dX7_readComparison_71 : decode cX7_readComparison 71 = .ok (.pop, 1) := by decide +kernel
theorem dX7_readComparison_72 : decode cX7_readComparison 72 = .ok (.iload_n 3, 1) := by decide +kernel
theorem dX7_readComparison_73 : decode cX7_readComparison 73 = .ok (.ireturn, 1) := by decide +kernel
def rd_readSumB_8 (rec : Nat → Int32 → (Nat → Nat → Int32) → Option (Int32 × (Nat → Nat → Int32))) (F : Nat) (x : Nat) (g1 : Int32) : Nat → Int32 → Int32 → (Nat → Nat → Int32) → Option (Int32 × Int32 × (Nat → Nat → Int32))
  | 0, _, _, _ => none
  | k + 1, l2, l3, I => if 900 ≤ l3 then (some (l2, l3, I)) else (if l2 = 0 then (some (l2, l3, I)) else (if (I (x + 2) 6) = 43 then (if (I (x + 2) 6) = 43 then ((rd_takeToken F I x).bind (fun q20 => let I22 := q20; (rec 1 g1 I22).bind (fun q23 => let u25 := q23.1; let I26 := q23.2; (rd_emit I26 x 2 0).bind (fun q27 => let u29 := q27.1; let I30 := q27.2; rd_readSumB_8 rec F x g1 k u25 (l3 + 1) I30)))) else ((rd_takeToken F I x).bind (fun q9 => let I11 := q9; (rec 1 g1 I11).bind (fun q12 => let u14 := q12.1; let I15 := q12.2; (rd_emit I15 x 3 0).bind (fun q16 => let u18 := q16.1; let I19 := q16.2; rd_readSumB_8 rec F x g1 k u14 (l3 + 1) I19))))) else (if (I (x + 2) 6) = 45 then (if (I (x + 2) 6) = 43 then ((rd_takeToken F I x).bind (fun q44 => let I46 := q44; (rec 1 g1 I46).bind (fun q47 => let u49 := q47.1; let I50 := q47.2; (rd_emit I50 x 2 0).bind (fun q51 => let u53 := q51.1; let I54 := q51.2; rd_readSumB_8 rec F x g1 k u49 (l3 + 1) I54)))) else ((rd_takeToken F I x).bind (fun q33 => let I35 := q33; (rec 1 g1 I35).bind (fun q36 => let u38 := q36.1; let I39 := q36.2; (rd_emit I39 x 3 0).bind (fun q40 => let u42 := q40.1; let I43 := q40.2; rd_readSumB_8 rec F x g1 k u38 (l3 + 1) I43))))) else (some (l2, l3, I)))))
def rd_readSumB (rec : Nat → Int32 → (Nat → Nat → Int32) → Option (Int32 × (Nat → Nat → Int32))) (F : Nat) (I : Nat → Nat → Int32) (x : Nat) (v1 : Int32) : Option (Int32 × (Nat → Nat → Int32)) := (rec 1 v1 I).bind (fun q1 => let u3 := q1.1; let I4 := q1.2; (rd_readSumB_8 rec F x v1 F u3 0 I4).bind (fun q55 => let m57 := q55.1; let m58 := q55.2.1; let I59 := q55.2.2; isb m57 (some (m57, I59))))
def rd_readTermB_8 (rec : Nat → Int32 → (Nat → Nat → Int32) → Option (Int32 × (Nat → Nat → Int32))) (F : Nat) (x : Nat) (g1 : Int32) : Nat → Int32 → Int32 → (Nat → Nat → Int32) → Option (Int32 × Int32 × (Nat → Nat → Int32))
  | 0, _, _, _ => none
  | k + 1, l2, l3, I => if 900 ≤ l3 then (some (l2, l3, I)) else (if l2 = 0 then (some (l2, l3, I)) else (if (I (x + 2) 6) = 42 then ((rd_takeToken F I x).bind (fun q8 => let I10 := q8; (rec 2 g1 I10).bind (fun q11 => let u13 := q11.1; let I14 := q11.2; (rd_emit I14 x 4 0).bind (fun q15 => let u17 := q15.1; let I18 := q15.2; rd_readTermB_8 rec F x g1 k u13 (l3 + 1) I18)))) else (some (l2, l3, I))))
def rd_readTermB (rec : Nat → Int32 → (Nat → Nat → Int32) → Option (Int32 × (Nat → Nat → Int32))) (F : Nat) (I : Nat → Nat → Int32) (x : Nat) (v1 : Int32) : Option (Int32 × (Nat → Nat → Int32)) := (rec 2 v1 I).bind (fun q1 => let u3 := q1.1; let I4 := q1.2; (rd_readTermB_8 rec F x v1 F u3 0 I4).bind (fun q19 => let m21 := q19.1; let m22 := q19.2.1; let I23 := q19.2.2; isb m21 (some (m21, I23))))
def rd_readAtomB (rec : Nat → Int32 → (Nat → Nat → Int32) → Option (Int32 × (Nat → Nat → Int32))) (F : Nat) (I : Nat → Nat → Int32) (x : Nat) (v1 : Int32) : Option (Int32 × (Nat → Nat → Int32)) := if (I (x + 2) 6) = 1 then ((rd_emit I x 0 (I (x + 2) 7)).bind (fun q65 => let u67 := q65.1; let I68 := q65.2; (rd_takeToken F I68 x).bind (fun q69 => let I71 := q69; some (1, I71)))) else (if (I (x + 2) 6) < 200 then (if (I (x + 2) 6) = 40 then ((rd_goWithin F I x v1).bind (fun q15 => let u17 := q15.1; let I18 := q15.2; if u17 = 0 then (some (0, I18)) else ((rec 0 (v1 + 1) I18).bind (fun q20 => let u22 := q20.1; let I23 := q20.2; if u22 = 0 then (some (0, I23)) else ((rd_expect F I23 x 41).bind (fun q25 => let u27 := q25.1; let I28 := q25.2; if u27 = 0 then (some (0, I28)) else (some (1, I28)))))))) else (if (I (x + 2) 6) = 213 then ((rec 3 v1 I).bind (fun q10 => let u12 := q10.1; let I13 := q10.2; isb u12 (some (u12, I13)))) else ((rd_refuse I x 2).bind (fun q5 => let u7 := q5.1; let I8 := q5.2; isb u7 (some (u7, I8)))))) else (if 207 ≤ (I (x + 2) 6) then (if (I (x + 2) 6) = 40 then ((rd_goWithin F I x v1).bind (fun q43 => let u45 := q43.1; let I46 := q43.2; if u45 = 0 then (some (0, I46)) else ((rec 0 (v1 + 1) I46).bind (fun q48 => let u50 := q48.1; let I51 := q48.2; if u50 = 0 then (some (0, I51)) else ((rd_expect F I51 x 41).bind (fun q53 => let u55 := q53.1; let I56 := q53.2; if u55 = 0 then (some (0, I56)) else (some (1, I56)))))))) else (if (I (x + 2) 6) = 213 then ((rec 3 v1 I).bind (fun q38 => let u40 := q38.1; let I41 := q38.2; isb u40 (some (u40, I41)))) else ((rd_refuse I x 2).bind (fun q33 => let u35 := q33.1; let I36 := q33.2; isb u35 (some (u35, I36)))))) else ((rd_emit I x 1 ((I (x + 2) 6) - 200)).bind (fun q58 => let u60 := q58.1; let I61 := q58.2; (rd_takeToken F I61 x).bind (fun q62 => let I64 := q62; some (1, I64))))))
def rd_readChoiceB (rec : Nat → Int32 → (Nat → Nat → Int32) → Option (Int32 × (Nat → Nat → Int32))) (F : Nat) (I : Nat → Nat → Int32) (x : Nat) (v1 : Int32) : Option (Int32 × (Nat → Nat → Int32)) := (rd_goWithin F I x v1).bind (fun q1 => let u3 := q1.1; let I4 := q1.2; if u3 = 0 then (some (0, I4)) else ((rec 4 (v1 + 1) I4).bind (fun q6 => let u8 := q6.1; let I9 := q6.2; if u8 = 0 then (some (0, I9)) else ((rd_emit I9 x 11 0).bind (fun q11 => let u13 := q11.1; let I14 := q11.2; (rd_expect F I14 x 214).bind (fun q15 => let u17 := q15.1; let I18 := q15.2; if u17 = 0 then (some (0, I18)) else ((rec 0 (v1 + 1) I18).bind (fun q20 => let u22 := q20.1; let I23 := q20.2; if u22 = 0 then (some (0, I23)) else ((rd_emit I23 x 12 0).bind (fun q25 => let u27 := q25.1; let I28 := q25.2; (rd_aimHere I28 x u13 11).bind (fun q29 => let I31 := q29; (rd_expect F I31 x 215).bind (fun q32 => let u34 := q32.1; let I35 := q32.2; if u34 = 0 then (some (0, I35)) else ((rec 0 (v1 + 1) I35).bind (fun q37 => let u39 := q37.1; let I40 := q37.2; if u39 = 0 then (some (0, I40)) else ((rd_aimHere I40 x u27 12).bind (fun q42 => let I44 := q42; (rd_expect F I44 x 216).bind (fun q45 => let u47 := q45.1; let I48 := q45.2; isb u47 (some (u47, I48)))))))))))))))))))
def rd_readTruthB_8 (rec : Nat → Int32 → (Nat → Nat → Int32) → Option (Int32 × (Nat → Nat → Int32))) (F : Nat) (x : Nat) (g1 : Int32) : Nat → Int32 → Int32 → (Nat → Nat → Int32) → Option (Int32 × Int32 × (Nat → Nat → Int32))
  | 0, _, _, _ => none
  | k + 1, l2, l3, I => if 900 ≤ l3 then (some (l2, l3, I)) else (if l2 = 0 then (some (l2, l3, I)) else (if (I (x + 2) 6) = 219 then ((rd_takeToken F I x).bind (fun q8 => let I10 := q8; (rec 5 g1 I10).bind (fun q11 => let u13 := q11.1; let I14 := q11.2; (rd_emit I14 x 9 0).bind (fun q15 => let u17 := q15.1; let I18 := q15.2; rd_readTruthB_8 rec F x g1 k u13 (l3 + 1) I18)))) else (some (l2, l3, I))))
def rd_readTruthB (rec : Nat → Int32 → (Nat → Nat → Int32) → Option (Int32 × (Nat → Nat → Int32))) (F : Nat) (I : Nat → Nat → Int32) (x : Nat) (v1 : Int32) : Option (Int32 × (Nat → Nat → Int32)) := (rec 5 v1 I).bind (fun q1 => let u3 := q1.1; let I4 := q1.2; (rd_readTruthB_8 rec F x v1 F u3 0 I4).bind (fun q19 => let m21 := q19.1; let m22 := q19.2.1; let I23 := q19.2.2; isb m21 (some (m21, I23))))
def rd_readBothB_8 (rec : Nat → Int32 → (Nat → Nat → Int32) → Option (Int32 × (Nat → Nat → Int32))) (F : Nat) (x : Nat) (g1 : Int32) : Nat → Int32 → Int32 → (Nat → Nat → Int32) → Option (Int32 × Int32 × (Nat → Nat → Int32))
  | 0, _, _, _ => none
  | k + 1, l2, l3, I => if 900 ≤ l3 then (some (l2, l3, I)) else (if l2 = 0 then (some (l2, l3, I)) else (if (I (x + 2) 6) = 218 then ((rd_takeToken F I x).bind (fun q8 => let I10 := q8; (rec 6 g1 I10).bind (fun q11 => let u13 := q11.1; let I14 := q11.2; (rd_emit I14 x 8 0).bind (fun q15 => let u17 := q15.1; let I18 := q15.2; rd_readBothB_8 rec F x g1 k u13 (l3 + 1) I18)))) else (some (l2, l3, I))))
def rd_readBothB (rec : Nat → Int32 → (Nat → Nat → Int32) → Option (Int32 × (Nat → Nat → Int32))) (F : Nat) (I : Nat → Nat → Int32) (x : Nat) (v1 : Int32) : Option (Int32 × (Nat → Nat → Int32)) := (rec 6 v1 I).bind (fun q1 => let u3 := q1.1; let I4 := q1.2; (rd_readBothB_8 rec F x v1 F u3 0 I4).bind (fun q19 => let m21 := q19.1; let m22 := q19.2.1; let I23 := q19.2.2; isb m21 (some (m21, I23))))
def rd_readUnitB (rec : Nat → Int32 → (Nat → Nat → Int32) → Option (Int32 × (Nat → Nat → Int32))) (F : Nat) (I : Nat → Nat → Int32) (x : Nat) (v1 : Int32) : Option (Int32 × (Nat → Nat → Int32)) := if (I (x + 2) 6) = 217 then ((rd_goWithin F I x v1).bind (fun q28 => let u30 := q28.1; let I31 := q28.2; if u30 = 0 then ((rd_emit I31 x 10 0).bind (fun q33 => let u35 := q33.1; let I36 := q33.2; some (0, I36))) else ((rec 6 (v1 + 1) I31).bind (fun q37 => let u39 := q37.1; let I40 := q37.2; if u39 = 0 then ((rd_emit I40 x 10 0).bind (fun q42 => let u44 := q42.1; let I45 := q42.2; some (0, I45))) else ((rd_emit I40 x 10 0).bind (fun q46 => let u48 := q46.1; let I49 := q46.2; some (1, I49))))))) else (if (I (x + 2) 6) = 91 then ((rd_goWithin F I x v1).bind (fun q13 => let u15 := q13.1; let I16 := q13.2; if u15 = 0 then (some (0, I16)) else ((rec 4 (v1 + 1) I16).bind (fun q18 => let u20 := q18.1; let I21 := q18.2; if u20 = 0 then (some (0, I21)) else ((rd_expect F I21 x 93).bind (fun q23 => let u25 := q23.1; let I26 := q23.2; if u25 = 0 then (some (0, I26)) else (some (1, I26)))))))) else ((rec 0 v1 I).bind (fun q3 => let u5 := q3.1; let I6 := q3.2; if u5 = 0 then (some (0, I6)) else ((rec 7 v1 I6).bind (fun q8 => let u10 := q8.1; let I11 := q8.2; if u10 = 0 then (some (0, I11)) else (some (1, I11)))))))
def rd_readComparisonB (rec : Nat → Int32 → (Nat → Nat → Int32) → Option (Int32 × (Nat → Nat → Int32))) (F : Nat) (I : Nat → Nat → Int32) (x : Nat) (v1 : Int32) : Option (Int32 × (Nat → Nat → Int32)) := if (I (x + 2) 6) = 60 then ((rd_takeToken F I x).bind (fun q2 => let I4 := q2; (rec 0 v1 I4).bind (fun q5 => let u7 := q5.1; let I8 := q5.2; (rd_emit I8 x 6 0).bind (fun q9 => let u11 := q9.1; let I12 := q9.2; isb u7 (some (u7, I12)))))) else (if (I (x + 2) 6) = 61 then ((rd_takeToken F I x).bind (fun q15 => let I17 := q15; (rec 0 v1 I17).bind (fun q18 => let u20 := q18.1; let I21 := q18.2; (rd_emit I21 x 5 0).bind (fun q22 => let u24 := q22.1; let I25 := q22.2; isb u20 (some (u20, I25)))))) else (if (I (x + 2) 6) = 62 then ((rd_takeToken F I x).bind (fun q28 => let I30 := q28; (rec 0 v1 I30).bind (fun q31 => let u33 := q31.1; let I34 := q31.2; (rd_emit I34 x 7 0).bind (fun q35 => let u37 := q35.1; let I38 := q35.2; isb u33 (some (u33, I38)))))) else ((rd_refuse I x 2).bind (fun q40 => let u42 := q40.1; let I43 := q40.2; isb u42 (some (u42, I43))))))
def rd_parse (F : Nat) (x : Nat) : Nat → Nat → Int32 → (Nat → Nat → Int32) → Option (Int32 × (Nat → Nat → Int32))
  | 0, _, _, _ => none
  | kr + 1, t, a0, I => if t = 0 then rd_readSumB (rd_parse F x kr) F I x a0 else if t = 1 then rd_readTermB (rd_parse F x kr) F I x a0 else if t = 2 then rd_readAtomB (rd_parse F x kr) F I x a0 else if t = 3 then rd_readChoiceB (rd_parse F x kr) F I x a0 else if t = 4 then rd_readTruthB (rd_parse F x kr) F I x a0 else if t = 5 then rd_readBothB (rd_parse F x kr) F I x a0 else if t = 6 then rd_readUnitB (rd_parse F x kr) F I x a0 else rd_readComparisonB (rd_parse F x kr) F I x a0
def rd_parse_H (l : Launch) (D : va_G) (E : Nat → ClassId) (B : Nat → Prop) (n F : Nat) (T : Nat → Option (Nat × Nat)) (J : Nat → Nat → Int64) (P : Nat → Nat → Option Nat) (x : Nat) (k : Nat) : Prop := (∀ {a0 : Int32} {I : Nat → Nat → Int32} {r : Int32 × (Nat → Nat → Int32)}, isSR T P x →  P (x + 2) 2 = some (x + 1) → rd_parse F x k 0 a0 I = some r → Ct l D E B yX7_readSum cX7_readSum 5 (some .boolean) (20 + k) 0 0 [.ref (x + 2), .int a0] (n, T, I, J, P) (Ret (some (.int r.1)) (n, T, r.2, J, P))) ∧ (∀ {a0 : Int32} {I : Nat → Nat → Int32} {r : Int32 × (Nat → Nat → Int32)}, isSR T P x →  P (x + 2) 2 = some (x + 1) → rd_parse F x k 1 a0 I = some r → Ct l D E B yX7_readTerm cX7_readTerm 4 (some .boolean) (20 + k) 0 0 [.ref (x + 2), .int a0] (n, T, I, J, P) (Ret (some (.int r.1)) (n, T, r.2, J, P))) ∧ (∀ {a0 : Int32} {I : Nat → Nat → Int32} {r : Int32 × (Nat → Nat → Int32)}, isSR T P x →  P (x + 2) 2 = some (x + 1) → rd_parse F x k 2 a0 I = some r → Ct l D E B yX7_readAtom cX7_readAtom 2 (some .boolean) (20 + k) 0 0 [.ref (x + 2), .int a0] (n, T, I, J, P) (Ret (some (.int r.1)) (n, T, r.2, J, P))) ∧ (∀ {a0 : Int32} {I : Nat → Nat → Int32} {r : Int32 × (Nat → Nat → Int32)}, isSR T P x →  P (x + 2) 2 = some (x + 1) → rd_parse F x k 3 a0 I = some r → Ct l D E B yX7_readChoice cX7_readChoice 4 (some .boolean) (20 + k) 0 0 [.ref (x + 2), .int a0] (n, T, I, J, P) (Ret (some (.int r.1)) (n, T, r.2, J, P))) ∧ (∀ {a0 : Int32} {I : Nat → Nat → Int32} {r : Int32 × (Nat → Nat → Int32)}, isSR T P x →  P (x + 2) 2 = some (x + 1) → rd_parse F x k 4 a0 I = some r → Ct l D E B yX7_readTruth cX7_readTruth 4 (some .boolean) (20 + k) 0 0 [.ref (x + 2), .int a0] (n, T, I, J, P) (Ret (some (.int r.1)) (n, T, r.2, J, P))) ∧ (∀ {a0 : Int32} {I : Nat → Nat → Int32} {r : Int32 × (Nat → Nat → Int32)}, isSR T P x →  P (x + 2) 2 = some (x + 1) → rd_parse F x k 5 a0 I = some r → Ct l D E B yX7_readBoth cX7_readBoth 4 (some .boolean) (20 + k) 0 0 [.ref (x + 2), .int a0] (n, T, I, J, P) (Ret (some (.int r.1)) (n, T, r.2, J, P))) ∧ (∀ {a0 : Int32} {I : Nat → Nat → Int32} {r : Int32 × (Nat → Nat → Int32)}, isSR T P x →  P (x + 2) 2 = some (x + 1) → rd_parse F x k 6 a0 I = some r → Ct l D E B yX7_readUnit cX7_readUnit 3 (some .boolean) (20 + k) 0 0 [.ref (x + 2), .int a0] (n, T, I, J, P) (Ret (some (.int r.1)) (n, T, r.2, J, P))) ∧ (∀ {a0 : Int32} {I : Nat → Nat → Int32} {r : Int32 × (Nat → Nat → Int32)}, isSR T P x →  P (x + 2) 2 = some (x + 1) → rd_parse F x k 7 a0 I = some r → Ct l D E B yX7_readComparison cX7_readComparison 4 (some .boolean) (20 + k) 0 0 [.ref (x + 2), .int a0] (n, T, I, J, P) (Ret (some (.int r.1)) (n, T, r.2, J, P)))
theorem l_rd_readSumB_8 {l : Launch} {D : va_G} {E : Nat → ClassId} {B : Nat → Prop} {n F : Nat} {Q : Option Value → HT → Prop} {T : Nat → Option (Nat × Nat)} {J : Nat → Nat → Int64} {P : Nat → Nat → Option Nat} {x : Nat} {g1 : Int32} (hx : isSR T P x) (ht : P (x + 2) 2 = some (x + 1)) {kr : Nat} (ih0 : rd_parse_H l D E B n F T J P x kr) (r : Int32 × Int32 × (Nat → Nat → Int32)) : ∀ (k : Nat) (l2 : Int32) (l3 : Int32) (I : (Nat → Nat → Int32)), rd_readSumB_8 (rd_parse F x kr) F x g1 k l2 l3 I = some r → V l D E B yX7_readSum cX7_readSum 5 (some .boolean) (20 + (kr + 1)) 0 0 Q 0 0 (n, T, r.2.2, J, P) 77 [(0, some (.ref (x + 2))), (1, some (.int g1)), (2, some (.int (r.1))), (3, some (.int (r.2.1)))] [] → V l D E B yX7_readSum cX7_readSum 5 (some .boolean) (20 + (kr + 1)) 0 0 Q 0 0 (n, T, I, J, P) 8 [(0, some (.ref (x + 2))), (1, some (.int g1)), (2, some (.int l2)), (3, some (.int l3))] [] := by
  intro k
  induction k with
  | zero =>
    intro l2 l3 I hf hk
    cases hf
  | succ k ih =>
    intro l2 l3 I hf hk
    unfold rd_readSumB_8 at hf
    refine V.iload_n dX7_readSum_8 rfl ?_
    refine V.sipush (v := 900) dX7_readSum_9 (by decide) ?_
    refine V.icmp_ge 77 dX7_readSum_12 (by decide) (fun c5 => ?_) (fun c5 => ?_)
    · rw [if_pos c5] at hf
      obtain rfl := Option.some.inj hf
      exact V.lo [(0, some (.ref (x + 2))), (1, some (.int g1)), (2, some (.int l2)), (3, some (.int l3))] (by simp only [Subs]; repeat' first | exact trivial | constructor | rfl) hk
    · rw [if_neg c5] at hf
      refine V.iload_n dX7_readSum_15 rfl ?_
      refine V.if_eq 77 dX7_readSum_16 (by decide) (fun c6 => ?_) (fun c6 => ?_)
      · rw [if_pos c6] at hf
        obtain rfl := Option.some.inj hf
        exact V.lo [(0, some (.ref (x + 2))), (1, some (.int g1)), (2, some (.int l2)), (3, some (.int l3))] (by simp only [Subs]; repeat' first | exact trivial | constructor | rfl) hk
      · rw [if_neg c6] at hf
        refine V.aload_n dX7_readSum_19 rfl ?_
        refine V.getf fl_X7_56 dX7_readSum_20 (hx.1 2 (7, 0) rfl) (by decide) rfl ?_
        refine V.bipush (v := 43) dX7_readSum_23 (by decide) ?_
        refine V.icmp_eq 37 dX7_readSum_25 (by decide) (fun c7 => ?_) (fun c7 => ?_)
        · rw [if_pos c7] at hf
          refine V.aload_n dX7_readSum_37 rfl ?_
          refine V.getf fl_X7_56 dX7_readSum_38 (hx.1 2 (7, 0) rfl) (by decide) rfl ?_
          refine V.bipush (v := 43) dX7_readSum_41 (by decide) ?_
          refine V.icmp_ne 50 dX7_readSum_43 (by decide) (fun c8 => ?_) (fun c8 => ?_)
          · rw [if_neg c8] at hf
            refine V.iconst (v := 3) dX7_readSum_50 (by decide) ?_
            refine V.istore dX7_readSum_51 (by decide) (by first | exact rfl | exact trivial) ?_
            refine V.aload_n dX7_readSum_53 rfl ?_
            obtain ⟨I11, hk10, hf⟩ := bnd_some hf
            try dsimp only at hf
            refine V.inv cv_X7_45 (c_rd_takeToken hx ht hk10) dX7_readSum_54 (hx.1 2 (7, 0) rfl) (by decide) rfl rfl rfl (Nat.le_of_ble_eq_true rfl) (by omega) (by decide) (Nat.le_refl _) (Nat.le_refl _) (fun _ _ hq => ?_)
            obtain ⟨rfl, rfl⟩ := hq
            refine V.aload_n dX7_readSum_57 rfl ?_
            refine V.iload_n dX7_readSum_58 rfl ?_
            obtain ⟨⟨u14, I15⟩, hk13, hf⟩ := bnd_some hf
            try dsimp only at hf
            refine V.inv cv_X7_167 ((ih0.2.1) hx ht hk13) dX7_readSum_59 (hx.1 2 (7, 0) rfl) (by decide) rfl rfl rfl (Nat.le_of_ble_eq_true rfl) (by omega) (by decide) (Nat.le_refl _) (Nat.le_refl _) (fun _ _ hq => ?_)
            obtain ⟨rfl, rfl⟩ := hq
            try dsimp only
            refine V.istore_n dX7_readSum_62 rfl (by decide) (by first | exact rfl | exact trivial) ?_
            refine V.aload_n dX7_readSum_63 rfl ?_
            refine V.iload dX7_readSum_64 rfl ?_
            refine V.iconst (v := 0) dX7_readSum_66 (by decide) ?_
            obtain ⟨⟨u18, I19⟩, hk17, hf⟩ := bnd_some hf
            try dsimp only at hf
            refine V.inv cv_X7_170 (c_rd_emit hx hk17) dX7_readSum_67 (hx.1 2 (7, 0) rfl) (by decide) rfl rfl rfl (Nat.le_of_ble_eq_true rfl) (by omega) (by decide) (Nat.le_refl _) (Nat.le_refl _) (fun _ _ hq => ?_)
            obtain ⟨rfl, rfl⟩ := hq
            try dsimp only
            refine V.pop dX7_readSum_70 rfl ?_
            refine V.iinc (v := (l3 + 1)) dX7_readSum_71 rfl rfl (by first | exact rfl | exact trivial) ?_
            refine V.goto 8 dX7_readSum_74 (by decide) ?_
            exact V.lo [(0, some (.ref (x + 2))), (1, some (.int g1)), (2, some (.int u14)), (3, some (.int (l3 + 1)))] (by simp only [Subs]; repeat' first | exact trivial | constructor | rfl) (ih _ _ _ hf hk)
          · rw [if_pos c8] at hf
            refine V.iconst (v := 2) dX7_readSum_46 (by decide) ?_
            refine V.goto 51 dX7_readSum_47 (by decide) ?_
            refine V.istore dX7_readSum_51 (by decide) (by first | exact rfl | exact trivial) ?_
            refine V.aload_n dX7_readSum_53 rfl ?_
            obtain ⟨I22, hk21, hf⟩ := bnd_some hf
            try dsimp only at hf
            refine V.inv cv_X7_45 (c_rd_takeToken hx ht hk21) dX7_readSum_54 (hx.1 2 (7, 0) rfl) (by decide) rfl rfl rfl (Nat.le_of_ble_eq_true rfl) (by omega) (by decide) (Nat.le_refl _) (Nat.le_refl _) (fun _ _ hq => ?_)
            obtain ⟨rfl, rfl⟩ := hq
            refine V.aload_n dX7_readSum_57 rfl ?_
            refine V.iload_n dX7_readSum_58 rfl ?_
            obtain ⟨⟨u25, I26⟩, hk24, hf⟩ := bnd_some hf
            try dsimp only at hf
            refine V.inv cv_X7_167 ((ih0.2.1) hx ht hk24) dX7_readSum_59 (hx.1 2 (7, 0) rfl) (by decide) rfl rfl rfl (Nat.le_of_ble_eq_true rfl) (by omega) (by decide) (Nat.le_refl _) (Nat.le_refl _) (fun _ _ hq => ?_)
            obtain ⟨rfl, rfl⟩ := hq
            try dsimp only
            refine V.istore_n dX7_readSum_62 rfl (by decide) (by first | exact rfl | exact trivial) ?_
            refine V.aload_n dX7_readSum_63 rfl ?_
            refine V.iload dX7_readSum_64 rfl ?_
            refine V.iconst (v := 0) dX7_readSum_66 (by decide) ?_
            obtain ⟨⟨u29, I30⟩, hk28, hf⟩ := bnd_some hf
            try dsimp only at hf
            refine V.inv cv_X7_170 (c_rd_emit hx hk28) dX7_readSum_67 (hx.1 2 (7, 0) rfl) (by decide) rfl rfl rfl (Nat.le_of_ble_eq_true rfl) (by omega) (by decide) (Nat.le_refl _) (Nat.le_refl _) (fun _ _ hq => ?_)
            obtain ⟨rfl, rfl⟩ := hq
            try dsimp only
            refine V.pop dX7_readSum_70 rfl ?_
            refine V.iinc (v := (l3 + 1)) dX7_readSum_71 rfl rfl (by first | exact rfl | exact trivial) ?_
            refine V.goto 8 dX7_readSum_74 (by decide) ?_
            exact V.lo [(0, some (.ref (x + 2))), (1, some (.int g1)), (2, some (.int u25)), (3, some (.int (l3 + 1)))] (by simp only [Subs]; repeat' first | exact trivial | constructor | rfl) (ih _ _ _ hf hk)
        · rw [if_neg c7] at hf
          refine V.aload_n dX7_readSum_28 rfl ?_
          refine V.getf fl_X7_56 dX7_readSum_29 (hx.1 2 (7, 0) rfl) (by decide) rfl ?_
          refine V.bipush (v := 45) dX7_readSum_32 (by decide) ?_
          refine V.icmp_ne 77 dX7_readSum_34 (by decide) (fun c31 => ?_) (fun c31 => ?_)
          · rw [if_neg c31] at hf
            obtain rfl := Option.some.inj hf
            exact V.lo [(0, some (.ref (x + 2))), (1, some (.int g1)), (2, some (.int l2)), (3, some (.int l3))] (by simp only [Subs]; repeat' first | exact trivial | constructor | rfl) hk
          · rw [if_pos c31] at hf
            refine V.aload_n dX7_readSum_37 rfl ?_
            refine V.getf fl_X7_56 dX7_readSum_38 (hx.1 2 (7, 0) rfl) (by decide) rfl ?_
            refine V.bipush (v := 43) dX7_readSum_41 (by decide) ?_
            refine V.icmp_ne 50 dX7_readSum_43 (by decide) (fun c32 => ?_) (fun c32 => ?_)
            · rw [if_neg c32] at hf
              refine V.iconst (v := 3) dX7_readSum_50 (by decide) ?_
              refine V.istore dX7_readSum_51 (by decide) (by first | exact rfl | exact trivial) ?_
              refine V.aload_n dX7_readSum_53 rfl ?_
              obtain ⟨I35, hk34, hf⟩ := bnd_some hf
              try dsimp only at hf
              refine V.inv cv_X7_45 (c_rd_takeToken hx ht hk34) dX7_readSum_54 (hx.1 2 (7, 0) rfl) (by decide) rfl rfl rfl (Nat.le_of_ble_eq_true rfl) (by omega) (by decide) (Nat.le_refl _) (Nat.le_refl _) (fun _ _ hq => ?_)
              obtain ⟨rfl, rfl⟩ := hq
              refine V.aload_n dX7_readSum_57 rfl ?_
              refine V.iload_n dX7_readSum_58 rfl ?_
              obtain ⟨⟨u38, I39⟩, hk37, hf⟩ := bnd_some hf
              try dsimp only at hf
              refine V.inv cv_X7_167 ((ih0.2.1) hx ht hk37) dX7_readSum_59 (hx.1 2 (7, 0) rfl) (by decide) rfl rfl rfl (Nat.le_of_ble_eq_true rfl) (by omega) (by decide) (Nat.le_refl _) (Nat.le_refl _) (fun _ _ hq => ?_)
              obtain ⟨rfl, rfl⟩ := hq
              try dsimp only
              refine V.istore_n dX7_readSum_62 rfl (by decide) (by first | exact rfl | exact trivial) ?_
              refine V.aload_n dX7_readSum_63 rfl ?_
              refine V.iload dX7_readSum_64 rfl ?_
              refine V.iconst (v := 0) dX7_readSum_66 (by decide) ?_
              obtain ⟨⟨u42, I43⟩, hk41, hf⟩ := bnd_some hf
              try dsimp only at hf
              refine V.inv cv_X7_170 (c_rd_emit hx hk41) dX7_readSum_67 (hx.1 2 (7, 0) rfl) (by decide) rfl rfl rfl (Nat.le_of_ble_eq_true rfl) (by omega) (by decide) (Nat.le_refl _) (Nat.le_refl _) (fun _ _ hq => ?_)
              obtain ⟨rfl, rfl⟩ := hq
              try dsimp only
              refine V.pop dX7_readSum_70 rfl ?_
              refine V.iinc (v := (l3 + 1)) dX7_readSum_71 rfl rfl (by first | exact rfl | exact trivial) ?_
              refine V.goto 8 dX7_readSum_74 (by decide) ?_
              exact V.lo [(0, some (.ref (x + 2))), (1, some (.int g1)), (2, some (.int u38)), (3, some (.int (l3 + 1)))] (by simp only [Subs]; repeat' first | exact trivial | constructor | rfl) (ih _ _ _ hf hk)
            · rw [if_pos c32] at hf
              refine V.iconst (v := 2) dX7_readSum_46 (by decide) ?_
              refine V.goto 51 dX7_readSum_47 (by decide) ?_
              refine V.istore dX7_readSum_51 (by decide) (by first | exact rfl | exact trivial) ?_
              refine V.aload_n dX7_readSum_53 rfl ?_
              obtain ⟨I46, hk45, hf⟩ := bnd_some hf
              try dsimp only at hf
              refine V.inv cv_X7_45 (c_rd_takeToken hx ht hk45) dX7_readSum_54 (hx.1 2 (7, 0) rfl) (by decide) rfl rfl rfl (Nat.le_of_ble_eq_true rfl) (by omega) (by decide) (Nat.le_refl _) (Nat.le_refl _) (fun _ _ hq => ?_)
              obtain ⟨rfl, rfl⟩ := hq
              refine V.aload_n dX7_readSum_57 rfl ?_
              refine V.iload_n dX7_readSum_58 rfl ?_
              obtain ⟨⟨u49, I50⟩, hk48, hf⟩ := bnd_some hf
              try dsimp only at hf
              refine V.inv cv_X7_167 ((ih0.2.1) hx ht hk48) dX7_readSum_59 (hx.1 2 (7, 0) rfl) (by decide) rfl rfl rfl (Nat.le_of_ble_eq_true rfl) (by omega) (by decide) (Nat.le_refl _) (Nat.le_refl _) (fun _ _ hq => ?_)
              obtain ⟨rfl, rfl⟩ := hq
              try dsimp only
              refine V.istore_n dX7_readSum_62 rfl (by decide) (by first | exact rfl | exact trivial) ?_
              refine V.aload_n dX7_readSum_63 rfl ?_
              refine V.iload dX7_readSum_64 rfl ?_
              refine V.iconst (v := 0) dX7_readSum_66 (by decide) ?_
              obtain ⟨⟨u53, I54⟩, hk52, hf⟩ := bnd_some hf
              try dsimp only at hf
              refine V.inv cv_X7_170 (c_rd_emit hx hk52) dX7_readSum_67 (hx.1 2 (7, 0) rfl) (by decide) rfl rfl rfl (Nat.le_of_ble_eq_true rfl) (by omega) (by decide) (Nat.le_refl _) (Nat.le_refl _) (fun _ _ hq => ?_)
              obtain ⟨rfl, rfl⟩ := hq
              try dsimp only
              refine V.pop dX7_readSum_70 rfl ?_
              refine V.iinc (v := (l3 + 1)) dX7_readSum_71 rfl rfl (by first | exact rfl | exact trivial) ?_
              refine V.goto 8 dX7_readSum_74 (by decide) ?_
              exact V.lo [(0, some (.ref (x + 2))), (1, some (.int g1)), (2, some (.int u49)), (3, some (.int (l3 + 1)))] (by simp only [Subs]; repeat' first | exact trivial | constructor | rfl) (ih _ _ _ hf hk)
theorem l_rd_readTermB_8 {l : Launch} {D : va_G} {E : Nat → ClassId} {B : Nat → Prop} {n F : Nat} {Q : Option Value → HT → Prop} {T : Nat → Option (Nat × Nat)} {J : Nat → Nat → Int64} {P : Nat → Nat → Option Nat} {x : Nat} {g1 : Int32} (hx : isSR T P x) (ht : P (x + 2) 2 = some (x + 1)) {kr : Nat} (ih0 : rd_parse_H l D E B n F T J P x kr) (r : Int32 × Int32 × (Nat → Nat → Int32)) : ∀ (k : Nat) (l2 : Int32) (l3 : Int32) (I : (Nat → Nat → Int32)), rd_readTermB_8 (rd_parse F x kr) F x g1 k l2 l3 I = some r → V l D E B yX7_readTerm cX7_readTerm 4 (some .boolean) (20 + (kr + 1)) 0 0 Q 0 0 (n, T, r.2.2, J, P) 51 [(0, some (.ref (x + 2))), (1, some (.int g1)), (2, some (.int (r.1))), (3, some (.int (r.2.1)))] [] → V l D E B yX7_readTerm cX7_readTerm 4 (some .boolean) (20 + (kr + 1)) 0 0 Q 0 0 (n, T, I, J, P) 8 [(0, some (.ref (x + 2))), (1, some (.int g1)), (2, some (.int l2)), (3, some (.int l3))] [] := by
  intro k
  induction k with
  | zero =>
    intro l2 l3 I hf hk
    cases hf
  | succ k ih =>
    intro l2 l3 I hf hk
    unfold rd_readTermB_8 at hf
    refine V.iload_n dX7_readTerm_8 rfl ?_
    refine V.sipush (v := 900) dX7_readTerm_9 (by decide) ?_
    refine V.icmp_ge 51 dX7_readTerm_12 (by decide) (fun c5 => ?_) (fun c5 => ?_)
    · rw [if_pos c5] at hf
      obtain rfl := Option.some.inj hf
      exact V.lo [(0, some (.ref (x + 2))), (1, some (.int g1)), (2, some (.int l2)), (3, some (.int l3))] (by simp only [Subs]; repeat' first | exact trivial | constructor | rfl) hk
    · rw [if_neg c5] at hf
      refine V.iload_n dX7_readTerm_15 rfl ?_
      refine V.if_eq 51 dX7_readTerm_16 (by decide) (fun c6 => ?_) (fun c6 => ?_)
      · rw [if_pos c6] at hf
        obtain rfl := Option.some.inj hf
        exact V.lo [(0, some (.ref (x + 2))), (1, some (.int g1)), (2, some (.int l2)), (3, some (.int l3))] (by simp only [Subs]; repeat' first | exact trivial | constructor | rfl) hk
      · rw [if_neg c6] at hf
        refine V.aload_n dX7_readTerm_19 rfl ?_
        refine V.getf fl_X7_56 dX7_readTerm_20 (hx.1 2 (7, 0) rfl) (by decide) rfl ?_
        refine V.bipush (v := 42) dX7_readTerm_23 (by decide) ?_
        refine V.icmp_ne 51 dX7_readTerm_25 (by decide) (fun c7 => ?_) (fun c7 => ?_)
        · rw [if_neg c7] at hf
          obtain rfl := Option.some.inj hf
          exact V.lo [(0, some (.ref (x + 2))), (1, some (.int g1)), (2, some (.int l2)), (3, some (.int l3))] (by simp only [Subs]; repeat' first | exact trivial | constructor | rfl) hk
        · rw [if_pos c7] at hf
          refine V.aload_n dX7_readTerm_28 rfl ?_
          obtain ⟨I10, hk9, hf⟩ := bnd_some hf
          try dsimp only at hf
          refine V.inv cv_X7_45 (c_rd_takeToken hx ht hk9) dX7_readTerm_29 (hx.1 2 (7, 0) rfl) (by decide) rfl rfl rfl (Nat.le_of_ble_eq_true rfl) (by omega) (by decide) (Nat.le_refl _) (Nat.le_refl _) (fun _ _ hq => ?_)
          obtain ⟨rfl, rfl⟩ := hq
          refine V.aload_n dX7_readTerm_32 rfl ?_
          refine V.iload_n dX7_readTerm_33 rfl ?_
          obtain ⟨⟨u13, I14⟩, hk12, hf⟩ := bnd_some hf
          try dsimp only at hf
          refine V.inv cv_X7_173 ((ih0.2.2.1) hx ht hk12) dX7_readTerm_34 (hx.1 2 (7, 0) rfl) (by decide) rfl rfl rfl (Nat.le_of_ble_eq_true rfl) (by omega) (by decide) (Nat.le_refl _) (Nat.le_refl _) (fun _ _ hq => ?_)
          obtain ⟨rfl, rfl⟩ := hq
          try dsimp only
          refine V.istore_n dX7_readTerm_37 rfl (by decide) (by first | exact rfl | exact trivial) ?_
          refine V.aload_n dX7_readTerm_38 rfl ?_
          refine V.iconst (v := 4) dX7_readTerm_39 (by decide) ?_
          refine V.iconst (v := 0) dX7_readTerm_40 (by decide) ?_
          obtain ⟨⟨u17, I18⟩, hk16, hf⟩ := bnd_some hf
          try dsimp only at hf
          refine V.inv cv_X7_170 (c_rd_emit hx hk16) dX7_readTerm_41 (hx.1 2 (7, 0) rfl) (by decide) rfl rfl rfl (Nat.le_of_ble_eq_true rfl) (by omega) (by decide) (Nat.le_refl _) (Nat.le_refl _) (fun _ _ hq => ?_)
          obtain ⟨rfl, rfl⟩ := hq
          try dsimp only
          refine V.pop dX7_readTerm_44 rfl ?_
          refine V.iinc (v := (l3 + 1)) dX7_readTerm_45 rfl rfl (by first | exact rfl | exact trivial) ?_
          refine V.goto 8 dX7_readTerm_48 (by decide) ?_
          exact V.lo [(0, some (.ref (x + 2))), (1, some (.int g1)), (2, some (.int u13)), (3, some (.int (l3 + 1)))] (by simp only [Subs]; repeat' first | exact trivial | constructor | rfl) (ih _ _ _ hf hk)
theorem l_rd_readTruthB_8 {l : Launch} {D : va_G} {E : Nat → ClassId} {B : Nat → Prop} {n F : Nat} {Q : Option Value → HT → Prop} {T : Nat → Option (Nat × Nat)} {J : Nat → Nat → Int64} {P : Nat → Nat → Option Nat} {x : Nat} {g1 : Int32} (hx : isSR T P x) (ht : P (x + 2) 2 = some (x + 1)) {kr : Nat} (ih0 : rd_parse_H l D E B n F T J P x kr) (r : Int32 × Int32 × (Nat → Nat → Int32)) : ∀ (k : Nat) (l2 : Int32) (l3 : Int32) (I : (Nat → Nat → Int32)), rd_readTruthB_8 (rd_parse F x kr) F x g1 k l2 l3 I = some r → V l D E B yX7_readTruth cX7_readTruth 4 (some .boolean) (20 + (kr + 1)) 0 0 Q 0 0 (n, T, r.2.2, J, P) 53 [(0, some (.ref (x + 2))), (1, some (.int g1)), (2, some (.int (r.1))), (3, some (.int (r.2.1)))] [] → V l D E B yX7_readTruth cX7_readTruth 4 (some .boolean) (20 + (kr + 1)) 0 0 Q 0 0 (n, T, I, J, P) 8 [(0, some (.ref (x + 2))), (1, some (.int g1)), (2, some (.int l2)), (3, some (.int l3))] [] := by
  intro k
  induction k with
  | zero =>
    intro l2 l3 I hf hk
    cases hf
  | succ k ih =>
    intro l2 l3 I hf hk
    unfold rd_readTruthB_8 at hf
    refine V.iload_n dX7_readTruth_8 rfl ?_
    refine V.sipush (v := 900) dX7_readTruth_9 (by decide) ?_
    refine V.icmp_ge 53 dX7_readTruth_12 (by decide) (fun c5 => ?_) (fun c5 => ?_)
    · rw [if_pos c5] at hf
      obtain rfl := Option.some.inj hf
      exact V.lo [(0, some (.ref (x + 2))), (1, some (.int g1)), (2, some (.int l2)), (3, some (.int l3))] (by simp only [Subs]; repeat' first | exact trivial | constructor | rfl) hk
    · rw [if_neg c5] at hf
      refine V.iload_n dX7_readTruth_15 rfl ?_
      refine V.if_eq 53 dX7_readTruth_16 (by decide) (fun c6 => ?_) (fun c6 => ?_)
      · rw [if_pos c6] at hf
        obtain rfl := Option.some.inj hf
        exact V.lo [(0, some (.ref (x + 2))), (1, some (.int g1)), (2, some (.int l2)), (3, some (.int l3))] (by simp only [Subs]; repeat' first | exact trivial | constructor | rfl) hk
      · rw [if_neg c6] at hf
        refine V.aload_n dX7_readTruth_19 rfl ?_
        refine V.getf fl_X7_56 dX7_readTruth_20 (hx.1 2 (7, 0) rfl) (by decide) rfl ?_
        refine V.sipush (v := 219) dX7_readTruth_23 (by decide) ?_
        refine V.icmp_ne 53 dX7_readTruth_26 (by decide) (fun c7 => ?_) (fun c7 => ?_)
        · rw [if_neg c7] at hf
          obtain rfl := Option.some.inj hf
          exact V.lo [(0, some (.ref (x + 2))), (1, some (.int g1)), (2, some (.int l2)), (3, some (.int l3))] (by simp only [Subs]; repeat' first | exact trivial | constructor | rfl) hk
        · rw [if_pos c7] at hf
          refine V.aload_n dX7_readTruth_29 rfl ?_
          obtain ⟨I10, hk9, hf⟩ := bnd_some hf
          try dsimp only at hf
          refine V.inv cv_X7_45 (c_rd_takeToken hx ht hk9) dX7_readTruth_30 (hx.1 2 (7, 0) rfl) (by decide) rfl rfl rfl (Nat.le_of_ble_eq_true rfl) (by omega) (by decide) (Nat.le_refl _) (Nat.le_refl _) (fun _ _ hq => ?_)
          obtain ⟨rfl, rfl⟩ := hq
          refine V.aload_n dX7_readTruth_33 rfl ?_
          refine V.iload_n dX7_readTruth_34 rfl ?_
          obtain ⟨⟨u13, I14⟩, hk12, hf⟩ := bnd_some hf
          try dsimp only at hf
          refine V.inv cv_X7_189 ((ih0.2.2.2.2.2.1) hx ht hk12) dX7_readTruth_35 (hx.1 2 (7, 0) rfl) (by decide) rfl rfl rfl (Nat.le_of_ble_eq_true rfl) (by omega) (by decide) (Nat.le_refl _) (Nat.le_refl _) (fun _ _ hq => ?_)
          obtain ⟨rfl, rfl⟩ := hq
          try dsimp only
          refine V.istore_n dX7_readTruth_38 rfl (by decide) (by first | exact rfl | exact trivial) ?_
          refine V.aload_n dX7_readTruth_39 rfl ?_
          refine V.bipush (v := 9) dX7_readTruth_40 (by decide) ?_
          refine V.iconst (v := 0) dX7_readTruth_42 (by decide) ?_
          obtain ⟨⟨u17, I18⟩, hk16, hf⟩ := bnd_some hf
          try dsimp only at hf
          refine V.inv cv_X7_170 (c_rd_emit hx hk16) dX7_readTruth_43 (hx.1 2 (7, 0) rfl) (by decide) rfl rfl rfl (Nat.le_of_ble_eq_true rfl) (by omega) (by decide) (Nat.le_refl _) (Nat.le_refl _) (fun _ _ hq => ?_)
          obtain ⟨rfl, rfl⟩ := hq
          try dsimp only
          refine V.pop dX7_readTruth_46 rfl ?_
          refine V.iinc (v := (l3 + 1)) dX7_readTruth_47 rfl rfl (by first | exact rfl | exact trivial) ?_
          refine V.goto 8 dX7_readTruth_50 (by decide) ?_
          exact V.lo [(0, some (.ref (x + 2))), (1, some (.int g1)), (2, some (.int u13)), (3, some (.int (l3 + 1)))] (by simp only [Subs]; repeat' first | exact trivial | constructor | rfl) (ih _ _ _ hf hk)
theorem l_rd_readBothB_8 {l : Launch} {D : va_G} {E : Nat → ClassId} {B : Nat → Prop} {n F : Nat} {Q : Option Value → HT → Prop} {T : Nat → Option (Nat × Nat)} {J : Nat → Nat → Int64} {P : Nat → Nat → Option Nat} {x : Nat} {g1 : Int32} (hx : isSR T P x) (ht : P (x + 2) 2 = some (x + 1)) {kr : Nat} (ih0 : rd_parse_H l D E B n F T J P x kr) (r : Int32 × Int32 × (Nat → Nat → Int32)) : ∀ (k : Nat) (l2 : Int32) (l3 : Int32) (I : (Nat → Nat → Int32)), rd_readBothB_8 (rd_parse F x kr) F x g1 k l2 l3 I = some r → V l D E B yX7_readBoth cX7_readBoth 4 (some .boolean) (20 + (kr + 1)) 0 0 Q 0 0 (n, T, r.2.2, J, P) 53 [(0, some (.ref (x + 2))), (1, some (.int g1)), (2, some (.int (r.1))), (3, some (.int (r.2.1)))] [] → V l D E B yX7_readBoth cX7_readBoth 4 (some .boolean) (20 + (kr + 1)) 0 0 Q 0 0 (n, T, I, J, P) 8 [(0, some (.ref (x + 2))), (1, some (.int g1)), (2, some (.int l2)), (3, some (.int l3))] [] := by
  intro k
  induction k with
  | zero =>
    intro l2 l3 I hf hk
    cases hf
  | succ k ih =>
    intro l2 l3 I hf hk
    unfold rd_readBothB_8 at hf
    refine V.iload_n dX7_readBoth_8 rfl ?_
    refine V.sipush (v := 900) dX7_readBoth_9 (by decide) ?_
    refine V.icmp_ge 53 dX7_readBoth_12 (by decide) (fun c5 => ?_) (fun c5 => ?_)
    · rw [if_pos c5] at hf
      obtain rfl := Option.some.inj hf
      exact V.lo [(0, some (.ref (x + 2))), (1, some (.int g1)), (2, some (.int l2)), (3, some (.int l3))] (by simp only [Subs]; repeat' first | exact trivial | constructor | rfl) hk
    · rw [if_neg c5] at hf
      refine V.iload_n dX7_readBoth_15 rfl ?_
      refine V.if_eq 53 dX7_readBoth_16 (by decide) (fun c6 => ?_) (fun c6 => ?_)
      · rw [if_pos c6] at hf
        obtain rfl := Option.some.inj hf
        exact V.lo [(0, some (.ref (x + 2))), (1, some (.int g1)), (2, some (.int l2)), (3, some (.int l3))] (by simp only [Subs]; repeat' first | exact trivial | constructor | rfl) hk
      · rw [if_neg c6] at hf
        refine V.aload_n dX7_readBoth_19 rfl ?_
        refine V.getf fl_X7_56 dX7_readBoth_20 (hx.1 2 (7, 0) rfl) (by decide) rfl ?_
        refine V.sipush (v := 218) dX7_readBoth_23 (by decide) ?_
        refine V.icmp_ne 53 dX7_readBoth_26 (by decide) (fun c7 => ?_) (fun c7 => ?_)
        · rw [if_neg c7] at hf
          obtain rfl := Option.some.inj hf
          exact V.lo [(0, some (.ref (x + 2))), (1, some (.int g1)), (2, some (.int l2)), (3, some (.int l3))] (by simp only [Subs]; repeat' first | exact trivial | constructor | rfl) hk
        · rw [if_pos c7] at hf
          refine V.aload_n dX7_readBoth_29 rfl ?_
          obtain ⟨I10, hk9, hf⟩ := bnd_some hf
          try dsimp only at hf
          refine V.inv cv_X7_45 (c_rd_takeToken hx ht hk9) dX7_readBoth_30 (hx.1 2 (7, 0) rfl) (by decide) rfl rfl rfl (Nat.le_of_ble_eq_true rfl) (by omega) (by decide) (Nat.le_refl _) (Nat.le_refl _) (fun _ _ hq => ?_)
          obtain ⟨rfl, rfl⟩ := hq
          refine V.aload_n dX7_readBoth_33 rfl ?_
          refine V.iload_n dX7_readBoth_34 rfl ?_
          obtain ⟨⟨u13, I14⟩, hk12, hf⟩ := bnd_some hf
          try dsimp only at hf
          refine V.inv cv_X7_192 ((ih0.2.2.2.2.2.2.1) hx ht hk12) dX7_readBoth_35 (hx.1 2 (7, 0) rfl) (by decide) rfl rfl rfl (Nat.le_of_ble_eq_true rfl) (by omega) (by decide) (Nat.le_refl _) (Nat.le_refl _) (fun _ _ hq => ?_)
          obtain ⟨rfl, rfl⟩ := hq
          try dsimp only
          refine V.istore_n dX7_readBoth_38 rfl (by decide) (by first | exact rfl | exact trivial) ?_
          refine V.aload_n dX7_readBoth_39 rfl ?_
          refine V.bipush (v := 8) dX7_readBoth_40 (by decide) ?_
          refine V.iconst (v := 0) dX7_readBoth_42 (by decide) ?_
          obtain ⟨⟨u17, I18⟩, hk16, hf⟩ := bnd_some hf
          try dsimp only at hf
          refine V.inv cv_X7_170 (c_rd_emit hx hk16) dX7_readBoth_43 (hx.1 2 (7, 0) rfl) (by decide) rfl rfl rfl (Nat.le_of_ble_eq_true rfl) (by omega) (by decide) (Nat.le_refl _) (Nat.le_refl _) (fun _ _ hq => ?_)
          obtain ⟨rfl, rfl⟩ := hq
          try dsimp only
          refine V.pop dX7_readBoth_46 rfl ?_
          refine V.iinc (v := (l3 + 1)) dX7_readBoth_47 rfl rfl (by first | exact rfl | exact trivial) ?_
          refine V.goto 8 dX7_readBoth_50 (by decide) ?_
          exact V.lo [(0, some (.ref (x + 2))), (1, some (.int g1)), (2, some (.int u13)), (3, some (.int (l3 + 1)))] (by simp only [Subs]; repeat' first | exact trivial | constructor | rfl) (ih _ _ _ hf hk)
theorem s_rd_readSumB {l : Launch} {D : va_G} {E : Nat → ClassId} {B : Nat → Prop} {n F : Nat} {T : Nat → Option (Nat × Nat)} {J : Nat → Nat → Int64} {P : Nat → Nat → Option Nat} {x : Nat} {kr : Nat} (ih0 : rd_parse_H l D E B n F T J P x kr) {v1 : Int32} {I : Nat → Nat → Int32} {r : Int32 × (Nat → Nat → Int32)} (hx : isSR T P x) (ht : P (x + 2) 2 = some (x + 1)) (hf : rd_readSumB (rd_parse F x kr) F I x v1 = some r) : Ct l D E B yX7_readSum cX7_readSum 5 (some .boolean) (20 + (kr + 1)) 0 0 [.ref (x + 2), .int v1] (n, T, I, J, P) (Ret (some (.int r.1)) (n, T, r.2, J, P)) := by
  unfold rd_readSumB at hf
  refine Ct.ofV (by decide) (Nat.le_of_ble_eq_true rfl) ?_
  refine V.aload_n dX7_readSum_0 rfl ?_
  refine V.iload_n dX7_readSum_1 rfl ?_
  obtain ⟨⟨u3, I4⟩, hk2, hf⟩ := bnd_some hf
  try dsimp only at hf
  refine V.inv cv_X7_167 ((ih0.2.1) hx ht hk2) dX7_readSum_2 (hx.1 2 (7, 0) rfl) (by decide) rfl rfl rfl (Nat.le_of_ble_eq_true rfl) (by omega) (by decide) (Nat.le_refl _) (Nat.le_refl _) (fun _ _ hq => ?_)
  obtain ⟨rfl, rfl⟩ := hq
  try dsimp only
  refine V.istore_n dX7_readSum_5 rfl (by decide) (by first | exact rfl | exact trivial) ?_
  refine V.iconst (v := 0) dX7_readSum_6 (by decide) ?_
  refine V.istore_n dX7_readSum_7 rfl (by decide) (by first | exact rfl | exact trivial) ?_
  obtain ⟨⟨m57, m58, I59⟩, hk56, hf⟩ := bnd_some hf
  try dsimp only at hf
  refine V.lo [(0, some (.ref (x + 2))), (1, some (.int v1)), (2, some (.int u3)), (3, some (.int 0))] (by simp only [Subs]; repeat' first | exact trivial | constructor | rfl) (l_rd_readSumB_8 hx ht ih0 _ F _ _ _ hk56 ?_)
  try dsimp only
  refine V.iload_n dX7_readSum_77 rfl ?_
  obtain ⟨hn60, hf⟩ := isb_some hf
  obtain rfl := Option.some.inj hf
  exact V.zret dX7_readSum_78 rfl hn60 (Nat.le_refl _) (Nat.le_refl _) ⟨rfl, rfl⟩
theorem s_rd_readTermB {l : Launch} {D : va_G} {E : Nat → ClassId} {B : Nat → Prop} {n F : Nat} {T : Nat → Option (Nat × Nat)} {J : Nat → Nat → Int64} {P : Nat → Nat → Option Nat} {x : Nat} {kr : Nat} (ih0 : rd_parse_H l D E B n F T J P x kr) {v1 : Int32} {I : Nat → Nat → Int32} {r : Int32 × (Nat → Nat → Int32)} (hx : isSR T P x) (ht : P (x + 2) 2 = some (x + 1)) (hf : rd_readTermB (rd_parse F x kr) F I x v1 = some r) : Ct l D E B yX7_readTerm cX7_readTerm 4 (some .boolean) (20 + (kr + 1)) 0 0 [.ref (x + 2), .int v1] (n, T, I, J, P) (Ret (some (.int r.1)) (n, T, r.2, J, P)) := by
  unfold rd_readTermB at hf
  refine Ct.ofV (by decide) (Nat.le_of_ble_eq_true rfl) ?_
  refine V.aload_n dX7_readTerm_0 rfl ?_
  refine V.iload_n dX7_readTerm_1 rfl ?_
  obtain ⟨⟨u3, I4⟩, hk2, hf⟩ := bnd_some hf
  try dsimp only at hf
  refine V.inv cv_X7_173 ((ih0.2.2.1) hx ht hk2) dX7_readTerm_2 (hx.1 2 (7, 0) rfl) (by decide) rfl rfl rfl (Nat.le_of_ble_eq_true rfl) (by omega) (by decide) (Nat.le_refl _) (Nat.le_refl _) (fun _ _ hq => ?_)
  obtain ⟨rfl, rfl⟩ := hq
  try dsimp only
  refine V.istore_n dX7_readTerm_5 rfl (by decide) (by first | exact rfl | exact trivial) ?_
  refine V.iconst (v := 0) dX7_readTerm_6 (by decide) ?_
  refine V.istore_n dX7_readTerm_7 rfl (by decide) (by first | exact rfl | exact trivial) ?_
  obtain ⟨⟨m21, m22, I23⟩, hk20, hf⟩ := bnd_some hf
  try dsimp only at hf
  refine V.lo [(0, some (.ref (x + 2))), (1, some (.int v1)), (2, some (.int u3)), (3, some (.int 0))] (by simp only [Subs]; repeat' first | exact trivial | constructor | rfl) (l_rd_readTermB_8 hx ht ih0 _ F _ _ _ hk20 ?_)
  try dsimp only
  refine V.iload_n dX7_readTerm_51 rfl ?_
  obtain ⟨hn24, hf⟩ := isb_some hf
  obtain rfl := Option.some.inj hf
  exact V.zret dX7_readTerm_52 rfl hn24 (Nat.le_refl _) (Nat.le_refl _) ⟨rfl, rfl⟩
theorem s_rd_readAtomB {l : Launch} {D : va_G} {E : Nat → ClassId} {B : Nat → Prop} {n F : Nat} {T : Nat → Option (Nat × Nat)} {J : Nat → Nat → Int64} {P : Nat → Nat → Option Nat} {x : Nat} {kr : Nat} (ih0 : rd_parse_H l D E B n F T J P x kr) {v1 : Int32} {I : Nat → Nat → Int32} {r : Int32 × (Nat → Nat → Int32)} (hx : isSR T P x) (ht : P (x + 2) 2 = some (x + 1)) (hf : rd_readAtomB (rd_parse F x kr) F I x v1 = some r) : Ct l D E B yX7_readAtom cX7_readAtom 2 (some .boolean) (20 + (kr + 1)) 0 0 [.ref (x + 2), .int v1] (n, T, I, J, P) (Ret (some (.int r.1)) (n, T, r.2, J, P)) := by
  unfold rd_readAtomB at hf
  refine Ct.ofV (by decide) (Nat.le_of_ble_eq_true rfl) ?_
  refine V.aload_n dX7_readAtom_0 rfl ?_
  refine V.getf fl_X7_56 dX7_readAtom_1 (hx.1 2 (7, 0) rfl) (by decide) rfl ?_
  refine V.iconst (v := 1) dX7_readAtom_4 (by decide) ?_
  refine V.icmp_ne 24 dX7_readAtom_5 (by decide) (fun c1 => ?_) (fun c1 => ?_)
  · rw [if_neg c1] at hf
    refine V.aload_n dX7_readAtom_24 rfl ?_
    refine V.getf fl_X7_56 dX7_readAtom_25 (hx.1 2 (7, 0) rfl) (by decide) rfl ?_
    refine V.sipush (v := 200) dX7_readAtom_28 (by decide) ?_
    refine V.icmp_lt 64 dX7_readAtom_31 (by decide) (fun c2 => ?_) (fun c2 => ?_)
    · rw [if_pos c2] at hf
      refine V.aload_n dX7_readAtom_64 rfl ?_
      refine V.getf fl_X7_56 dX7_readAtom_65 (hx.1 2 (7, 0) rfl) (by decide) rfl ?_
      refine V.bipush (v := 40) dX7_readAtom_68 (by decide) ?_
      refine V.icmp_ne 106 dX7_readAtom_70 (by decide) (fun c3 => ?_) (fun c3 => ?_)
      · rw [if_neg c3] at hf
        refine V.aload_n dX7_readAtom_106 rfl ?_
        refine V.getf fl_X7_56 dX7_readAtom_107 (hx.1 2 (7, 0) rfl) (by decide) rfl ?_
        refine V.sipush (v := 213) dX7_readAtom_110 (by decide) ?_
        refine V.icmp_ne 124 dX7_readAtom_113 (by decide) (fun c4 => ?_) (fun c4 => ?_)
        · rw [if_neg c4] at hf
          refine V.aload_n dX7_readAtom_124 rfl ?_
          refine V.iconst (v := 2) dX7_readAtom_125 (by decide) ?_
          obtain ⟨⟨u7, I8⟩, hk6, hf⟩ := bnd_some hf
          try dsimp only at hf
          refine V.inv cv_X7_68 (c_rd_refuse hx hk6) dX7_readAtom_126 (hx.1 2 (7, 0) rfl) (by decide) rfl rfl rfl (Nat.le_of_ble_eq_true rfl) (by omega) (by decide) (Nat.le_refl _) (Nat.le_refl _) (fun _ _ hq => ?_)
          obtain ⟨rfl, rfl⟩ := hq
          try dsimp only
          obtain ⟨hn9, hf⟩ := isb_some hf
          obtain rfl := Option.some.inj hf
          exact V.zret dX7_readAtom_129 rfl hn9 (Nat.le_refl _) (Nat.le_refl _) ⟨rfl, rfl⟩
        · rw [if_pos c4] at hf
          refine V.aload_n dX7_readAtom_116 rfl ?_
          refine V.iload_n dX7_readAtom_117 rfl ?_
          obtain ⟨⟨u12, I13⟩, hk11, hf⟩ := bnd_some hf
          try dsimp only at hf
          refine V.inv cv_X7_179 ((ih0.2.2.2.1) hx ht hk11) dX7_readAtom_118 (hx.1 2 (7, 0) rfl) (by decide) rfl rfl rfl (Nat.le_of_ble_eq_true rfl) (by omega) (by decide) (Nat.le_refl _) (Nat.le_refl _) (fun _ _ hq => ?_)
          obtain ⟨rfl, rfl⟩ := hq
          try dsimp only
          refine V.goto 129 dX7_readAtom_121 (by decide) ?_
          obtain ⟨hn14, hf⟩ := isb_some hf
          obtain rfl := Option.some.inj hf
          exact V.zret dX7_readAtom_129 rfl hn14 (Nat.le_refl _) (Nat.le_refl _) ⟨rfl, rfl⟩
      · rw [if_pos c3] at hf
        refine V.aload_n dX7_readAtom_73 rfl ?_
        refine V.iload_n dX7_readAtom_74 rfl ?_
        obtain ⟨⟨u17, I18⟩, hk16, hf⟩ := bnd_some hf
        try dsimp only at hf
        refine V.inv cv_X7_176 (c_rd_goWithin hx ht hk16) dX7_readAtom_75 (hx.1 2 (7, 0) rfl) (by decide) rfl rfl rfl (Nat.le_of_ble_eq_true rfl) (by omega) (by decide) (Nat.le_refl _) (Nat.le_refl _) (fun _ _ hq => ?_)
        obtain ⟨rfl, rfl⟩ := hq
        try dsimp only
        refine V.if_eq 104 dX7_readAtom_78 (by decide) (fun c19 => ?_) (fun c19 => ?_)
        · rw [if_pos c19] at hf
          refine V.iconst (v := 0) dX7_readAtom_104 (by decide) ?_
          obtain rfl := Option.some.inj hf
          exact V.zret dX7_readAtom_105 rfl rfl (Nat.le_refl _) (Nat.le_refl _) ⟨rfl, rfl⟩
        · rw [if_neg c19] at hf
          refine V.aload_n dX7_readAtom_81 rfl ?_
          refine V.iload_n dX7_readAtom_82 rfl ?_
          refine V.iconst (v := 1) dX7_readAtom_83 (by decide) ?_
          refine V.iadd dX7_readAtom_84 ?_
          obtain ⟨⟨u22, I23⟩, hk21, hf⟩ := bnd_some hf
          try dsimp only at hf
          refine V.inv cv_X7_161 ((ih0.1) hx ht hk21) dX7_readAtom_85 (hx.1 2 (7, 0) rfl) (by decide) rfl rfl rfl (Nat.le_of_ble_eq_true rfl) (by omega) (by decide) (Nat.le_refl _) (Nat.le_refl _) (fun _ _ hq => ?_)
          obtain ⟨rfl, rfl⟩ := hq
          try dsimp only
          refine V.if_eq 104 dX7_readAtom_88 (by decide) (fun c24 => ?_) (fun c24 => ?_)
          · rw [if_pos c24] at hf
            refine V.iconst (v := 0) dX7_readAtom_104 (by decide) ?_
            obtain rfl := Option.some.inj hf
            exact V.zret dX7_readAtom_105 rfl rfl (Nat.le_refl _) (Nat.le_refl _) ⟨rfl, rfl⟩
          · rw [if_neg c24] at hf
            refine V.aload_n dX7_readAtom_91 rfl ?_
            refine V.bipush (v := 41) dX7_readAtom_92 (by decide) ?_
            obtain ⟨⟨u27, I28⟩, hk26, hf⟩ := bnd_some hf
            try dsimp only at hf
            refine V.inv cv_X7_48 (c_rd_expect hx ht hk26) dX7_readAtom_94 (hx.1 2 (7, 0) rfl) (by decide) rfl rfl rfl (Nat.le_of_ble_eq_true rfl) (by omega) (by decide) (Nat.le_refl _) (Nat.le_refl _) (fun _ _ hq => ?_)
            obtain ⟨rfl, rfl⟩ := hq
            try dsimp only
            refine V.if_eq 104 dX7_readAtom_97 (by decide) (fun c29 => ?_) (fun c29 => ?_)
            · rw [if_pos c29] at hf
              refine V.iconst (v := 0) dX7_readAtom_104 (by decide) ?_
              obtain rfl := Option.some.inj hf
              exact V.zret dX7_readAtom_105 rfl rfl (Nat.le_refl _) (Nat.le_refl _) ⟨rfl, rfl⟩
            · rw [if_neg c29] at hf
              refine V.iconst (v := 1) dX7_readAtom_100 (by decide) ?_
              refine V.goto 105 dX7_readAtom_101 (by decide) ?_
              obtain rfl := Option.some.inj hf
              exact V.zret dX7_readAtom_105 rfl rfl (Nat.le_refl _) (Nat.le_refl _) ⟨rfl, rfl⟩
    · rw [if_neg c2] at hf
      refine V.aload_n dX7_readAtom_34 rfl ?_
      refine V.getf fl_X7_56 dX7_readAtom_35 (hx.1 2 (7, 0) rfl) (by decide) rfl ?_
      refine V.sipush (v := 207) dX7_readAtom_38 (by decide) ?_
      refine V.icmp_ge 64 dX7_readAtom_41 (by decide) (fun c30 => ?_) (fun c30 => ?_)
      · rw [if_pos c30] at hf
        refine V.aload_n dX7_readAtom_64 rfl ?_
        refine V.getf fl_X7_56 dX7_readAtom_65 (hx.1 2 (7, 0) rfl) (by decide) rfl ?_
        refine V.bipush (v := 40) dX7_readAtom_68 (by decide) ?_
        refine V.icmp_ne 106 dX7_readAtom_70 (by decide) (fun c31 => ?_) (fun c31 => ?_)
        · rw [if_neg c31] at hf
          refine V.aload_n dX7_readAtom_106 rfl ?_
          refine V.getf fl_X7_56 dX7_readAtom_107 (hx.1 2 (7, 0) rfl) (by decide) rfl ?_
          refine V.sipush (v := 213) dX7_readAtom_110 (by decide) ?_
          refine V.icmp_ne 124 dX7_readAtom_113 (by decide) (fun c32 => ?_) (fun c32 => ?_)
          · rw [if_neg c32] at hf
            refine V.aload_n dX7_readAtom_124 rfl ?_
            refine V.iconst (v := 2) dX7_readAtom_125 (by decide) ?_
            obtain ⟨⟨u35, I36⟩, hk34, hf⟩ := bnd_some hf
            try dsimp only at hf
            refine V.inv cv_X7_68 (c_rd_refuse hx hk34) dX7_readAtom_126 (hx.1 2 (7, 0) rfl) (by decide) rfl rfl rfl (Nat.le_of_ble_eq_true rfl) (by omega) (by decide) (Nat.le_refl _) (Nat.le_refl _) (fun _ _ hq => ?_)
            obtain ⟨rfl, rfl⟩ := hq
            try dsimp only
            obtain ⟨hn37, hf⟩ := isb_some hf
            obtain rfl := Option.some.inj hf
            exact V.zret dX7_readAtom_129 rfl hn37 (Nat.le_refl _) (Nat.le_refl _) ⟨rfl, rfl⟩
          · rw [if_pos c32] at hf
            refine V.aload_n dX7_readAtom_116 rfl ?_
            refine V.iload_n dX7_readAtom_117 rfl ?_
            obtain ⟨⟨u40, I41⟩, hk39, hf⟩ := bnd_some hf
            try dsimp only at hf
            refine V.inv cv_X7_179 ((ih0.2.2.2.1) hx ht hk39) dX7_readAtom_118 (hx.1 2 (7, 0) rfl) (by decide) rfl rfl rfl (Nat.le_of_ble_eq_true rfl) (by omega) (by decide) (Nat.le_refl _) (Nat.le_refl _) (fun _ _ hq => ?_)
            obtain ⟨rfl, rfl⟩ := hq
            try dsimp only
            refine V.goto 129 dX7_readAtom_121 (by decide) ?_
            obtain ⟨hn42, hf⟩ := isb_some hf
            obtain rfl := Option.some.inj hf
            exact V.zret dX7_readAtom_129 rfl hn42 (Nat.le_refl _) (Nat.le_refl _) ⟨rfl, rfl⟩
        · rw [if_pos c31] at hf
          refine V.aload_n dX7_readAtom_73 rfl ?_
          refine V.iload_n dX7_readAtom_74 rfl ?_
          obtain ⟨⟨u45, I46⟩, hk44, hf⟩ := bnd_some hf
          try dsimp only at hf
          refine V.inv cv_X7_176 (c_rd_goWithin hx ht hk44) dX7_readAtom_75 (hx.1 2 (7, 0) rfl) (by decide) rfl rfl rfl (Nat.le_of_ble_eq_true rfl) (by omega) (by decide) (Nat.le_refl _) (Nat.le_refl _) (fun _ _ hq => ?_)
          obtain ⟨rfl, rfl⟩ := hq
          try dsimp only
          refine V.if_eq 104 dX7_readAtom_78 (by decide) (fun c47 => ?_) (fun c47 => ?_)
          · rw [if_pos c47] at hf
            refine V.iconst (v := 0) dX7_readAtom_104 (by decide) ?_
            obtain rfl := Option.some.inj hf
            exact V.zret dX7_readAtom_105 rfl rfl (Nat.le_refl _) (Nat.le_refl _) ⟨rfl, rfl⟩
          · rw [if_neg c47] at hf
            refine V.aload_n dX7_readAtom_81 rfl ?_
            refine V.iload_n dX7_readAtom_82 rfl ?_
            refine V.iconst (v := 1) dX7_readAtom_83 (by decide) ?_
            refine V.iadd dX7_readAtom_84 ?_
            obtain ⟨⟨u50, I51⟩, hk49, hf⟩ := bnd_some hf
            try dsimp only at hf
            refine V.inv cv_X7_161 ((ih0.1) hx ht hk49) dX7_readAtom_85 (hx.1 2 (7, 0) rfl) (by decide) rfl rfl rfl (Nat.le_of_ble_eq_true rfl) (by omega) (by decide) (Nat.le_refl _) (Nat.le_refl _) (fun _ _ hq => ?_)
            obtain ⟨rfl, rfl⟩ := hq
            try dsimp only
            refine V.if_eq 104 dX7_readAtom_88 (by decide) (fun c52 => ?_) (fun c52 => ?_)
            · rw [if_pos c52] at hf
              refine V.iconst (v := 0) dX7_readAtom_104 (by decide) ?_
              obtain rfl := Option.some.inj hf
              exact V.zret dX7_readAtom_105 rfl rfl (Nat.le_refl _) (Nat.le_refl _) ⟨rfl, rfl⟩
            · rw [if_neg c52] at hf
              refine V.aload_n dX7_readAtom_91 rfl ?_
              refine V.bipush (v := 41) dX7_readAtom_92 (by decide) ?_
              obtain ⟨⟨u55, I56⟩, hk54, hf⟩ := bnd_some hf
              try dsimp only at hf
              refine V.inv cv_X7_48 (c_rd_expect hx ht hk54) dX7_readAtom_94 (hx.1 2 (7, 0) rfl) (by decide) rfl rfl rfl (Nat.le_of_ble_eq_true rfl) (by omega) (by decide) (Nat.le_refl _) (Nat.le_refl _) (fun _ _ hq => ?_)
              obtain ⟨rfl, rfl⟩ := hq
              try dsimp only
              refine V.if_eq 104 dX7_readAtom_97 (by decide) (fun c57 => ?_) (fun c57 => ?_)
              · rw [if_pos c57] at hf
                refine V.iconst (v := 0) dX7_readAtom_104 (by decide) ?_
                obtain rfl := Option.some.inj hf
                exact V.zret dX7_readAtom_105 rfl rfl (Nat.le_refl _) (Nat.le_refl _) ⟨rfl, rfl⟩
              · rw [if_neg c57] at hf
                refine V.iconst (v := 1) dX7_readAtom_100 (by decide) ?_
                refine V.goto 105 dX7_readAtom_101 (by decide) ?_
                obtain rfl := Option.some.inj hf
                exact V.zret dX7_readAtom_105 rfl rfl (Nat.le_refl _) (Nat.le_refl _) ⟨rfl, rfl⟩
      · rw [if_neg c30] at hf
        refine V.aload_n dX7_readAtom_44 rfl ?_
        refine V.iconst (v := 1) dX7_readAtom_45 (by decide) ?_
        refine V.aload_n dX7_readAtom_46 rfl ?_
        refine V.getf fl_X7_56 dX7_readAtom_47 (hx.1 2 (7, 0) rfl) (by decide) rfl ?_
        refine V.sipush (v := 200) dX7_readAtom_50 (by decide) ?_
        refine V.isub dX7_readAtom_53 ?_
        obtain ⟨⟨u60, I61⟩, hk59, hf⟩ := bnd_some hf
        try dsimp only at hf
        refine V.inv cv_X7_170 (c_rd_emit hx hk59) dX7_readAtom_54 (hx.1 2 (7, 0) rfl) (by decide) rfl rfl rfl (Nat.le_of_ble_eq_true rfl) (by omega) (by decide) (Nat.le_refl _) (Nat.le_refl _) (fun _ _ hq => ?_)
        obtain ⟨rfl, rfl⟩ := hq
        try dsimp only
        refine V.pop dX7_readAtom_57 rfl ?_
        refine V.aload_n dX7_readAtom_58 rfl ?_
        obtain ⟨I64, hk63, hf⟩ := bnd_some hf
        try dsimp only at hf
        refine V.inv cv_X7_45 (c_rd_takeToken hx ht hk63) dX7_readAtom_59 (hx.1 2 (7, 0) rfl) (by decide) rfl rfl rfl (Nat.le_of_ble_eq_true rfl) (by omega) (by decide) (Nat.le_refl _) (Nat.le_refl _) (fun _ _ hq => ?_)
        obtain ⟨rfl, rfl⟩ := hq
        refine V.iconst (v := 1) dX7_readAtom_62 (by decide) ?_
        obtain rfl := Option.some.inj hf
        exact V.zret dX7_readAtom_63 rfl rfl (Nat.le_refl _) (Nat.le_refl _) ⟨rfl, rfl⟩
  · rw [if_pos c1] at hf
    refine V.aload_n dX7_readAtom_8 rfl ?_
    refine V.iconst (v := 0) dX7_readAtom_9 (by decide) ?_
    refine V.aload_n dX7_readAtom_10 rfl ?_
    refine V.getf fl_X7_85 dX7_readAtom_11 (hx.1 2 (7, 0) rfl) (by decide) rfl ?_
    obtain ⟨⟨u67, I68⟩, hk66, hf⟩ := bnd_some hf
    try dsimp only at hf
    refine V.inv cv_X7_170 (c_rd_emit hx hk66) dX7_readAtom_14 (hx.1 2 (7, 0) rfl) (by decide) rfl rfl rfl (Nat.le_of_ble_eq_true rfl) (by omega) (by decide) (Nat.le_refl _) (Nat.le_refl _) (fun _ _ hq => ?_)
    obtain ⟨rfl, rfl⟩ := hq
    try dsimp only
    refine V.pop dX7_readAtom_17 rfl ?_
    refine V.aload_n dX7_readAtom_18 rfl ?_
    obtain ⟨I71, hk70, hf⟩ := bnd_some hf
    try dsimp only at hf
    refine V.inv cv_X7_45 (c_rd_takeToken hx ht hk70) dX7_readAtom_19 (hx.1 2 (7, 0) rfl) (by decide) rfl rfl rfl (Nat.le_of_ble_eq_true rfl) (by omega) (by decide) (Nat.le_refl _) (Nat.le_refl _) (fun _ _ hq => ?_)
    obtain ⟨rfl, rfl⟩ := hq
    refine V.iconst (v := 1) dX7_readAtom_22 (by decide) ?_
    obtain rfl := Option.some.inj hf
    exact V.zret dX7_readAtom_23 rfl rfl (Nat.le_refl _) (Nat.le_refl _) ⟨rfl, rfl⟩
theorem s_rd_readChoiceB {l : Launch} {D : va_G} {E : Nat → ClassId} {B : Nat → Prop} {n F : Nat} {T : Nat → Option (Nat × Nat)} {J : Nat → Nat → Int64} {P : Nat → Nat → Option Nat} {x : Nat} {kr : Nat} (ih0 : rd_parse_H l D E B n F T J P x kr) {v1 : Int32} {I : Nat → Nat → Int32} {r : Int32 × (Nat → Nat → Int32)} (hx : isSR T P x) (ht : P (x + 2) 2 = some (x + 1)) (hf : rd_readChoiceB (rd_parse F x kr) F I x v1 = some r) : Ct l D E B yX7_readChoice cX7_readChoice 4 (some .boolean) (20 + (kr + 1)) 0 0 [.ref (x + 2), .int v1] (n, T, I, J, P) (Ret (some (.int r.1)) (n, T, r.2, J, P)) := by
  unfold rd_readChoiceB at hf
  refine Ct.ofV (by decide) (Nat.le_of_ble_eq_true rfl) ?_
  refine V.aload_n dX7_readChoice_0 rfl ?_
  refine V.iload_n dX7_readChoice_1 rfl ?_
  obtain ⟨⟨u3, I4⟩, hk2, hf⟩ := bnd_some hf
  try dsimp only at hf
  refine V.inv cv_X7_176 (c_rd_goWithin hx ht hk2) dX7_readChoice_2 (hx.1 2 (7, 0) rfl) (by decide) rfl rfl rfl (Nat.le_of_ble_eq_true rfl) (by omega) (by decide) (Nat.le_refl _) (Nat.le_refl _) (fun _ _ hq => ?_)
  obtain ⟨rfl, rfl⟩ := hq
  try dsimp only
  refine V.if_eq 18 dX7_readChoice_5 (by decide) (fun c5 => ?_) (fun c5 => ?_)
  · rw [if_pos c5] at hf
    refine V.iconst (v := 0) dX7_readChoice_18 (by decide) ?_
    obtain rfl := Option.some.inj hf
    exact V.zret dX7_readChoice_19 rfl rfl (Nat.le_refl _) (Nat.le_refl _) ⟨rfl, rfl⟩
  · rw [if_neg c5] at hf
    refine V.aload_n dX7_readChoice_8 rfl ?_
    refine V.iload_n dX7_readChoice_9 rfl ?_
    refine V.iconst (v := 1) dX7_readChoice_10 (by decide) ?_
    refine V.iadd dX7_readChoice_11 ?_
    obtain ⟨⟨u8, I9⟩, hk7, hf⟩ := bnd_some hf
    try dsimp only at hf
    refine V.inv cv_X7_182 ((ih0.2.2.2.2.1) hx ht hk7) dX7_readChoice_12 (hx.1 2 (7, 0) rfl) (by decide) rfl rfl rfl (Nat.le_of_ble_eq_true rfl) (by omega) (by decide) (Nat.le_refl _) (Nat.le_refl _) (fun _ _ hq => ?_)
    obtain ⟨rfl, rfl⟩ := hq
    try dsimp only
    refine V.if_ne 20 dX7_readChoice_15 (by decide) (fun c10 => ?_) (fun c10 => ?_)
    · rw [if_neg c10] at hf
      refine V.aload_n dX7_readChoice_20 rfl ?_
      refine V.bipush (v := 11) dX7_readChoice_21 (by decide) ?_
      refine V.iconst (v := 0) dX7_readChoice_23 (by decide) ?_
      obtain ⟨⟨u13, I14⟩, hk12, hf⟩ := bnd_some hf
      try dsimp only at hf
      refine V.inv cv_X7_170 (c_rd_emit hx hk12) dX7_readChoice_24 (hx.1 2 (7, 0) rfl) (by decide) rfl rfl rfl (Nat.le_of_ble_eq_true rfl) (by omega) (by decide) (Nat.le_refl _) (Nat.le_refl _) (fun _ _ hq => ?_)
      obtain ⟨rfl, rfl⟩ := hq
      try dsimp only
      refine V.istore_n dX7_readChoice_27 rfl (by decide) (by first | exact rfl | exact trivial) ?_
      refine V.aload_n dX7_readChoice_28 rfl ?_
      refine V.sipush (v := 214) dX7_readChoice_29 (by decide) ?_
      obtain ⟨⟨u17, I18⟩, hk16, hf⟩ := bnd_some hf
      try dsimp only at hf
      refine V.inv cv_X7_48 (c_rd_expect hx ht hk16) dX7_readChoice_32 (hx.1 2 (7, 0) rfl) (by decide) rfl rfl rfl (Nat.le_of_ble_eq_true rfl) (by omega) (by decide) (Nat.le_refl _) (Nat.le_refl _) (fun _ _ hq => ?_)
      obtain ⟨rfl, rfl⟩ := hq
      try dsimp only
      refine V.if_eq 48 dX7_readChoice_35 (by decide) (fun c19 => ?_) (fun c19 => ?_)
      · rw [if_pos c19] at hf
        refine V.iconst (v := 0) dX7_readChoice_48 (by decide) ?_
        obtain rfl := Option.some.inj hf
        exact V.zret dX7_readChoice_49 rfl rfl (Nat.le_refl _) (Nat.le_refl _) ⟨rfl, rfl⟩
      · rw [if_neg c19] at hf
        refine V.aload_n dX7_readChoice_38 rfl ?_
        refine V.iload_n dX7_readChoice_39 rfl ?_
        refine V.iconst (v := 1) dX7_readChoice_40 (by decide) ?_
        refine V.iadd dX7_readChoice_41 ?_
        obtain ⟨⟨u22, I23⟩, hk21, hf⟩ := bnd_some hf
        try dsimp only at hf
        refine V.inv cv_X7_161 ((ih0.1) hx ht hk21) dX7_readChoice_42 (hx.1 2 (7, 0) rfl) (by decide) rfl rfl rfl (Nat.le_of_ble_eq_true rfl) (by omega) (by decide) (Nat.le_refl _) (Nat.le_refl _) (fun _ _ hq => ?_)
        obtain ⟨rfl, rfl⟩ := hq
        try dsimp only
        refine V.if_ne 50 dX7_readChoice_45 (by decide) (fun c24 => ?_) (fun c24 => ?_)
        · rw [if_neg c24] at hf
          refine V.aload_n dX7_readChoice_50 rfl ?_
          refine V.bipush (v := 12) dX7_readChoice_51 (by decide) ?_
          refine V.iconst (v := 0) dX7_readChoice_53 (by decide) ?_
          obtain ⟨⟨u27, I28⟩, hk26, hf⟩ := bnd_some hf
          try dsimp only at hf
          refine V.inv cv_X7_170 (c_rd_emit hx hk26) dX7_readChoice_54 (hx.1 2 (7, 0) rfl) (by decide) rfl rfl rfl (Nat.le_of_ble_eq_true rfl) (by omega) (by decide) (Nat.le_refl _) (Nat.le_refl _) (fun _ _ hq => ?_)
          obtain ⟨rfl, rfl⟩ := hq
          try dsimp only
          refine V.istore_n dX7_readChoice_57 rfl (by decide) (by first | exact rfl | exact trivial) ?_
          refine V.aload_n dX7_readChoice_58 rfl ?_
          refine V.iload_n dX7_readChoice_59 rfl ?_
          refine V.bipush (v := 11) dX7_readChoice_60 (by decide) ?_
          obtain ⟨I31, hk30, hf⟩ := bnd_some hf
          try dsimp only at hf
          refine V.inv cv_X7_185 (c_rd_aimHere hx hk30) dX7_readChoice_62 (hx.1 2 (7, 0) rfl) (by decide) rfl rfl rfl (Nat.le_of_ble_eq_true rfl) (by omega) (by decide) (Nat.le_refl _) (Nat.le_refl _) (fun _ _ hq => ?_)
          obtain ⟨rfl, rfl⟩ := hq
          refine V.aload_n dX7_readChoice_65 rfl ?_
          refine V.sipush (v := 215) dX7_readChoice_66 (by decide) ?_
          obtain ⟨⟨u34, I35⟩, hk33, hf⟩ := bnd_some hf
          try dsimp only at hf
          refine V.inv cv_X7_48 (c_rd_expect hx ht hk33) dX7_readChoice_69 (hx.1 2 (7, 0) rfl) (by decide) rfl rfl rfl (Nat.le_of_ble_eq_true rfl) (by omega) (by decide) (Nat.le_refl _) (Nat.le_refl _) (fun _ _ hq => ?_)
          obtain ⟨rfl, rfl⟩ := hq
          try dsimp only
          refine V.if_eq 85 dX7_readChoice_72 (by decide) (fun c36 => ?_) (fun c36 => ?_)
          · rw [if_pos c36] at hf
            refine V.iconst (v := 0) dX7_readChoice_85 (by decide) ?_
            obtain rfl := Option.some.inj hf
            exact V.zret dX7_readChoice_86 rfl rfl (Nat.le_refl _) (Nat.le_refl _) ⟨rfl, rfl⟩
          · rw [if_neg c36] at hf
            refine V.aload_n dX7_readChoice_75 rfl ?_
            refine V.iload_n dX7_readChoice_76 rfl ?_
            refine V.iconst (v := 1) dX7_readChoice_77 (by decide) ?_
            refine V.iadd dX7_readChoice_78 ?_
            obtain ⟨⟨u39, I40⟩, hk38, hf⟩ := bnd_some hf
            try dsimp only at hf
            refine V.inv cv_X7_161 ((ih0.1) hx ht hk38) dX7_readChoice_79 (hx.1 2 (7, 0) rfl) (by decide) rfl rfl rfl (Nat.le_of_ble_eq_true rfl) (by omega) (by decide) (Nat.le_refl _) (Nat.le_refl _) (fun _ _ hq => ?_)
            obtain ⟨rfl, rfl⟩ := hq
            try dsimp only
            refine V.if_ne 87 dX7_readChoice_82 (by decide) (fun c41 => ?_) (fun c41 => ?_)
            · rw [if_neg c41] at hf
              refine V.aload_n dX7_readChoice_87 rfl ?_
              refine V.iload_n dX7_readChoice_88 rfl ?_
              refine V.bipush (v := 12) dX7_readChoice_89 (by decide) ?_
              obtain ⟨I44, hk43, hf⟩ := bnd_some hf
              try dsimp only at hf
              refine V.inv cv_X7_185 (c_rd_aimHere hx hk43) dX7_readChoice_91 (hx.1 2 (7, 0) rfl) (by decide) rfl rfl rfl (Nat.le_of_ble_eq_true rfl) (by omega) (by decide) (Nat.le_refl _) (Nat.le_refl _) (fun _ _ hq => ?_)
              obtain ⟨rfl, rfl⟩ := hq
              refine V.aload_n dX7_readChoice_94 rfl ?_
              refine V.sipush (v := 216) dX7_readChoice_95 (by decide) ?_
              obtain ⟨⟨u47, I48⟩, hk46, hf⟩ := bnd_some hf
              try dsimp only at hf
              refine V.inv cv_X7_48 (c_rd_expect hx ht hk46) dX7_readChoice_98 (hx.1 2 (7, 0) rfl) (by decide) rfl rfl rfl (Nat.le_of_ble_eq_true rfl) (by omega) (by decide) (Nat.le_refl _) (Nat.le_refl _) (fun _ _ hq => ?_)
              obtain ⟨rfl, rfl⟩ := hq
              try dsimp only
              obtain ⟨hn49, hf⟩ := isb_some hf
              obtain rfl := Option.some.inj hf
              exact V.zret dX7_readChoice_101 rfl hn49 (Nat.le_refl _) (Nat.le_refl _) ⟨rfl, rfl⟩
            · rw [if_pos c41] at hf
              refine V.iconst (v := 0) dX7_readChoice_85 (by decide) ?_
              obtain rfl := Option.some.inj hf
              exact V.zret dX7_readChoice_86 rfl rfl (Nat.le_refl _) (Nat.le_refl _) ⟨rfl, rfl⟩
        · rw [if_pos c24] at hf
          refine V.iconst (v := 0) dX7_readChoice_48 (by decide) ?_
          obtain rfl := Option.some.inj hf
          exact V.zret dX7_readChoice_49 rfl rfl (Nat.le_refl _) (Nat.le_refl _) ⟨rfl, rfl⟩
    · rw [if_pos c10] at hf
      refine V.iconst (v := 0) dX7_readChoice_18 (by decide) ?_
      obtain rfl := Option.some.inj hf
      exact V.zret dX7_readChoice_19 rfl rfl (Nat.le_refl _) (Nat.le_refl _) ⟨rfl, rfl⟩
theorem s_rd_readTruthB {l : Launch} {D : va_G} {E : Nat → ClassId} {B : Nat → Prop} {n F : Nat} {T : Nat → Option (Nat × Nat)} {J : Nat → Nat → Int64} {P : Nat → Nat → Option Nat} {x : Nat} {kr : Nat} (ih0 : rd_parse_H l D E B n F T J P x kr) {v1 : Int32} {I : Nat → Nat → Int32} {r : Int32 × (Nat → Nat → Int32)} (hx : isSR T P x) (ht : P (x + 2) 2 = some (x + 1)) (hf : rd_readTruthB (rd_parse F x kr) F I x v1 = some r) : Ct l D E B yX7_readTruth cX7_readTruth 4 (some .boolean) (20 + (kr + 1)) 0 0 [.ref (x + 2), .int v1] (n, T, I, J, P) (Ret (some (.int r.1)) (n, T, r.2, J, P)) := by
  unfold rd_readTruthB at hf
  refine Ct.ofV (by decide) (Nat.le_of_ble_eq_true rfl) ?_
  refine V.aload_n dX7_readTruth_0 rfl ?_
  refine V.iload_n dX7_readTruth_1 rfl ?_
  obtain ⟨⟨u3, I4⟩, hk2, hf⟩ := bnd_some hf
  try dsimp only at hf
  refine V.inv cv_X7_189 ((ih0.2.2.2.2.2.1) hx ht hk2) dX7_readTruth_2 (hx.1 2 (7, 0) rfl) (by decide) rfl rfl rfl (Nat.le_of_ble_eq_true rfl) (by omega) (by decide) (Nat.le_refl _) (Nat.le_refl _) (fun _ _ hq => ?_)
  obtain ⟨rfl, rfl⟩ := hq
  try dsimp only
  refine V.istore_n dX7_readTruth_5 rfl (by decide) (by first | exact rfl | exact trivial) ?_
  refine V.iconst (v := 0) dX7_readTruth_6 (by decide) ?_
  refine V.istore_n dX7_readTruth_7 rfl (by decide) (by first | exact rfl | exact trivial) ?_
  obtain ⟨⟨m21, m22, I23⟩, hk20, hf⟩ := bnd_some hf
  try dsimp only at hf
  refine V.lo [(0, some (.ref (x + 2))), (1, some (.int v1)), (2, some (.int u3)), (3, some (.int 0))] (by simp only [Subs]; repeat' first | exact trivial | constructor | rfl) (l_rd_readTruthB_8 hx ht ih0 _ F _ _ _ hk20 ?_)
  try dsimp only
  refine V.iload_n dX7_readTruth_53 rfl ?_
  obtain ⟨hn24, hf⟩ := isb_some hf
  obtain rfl := Option.some.inj hf
  exact V.zret dX7_readTruth_54 rfl hn24 (Nat.le_refl _) (Nat.le_refl _) ⟨rfl, rfl⟩
theorem s_rd_readBothB {l : Launch} {D : va_G} {E : Nat → ClassId} {B : Nat → Prop} {n F : Nat} {T : Nat → Option (Nat × Nat)} {J : Nat → Nat → Int64} {P : Nat → Nat → Option Nat} {x : Nat} {kr : Nat} (ih0 : rd_parse_H l D E B n F T J P x kr) {v1 : Int32} {I : Nat → Nat → Int32} {r : Int32 × (Nat → Nat → Int32)} (hx : isSR T P x) (ht : P (x + 2) 2 = some (x + 1)) (hf : rd_readBothB (rd_parse F x kr) F I x v1 = some r) : Ct l D E B yX7_readBoth cX7_readBoth 4 (some .boolean) (20 + (kr + 1)) 0 0 [.ref (x + 2), .int v1] (n, T, I, J, P) (Ret (some (.int r.1)) (n, T, r.2, J, P)) := by
  unfold rd_readBothB at hf
  refine Ct.ofV (by decide) (Nat.le_of_ble_eq_true rfl) ?_
  refine V.aload_n dX7_readBoth_0 rfl ?_
  refine V.iload_n dX7_readBoth_1 rfl ?_
  obtain ⟨⟨u3, I4⟩, hk2, hf⟩ := bnd_some hf
  try dsimp only at hf
  refine V.inv cv_X7_192 ((ih0.2.2.2.2.2.2.1) hx ht hk2) dX7_readBoth_2 (hx.1 2 (7, 0) rfl) (by decide) rfl rfl rfl (Nat.le_of_ble_eq_true rfl) (by omega) (by decide) (Nat.le_refl _) (Nat.le_refl _) (fun _ _ hq => ?_)
  obtain ⟨rfl, rfl⟩ := hq
  try dsimp only
  refine V.istore_n dX7_readBoth_5 rfl (by decide) (by first | exact rfl | exact trivial) ?_
  refine V.iconst (v := 0) dX7_readBoth_6 (by decide) ?_
  refine V.istore_n dX7_readBoth_7 rfl (by decide) (by first | exact rfl | exact trivial) ?_
  obtain ⟨⟨m21, m22, I23⟩, hk20, hf⟩ := bnd_some hf
  try dsimp only at hf
  refine V.lo [(0, some (.ref (x + 2))), (1, some (.int v1)), (2, some (.int u3)), (3, some (.int 0))] (by simp only [Subs]; repeat' first | exact trivial | constructor | rfl) (l_rd_readBothB_8 hx ht ih0 _ F _ _ _ hk20 ?_)
  try dsimp only
  refine V.iload_n dX7_readBoth_53 rfl ?_
  obtain ⟨hn24, hf⟩ := isb_some hf
  obtain rfl := Option.some.inj hf
  exact V.zret dX7_readBoth_54 rfl hn24 (Nat.le_refl _) (Nat.le_refl _) ⟨rfl, rfl⟩
theorem s_rd_readUnitB {l : Launch} {D : va_G} {E : Nat → ClassId} {B : Nat → Prop} {n F : Nat} {T : Nat → Option (Nat × Nat)} {J : Nat → Nat → Int64} {P : Nat → Nat → Option Nat} {x : Nat} {kr : Nat} (ih0 : rd_parse_H l D E B n F T J P x kr) {v1 : Int32} {I : Nat → Nat → Int32} {r : Int32 × (Nat → Nat → Int32)} (hx : isSR T P x) (ht : P (x + 2) 2 = some (x + 1)) (hf : rd_readUnitB (rd_parse F x kr) F I x v1 = some r) : Ct l D E B yX7_readUnit cX7_readUnit 3 (some .boolean) (20 + (kr + 1)) 0 0 [.ref (x + 2), .int v1] (n, T, I, J, P) (Ret (some (.int r.1)) (n, T, r.2, J, P)) := by
  unfold rd_readUnitB at hf
  refine Ct.ofV (by decide) (Nat.le_of_ble_eq_true rfl) ?_
  refine V.aload_n dX7_readUnit_0 rfl ?_
  refine V.getf fl_X7_56 dX7_readUnit_1 (hx.1 2 (7, 0) rfl) (by decide) rfl ?_
  refine V.sipush (v := 217) dX7_readUnit_4 (by decide) ?_
  refine V.icmp_ne 44 dX7_readUnit_7 (by decide) (fun c1 => ?_) (fun c1 => ?_)
  · rw [if_neg c1] at hf
    refine V.aload_n dX7_readUnit_44 rfl ?_
    refine V.getf fl_X7_56 dX7_readUnit_45 (hx.1 2 (7, 0) rfl) (by decide) rfl ?_
    refine V.bipush (v := 91) dX7_readUnit_48 (by decide) ?_
    refine V.icmp_ne 86 dX7_readUnit_50 (by decide) (fun c2 => ?_) (fun c2 => ?_)
    · rw [if_neg c2] at hf
      refine V.aload_n dX7_readUnit_86 rfl ?_
      refine V.iload_n dX7_readUnit_87 rfl ?_
      obtain ⟨⟨u5, I6⟩, hk4, hf⟩ := bnd_some hf
      try dsimp only at hf
      refine V.inv cv_X7_161 ((ih0.1) hx ht hk4) dX7_readUnit_88 (hx.1 2 (7, 0) rfl) (by decide) rfl rfl rfl (Nat.le_of_ble_eq_true rfl) (by omega) (by decide) (Nat.le_refl _) (Nat.le_refl _) (fun _ _ hq => ?_)
      obtain ⟨rfl, rfl⟩ := hq
      try dsimp only
      refine V.if_eq 106 dX7_readUnit_91 (by decide) (fun c7 => ?_) (fun c7 => ?_)
      · rw [if_pos c7] at hf
        refine V.iconst (v := 0) dX7_readUnit_106 (by decide) ?_
        obtain rfl := Option.some.inj hf
        exact V.zret dX7_readUnit_107 rfl rfl (Nat.le_refl _) (Nat.le_refl _) ⟨rfl, rfl⟩
      · rw [if_neg c7] at hf
        refine V.aload_n dX7_readUnit_94 rfl ?_
        refine V.iload_n dX7_readUnit_95 rfl ?_
        obtain ⟨⟨u10, I11⟩, hk9, hf⟩ := bnd_some hf
        try dsimp only at hf
        refine V.inv cv_X7_195 ((ih0.2.2.2.2.2.2.2) hx ht hk9) dX7_readUnit_96 (hx.1 2 (7, 0) rfl) (by decide) rfl rfl rfl (Nat.le_of_ble_eq_true rfl) (by omega) (by decide) (Nat.le_refl _) (Nat.le_refl _) (fun _ _ hq => ?_)
        obtain ⟨rfl, rfl⟩ := hq
        try dsimp only
        refine V.if_eq 106 dX7_readUnit_99 (by decide) (fun c12 => ?_) (fun c12 => ?_)
        · rw [if_pos c12] at hf
          refine V.iconst (v := 0) dX7_readUnit_106 (by decide) ?_
          obtain rfl := Option.some.inj hf
          exact V.zret dX7_readUnit_107 rfl rfl (Nat.le_refl _) (Nat.le_refl _) ⟨rfl, rfl⟩
        · rw [if_neg c12] at hf
          refine V.iconst (v := 1) dX7_readUnit_102 (by decide) ?_
          refine V.goto 107 dX7_readUnit_103 (by decide) ?_
          obtain rfl := Option.some.inj hf
          exact V.zret dX7_readUnit_107 rfl rfl (Nat.le_refl _) (Nat.le_refl _) ⟨rfl, rfl⟩
    · rw [if_pos c2] at hf
      refine V.aload_n dX7_readUnit_53 rfl ?_
      refine V.iload_n dX7_readUnit_54 rfl ?_
      obtain ⟨⟨u15, I16⟩, hk14, hf⟩ := bnd_some hf
      try dsimp only at hf
      refine V.inv cv_X7_176 (c_rd_goWithin hx ht hk14) dX7_readUnit_55 (hx.1 2 (7, 0) rfl) (by decide) rfl rfl rfl (Nat.le_of_ble_eq_true rfl) (by omega) (by decide) (Nat.le_refl _) (Nat.le_refl _) (fun _ _ hq => ?_)
      obtain ⟨rfl, rfl⟩ := hq
      try dsimp only
      refine V.if_eq 84 dX7_readUnit_58 (by decide) (fun c17 => ?_) (fun c17 => ?_)
      · rw [if_pos c17] at hf
        refine V.iconst (v := 0) dX7_readUnit_84 (by decide) ?_
        obtain rfl := Option.some.inj hf
        exact V.zret dX7_readUnit_85 rfl rfl (Nat.le_refl _) (Nat.le_refl _) ⟨rfl, rfl⟩
      · rw [if_neg c17] at hf
        refine V.aload_n dX7_readUnit_61 rfl ?_
        refine V.iload_n dX7_readUnit_62 rfl ?_
        refine V.iconst (v := 1) dX7_readUnit_63 (by decide) ?_
        refine V.iadd dX7_readUnit_64 ?_
        obtain ⟨⟨u20, I21⟩, hk19, hf⟩ := bnd_some hf
        try dsimp only at hf
        refine V.inv cv_X7_182 ((ih0.2.2.2.2.1) hx ht hk19) dX7_readUnit_65 (hx.1 2 (7, 0) rfl) (by decide) rfl rfl rfl (Nat.le_of_ble_eq_true rfl) (by omega) (by decide) (Nat.le_refl _) (Nat.le_refl _) (fun _ _ hq => ?_)
        obtain ⟨rfl, rfl⟩ := hq
        try dsimp only
        refine V.if_eq 84 dX7_readUnit_68 (by decide) (fun c22 => ?_) (fun c22 => ?_)
        · rw [if_pos c22] at hf
          refine V.iconst (v := 0) dX7_readUnit_84 (by decide) ?_
          obtain rfl := Option.some.inj hf
          exact V.zret dX7_readUnit_85 rfl rfl (Nat.le_refl _) (Nat.le_refl _) ⟨rfl, rfl⟩
        · rw [if_neg c22] at hf
          refine V.aload_n dX7_readUnit_71 rfl ?_
          refine V.bipush (v := 93) dX7_readUnit_72 (by decide) ?_
          obtain ⟨⟨u25, I26⟩, hk24, hf⟩ := bnd_some hf
          try dsimp only at hf
          refine V.inv cv_X7_48 (c_rd_expect hx ht hk24) dX7_readUnit_74 (hx.1 2 (7, 0) rfl) (by decide) rfl rfl rfl (Nat.le_of_ble_eq_true rfl) (by omega) (by decide) (Nat.le_refl _) (Nat.le_refl _) (fun _ _ hq => ?_)
          obtain ⟨rfl, rfl⟩ := hq
          try dsimp only
          refine V.if_eq 84 dX7_readUnit_77 (by decide) (fun c27 => ?_) (fun c27 => ?_)
          · rw [if_pos c27] at hf
            refine V.iconst (v := 0) dX7_readUnit_84 (by decide) ?_
            obtain rfl := Option.some.inj hf
            exact V.zret dX7_readUnit_85 rfl rfl (Nat.le_refl _) (Nat.le_refl _) ⟨rfl, rfl⟩
          · rw [if_neg c27] at hf
            refine V.iconst (v := 1) dX7_readUnit_80 (by decide) ?_
            refine V.goto 85 dX7_readUnit_81 (by decide) ?_
            obtain rfl := Option.some.inj hf
            exact V.zret dX7_readUnit_85 rfl rfl (Nat.le_refl _) (Nat.le_refl _) ⟨rfl, rfl⟩
  · rw [if_pos c1] at hf
    refine V.aload_n dX7_readUnit_10 rfl ?_
    refine V.iload_n dX7_readUnit_11 rfl ?_
    obtain ⟨⟨u30, I31⟩, hk29, hf⟩ := bnd_some hf
    try dsimp only at hf
    refine V.inv cv_X7_176 (c_rd_goWithin hx ht hk29) dX7_readUnit_12 (hx.1 2 (7, 0) rfl) (by decide) rfl rfl rfl (Nat.le_of_ble_eq_true rfl) (by omega) (by decide) (Nat.le_refl _) (Nat.le_refl _) (fun _ _ hq => ?_)
    obtain ⟨rfl, rfl⟩ := hq
    try dsimp only
    refine V.if_eq 32 dX7_readUnit_15 (by decide) (fun c32 => ?_) (fun c32 => ?_)
    · rw [if_pos c32] at hf
      refine V.iconst (v := 0) dX7_readUnit_32 (by decide) ?_
      refine V.istore_n dX7_readUnit_33 rfl (by decide) (by first | exact rfl | exact trivial) ?_
      refine V.aload_n dX7_readUnit_34 rfl ?_
      refine V.bipush (v := 10) dX7_readUnit_35 (by decide) ?_
      refine V.iconst (v := 0) dX7_readUnit_37 (by decide) ?_
      obtain ⟨⟨u35, I36⟩, hk34, hf⟩ := bnd_some hf
      try dsimp only at hf
      refine V.inv cv_X7_170 (c_rd_emit hx hk34) dX7_readUnit_38 (hx.1 2 (7, 0) rfl) (by decide) rfl rfl rfl (Nat.le_of_ble_eq_true rfl) (by omega) (by decide) (Nat.le_refl _) (Nat.le_refl _) (fun _ _ hq => ?_)
      obtain ⟨rfl, rfl⟩ := hq
      try dsimp only
      refine V.pop dX7_readUnit_41 rfl ?_
      refine V.iload_n dX7_readUnit_42 rfl ?_
      obtain rfl := Option.some.inj hf
      exact V.zret dX7_readUnit_43 rfl rfl (Nat.le_refl _) (Nat.le_refl _) ⟨rfl, rfl⟩
    · rw [if_neg c32] at hf
      refine V.aload_n dX7_readUnit_18 rfl ?_
      refine V.iload_n dX7_readUnit_19 rfl ?_
      refine V.iconst (v := 1) dX7_readUnit_20 (by decide) ?_
      refine V.iadd dX7_readUnit_21 ?_
      obtain ⟨⟨u39, I40⟩, hk38, hf⟩ := bnd_some hf
      try dsimp only at hf
      refine V.inv cv_X7_192 ((ih0.2.2.2.2.2.2.1) hx ht hk38) dX7_readUnit_22 (hx.1 2 (7, 0) rfl) (by decide) rfl rfl rfl (Nat.le_of_ble_eq_true rfl) (by omega) (by decide) (Nat.le_refl _) (Nat.le_refl _) (fun _ _ hq => ?_)
      obtain ⟨rfl, rfl⟩ := hq
      try dsimp only
      refine V.if_eq 32 dX7_readUnit_25 (by decide) (fun c41 => ?_) (fun c41 => ?_)
      · rw [if_pos c41] at hf
        refine V.iconst (v := 0) dX7_readUnit_32 (by decide) ?_
        refine V.istore_n dX7_readUnit_33 rfl (by decide) (by first | exact rfl | exact trivial) ?_
        refine V.aload_n dX7_readUnit_34 rfl ?_
        refine V.bipush (v := 10) dX7_readUnit_35 (by decide) ?_
        refine V.iconst (v := 0) dX7_readUnit_37 (by decide) ?_
        obtain ⟨⟨u44, I45⟩, hk43, hf⟩ := bnd_some hf
        try dsimp only at hf
        refine V.inv cv_X7_170 (c_rd_emit hx hk43) dX7_readUnit_38 (hx.1 2 (7, 0) rfl) (by decide) rfl rfl rfl (Nat.le_of_ble_eq_true rfl) (by omega) (by decide) (Nat.le_refl _) (Nat.le_refl _) (fun _ _ hq => ?_)
        obtain ⟨rfl, rfl⟩ := hq
        try dsimp only
        refine V.pop dX7_readUnit_41 rfl ?_
        refine V.iload_n dX7_readUnit_42 rfl ?_
        obtain rfl := Option.some.inj hf
        exact V.zret dX7_readUnit_43 rfl rfl (Nat.le_refl _) (Nat.le_refl _) ⟨rfl, rfl⟩
      · rw [if_neg c41] at hf
        refine V.iconst (v := 1) dX7_readUnit_28 (by decide) ?_
        refine V.goto 33 dX7_readUnit_29 (by decide) ?_
        refine V.istore_n dX7_readUnit_33 rfl (by decide) (by first | exact rfl | exact trivial) ?_
        refine V.aload_n dX7_readUnit_34 rfl ?_
        refine V.bipush (v := 10) dX7_readUnit_35 (by decide) ?_
        refine V.iconst (v := 0) dX7_readUnit_37 (by decide) ?_
        obtain ⟨⟨u48, I49⟩, hk47, hf⟩ := bnd_some hf
        try dsimp only at hf
        refine V.inv cv_X7_170 (c_rd_emit hx hk47) dX7_readUnit_38 (hx.1 2 (7, 0) rfl) (by decide) rfl rfl rfl (Nat.le_of_ble_eq_true rfl) (by omega) (by decide) (Nat.le_refl _) (Nat.le_refl _) (fun _ _ hq => ?_)
        obtain ⟨rfl, rfl⟩ := hq
        try dsimp only
        refine V.pop dX7_readUnit_41 rfl ?_
        refine V.iload_n dX7_readUnit_42 rfl ?_
        obtain rfl := Option.some.inj hf
        exact V.zret dX7_readUnit_43 rfl rfl (Nat.le_refl _) (Nat.le_refl _) ⟨rfl, rfl⟩
theorem s_rd_readComparisonB {l : Launch} {D : va_G} {E : Nat → ClassId} {B : Nat → Prop} {n F : Nat} {T : Nat → Option (Nat × Nat)} {J : Nat → Nat → Int64} {P : Nat → Nat → Option Nat} {x : Nat} {kr : Nat} (ih0 : rd_parse_H l D E B n F T J P x kr) {v1 : Int32} {I : Nat → Nat → Int32} {r : Int32 × (Nat → Nat → Int32)} (hx : isSR T P x) (ht : P (x + 2) 2 = some (x + 1)) (hf : rd_readComparisonB (rd_parse F x kr) F I x v1 = some r) : Ct l D E B yX7_readComparison cX7_readComparison 4 (some .boolean) (20 + (kr + 1)) 0 0 [.ref (x + 2), .int v1] (n, T, I, J, P) (Ret (some (.int r.1)) (n, T, r.2, J, P)) := by
  unfold rd_readComparisonB at hf
  refine Ct.ofV (by decide) (Nat.le_of_ble_eq_true rfl) ?_
  refine V.aload_n dX7_readComparison_0 rfl ?_
  refine V.getf fl_X7_56 dX7_readComparison_1 (hx.1 2 (7, 0) rfl) (by decide) rfl ?_
  by_cases c1 : (I (x + 2) 6) = 60
  · rw [if_pos c1] at hf
    refine V.tabIn (off := 33) 37 dX7_readComparison_4 (by rw [c1]; decide) (by rw [c1]; decide) (by rw [c1]; rfl) (by decide) ?_
    refine V.bipush (v := 6) dX7_readComparison_37 (by decide) ?_
    refine V.istore_n dX7_readComparison_39 rfl (by decide) (by first | exact rfl | exact trivial) ?_
    refine V.goto 55 dX7_readComparison_40 (by decide) ?_
    refine V.aload_n dX7_readComparison_55 rfl ?_
    obtain ⟨I4, hk3, hf⟩ := bnd_some hf
    try dsimp only at hf
    refine V.inv cv_X7_45 (c_rd_takeToken hx ht hk3) dX7_readComparison_56 (hx.1 2 (7, 0) rfl) (by decide) rfl rfl rfl (Nat.le_of_ble_eq_true rfl) (by omega) (by decide) (Nat.le_refl _) (Nat.le_refl _) (fun _ _ hq => ?_)
    obtain ⟨rfl, rfl⟩ := hq
    refine V.aload_n dX7_readComparison_59 rfl ?_
    refine V.iload_n dX7_readComparison_60 rfl ?_
    obtain ⟨⟨u7, I8⟩, hk6, hf⟩ := bnd_some hf
    try dsimp only at hf
    refine V.inv cv_X7_161 ((ih0.1) hx ht hk6) dX7_readComparison_61 (hx.1 2 (7, 0) rfl) (by decide) rfl rfl rfl (Nat.le_of_ble_eq_true rfl) (by omega) (by decide) (Nat.le_refl _) (Nat.le_refl _) (fun _ _ hq => ?_)
    obtain ⟨rfl, rfl⟩ := hq
    try dsimp only
    refine V.istore_n dX7_readComparison_64 rfl (by decide) (by first | exact rfl | exact trivial) ?_
    refine V.aload_n dX7_readComparison_65 rfl ?_
    refine V.iload_n dX7_readComparison_66 rfl ?_
    refine V.iconst (v := 0) dX7_readComparison_67 (by decide) ?_
    obtain ⟨⟨u11, I12⟩, hk10, hf⟩ := bnd_some hf
    try dsimp only at hf
    refine V.inv cv_X7_170 (c_rd_emit hx hk10) dX7_readComparison_68 (hx.1 2 (7, 0) rfl) (by decide) rfl rfl rfl (Nat.le_of_ble_eq_true rfl) (by omega) (by decide) (Nat.le_refl _) (Nat.le_refl _) (fun _ _ hq => ?_)
    obtain ⟨rfl, rfl⟩ := hq
    try dsimp only
    refine V.pop dX7_readComparison_71 rfl ?_
    refine V.iload_n dX7_readComparison_72 rfl ?_
    obtain ⟨hn13, hf⟩ := isb_some hf
    obtain rfl := Option.some.inj hf
    exact V.zret dX7_readComparison_73 rfl hn13 (Nat.le_refl _) (Nat.le_refl _) ⟨rfl, rfl⟩
  rw [if_neg c1] at hf
  by_cases c14 : (I (x + 2) 6) = 61
  · rw [if_pos c14] at hf
    refine V.tabIn (off := 28) 32 dX7_readComparison_4 (by rw [c14]; decide) (by rw [c14]; decide) (by rw [c14]; rfl) (by decide) ?_
    refine V.iconst (v := 5) dX7_readComparison_32 (by decide) ?_
    refine V.istore_n dX7_readComparison_33 rfl (by decide) (by first | exact rfl | exact trivial) ?_
    refine V.goto 55 dX7_readComparison_34 (by decide) ?_
    refine V.aload_n dX7_readComparison_55 rfl ?_
    obtain ⟨I17, hk16, hf⟩ := bnd_some hf
    try dsimp only at hf
    refine V.inv cv_X7_45 (c_rd_takeToken hx ht hk16) dX7_readComparison_56 (hx.1 2 (7, 0) rfl) (by decide) rfl rfl rfl (Nat.le_of_ble_eq_true rfl) (by omega) (by decide) (Nat.le_refl _) (Nat.le_refl _) (fun _ _ hq => ?_)
    obtain ⟨rfl, rfl⟩ := hq
    refine V.aload_n dX7_readComparison_59 rfl ?_
    refine V.iload_n dX7_readComparison_60 rfl ?_
    obtain ⟨⟨u20, I21⟩, hk19, hf⟩ := bnd_some hf
    try dsimp only at hf
    refine V.inv cv_X7_161 ((ih0.1) hx ht hk19) dX7_readComparison_61 (hx.1 2 (7, 0) rfl) (by decide) rfl rfl rfl (Nat.le_of_ble_eq_true rfl) (by omega) (by decide) (Nat.le_refl _) (Nat.le_refl _) (fun _ _ hq => ?_)
    obtain ⟨rfl, rfl⟩ := hq
    try dsimp only
    refine V.istore_n dX7_readComparison_64 rfl (by decide) (by first | exact rfl | exact trivial) ?_
    refine V.aload_n dX7_readComparison_65 rfl ?_
    refine V.iload_n dX7_readComparison_66 rfl ?_
    refine V.iconst (v := 0) dX7_readComparison_67 (by decide) ?_
    obtain ⟨⟨u24, I25⟩, hk23, hf⟩ := bnd_some hf
    try dsimp only at hf
    refine V.inv cv_X7_170 (c_rd_emit hx hk23) dX7_readComparison_68 (hx.1 2 (7, 0) rfl) (by decide) rfl rfl rfl (Nat.le_of_ble_eq_true rfl) (by omega) (by decide) (Nat.le_refl _) (Nat.le_refl _) (fun _ _ hq => ?_)
    obtain ⟨rfl, rfl⟩ := hq
    try dsimp only
    refine V.pop dX7_readComparison_71 rfl ?_
    refine V.iload_n dX7_readComparison_72 rfl ?_
    obtain ⟨hn26, hf⟩ := isb_some hf
    obtain rfl := Option.some.inj hf
    exact V.zret dX7_readComparison_73 rfl hn26 (Nat.le_refl _) (Nat.le_refl _) ⟨rfl, rfl⟩
  rw [if_neg c14] at hf
  by_cases c27 : (I (x + 2) 6) = 62
  · rw [if_pos c27] at hf
    refine V.tabIn (off := 39) 43 dX7_readComparison_4 (by rw [c27]; decide) (by rw [c27]; decide) (by rw [c27]; rfl) (by decide) ?_
    refine V.bipush (v := 7) dX7_readComparison_43 (by decide) ?_
    refine V.istore_n dX7_readComparison_45 rfl (by decide) (by first | exact rfl | exact trivial) ?_
    refine V.goto 55 dX7_readComparison_46 (by decide) ?_
    refine V.aload_n dX7_readComparison_55 rfl ?_
    obtain ⟨I30, hk29, hf⟩ := bnd_some hf
    try dsimp only at hf
    refine V.inv cv_X7_45 (c_rd_takeToken hx ht hk29) dX7_readComparison_56 (hx.1 2 (7, 0) rfl) (by decide) rfl rfl rfl (Nat.le_of_ble_eq_true rfl) (by omega) (by decide) (Nat.le_refl _) (Nat.le_refl _) (fun _ _ hq => ?_)
    obtain ⟨rfl, rfl⟩ := hq
    refine V.aload_n dX7_readComparison_59 rfl ?_
    refine V.iload_n dX7_readComparison_60 rfl ?_
    obtain ⟨⟨u33, I34⟩, hk32, hf⟩ := bnd_some hf
    try dsimp only at hf
    refine V.inv cv_X7_161 ((ih0.1) hx ht hk32) dX7_readComparison_61 (hx.1 2 (7, 0) rfl) (by decide) rfl rfl rfl (Nat.le_of_ble_eq_true rfl) (by omega) (by decide) (Nat.le_refl _) (Nat.le_refl _) (fun _ _ hq => ?_)
    obtain ⟨rfl, rfl⟩ := hq
    try dsimp only
    refine V.istore_n dX7_readComparison_64 rfl (by decide) (by first | exact rfl | exact trivial) ?_
    refine V.aload_n dX7_readComparison_65 rfl ?_
    refine V.iload_n dX7_readComparison_66 rfl ?_
    refine V.iconst (v := 0) dX7_readComparison_67 (by decide) ?_
    obtain ⟨⟨u37, I38⟩, hk36, hf⟩ := bnd_some hf
    try dsimp only at hf
    refine V.inv cv_X7_170 (c_rd_emit hx hk36) dX7_readComparison_68 (hx.1 2 (7, 0) rfl) (by decide) rfl rfl rfl (Nat.le_of_ble_eq_true rfl) (by omega) (by decide) (Nat.le_refl _) (Nat.le_refl _) (fun _ _ hq => ?_)
    obtain ⟨rfl, rfl⟩ := hq
    try dsimp only
    refine V.pop dX7_readComparison_71 rfl ?_
    refine V.iload_n dX7_readComparison_72 rfl ?_
    obtain ⟨hn39, hf⟩ := isb_some hf
    obtain rfl := Option.some.inj hf
    exact V.zret dX7_readComparison_73 rfl hn39 (Nat.le_refl _) (Nat.le_refl _) ⟨rfl, rfl⟩
  rw [if_neg c27] at hf
  refine V.tabOut 49 dX7_readComparison_4 (by have c1_ := sw_ne c1 (j := 60) (by decide); have c14_ := sw_ne c14 (j := 61) (by decide); have c27_ := sw_ne c27 (j := 62) (by decide); omega) (by decide) ?_
  refine V.aload_n dX7_readComparison_49 rfl ?_
  refine V.iconst (v := 2) dX7_readComparison_50 (by decide) ?_
  obtain ⟨⟨u42, I43⟩, hk41, hf⟩ := bnd_some hf
  try dsimp only at hf
  refine V.inv cv_X7_68 (c_rd_refuse hx hk41) dX7_readComparison_51 (hx.1 2 (7, 0) rfl) (by decide) rfl rfl rfl (Nat.le_of_ble_eq_true rfl) (by omega) (by decide) (Nat.le_refl _) (Nat.le_refl _) (fun _ _ hq => ?_)
  obtain ⟨rfl, rfl⟩ := hq
  try dsimp only
  obtain ⟨hn44, hf⟩ := isb_some hf
  obtain rfl := Option.some.inj hf
  exact V.zret dX7_readComparison_54 rfl hn44 (Nat.le_refl _) (Nat.le_refl _) ⟨rfl, rfl⟩
theorem rd_parse_all {l : Launch} {D : va_G} {E : Nat → ClassId} {B : Nat → Prop} {n F : Nat} {T : Nat → Option (Nat × Nat)} {J : Nat → Nat → Int64} {P : Nat → Nat → Option Nat} {x : Nat} : ∀ k, rd_parse_H l D E B n F T J P x k := by
  intro k
  induction k with
  | zero =>
    exact ⟨(fun _ _ hf => by cases hf), (fun _ _ hf => by cases hf), (fun _ _ hf => by cases hf), (fun _ _ hf => by cases hf), (fun _ _ hf => by cases hf), (fun _ _ hf => by cases hf), (fun _ _ hf => by cases hf), (fun _ _ hf => by cases hf)⟩
  | succ kr ih0 =>
    exact ⟨(fun hx ht hf => s_rd_readSumB ih0 hx ht hf), (fun hx ht hf => s_rd_readTermB ih0 hx ht hf), (fun hx ht hf => s_rd_readAtomB ih0 hx ht hf), (fun hx ht hf => s_rd_readChoiceB ih0 hx ht hf), (fun hx ht hf => s_rd_readTruthB ih0 hx ht hf), (fun hx ht hf => s_rd_readBothB ih0 hx ht hf), (fun hx ht hf => s_rd_readUnitB ih0 hx ht hf), (fun hx ht hf => s_rd_readComparisonB ih0 hx ht hf)⟩
def rd_readSumB_f (F : Nat) (I : Nat → Nat → Int32) (x : Nat) (v1 : Int32) : Option (Int32 × (Nat → Nat → Int32)) := rd_parse F x 70 0 v1 I
theorem c_rd_readSumB_f {l : Launch} {D : va_G} {E : Nat → ClassId} {B : Nat → Prop} {n F : Nat} {T : Nat → Option (Nat × Nat)} {J : Nat → Nat → Int64} {P : Nat → Nat → Option Nat} {x : Nat} {v1 : Int32} {I : Nat → Nat → Int32} {r : Int32 × (Nat → Nat → Int32)} (hx : isSR T P x) (ht : P (x + 2) 2 = some (x + 1)) (hf : rd_readSumB_f F I x v1 = some r) : Ct l D E B yX7_readSum cX7_readSum 5 (some .boolean) 90 0 0 [.ref (x + 2), .int v1] (n, T, I, J, P) (Ret (some (.int r.1)) (n, T, r.2, J, P)) := (rd_parse_all 70).1 hx ht hf
def rd_readTermB_f (F : Nat) (I : Nat → Nat → Int32) (x : Nat) (v1 : Int32) : Option (Int32 × (Nat → Nat → Int32)) := rd_parse F x 70 1 v1 I
theorem c_rd_readTermB_f {l : Launch} {D : va_G} {E : Nat → ClassId} {B : Nat → Prop} {n F : Nat} {T : Nat → Option (Nat × Nat)} {J : Nat → Nat → Int64} {P : Nat → Nat → Option Nat} {x : Nat} {v1 : Int32} {I : Nat → Nat → Int32} {r : Int32 × (Nat → Nat → Int32)} (hx : isSR T P x) (ht : P (x + 2) 2 = some (x + 1)) (hf : rd_readTermB_f F I x v1 = some r) : Ct l D E B yX7_readTerm cX7_readTerm 4 (some .boolean) 90 0 0 [.ref (x + 2), .int v1] (n, T, I, J, P) (Ret (some (.int r.1)) (n, T, r.2, J, P)) := (rd_parse_all 70).2.1 hx ht hf
def rd_readAtomB_f (F : Nat) (I : Nat → Nat → Int32) (x : Nat) (v1 : Int32) : Option (Int32 × (Nat → Nat → Int32)) := rd_parse F x 70 2 v1 I
theorem c_rd_readAtomB_f {l : Launch} {D : va_G} {E : Nat → ClassId} {B : Nat → Prop} {n F : Nat} {T : Nat → Option (Nat × Nat)} {J : Nat → Nat → Int64} {P : Nat → Nat → Option Nat} {x : Nat} {v1 : Int32} {I : Nat → Nat → Int32} {r : Int32 × (Nat → Nat → Int32)} (hx : isSR T P x) (ht : P (x + 2) 2 = some (x + 1)) (hf : rd_readAtomB_f F I x v1 = some r) : Ct l D E B yX7_readAtom cX7_readAtom 2 (some .boolean) 90 0 0 [.ref (x + 2), .int v1] (n, T, I, J, P) (Ret (some (.int r.1)) (n, T, r.2, J, P)) := (rd_parse_all 70).2.2.1 hx ht hf
def rd_readChoiceB_f (F : Nat) (I : Nat → Nat → Int32) (x : Nat) (v1 : Int32) : Option (Int32 × (Nat → Nat → Int32)) := rd_parse F x 70 3 v1 I
theorem c_rd_readChoiceB_f {l : Launch} {D : va_G} {E : Nat → ClassId} {B : Nat → Prop} {n F : Nat} {T : Nat → Option (Nat × Nat)} {J : Nat → Nat → Int64} {P : Nat → Nat → Option Nat} {x : Nat} {v1 : Int32} {I : Nat → Nat → Int32} {r : Int32 × (Nat → Nat → Int32)} (hx : isSR T P x) (ht : P (x + 2) 2 = some (x + 1)) (hf : rd_readChoiceB_f F I x v1 = some r) : Ct l D E B yX7_readChoice cX7_readChoice 4 (some .boolean) 90 0 0 [.ref (x + 2), .int v1] (n, T, I, J, P) (Ret (some (.int r.1)) (n, T, r.2, J, P)) := (rd_parse_all 70).2.2.2.1 hx ht hf
def rd_readTruthB_f (F : Nat) (I : Nat → Nat → Int32) (x : Nat) (v1 : Int32) : Option (Int32 × (Nat → Nat → Int32)) := rd_parse F x 70 4 v1 I
theorem c_rd_readTruthB_f {l : Launch} {D : va_G} {E : Nat → ClassId} {B : Nat → Prop} {n F : Nat} {T : Nat → Option (Nat × Nat)} {J : Nat → Nat → Int64} {P : Nat → Nat → Option Nat} {x : Nat} {v1 : Int32} {I : Nat → Nat → Int32} {r : Int32 × (Nat → Nat → Int32)} (hx : isSR T P x) (ht : P (x + 2) 2 = some (x + 1)) (hf : rd_readTruthB_f F I x v1 = some r) : Ct l D E B yX7_readTruth cX7_readTruth 4 (some .boolean) 90 0 0 [.ref (x + 2), .int v1] (n, T, I, J, P) (Ret (some (.int r.1)) (n, T, r.2, J, P)) := (rd_parse_all 70).2.2.2.2.1 hx ht hf
def rd_readBothB_f (F : Nat) (I : Nat → Nat → Int32) (x : Nat) (v1 : Int32) : Option (Int32 × (Nat → Nat → Int32)) := rd_parse F x 70 5 v1 I
theorem c_rd_readBothB_f {l : Launch} {D : va_G} {E : Nat → ClassId} {B : Nat → Prop} {n F : Nat} {T : Nat → Option (Nat × Nat)} {J : Nat → Nat → Int64} {P : Nat → Nat → Option Nat} {x : Nat} {v1 : Int32} {I : Nat → Nat → Int32} {r : Int32 × (Nat → Nat → Int32)} (hx : isSR T P x) (ht : P (x + 2) 2 = some (x + 1)) (hf : rd_readBothB_f F I x v1 = some r) : Ct l D E B yX7_readBoth cX7_readBoth 4 (some .boolean) 90 0 0 [.ref (x + 2), .int v1] (n, T, I, J, P) (Ret (some (.int r.1)) (n, T, r.2, J, P)) := (rd_parse_all 70).2.2.2.2.2.1 hx ht hf
def rd_readUnitB_f (F : Nat) (I : Nat → Nat → Int32) (x : Nat) (v1 : Int32) : Option (Int32 × (Nat → Nat → Int32)) := rd_parse F x 70 6 v1 I
theorem c_rd_readUnitB_f {l : Launch} {D : va_G} {E : Nat → ClassId} {B : Nat → Prop} {n F : Nat} {T : Nat → Option (Nat × Nat)} {J : Nat → Nat → Int64} {P : Nat → Nat → Option Nat} {x : Nat} {v1 : Int32} {I : Nat → Nat → Int32} {r : Int32 × (Nat → Nat → Int32)} (hx : isSR T P x) (ht : P (x + 2) 2 = some (x + 1)) (hf : rd_readUnitB_f F I x v1 = some r) : Ct l D E B yX7_readUnit cX7_readUnit 3 (some .boolean) 90 0 0 [.ref (x + 2), .int v1] (n, T, I, J, P) (Ret (some (.int r.1)) (n, T, r.2, J, P)) := (rd_parse_all 70).2.2.2.2.2.2.1 hx ht hf
def rd_readComparisonB_f (F : Nat) (I : Nat → Nat → Int32) (x : Nat) (v1 : Int32) : Option (Int32 × (Nat → Nat → Int32)) := rd_parse F x 70 7 v1 I
theorem c_rd_readComparisonB_f {l : Launch} {D : va_G} {E : Nat → ClassId} {B : Nat → Prop} {n F : Nat} {T : Nat → Option (Nat × Nat)} {J : Nat → Nat → Int64} {P : Nat → Nat → Option Nat} {x : Nat} {v1 : Int32} {I : Nat → Nat → Int32} {r : Int32 × (Nat → Nat → Int32)} (hx : isSR T P x) (ht : P (x + 2) 2 = some (x + 1)) (hf : rd_readComparisonB_f F I x v1 = some r) : Ct l D E B yX7_readComparison cX7_readComparison 4 (some .boolean) 90 0 0 [.ref (x + 2), .int v1] (n, T, I, J, P) (Ret (some (.int r.1)) (n, T, r.2, J, P)) := (rd_parse_all 70).2.2.2.2.2.2.2 hx ht hf
theorem dX7_readLaw_0 : decode cX7_readLaw 0 = .ok (.aload_n 0, 1) := by decide +kernel
theorem dX7_readLaw_1 : decode cX7_readLaw 1 = .ok (.iconst 0, 1) := by decide +kernel
theorem dX7_readLaw_2 : decode cX7_readLaw 2 = .ok (.putfield 118, 3) := by decide +kernel
theorem dX7_readLaw_5 : decode cX7_readLaw 5 = .ok (.aload_n 0, 1) := by decide +kernel
theorem dX7_readLaw_6 : decode cX7_readLaw 6 = .ok (.invokevirtual 45, 3) := by decide +kernel
theorem dX7_readLaw_9 : decode cX7_readLaw 9 = .ok (.aload_n 0, 1) := by decide +kernel
theorem dX7_readLaw_10 : decode cX7_readLaw 10 = .ok (.bipush 58, 2) := by decide +kernel
theorem dX7_readLaw_12 : decode cX7_readLaw 12 = .ok (.invokevirtual 48, 3) := by decide +kernel
theorem dX7_readLaw_15 : decode cX7_readLaw 15 = .ok (.ifCond .eq 15, 3) := by decide +kernel
theorem dX7_readLaw_18 : decode cX7_readLaw 18 = .ok (.aload_n 0, 1) := by decide +kernel
theorem dX7_readLaw_19 : decode cX7_readLaw 19 = .ok (.iconst 0, 1) := by decide +kernel
theorem dX7_readLaw_20 : decode cX7_readLaw 20 = .ok (.invokevirtual 161, 3) := by decide +kernel
theorem dX7_readLaw_23 : decode cX7_readLaw 23 = .ok (.ifCond .eq 7, 3) := by decide +kernel
theorem dX7_readLaw_26 : decode cX7_readLaw 26 = .ok (.iconst 1, 1) := by decide +kernel
theorem dX7_readLaw_27 : decode cX7_readLaw 27 = .ok (.goto 4, 3) := by decide +kernel
theorem dX7_readLaw_30 : decode cX7_readLaw 30 = .ok (.iconst 0, 1) := by decide +kernel
theorem dX7_readLaw_31 : decode cX7_readLaw 31 = .ok (.ireturn, 1) := by decide +kernel
def rd_readLaw (F : Nat) (I : Nat → Nat → Int32) (x : Nat) : Option (Int32 × (Nat → Nat → Int32)) := let I1 := uI I (x + 2) 10 0; (rd_takeToken F I1 x).bind (fun q3 => let I5 := q3; (rd_expect F I5 x 58).bind (fun q6 => let u8 := q6.1; let I9 := q6.2; if u8 = 0 then (some (0, I9)) else ((rd_readSumB_f F I9 x 0).bind (fun q11 => let u13 := q11.1; let I14 := q11.2; if u13 = 0 then (some (0, I14)) else (some (1, I14))))))
theorem c_rd_readLaw {l : Launch} {D : va_G} {E : Nat → ClassId} {B : Nat → Prop} {n F : Nat} {T : Nat → Option (Nat × Nat)} {I : Nat → Nat → Int32} {J : Nat → Nat → Int64} {P : Nat → Nat → Option Nat} {x : Nat}  {r : Int32 × (Nat → Nat → Int32)} (hx : isSR T P x) (ht : P (x + 2) 2 = some (x + 1)) (hf : rd_readLaw F I x = some r) : Ct l D E B yX7_readLaw cX7_readLaw 1 (some .boolean) 91 0 0 [.ref (x + 2)] (n, T, I, J, P) (Ret (some (.int r.1)) (n, T, r.2, J, P)) := by
  unfold rd_readLaw at hf
  refine Ct.ofV (by decide) (Nat.le_of_ble_eq_true rfl) ?_
  refine V.aload_n dX7_readLaw_0 rfl ?_
  refine V.iconst (v := 0) dX7_readLaw_1 (by decide) ?_
  refine V.putiE fl_X7_118 dX7_readLaw_2 (hx.1 2 (7, 0) rfl) (by decide) (fun h => by cases h) rfl rfl rfl (Nat.le_of_ble_eq_true rfl) (fun I1 e2 => ?_)
  rw [← e2] at hf
  try dsimp only at hf
  clear e2
  refine V.aload_n dX7_readLaw_5 rfl ?_
  obtain ⟨I5, hk4, hf⟩ := bnd_some hf
  try dsimp only at hf
  refine V.inv cv_X7_45 (c_rd_takeToken hx ht hk4) dX7_readLaw_6 (hx.1 2 (7, 0) rfl) (by decide) rfl rfl rfl (Nat.le_of_ble_eq_true rfl) (by decide) (by decide) (Nat.le_refl _) (Nat.le_refl _) (fun _ _ hq => ?_)
  obtain ⟨rfl, rfl⟩ := hq
  refine V.aload_n dX7_readLaw_9 rfl ?_
  refine V.bipush (v := 58) dX7_readLaw_10 (by decide) ?_
  obtain ⟨⟨u8, I9⟩, hk7, hf⟩ := bnd_some hf
  try dsimp only at hf
  refine V.inv cv_X7_48 (c_rd_expect hx ht hk7) dX7_readLaw_12 (hx.1 2 (7, 0) rfl) (by decide) rfl rfl rfl (Nat.le_of_ble_eq_true rfl) (by decide) (by decide) (Nat.le_refl _) (Nat.le_refl _) (fun _ _ hq => ?_)
  obtain ⟨rfl, rfl⟩ := hq
  try dsimp only
  refine V.if_eq 30 dX7_readLaw_15 (by decide) (fun c10 => ?_) (fun c10 => ?_)
  · rw [if_pos c10] at hf
    refine V.iconst (v := 0) dX7_readLaw_30 (by decide) ?_
    obtain rfl := Option.some.inj hf
    exact V.zret dX7_readLaw_31 rfl rfl (Nat.le_refl _) (Nat.le_refl _) ⟨rfl, rfl⟩
  · rw [if_neg c10] at hf
    refine V.aload_n dX7_readLaw_18 rfl ?_
    refine V.iconst (v := 0) dX7_readLaw_19 (by decide) ?_
    obtain ⟨⟨u13, I14⟩, hk12, hf⟩ := bnd_some hf
    try dsimp only at hf
    refine V.inv cv_X7_161 (c_rd_readSumB_f hx ht hk12) dX7_readLaw_20 (hx.1 2 (7, 0) rfl) (by decide) rfl rfl rfl (Nat.le_of_ble_eq_true rfl) (by decide) (by decide) (Nat.le_refl _) (Nat.le_refl _) (fun _ _ hq => ?_)
    obtain ⟨rfl, rfl⟩ := hq
    try dsimp only
    refine V.if_eq 30 dX7_readLaw_23 (by decide) (fun c15 => ?_) (fun c15 => ?_)
    · rw [if_pos c15] at hf
      refine V.iconst (v := 0) dX7_readLaw_30 (by decide) ?_
      obtain rfl := Option.some.inj hf
      exact V.zret dX7_readLaw_31 rfl rfl (Nat.le_refl _) (Nat.le_refl _) ⟨rfl, rfl⟩
    · rw [if_neg c15] at hf
      refine V.iconst (v := 1) dX7_readLaw_26 (by decide) ?_
      refine V.goto 31 dX7_readLaw_27 (by decide) ?_
      obtain rfl := Option.some.inj hf
      exact V.zret dX7_readLaw_31 rfl rfl (Nat.le_refl _) (Nat.le_refl _) ⟨rfl, rfl⟩
theorem dX7_readPerson_0 : decode cX7_readPerson 0 = .ok (.aload_n 0, 1) := by decide +kernel
theorem dX7_readPerson_1 : decode cX7_readPerson 1 = .ok (.getfield 41, 3) := by decide +kernel
theorem dX7_readPerson_4 : decode cX7_readPerson 4 = .ok (.getfield 137, 3) := by decide +kernel
theorem dX7_readPerson_7 : decode cX7_readPerson 7 = .ok (.istore_n 1, 1) := by decide +kernel
theorem dX7_readPerson_8 : decode cX7_readPerson 8 = .ok (.iload_n 1, 1) := by decide +kernel
theorem dX7_readPerson_9 : decode cX7_readPerson 9 = .ok (.bipush 6, 2) := by decide +kernel
theorem dX7_readPerson_11 : decode cX7_readPerson 11 = .ok (.if_icmp .lt 9, 3) := by decide +kernel
theorem dX7_readPerson_14 : decode cX7_readPerson 14 = .ok (.aload_n 0, 1) := by decide +kernel
theorem dX7_readPerson_15 : decode cX7_readPerson 15 = .ok (.iconst 4, 1) := by decide +kernel
theorem dX7_readPerson_16 : decode cX7_readPerson 16 = .ok (.invokevirtual 68, 3) := by decide +kernel
theorem dX7_readPerson_19 : decode cX7_readPerson 19 = .ok (.ireturn, 1) := by decide +kernel
theorem dX7_readPerson_20 : decode cX7_readPerson 20 = .ok (.aload_n 0, 1) := by decide +kernel
theorem dX7_readPerson_21 : decode cX7_readPerson 21 = .ok (.invokevirtual 45, 3) := by decide +kernel
theorem dX7_readPerson_24 : decode cX7_readPerson 24 = .ok (.aload_n 0, 1) := by decide +kernel
theorem dX7_readPerson_25 : decode cX7_readPerson 25 = .ok (.sipush 202, 3) := by decide +kernel
theorem dX7_readPerson_28 : decode cX7_readPerson 28 = .ok (.invokevirtual 48, 3) := by decide +kernel
theorem dX7_readPerson_31 : decode cX7_readPerson 31 = .ok (.ifCond .eq 12, 3) := by decide +kernel
theorem dX7_readPerson_34 : decode cX7_readPerson 34 = .ok (.aload_n 0, 1) := by decide +kernel
theorem dX7_readPerson_35 : decode cX7_readPerson 35 = .ok (.bipush 99, 2) := by decide +kernel
theorem dX7_readPerson_37 : decode cX7_readPerson 37 = .ok (.invokevirtual 140, 3) := by decide +kernel
theorem dX7_readPerson_40 : decode cX7_readPerson 40 = .ok (.ifCond .ne 5, 3) := by decide +kernel
theorem dX7_readPerson_43 : decode cX7_readPerson 43 = .ok (.iconst 0, 1) := by decide +kernel
theorem dX7_readPerson_44 : decode cX7_readPerson 44 = .ok (.ireturn, 1) := by decide +kernel
theorem dX7_readPerson_45 : decode cX7_readPerson 45 = .ok (.aload_n 0, 1) := by decide +kernel
theorem dX7_readPerson_46 : decode cX7_readPerson 46 = .ok (.getfield 41, 3) := by decide +kernel
theorem dX7_readPerson_49 : decode cX7_readPerson 49 = .ok (.getfield 143, 3) := by decide +kernel
theorem dX7_readPerson_52 : decode cX7_readPerson 52 = .ok (.iload_n 1, 1) := by decide +kernel
theorem dX7_readPerson_53 : decode cX7_readPerson 53 = .ok (.aload_n 0, 1) := by decide +kernel
theorem dX7_readPerson_54 : decode cX7_readPerson 54 = .ok (.getfield 85, 3) := by decide +kernel
theorem dX7_readPerson_57 : decode cX7_readPerson 57 = .ok (.iastore, 1) := by decide +kernel
theorem dX7_readPerson_58 : decode cX7_readPerson 58 = .ok (.aload_n 0, 1) := by decide +kernel
theorem dX7_readPerson_59 : decode cX7_readPerson 59 = .ok (.invokevirtual 45, 3) := by decide +kernel
theorem dX7_readPerson_62 : decode cX7_readPerson 62 = .ok (.iconst 0, 1) := by decide +kernel
theorem dX7_readPerson_63 : decode cX7_readPerson 63 = .ok (.istore_n 2, 1) := by decide +kernel
theorem dX7_readPerson_64 : decode cX7_readPerson 64 = .ok (.iload_n 2, 1) := by decide +kernel
theorem dX7_readPerson_65 : decode cX7_readPerson 65 = .ok (.sipush 900, 3) := by decide +kernel
theorem dX7_readPerson_68 : decode cX7_readPerson 68 = .ok (.if_icmp .ge 51, 3) := by decide +kernel
theorem dX7_readPerson_71 : decode cX7_readPerson 71 = .ok (.aload_n 0, 1) := by decide +kernel
theorem dX7_readPerson_72 : decode cX7_readPerson 72 = .ok (.getfield 56, 3) := by decide +kernel
theorem dX7_readPerson_75 : decode cX7_readPerson 75 = .ok (.sipush 201, 3) := by decide +kernel
theorem dX7_readPerson_78 : decode cX7_readPerson 78 = .ok (.if_icmp .ne 41, 3) := by decide +kernel
theorem dX7_readPerson_81 : decode cX7_readPerson 81 = .ok (.aload_n 0, 1) := by decide +kernel
theorem dX7_readPerson_82 : decode cX7_readPerson 82 = .ok (.invokevirtual 45, 3) := by decide +kernel
theorem dX7_readPerson_85 : decode cX7_readPerson 85 = .ok (.aload_n 0, 1) := by decide +kernel
theorem dX7_readPerson_86 : decode cX7_readPerson 86 = .ok (.bipush 9, 2) := by decide +kernel
theorem dX7_readPerson_88 : decode cX7_readPerson 88 = .ok (.invokevirtual 140, 3) := by decide +kernel
theorem dX7_readPerson_91 : decode cX7_readPerson 91 = .ok (.ifCond .ne 5, 3) := by decide +kernel
theorem dX7_readPerson_94 : decode cX7_readPerson 94 = .ok (.iconst 0, 1) := by decide +kernel
theorem dX7_readPerson_95 : decode cX7_readPerson 95 = .ok (.ireturn, 1) := by decide +kernel
theorem dX7_readPerson_96 : decode cX7_readPerson 96 = .ok (.aload_n 0, 1) := by decide +kernel
theorem dX7_readPerson_97 : decode cX7_readPerson 97 = .ok (.getfield 41, 3) := by decide +kernel
theorem dX7_readPerson_100 : decode cX7_readPerson 100 = .ok (.getfield 146, 3) := by decide +kernel
theorem dX7_readPerson_103 : decode cX7_readPerson 103 = .ok (.iload_n 1, 1) := by decide +kernel
theorem dX7_readPerson_104 : decode cX7_readPerson 104 = .ok (.aload_n 0, 1) := by decide +kernel
theorem dX7_readPerson_105 : decode cX7_readPerson 105 = .ok (.getfield 85, 3) := by decide +kernel
theorem dX7_readPerson_108 : decode cX7_readPerson 108 = .ok (.iastore, 1) := by decide +kernel
theorem dX7_readPerson_109 : decode cX7_readPerson 109 = .ok (.aload_n 0, 1) := by decide +kernel
theorem dX7_readPerson_110 : decode cX7_readPerson 110 = .ok (.invokevirtual 45, 3) := by decide +kernel
theorem dX7_readPerson_113 : decode cX7_readPerson 113 = .ok (.iinc 2 1, 3) := by decide +kernel
theorem dX7_readPerson_116 : decode cX7_readPerson 116 = .ok (.goto (-52), 3) := by decide +kernel
theorem dX7_readPerson_119 : decode cX7_readPerson 119 = .ok (.aload_n 0, 1) := by decide +kernel
theorem dX7_readPerson_120 : decode cX7_readPerson 120 = .ok (.getfield 41, 3) := by decide +kernel
theorem dX7_readPerson_123 : decode cX7_readPerson 123 = .ok (.dup, 1) := by decide +kernel
theorem dX7_readPerson_124 : decode cX7_readPerson 124 = .ok (.getfield 137, 3) := by decide +kernel
theorem dX7_readPerson_127 : decode cX7_readPerson 127 = .ok (.iconst 1, 1) := by decide +kernel
theorem dX7_readPerson_128 : decode cX7_readPerson 128 = .ok (.iadd, 1) := by decide +kernel
theorem dX7_readPerson_129 : decode cX7_readPerson 129 = .ok (.putfield 137, 3) := by decide +kernel
theorem dX7_readPerson_132 : decode cX7_readPerson 132 = .ok (.iconst 1, 1) := by decide +kernel
theorem dX7_readPerson_133 : decode cX7_readPerson 133 = .ok (.ireturn, 1) := by decide +kernel
def rd_readPerson_64 (F : Nat) (x : Nat) (c : Nat) (g1 : Int32) : Nat → Int32 → (Nat → Nat → Int32) → Option ((Int32 × (Nat → Nat → Int32)) ⊕ (Int32 × (Nat → Nat → Int32)))
  | 0, _, _ => none
  | k + 1, l2, I => if 900 ≤ l2 then (some (.inr (l2, I))) else (if (I (x + 2) 6) = 201 then ((rd_takeToken F I x).bind (fun q25 => let I27 := q25; (rd_isNUpTo I27 x 9).bind (fun q28 => let u30 := q28.1; let I31 := q28.2; if u30 = 0 then (some (.inl (0, I31))) else (chk g1 6 (let I34 := uI I31 (c + 2) (Int32.toNatClampNeg g1) (I31 (x + 2) 7); (rd_takeToken F I34 x).bind (fun q36 => let I38 := q36; rd_readPerson_64 F x c g1 k (l2 + 1) I38)))))) else (some (.inr (l2, I))))
def rd_readPerson (F : Nat) (I : Nat → Nat → Int32) (x : Nat) (c : Nat) : Option (Int32 × (Nat → Nat → Int32)) := let x1 := (I c 0); if x1 < 6 then ((rd_takeToken F I x).bind (fun q4 => let I6 := q4; (rd_expect F I6 x 202).bind (fun q7 => let u9 := q7.1; let I10 := q7.2; if u9 = 0 then (some (0, I10)) else ((rd_isNUpTo I10 x 99).bind (fun q12 => let u14 := q12.1; let I15 := q12.2; if u14 = 0 then (some (0, I15)) else (chk x1 6 (let I18 := uI I15 (c + 1) (Int32.toNatClampNeg x1) (I15 (x + 2) 7); (rd_takeToken F I18 x).bind (fun q20 => let I22 := q20; (rd_readPerson_64 F x c x1 F 0 I22).bind (fun q39 => match q39 with | .inl r0 => some r0 | .inr q0 => let m41 := q0.1; let I42 := q0.2; let I43 := uI I42 c 0 ((I42 c 0) + 1); some (1, I43)))))))))) else ((rd_refuse I x 4).bind (fun q45 => let u47 := q45.1; let I48 := q45.2; isb u47 (some (u47, I48))))
theorem l_rd_readPerson_64 {l : Launch} {D : va_G} {E : Nat → ClassId} {B : Nat → Prop} {n F : Nat} {Q : Option Value → HT → Prop} {T : Nat → Option (Nat × Nat)} {J : Nat → Nat → Int64} {P : Nat → Nat → Option Nat} {x : Nat} {c : Nat} {g1 : Int32} (hx : isSR T P x) (hs_c : isCt T P c) (hdr : P (x + 2) 8 = some c) (ht : P (x + 2) 2 = some (x + 1))  (r : (Int32 × (Nat → Nat → Int32)) ⊕ (Int32 × (Nat → Nat → Int32))) : ∀ (k : Nat) (l2 : Int32) (I : (Nat → Nat → Int32)), rd_readPerson_64 F x c g1 k l2 I = some r → (match r with | .inl r => Q (some (.int r.1)) (n, T, r.2, J, P) | .inr r => V l D E B yX7_readPerson cX7_readPerson 3 (some .boolean) 7 0 0 Q 0 0 (n, T, r.2, J, P) 119 [(0, some (.ref (x + 2))), (1, some (.int g1)), (2, some (.int (r.1)))] []) → V l D E B yX7_readPerson cX7_readPerson 3 (some .boolean) 7 0 0 Q 0 0 (n, T, I, J, P) 64 [(0, some (.ref (x + 2))), (1, some (.int g1)), (2, some (.int l2))] [] := by
  intro k
  induction k with
  | zero =>
    intro l2 I hf hk
    cases hf
  | succ k ih =>
    intro l2 I hf hk
    unfold rd_readPerson_64 at hf
    refine V.iload_n dX7_readPerson_64 rfl ?_
    refine V.sipush (v := 900) dX7_readPerson_65 (by decide) ?_
    refine V.icmp_ge 119 dX7_readPerson_68 (by decide) (fun c23 => ?_) (fun c23 => ?_)
    · rw [if_pos c23] at hf
      obtain rfl := Option.some.inj hf
      exact V.lo [(0, some (.ref (x + 2))), (1, some (.int g1)), (2, some (.int l2))] (by simp only [Subs]; repeat' first | exact trivial | constructor | rfl) hk
    · rw [if_neg c23] at hf
      refine V.aload_n dX7_readPerson_71 rfl ?_
      refine V.getf fl_X7_56 dX7_readPerson_72 (hx.1 2 (7, 0) rfl) (by decide) rfl ?_
      refine V.sipush (v := 201) dX7_readPerson_75 (by decide) ?_
      refine V.icmp_ne 119 dX7_readPerson_78 (by decide) (fun c24 => ?_) (fun c24 => ?_)
      · rw [if_neg c24] at hf
        obtain rfl := Option.some.inj hf
        exact V.lo [(0, some (.ref (x + 2))), (1, some (.int g1)), (2, some (.int l2))] (by simp only [Subs]; repeat' first | exact trivial | constructor | rfl) hk
      · rw [if_pos c24] at hf
        refine V.aload_n dX7_readPerson_81 rfl ?_
        obtain ⟨I27, hk26, hf⟩ := bnd_some hf
        try dsimp only at hf
        refine V.inv cv_X7_45 (c_rd_takeToken hx ht hk26) dX7_readPerson_82 (hx.1 2 (7, 0) rfl) (by decide) rfl rfl rfl (Nat.le_of_ble_eq_true rfl) (by decide) (by decide) (Nat.le_refl _) (Nat.le_refl _) (fun _ _ hq => ?_)
        obtain ⟨rfl, rfl⟩ := hq
        refine V.aload_n dX7_readPerson_85 rfl ?_
        refine V.bipush (v := 9) dX7_readPerson_86 (by decide) ?_
        obtain ⟨⟨u30, I31⟩, hk29, hf⟩ := bnd_some hf
        try dsimp only at hf
        refine V.inv cv_X7_140 (c_rd_isNUpTo hx hk29) dX7_readPerson_88 (hx.1 2 (7, 0) rfl) (by decide) rfl rfl rfl (Nat.le_of_ble_eq_true rfl) (by decide) (by decide) (Nat.le_refl _) (Nat.le_refl _) (fun _ _ hq => ?_)
        obtain ⟨rfl, rfl⟩ := hq
        try dsimp only
        refine V.if_ne 96 dX7_readPerson_91 (by decide) (fun c32 => ?_) (fun c32 => ?_)
        · rw [if_neg c32] at hf
          refine V.aload_n dX7_readPerson_96 rfl ?_
          refine V.getr fl_X7_41 dX7_readPerson_97 (hx.1 2 (7, 0) rfl) hdr (by decide) rfl ?_
          refine V.getr fl_X7_146 dX7_readPerson_100 (hs_c.1.1 0 (1, 0) rfl) (hs_c.1.2 0 5 2 rfl) (by decide) rfl ?_
          refine V.iload_n dX7_readPerson_103 rfl ?_
          refine V.aload_n dX7_readPerson_104 rfl ?_
          refine V.getf fl_X7_85 dX7_readPerson_105 (hx.1 2 (7, 0) rfl) (by decide) rfl ?_
          obtain ⟨hb33, hf⟩ := chk_some hf
          refine V.iastE dX7_readPerson_108 (hs_c.1.1 2 (20, 6) rfl) hb33 (fun I34 e35 => ?_)
          rw [← e35] at hf
          try dsimp only at hf
          clear e35
          refine V.aload_n dX7_readPerson_109 rfl ?_
          obtain ⟨I38, hk37, hf⟩ := bnd_some hf
          try dsimp only at hf
          refine V.inv cv_X7_45 (c_rd_takeToken hx ht hk37) dX7_readPerson_110 (hx.1 2 (7, 0) rfl) (by decide) rfl rfl rfl (Nat.le_of_ble_eq_true rfl) (by decide) (by decide) (Nat.le_refl _) (Nat.le_refl _) (fun _ _ hq => ?_)
          obtain ⟨rfl, rfl⟩ := hq
          refine V.iinc (v := (l2 + 1)) dX7_readPerson_113 rfl rfl (by first | exact rfl | exact trivial) ?_
          refine V.goto 64 dX7_readPerson_116 (by decide) ?_
          exact V.lo [(0, some (.ref (x + 2))), (1, some (.int g1)), (2, some (.int (l2 + 1)))] (by simp only [Subs]; repeat' first | exact trivial | constructor | rfl) (ih _ _ hf hk)
        · rw [if_pos c32] at hf
          refine V.iconst (v := 0) dX7_readPerson_94 (by decide) ?_
          obtain rfl := Option.some.inj hf
          exact V.zret dX7_readPerson_95 rfl rfl (Nat.le_refl _) (Nat.le_refl _) hk
theorem c_rd_readPerson {l : Launch} {D : va_G} {E : Nat → ClassId} {B : Nat → Prop} {n F : Nat} {T : Nat → Option (Nat × Nat)} {I : Nat → Nat → Int32} {J : Nat → Nat → Int64} {P : Nat → Nat → Option Nat} {x : Nat} {c : Nat}  {r : Int32 × (Nat → Nat → Int32)} (hx : isSR T P x) (hs_c : isCt T P c) (hdr : P (x + 2) 8 = some c) (ht : P (x + 2) 2 = some (x + 1)) (hf : rd_readPerson F I x c = some r) : Ct l D E B yX7_readPerson cX7_readPerson 3 (some .boolean) 7 0 0 [.ref (x + 2)] (n, T, I, J, P) (Ret (some (.int r.1)) (n, T, r.2, J, P)) := by
  unfold rd_readPerson at hf
  refine Ct.ofV (by decide) (Nat.le_of_ble_eq_true rfl) ?_
  refine V.aload_n dX7_readPerson_0 rfl ?_
  refine V.getr fl_X7_41 dX7_readPerson_1 (hx.1 2 (7, 0) rfl) hdr (by decide) rfl ?_
  refine V.getf fl_X7_137 dX7_readPerson_4 (hs_c.1.1 0 (1, 0) rfl) (by decide) rfl ?_
  refine V.istore_n dX7_readPerson_7 rfl (by decide) (by first | exact rfl | exact trivial) ?_
  obtain ⟨x1, e2⟩ : ∃ zz_, zz_ = (I c 0) := ⟨_, rfl⟩
  rw [← e2] at hf ⊢
  try dsimp only at hf
  refine V.iload_n dX7_readPerson_8 rfl ?_
  refine V.bipush (v := 6) dX7_readPerson_9 (by decide) ?_
  refine V.icmp_lt 20 dX7_readPerson_11 (by decide) (fun c3 => ?_) (fun c3 => ?_)
  · rw [if_pos c3] at hf
    refine V.aload_n dX7_readPerson_20 rfl ?_
    obtain ⟨I6, hk5, hf⟩ := bnd_some hf
    try dsimp only at hf
    refine V.inv cv_X7_45 (c_rd_takeToken hx ht hk5) dX7_readPerson_21 (hx.1 2 (7, 0) rfl) (by decide) rfl rfl rfl (Nat.le_of_ble_eq_true rfl) (by decide) (by decide) (Nat.le_refl _) (Nat.le_refl _) (fun _ _ hq => ?_)
    obtain ⟨rfl, rfl⟩ := hq
    refine V.aload_n dX7_readPerson_24 rfl ?_
    refine V.sipush (v := 202) dX7_readPerson_25 (by decide) ?_
    obtain ⟨⟨u9, I10⟩, hk8, hf⟩ := bnd_some hf
    try dsimp only at hf
    refine V.inv cv_X7_48 (c_rd_expect hx ht hk8) dX7_readPerson_28 (hx.1 2 (7, 0) rfl) (by decide) rfl rfl rfl (Nat.le_of_ble_eq_true rfl) (by decide) (by decide) (Nat.le_refl _) (Nat.le_refl _) (fun _ _ hq => ?_)
    obtain ⟨rfl, rfl⟩ := hq
    try dsimp only
    refine V.if_eq 43 dX7_readPerson_31 (by decide) (fun c11 => ?_) (fun c11 => ?_)
    · rw [if_pos c11] at hf
      refine V.iconst (v := 0) dX7_readPerson_43 (by decide) ?_
      obtain rfl := Option.some.inj hf
      exact V.zret dX7_readPerson_44 rfl rfl (Nat.le_refl _) (Nat.le_refl _) ⟨rfl, rfl⟩
    · rw [if_neg c11] at hf
      refine V.aload_n dX7_readPerson_34 rfl ?_
      refine V.bipush (v := 99) dX7_readPerson_35 (by decide) ?_
      obtain ⟨⟨u14, I15⟩, hk13, hf⟩ := bnd_some hf
      try dsimp only at hf
      refine V.inv cv_X7_140 (c_rd_isNUpTo hx hk13) dX7_readPerson_37 (hx.1 2 (7, 0) rfl) (by decide) rfl rfl rfl (Nat.le_of_ble_eq_true rfl) (by decide) (by decide) (Nat.le_refl _) (Nat.le_refl _) (fun _ _ hq => ?_)
      obtain ⟨rfl, rfl⟩ := hq
      try dsimp only
      refine V.if_ne 45 dX7_readPerson_40 (by decide) (fun c16 => ?_) (fun c16 => ?_)
      · rw [if_neg c16] at hf
        refine V.aload_n dX7_readPerson_45 rfl ?_
        refine V.getr fl_X7_41 dX7_readPerson_46 (hx.1 2 (7, 0) rfl) hdr (by decide) rfl ?_
        refine V.getr fl_X7_143 dX7_readPerson_49 (hs_c.1.1 0 (1, 0) rfl) (hs_c.1.2 0 4 1 rfl) (by decide) rfl ?_
        refine V.iload_n dX7_readPerson_52 rfl ?_
        refine V.aload_n dX7_readPerson_53 rfl ?_
        refine V.getf fl_X7_85 dX7_readPerson_54 (hx.1 2 (7, 0) rfl) (by decide) rfl ?_
        obtain ⟨hb17, hf⟩ := chk_some hf
        refine V.iastE dX7_readPerson_57 (hs_c.1.1 1 (20, 6) rfl) hb17 (fun I18 e19 => ?_)
        rw [← e19] at hf
        try dsimp only at hf
        clear e19
        refine V.aload_n dX7_readPerson_58 rfl ?_
        obtain ⟨I22, hk21, hf⟩ := bnd_some hf
        try dsimp only at hf
        refine V.inv cv_X7_45 (c_rd_takeToken hx ht hk21) dX7_readPerson_59 (hx.1 2 (7, 0) rfl) (by decide) rfl rfl rfl (Nat.le_of_ble_eq_true rfl) (by decide) (by decide) (Nat.le_refl _) (Nat.le_refl _) (fun _ _ hq => ?_)
        obtain ⟨rfl, rfl⟩ := hq
        refine V.iconst (v := 0) dX7_readPerson_62 (by decide) ?_
        refine V.istore_n dX7_readPerson_63 rfl (by decide) (by first | exact rfl | exact trivial) ?_
        obtain ⟨q39, hk40, hf⟩ := bnd_some hf
        refine V.lo [(0, some (.ref (x + 2))), (1, some (.int x1)), (2, some (.int 0))] (by simp only [Subs]; repeat' first | exact trivial | constructor | rfl) (l_rd_readPerson_64 hx hs_c hdr ht q39 F _ _ hk40 ?_)
        rcases q39 with r0 | ⟨m41, I42⟩
        · try dsimp only at hf ⊢
          obtain rfl := Option.some.inj hf
          exact ⟨rfl, rfl⟩
        · try dsimp only at hf ⊢
          refine V.aload_n dX7_readPerson_119 rfl ?_
          refine V.getr fl_X7_41 dX7_readPerson_120 (hx.1 2 (7, 0) rfl) hdr (by decide) rfl ?_
          refine V.dup dX7_readPerson_123 rfl ?_
          refine V.getf fl_X7_137 dX7_readPerson_124 (hs_c.1.1 0 (1, 0) rfl) (by decide) rfl ?_
          refine V.iconst (v := 1) dX7_readPerson_127 (by decide) ?_
          refine V.iadd dX7_readPerson_128 ?_
          refine V.putiE fl_X7_137 dX7_readPerson_129 (hs_c.1.1 0 (1, 0) rfl) (by decide) (fun h => by cases h) rfl rfl rfl (Nat.le_of_ble_eq_true rfl) (fun I43 e44 => ?_)
          rw [← e44] at hf
          try dsimp only at hf
          clear e44
          refine V.iconst (v := 1) dX7_readPerson_132 (by decide) ?_
          obtain rfl := Option.some.inj hf
          exact V.zret dX7_readPerson_133 rfl rfl (Nat.le_refl _) (Nat.le_refl _) ⟨rfl, rfl⟩
      · rw [if_pos c16] at hf
        refine V.iconst (v := 0) dX7_readPerson_43 (by decide) ?_
        obtain rfl := Option.some.inj hf
        exact V.zret dX7_readPerson_44 rfl rfl (Nat.le_refl _) (Nat.le_refl _) ⟨rfl, rfl⟩
  · rw [if_neg c3] at hf
    refine V.aload_n dX7_readPerson_14 rfl ?_
    refine V.iconst (v := 4) dX7_readPerson_15 (by decide) ?_
    obtain ⟨⟨u47, I48⟩, hk46, hf⟩ := bnd_some hf
    try dsimp only at hf
    refine V.inv cv_X7_68 (c_rd_refuse hx hk46) dX7_readPerson_16 (hx.1 2 (7, 0) rfl) (by decide) rfl rfl rfl (Nat.le_of_ble_eq_true rfl) (by decide) (by decide) (Nat.le_refl _) (Nat.le_refl _) (fun _ _ hq => ?_)
    obtain ⟨rfl, rfl⟩ := hq
    try dsimp only
    obtain ⟨hn49, hf⟩ := isb_some hf
    obtain rfl := Option.some.inj hf
    exact V.zret dX7_readPerson_19 rfl hn49 (Nat.le_refl _) (Nat.le_refl _) ⟨rfl, rfl⟩
theorem dX7_readTune_0 : decode cX7_readTune 0 = .ok (.aload_n 0, 1) := by decide +kernel
theorem dX7_readTune_1 : decode cX7_readTune 1 = .ok (.getfield 41, 3) := by decide +kernel
theorem dX7_readTune_4 : decode cX7_readTune 4 = .ok (.getfield 149, 3) := by decide +kernel
theorem dX7_readTune_7 : decode cX7_readTune 7 = .ok (.istore_n 1, 1) := by decide +kernel
theorem dX7_readTune_8 : decode cX7_readTune 8 = .ok (.iload_n 1, 1) := by decide +kernel
theorem dX7_readTune_9 : decode cX7_readTune 9 = .ok (.iconst 4, 1) := by decide +kernel
theorem dX7_readTune_10 : decode cX7_readTune 10 = .ok (.if_icmp .lt 9, 3) := by decide +kernel
theorem dX7_readTune_13 : decode cX7_readTune 13 = .ok (.aload_n 0, 1) := by decide +kernel
theorem dX7_readTune_14 : decode cX7_readTune 14 = .ok (.iconst 4, 1) := by decide +kernel
theorem dX7_readTune_15 : decode cX7_readTune 15 = .ok (.invokevirtual 68, 3) := by decide +kernel
theorem dX7_readTune_18 : decode cX7_readTune 18 = .ok (.ireturn, 1) := by decide +kernel
theorem dX7_readTune_19 : decode cX7_readTune 19 = .ok (.aload_n 0, 1) := by decide +kernel
theorem dX7_readTune_20 : decode cX7_readTune 20 = .ok (.getfield 41, 3) := by decide +kernel
theorem dX7_readTune_23 : decode cX7_readTune 23 = .ok (.getfield 152, 3) := by decide +kernel
theorem dX7_readTune_26 : decode cX7_readTune 26 = .ok (.iload_n 1, 1) := by decide +kernel
theorem dX7_readTune_27 : decode cX7_readTune 27 = .ok (.iconst 1, 1) := by decide +kernel
theorem dX7_readTune_28 : decode cX7_readTune 28 = .ok (.iastore, 1) := by decide +kernel
theorem dX7_readTune_29 : decode cX7_readTune 29 = .ok (.aload_n 0, 1) := by decide +kernel
theorem dX7_readTune_30 : decode cX7_readTune 30 = .ok (.invokevirtual 45, 3) := by decide +kernel
theorem dX7_readTune_33 : decode cX7_readTune 33 = .ok (.iconst 0, 1) := by decide +kernel
theorem dX7_readTune_34 : decode cX7_readTune 34 = .ok (.istore_n 2, 1) := by decide +kernel
theorem dX7_readTune_35 : decode cX7_readTune 35 = .ok (.iload_n 2, 1) := by decide +kernel
theorem dX7_readTune_36 : decode cX7_readTune 36 = .ok (.sipush 900, 3) := by decide +kernel
theorem dX7_readTune_39 : decode cX7_readTune 39 = .ok (.if_icmp .ge 51, 3) := by decide +kernel
theorem dX7_readTune_42 : decode cX7_readTune 42 = .ok (.aload_n 0, 1) := by decide +kernel
theorem dX7_readTune_43 : decode cX7_readTune 43 = .ok (.getfield 56, 3) := by decide +kernel
theorem dX7_readTune_46 : decode cX7_readTune 46 = .ok (.sipush 209, 3) := by decide +kernel
theorem dX7_readTune_49 : decode cX7_readTune 49 = .ok (.if_icmp .ne 41, 3) := by decide +kernel
theorem dX7_readTune_52 : decode cX7_readTune 52 = .ok (.aload_n 0, 1) := by decide +kernel
theorem dX7_readTune_53 : decode cX7_readTune 53 = .ok (.invokevirtual 45, 3) := by decide +kernel
theorem dX7_readTune_56 : decode cX7_readTune 56 = .ok (.aload_n 0, 1) := by decide +kernel
theorem dX7_readTune_57 : decode cX7_readTune 57 = .ok (.bipush 9, 2) := by decide +kernel
theorem dX7_readTune_59 : decode cX7_readTune 59 = .ok (.invokevirtual 140, 3) := by decide +kernel
theorem dX7_readTune_62 : decode cX7_readTune 62 = .ok (.ifCond .ne 5, 3) := by decide +kernel
theorem dX7_readTune_65 : decode cX7_readTune 65 = .ok (.iconst 0, 1) := by decide +kernel
theorem dX7_readTune_66 : decode cX7_readTune 66 = .ok (.ireturn, 1) := by decide +kernel
theorem dX7_readTune_67 : decode cX7_readTune 67 = .ok (.aload_n 0, 1) := by decide +kernel
theorem dX7_readTune_68 : decode cX7_readTune 68 = .ok (.getfield 41, 3) := by decide +kernel
theorem dX7_readTune_71 : decode cX7_readTune 71 = .ok (.getfield 152, 3) := by decide +kernel
theorem dX7_readTune_74 : decode cX7_readTune 74 = .ok (.iload_n 1, 1) := by decide +kernel
theorem dX7_readTune_75 : decode cX7_readTune 75 = .ok (.aload_n 0, 1) := by decide +kernel
theorem dX7_readTune_76 : decode cX7_readTune 76 = .ok (.getfield 85, 3) := by decide +kernel
theorem dX7_readTune_79 : decode cX7_readTune 79 = .ok (.iastore, 1) := by decide +kernel
theorem dX7_readTune_80 : decode cX7_readTune 80 = .ok (.aload_n 0, 1) := by decide +kernel
theorem dX7_readTune_81 : decode cX7_readTune 81 = .ok (.invokevirtual 45, 3) := by decide +kernel
theorem dX7_readTune_84 : decode cX7_readTune 84 = .ok (.iinc 2 1, 3) := by decide +kernel
theorem dX7_readTune_87 : decode cX7_readTune 87 = .ok (.goto (-52), 3) := by decide +kernel
theorem dX7_readTune_90 : decode cX7_readTune 90 = .ok (.aload_n 0, 1) := by decide +kernel
theorem dX7_readTune_91 : decode cX7_readTune 91 = .ok (.getfield 41, 3) := by decide +kernel
theorem dX7_readTune_94 : decode cX7_readTune 94 = .ok (.dup, 1) := by decide +kernel
theorem dX7_readTune_95 : decode cX7_readTune 95 = .ok (.getfield 149, 3) := by decide +kernel
theorem dX7_readTune_98 : decode cX7_readTune 98 = .ok (.iconst 1, 1) := by decide +kernel
theorem dX7_readTune_99 : decode cX7_readTune 99 = .ok (.iadd, 1) := by decide +kernel
theorem dX7_readTune_100 : decode cX7_readTune 100 = .ok (.putfield 149, 3) := by decide +kernel
theorem dX7_readTune_103 : decode cX7_readTune 103 = .ok (.iconst 1, 1) := by decide +kernel
theorem dX7_readTune_104 : decode cX7_readTune 104 = .ok (.ireturn, 1) := by decide +kernel
def rd_readTune_35 (F : Nat) (x : Nat) (c : Nat) (g1 : Int32) : Nat → Int32 → (Nat → Nat → Int32) → Option ((Int32 × (Nat → Nat → Int32)) ⊕ (Int32 × (Nat → Nat → Int32)))
  | 0, _, _ => none
  | k + 1, l2, I => if 900 ≤ l2 then (some (.inr (l2, I))) else (if (I (x + 2) 6) = 209 then ((rd_takeToken F I x).bind (fun q12 => let I14 := q12; (rd_isNUpTo I14 x 9).bind (fun q15 => let u17 := q15.1; let I18 := q15.2; if u17 = 0 then (some (.inl (0, I18))) else (chk g1 4 (let I21 := uI I18 (c + 3) (Int32.toNatClampNeg g1) (I18 (x + 2) 7); (rd_takeToken F I21 x).bind (fun q23 => let I25 := q23; rd_readTune_35 F x c g1 k (l2 + 1) I25)))))) else (some (.inr (l2, I))))
def rd_readTune (F : Nat) (I : Nat → Nat → Int32) (x : Nat) (c : Nat) : Option (Int32 × (Nat → Nat → Int32)) := let x1 := (I c 1); if x1 < 4 then (chk x1 4 (let I5 := uI I (c + 3) (Int32.toNatClampNeg x1) 1; (rd_takeToken F I5 x).bind (fun q7 => let I9 := q7; (rd_readTune_35 F x c x1 F 0 I9).bind (fun q26 => match q26 with | .inl r0 => some r0 | .inr q0 => let m28 := q0.1; let I29 := q0.2; let I30 := uI I29 c 1 ((I29 c 1) + 1); some (1, I30))))) else ((rd_refuse I x 4).bind (fun q32 => let u34 := q32.1; let I35 := q32.2; isb u34 (some (u34, I35))))
theorem l_rd_readTune_35 {l : Launch} {D : va_G} {E : Nat → ClassId} {B : Nat → Prop} {n F : Nat} {Q : Option Value → HT → Prop} {T : Nat → Option (Nat × Nat)} {J : Nat → Nat → Int64} {P : Nat → Nat → Option Nat} {x : Nat} {c : Nat} {g1 : Int32} (hx : isSR T P x) (hs_c : isCt T P c) (hdr : P (x + 2) 8 = some c) (ht : P (x + 2) 2 = some (x + 1))  (r : (Int32 × (Nat → Nat → Int32)) ⊕ (Int32 × (Nat → Nat → Int32))) : ∀ (k : Nat) (l2 : Int32) (I : (Nat → Nat → Int32)), rd_readTune_35 F x c g1 k l2 I = some r → (match r with | .inl r => Q (some (.int r.1)) (n, T, r.2, J, P) | .inr r => V l D E B yX7_readTune cX7_readTune 3 (some .boolean) 6 0 0 Q 0 0 (n, T, r.2, J, P) 90 [(0, some (.ref (x + 2))), (1, some (.int g1)), (2, some (.int (r.1)))] []) → V l D E B yX7_readTune cX7_readTune 3 (some .boolean) 6 0 0 Q 0 0 (n, T, I, J, P) 35 [(0, some (.ref (x + 2))), (1, some (.int g1)), (2, some (.int l2))] [] := by
  intro k
  induction k with
  | zero =>
    intro l2 I hf hk
    cases hf
  | succ k ih =>
    intro l2 I hf hk
    unfold rd_readTune_35 at hf
    refine V.iload_n dX7_readTune_35 rfl ?_
    refine V.sipush (v := 900) dX7_readTune_36 (by decide) ?_
    refine V.icmp_ge 90 dX7_readTune_39 (by decide) (fun c10 => ?_) (fun c10 => ?_)
    · rw [if_pos c10] at hf
      obtain rfl := Option.some.inj hf
      exact V.lo [(0, some (.ref (x + 2))), (1, some (.int g1)), (2, some (.int l2))] (by simp only [Subs]; repeat' first | exact trivial | constructor | rfl) hk
    · rw [if_neg c10] at hf
      refine V.aload_n dX7_readTune_42 rfl ?_
      refine V.getf fl_X7_56 dX7_readTune_43 (hx.1 2 (7, 0) rfl) (by decide) rfl ?_
      refine V.sipush (v := 209) dX7_readTune_46 (by decide) ?_
      refine V.icmp_ne 90 dX7_readTune_49 (by decide) (fun c11 => ?_) (fun c11 => ?_)
      · rw [if_neg c11] at hf
        obtain rfl := Option.some.inj hf
        exact V.lo [(0, some (.ref (x + 2))), (1, some (.int g1)), (2, some (.int l2))] (by simp only [Subs]; repeat' first | exact trivial | constructor | rfl) hk
      · rw [if_pos c11] at hf
        refine V.aload_n dX7_readTune_52 rfl ?_
        obtain ⟨I14, hk13, hf⟩ := bnd_some hf
        try dsimp only at hf
        refine V.inv cv_X7_45 (c_rd_takeToken hx ht hk13) dX7_readTune_53 (hx.1 2 (7, 0) rfl) (by decide) rfl rfl rfl (Nat.le_of_ble_eq_true rfl) (by decide) (by decide) (Nat.le_refl _) (Nat.le_refl _) (fun _ _ hq => ?_)
        obtain ⟨rfl, rfl⟩ := hq
        refine V.aload_n dX7_readTune_56 rfl ?_
        refine V.bipush (v := 9) dX7_readTune_57 (by decide) ?_
        obtain ⟨⟨u17, I18⟩, hk16, hf⟩ := bnd_some hf
        try dsimp only at hf
        refine V.inv cv_X7_140 (c_rd_isNUpTo hx hk16) dX7_readTune_59 (hx.1 2 (7, 0) rfl) (by decide) rfl rfl rfl (Nat.le_of_ble_eq_true rfl) (by decide) (by decide) (Nat.le_refl _) (Nat.le_refl _) (fun _ _ hq => ?_)
        obtain ⟨rfl, rfl⟩ := hq
        try dsimp only
        refine V.if_ne 67 dX7_readTune_62 (by decide) (fun c19 => ?_) (fun c19 => ?_)
        · rw [if_neg c19] at hf
          refine V.aload_n dX7_readTune_67 rfl ?_
          refine V.getr fl_X7_41 dX7_readTune_68 (hx.1 2 (7, 0) rfl) hdr (by decide) rfl ?_
          refine V.getr fl_X7_152 dX7_readTune_71 (hs_c.1.1 0 (1, 0) rfl) (hs_c.1.2 0 6 3 rfl) (by decide) rfl ?_
          refine V.iload_n dX7_readTune_74 rfl ?_
          refine V.aload_n dX7_readTune_75 rfl ?_
          refine V.getf fl_X7_85 dX7_readTune_76 (hx.1 2 (7, 0) rfl) (by decide) rfl ?_
          obtain ⟨hb20, hf⟩ := chk_some hf
          refine V.iastE dX7_readTune_79 (hs_c.1.1 3 (20, 4) rfl) hb20 (fun I21 e22 => ?_)
          rw [← e22] at hf
          try dsimp only at hf
          clear e22
          refine V.aload_n dX7_readTune_80 rfl ?_
          obtain ⟨I25, hk24, hf⟩ := bnd_some hf
          try dsimp only at hf
          refine V.inv cv_X7_45 (c_rd_takeToken hx ht hk24) dX7_readTune_81 (hx.1 2 (7, 0) rfl) (by decide) rfl rfl rfl (Nat.le_of_ble_eq_true rfl) (by decide) (by decide) (Nat.le_refl _) (Nat.le_refl _) (fun _ _ hq => ?_)
          obtain ⟨rfl, rfl⟩ := hq
          refine V.iinc (v := (l2 + 1)) dX7_readTune_84 rfl rfl (by first | exact rfl | exact trivial) ?_
          refine V.goto 35 dX7_readTune_87 (by decide) ?_
          exact V.lo [(0, some (.ref (x + 2))), (1, some (.int g1)), (2, some (.int (l2 + 1)))] (by simp only [Subs]; repeat' first | exact trivial | constructor | rfl) (ih _ _ hf hk)
        · rw [if_pos c19] at hf
          refine V.iconst (v := 0) dX7_readTune_65 (by decide) ?_
          obtain rfl := Option.some.inj hf
          exact V.zret dX7_readTune_66 rfl rfl (Nat.le_refl _) (Nat.le_refl _) hk
theorem c_rd_readTune {l : Launch} {D : va_G} {E : Nat → ClassId} {B : Nat → Prop} {n F : Nat} {T : Nat → Option (Nat × Nat)} {I : Nat → Nat → Int32} {J : Nat → Nat → Int64} {P : Nat → Nat → Option Nat} {x : Nat} {c : Nat}  {r : Int32 × (Nat → Nat → Int32)} (hx : isSR T P x) (hs_c : isCt T P c) (hdr : P (x + 2) 8 = some c) (ht : P (x + 2) 2 = some (x + 1)) (hf : rd_readTune F I x c = some r) : Ct l D E B yX7_readTune cX7_readTune 3 (some .boolean) 6 0 0 [.ref (x + 2)] (n, T, I, J, P) (Ret (some (.int r.1)) (n, T, r.2, J, P)) := by
  unfold rd_readTune at hf
  refine Ct.ofV (by decide) (Nat.le_of_ble_eq_true rfl) ?_
  refine V.aload_n dX7_readTune_0 rfl ?_
  refine V.getr fl_X7_41 dX7_readTune_1 (hx.1 2 (7, 0) rfl) hdr (by decide) rfl ?_
  refine V.getf fl_X7_149 dX7_readTune_4 (hs_c.1.1 0 (1, 0) rfl) (by decide) rfl ?_
  refine V.istore_n dX7_readTune_7 rfl (by decide) (by first | exact rfl | exact trivial) ?_
  obtain ⟨x1, e2⟩ : ∃ zz_, zz_ = (I c 1) := ⟨_, rfl⟩
  rw [← e2] at hf ⊢
  try dsimp only at hf
  refine V.iload_n dX7_readTune_8 rfl ?_
  refine V.iconst (v := 4) dX7_readTune_9 (by decide) ?_
  refine V.icmp_lt 19 dX7_readTune_10 (by decide) (fun c3 => ?_) (fun c3 => ?_)
  · rw [if_pos c3] at hf
    refine V.aload_n dX7_readTune_19 rfl ?_
    refine V.getr fl_X7_41 dX7_readTune_20 (hx.1 2 (7, 0) rfl) hdr (by decide) rfl ?_
    refine V.getr fl_X7_152 dX7_readTune_23 (hs_c.1.1 0 (1, 0) rfl) (hs_c.1.2 0 6 3 rfl) (by decide) rfl ?_
    refine V.iload_n dX7_readTune_26 rfl ?_
    refine V.iconst (v := 1) dX7_readTune_27 (by decide) ?_
    obtain ⟨hb4, hf⟩ := chk_some hf
    refine V.iastE dX7_readTune_28 (hs_c.1.1 3 (20, 4) rfl) hb4 (fun I5 e6 => ?_)
    rw [← e6] at hf
    try dsimp only at hf
    clear e6
    refine V.aload_n dX7_readTune_29 rfl ?_
    obtain ⟨I9, hk8, hf⟩ := bnd_some hf
    try dsimp only at hf
    refine V.inv cv_X7_45 (c_rd_takeToken hx ht hk8) dX7_readTune_30 (hx.1 2 (7, 0) rfl) (by decide) rfl rfl rfl (Nat.le_of_ble_eq_true rfl) (by decide) (by decide) (Nat.le_refl _) (Nat.le_refl _) (fun _ _ hq => ?_)
    obtain ⟨rfl, rfl⟩ := hq
    refine V.iconst (v := 0) dX7_readTune_33 (by decide) ?_
    refine V.istore_n dX7_readTune_34 rfl (by decide) (by first | exact rfl | exact trivial) ?_
    obtain ⟨q26, hk27, hf⟩ := bnd_some hf
    refine V.lo [(0, some (.ref (x + 2))), (1, some (.int x1)), (2, some (.int 0))] (by simp only [Subs]; repeat' first | exact trivial | constructor | rfl) (l_rd_readTune_35 hx hs_c hdr ht q26 F _ _ hk27 ?_)
    rcases q26 with r0 | ⟨m28, I29⟩
    · try dsimp only at hf ⊢
      obtain rfl := Option.some.inj hf
      exact ⟨rfl, rfl⟩
    · try dsimp only at hf ⊢
      refine V.aload_n dX7_readTune_90 rfl ?_
      refine V.getr fl_X7_41 dX7_readTune_91 (hx.1 2 (7, 0) rfl) hdr (by decide) rfl ?_
      refine V.dup dX7_readTune_94 rfl ?_
      refine V.getf fl_X7_149 dX7_readTune_95 (hs_c.1.1 0 (1, 0) rfl) (by decide) rfl ?_
      refine V.iconst (v := 1) dX7_readTune_98 (by decide) ?_
      refine V.iadd dX7_readTune_99 ?_
      refine V.putiE fl_X7_149 dX7_readTune_100 (hs_c.1.1 0 (1, 0) rfl) (by decide) (fun h => by cases h) rfl rfl rfl (Nat.le_of_ble_eq_true rfl) (fun I30 e31 => ?_)
      rw [← e31] at hf
      try dsimp only at hf
      clear e31
      refine V.iconst (v := 1) dX7_readTune_103 (by decide) ?_
      obtain rfl := Option.some.inj hf
      exact V.zret dX7_readTune_104 rfl rfl (Nat.le_refl _) (Nat.le_refl _) ⟨rfl, rfl⟩
  · rw [if_neg c3] at hf
    refine V.aload_n dX7_readTune_13 rfl ?_
    refine V.iconst (v := 4) dX7_readTune_14 (by decide) ?_
    obtain ⟨⟨u34, I35⟩, hk33, hf⟩ := bnd_some hf
    try dsimp only at hf
    refine V.inv cv_X7_68 (c_rd_refuse hx hk33) dX7_readTune_15 (hx.1 2 (7, 0) rfl) (by decide) rfl rfl rfl (Nat.le_of_ble_eq_true rfl) (by decide) (by decide) (Nat.le_refl _) (Nat.le_refl _) (fun _ _ hq => ?_)
    obtain ⟨rfl, rfl⟩ := hq
    try dsimp only
    obtain ⟨hn36, hf⟩ := isb_some hf
    obtain rfl := Option.some.inj hf
    exact V.zret dX7_readTune_18 rfl hn36 (Nat.le_refl _) (Nat.le_refl _) ⟨rfl, rfl⟩
theorem dX7_readOffice_0 : decode cX7_readOffice 0 = .ok (.aload_n 0, 1) := by decide +kernel
theorem dX7_readOffice_1 : decode cX7_readOffice 1 = .ok (.getfield 41, 3) := by decide +kernel
theorem dX7_readOffice_4 : decode cX7_readOffice 4 = .ok (.getfield 155, 3) := by decide +kernel
theorem dX7_readOffice_7 : decode cX7_readOffice 7 = .ok (.bipush 6, 2) := by decide +kernel
theorem dX7_readOffice_9 : decode cX7_readOffice 9 = .ok (.if_icmp .lt 9, 3) := by decide +kernel
theorem dX7_readOffice_12 : decode cX7_readOffice 12 = .ok (.aload_n 0, 1) := by decide +kernel
theorem dX7_readOffice_13 : decode cX7_readOffice 13 = .ok (.iconst 4, 1) := by decide +kernel
theorem dX7_readOffice_14 : decode cX7_readOffice 14 = .ok (.invokevirtual 68, 3) := by decide +kernel
theorem dX7_readOffice_17 : decode cX7_readOffice 17 = .ok (.ireturn, 1) := by decide +kernel
theorem dX7_readOffice_18 : decode cX7_readOffice 18 = .ok (.aload_n 0, 1) := by decide +kernel
theorem dX7_readOffice_19 : decode cX7_readOffice 19 = .ok (.invokevirtual 45, 3) := by decide +kernel
theorem dX7_readOffice_22 : decode cX7_readOffice 22 = .ok (.aload_n 0, 1) := by decide +kernel
theorem dX7_readOffice_23 : decode cX7_readOffice 23 = .ok (.bipush 99, 2) := by decide +kernel
theorem dX7_readOffice_25 : decode cX7_readOffice 25 = .ok (.invokevirtual 140, 3) := by decide +kernel
theorem dX7_readOffice_28 : decode cX7_readOffice 28 = .ok (.ifCond .ne 5, 3) := by decide +kernel
theorem dX7_readOffice_31 : decode cX7_readOffice 31 = .ok (.iconst 0, 1) := by decide +kernel
theorem dX7_readOffice_32 : decode cX7_readOffice 32 = .ok (.ireturn, 1) := by decide +kernel
theorem dX7_readOffice_33 : decode cX7_readOffice 33 = .ok (.aload_n 0, 1) := by decide +kernel
theorem dX7_readOffice_34 : decode cX7_readOffice 34 = .ok (.getfield 41, 3) := by decide +kernel
theorem dX7_readOffice_37 : decode cX7_readOffice 37 = .ok (.getfield 158, 3) := by decide +kernel
theorem dX7_readOffice_40 : decode cX7_readOffice 40 = .ok (.aload_n 0, 1) := by decide +kernel
theorem dX7_readOffice_41 : decode cX7_readOffice 41 = .ok (.getfield 41, 3) := by decide +kernel
theorem dX7_readOffice_44 : decode cX7_readOffice 44 = .ok (.getfield 155, 3) := by decide +kernel
theorem dX7_readOffice_47 : decode cX7_readOffice 47 = .ok (.aload_n 0, 1) := by decide +kernel
theorem dX7_readOffice_48 : decode cX7_readOffice 48 = .ok (.getfield 85, 3) := by decide +kernel
theorem dX7_readOffice_51 : decode cX7_readOffice 51 = .ok (.iastore, 1) := by decide +kernel
theorem dX7_readOffice_52 : decode cX7_readOffice 52 = .ok (.aload_n 0, 1) := by decide +kernel
theorem dX7_readOffice_53 : decode cX7_readOffice 53 = .ok (.getfield 41, 3) := by decide +kernel
theorem dX7_readOffice_56 : decode cX7_readOffice 56 = .ok (.dup, 1) := by decide +kernel
theorem dX7_readOffice_57 : decode cX7_readOffice 57 = .ok (.getfield 155, 3) := by decide +kernel
theorem dX7_readOffice_60 : decode cX7_readOffice 60 = .ok (.iconst 1, 1) := by decide +kernel
theorem dX7_readOffice_61 : decode cX7_readOffice 61 = .ok (.iadd, 1) := by decide +kernel
theorem dX7_readOffice_62 : decode cX7_readOffice 62 = .ok (.putfield 155, 3) := by decide +kernel
theorem dX7_readOffice_65 : decode cX7_readOffice 65 = .ok (.aload_n 0, 1) := by decide +kernel
theorem dX7_readOffice_66 : decode cX7_readOffice 66 = .ok (.invokevirtual 45, 3) := by decide +kernel
theorem dX7_readOffice_69 : decode cX7_readOffice 69 = .ok (.iconst 1, 1) := by decide +kernel
theorem dX7_readOffice_70 : decode cX7_readOffice 70 = .ok (.ireturn, 1) := by decide +kernel
def rd_readOffice (F : Nat) (I : Nat → Nat → Int32) (x : Nat) (c : Nat) : Option (Int32 × (Nat → Nat → Int32)) := if (I c 2) < 6 then ((rd_takeToken F I x).bind (fun q2 => let I4 := q2; (rd_isNUpTo I4 x 99).bind (fun q5 => let u7 := q5.1; let I8 := q5.2; if u7 = 0 then (some (0, I8)) else (chk (I8 c 2) 6 (let I11 := uI I8 (c + 4) (Int32.toNatClampNeg (I8 c 2)) (I8 (x + 2) 7); let I13 := uI I11 c 2 ((I11 c 2) + 1); (rd_takeToken F I13 x).bind (fun q15 => let I17 := q15; some (1, I17))))))) else ((rd_refuse I x 4).bind (fun q18 => let u20 := q18.1; let I21 := q18.2; isb u20 (some (u20, I21))))
theorem c_rd_readOffice {l : Launch} {D : va_G} {E : Nat → ClassId} {B : Nat → Prop} {n F : Nat} {T : Nat → Option (Nat × Nat)} {I : Nat → Nat → Int32} {J : Nat → Nat → Int64} {P : Nat → Nat → Option Nat} {x : Nat} {c : Nat}  {r : Int32 × (Nat → Nat → Int32)} (hx : isSR T P x) (hs_c : isCt T P c) (hdr : P (x + 2) 8 = some c) (ht : P (x + 2) 2 = some (x + 1)) (hf : rd_readOffice F I x c = some r) : Ct l D E B yX7_readOffice cX7_readOffice 1 (some .boolean) 6 0 0 [.ref (x + 2)] (n, T, I, J, P) (Ret (some (.int r.1)) (n, T, r.2, J, P)) := by
  unfold rd_readOffice at hf
  refine Ct.ofV (by decide) (Nat.le_of_ble_eq_true rfl) ?_
  refine V.aload_n dX7_readOffice_0 rfl ?_
  refine V.getr fl_X7_41 dX7_readOffice_1 (hx.1 2 (7, 0) rfl) hdr (by decide) rfl ?_
  refine V.getf fl_X7_155 dX7_readOffice_4 (hs_c.1.1 0 (1, 0) rfl) (by decide) rfl ?_
  refine V.bipush (v := 6) dX7_readOffice_7 (by decide) ?_
  refine V.icmp_lt 18 dX7_readOffice_9 (by decide) (fun c1 => ?_) (fun c1 => ?_)
  · rw [if_pos c1] at hf
    refine V.aload_n dX7_readOffice_18 rfl ?_
    obtain ⟨I4, hk3, hf⟩ := bnd_some hf
    try dsimp only at hf
    refine V.inv cv_X7_45 (c_rd_takeToken hx ht hk3) dX7_readOffice_19 (hx.1 2 (7, 0) rfl) (by decide) rfl rfl rfl (Nat.le_of_ble_eq_true rfl) (by decide) (by decide) (Nat.le_refl _) (Nat.le_refl _) (fun _ _ hq => ?_)
    obtain ⟨rfl, rfl⟩ := hq
    refine V.aload_n dX7_readOffice_22 rfl ?_
    refine V.bipush (v := 99) dX7_readOffice_23 (by decide) ?_
    obtain ⟨⟨u7, I8⟩, hk6, hf⟩ := bnd_some hf
    try dsimp only at hf
    refine V.inv cv_X7_140 (c_rd_isNUpTo hx hk6) dX7_readOffice_25 (hx.1 2 (7, 0) rfl) (by decide) rfl rfl rfl (Nat.le_of_ble_eq_true rfl) (by decide) (by decide) (Nat.le_refl _) (Nat.le_refl _) (fun _ _ hq => ?_)
    obtain ⟨rfl, rfl⟩ := hq
    try dsimp only
    refine V.if_ne 33 dX7_readOffice_28 (by decide) (fun c9 => ?_) (fun c9 => ?_)
    · rw [if_neg c9] at hf
      refine V.aload_n dX7_readOffice_33 rfl ?_
      refine V.getr fl_X7_41 dX7_readOffice_34 (hx.1 2 (7, 0) rfl) hdr (by decide) rfl ?_
      refine V.getr fl_X7_158 dX7_readOffice_37 (hs_c.1.1 0 (1, 0) rfl) (hs_c.1.2 0 7 4 rfl) (by decide) rfl ?_
      refine V.aload_n dX7_readOffice_40 rfl ?_
      refine V.getr fl_X7_41 dX7_readOffice_41 (hx.1 2 (7, 0) rfl) hdr (by decide) rfl ?_
      refine V.getf fl_X7_155 dX7_readOffice_44 (hs_c.1.1 0 (1, 0) rfl) (by decide) rfl ?_
      refine V.aload_n dX7_readOffice_47 rfl ?_
      refine V.getf fl_X7_85 dX7_readOffice_48 (hx.1 2 (7, 0) rfl) (by decide) rfl ?_
      obtain ⟨hb10, hf⟩ := chk_some hf
      refine V.iastE dX7_readOffice_51 (hs_c.1.1 4 (20, 6) rfl) hb10 (fun I11 e12 => ?_)
      rw [← e12] at hf
      try dsimp only at hf
      clear e12
      refine V.aload_n dX7_readOffice_52 rfl ?_
      refine V.getr fl_X7_41 dX7_readOffice_53 (hx.1 2 (7, 0) rfl) hdr (by decide) rfl ?_
      refine V.dup dX7_readOffice_56 rfl ?_
      refine V.getf fl_X7_155 dX7_readOffice_57 (hs_c.1.1 0 (1, 0) rfl) (by decide) rfl ?_
      refine V.iconst (v := 1) dX7_readOffice_60 (by decide) ?_
      refine V.iadd dX7_readOffice_61 ?_
      refine V.putiE fl_X7_155 dX7_readOffice_62 (hs_c.1.1 0 (1, 0) rfl) (by decide) (fun h => by cases h) rfl rfl rfl (Nat.le_of_ble_eq_true rfl) (fun I13 e14 => ?_)
      rw [← e14] at hf
      try dsimp only at hf
      clear e14
      refine V.aload_n dX7_readOffice_65 rfl ?_
      obtain ⟨I17, hk16, hf⟩ := bnd_some hf
      try dsimp only at hf
      refine V.inv cv_X7_45 (c_rd_takeToken hx ht hk16) dX7_readOffice_66 (hx.1 2 (7, 0) rfl) (by decide) rfl rfl rfl (Nat.le_of_ble_eq_true rfl) (by decide) (by decide) (Nat.le_refl _) (Nat.le_refl _) (fun _ _ hq => ?_)
      obtain ⟨rfl, rfl⟩ := hq
      refine V.iconst (v := 1) dX7_readOffice_69 (by decide) ?_
      obtain rfl := Option.some.inj hf
      exact V.zret dX7_readOffice_70 rfl rfl (Nat.le_refl _) (Nat.le_refl _) ⟨rfl, rfl⟩
    · rw [if_pos c9] at hf
      refine V.iconst (v := 0) dX7_readOffice_31 (by decide) ?_
      obtain rfl := Option.some.inj hf
      exact V.zret dX7_readOffice_32 rfl rfl (Nat.le_refl _) (Nat.le_refl _) ⟨rfl, rfl⟩
  · rw [if_neg c1] at hf
    refine V.aload_n dX7_readOffice_12 rfl ?_
    refine V.iconst (v := 4) dX7_readOffice_13 (by decide) ?_
    obtain ⟨⟨u20, I21⟩, hk19, hf⟩ := bnd_some hf
    try dsimp only at hf
    refine V.inv cv_X7_68 (c_rd_refuse hx hk19) dX7_readOffice_14 (hx.1 2 (7, 0) rfl) (by decide) rfl rfl rfl (Nat.le_of_ble_eq_true rfl) (by decide) (by decide) (Nat.le_refl _) (Nat.le_refl _) (fun _ _ hq => ?_)
    obtain ⟨rfl, rfl⟩ := hq
    try dsimp only
    obtain ⟨hn22, hf⟩ := isb_some hf
    obtain rfl := Option.some.inj hf
    exact V.zret dX7_readOffice_17 rfl hn22 (Nat.le_refl _) (Nat.le_refl _) ⟨rfl, rfl⟩
