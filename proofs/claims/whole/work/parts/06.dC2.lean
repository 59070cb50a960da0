theorem dX7_takes_12 : decode cX7_takes 12 = .ok (.iconst 0, 1) := by decide +kernel
theorem dX7_takes_13 : decode cX7_takes 13 = .ok (.istore_n 2, 1) := by decide +kernel
theorem dX7_takes_14 : decode cX7_takes 14 = .ok (.aload_n 0, 1) := by decide +kernel
theorem dX7_takes_15 : decode cX7_takes 15 = .ok (.dup, 1) := by decide +kernel
theorem dX7_takes_16 : decode cX7_takes 16 = .ok (.getfield 143, 3) := by decide +kernel
theorem dX7_takes_19 : decode cX7_takes 19 = .ok (.iload_n 2, 1) := by decide +kernel
theorem dX7_takes_20 : decode cX7_takes 20 = .ok (.ifCond .eq 7, 3) := by decide +kernel
theorem dX7_takes_23 : decode cX7_takes 23 = .ok (.iconst 1, 1) := by decide +kernel
theorem dX7_takes_24 : decode cX7_takes 24 = .ok (.goto 4, 3) := by decide +kernel
theorem dX7_takes_27 : decode cX7_takes 27 = .ok (.iconst 0, 1) := by decide +kernel
theorem dX7_takes_28 : decode cX7_takes 28 = .ok (.iadd, 1) := by decide +kernel
theorem dX7_takes_29 : decode cX7_takes 29 = .ok (.putfield 143, 3) := by decide +kernel
theorem dX7_takes_32 : decode cX7_takes 32 = .ok (.iload_n 2, 1) := by decide +kernel
theorem dX7_takes_33 : decode cX7_takes 33 = .ok (.ireturn, 1) := by decide +kernel
theorem dX7_takesNumber_0 : decode cX7_takesNumber 0 = .ok (.aload_n 0, 1) := by decide +kernel
theorem dX7_takesNumber_1 : decode cX7_takesNumber 1 = .ok (.getfield 143, 3) := by decide +kernel
theorem dX7_takesNumber_4 : decode cX7_takesNumber 4 = .ok (.istore_n 3, 1) := by decide +kernel
theorem dX7_takesNumber_5 : decode cX7_takesNumber 5 = .ok (.aload_n 0, 1) := by decide +kernel
theorem dX7_takesNumber_6 : decode cX7_takesNumber 6 = .ok (.iconst 0, 1) := by decide +kernel
theorem dX7_takesNumber_7 : decode cX7_takesNumber 7 = .ok (.putfield 149, 3) := by decide +kernel
theorem dX7_takesNumber_10 : decode cX7_takesNumber 10 = .ok (.aload_n 0, 1) := by decide +kernel
theorem dX7_takesNumber_11 : decode cX7_takesNumber 11 = .ok (.invokevirtual 146, 3) := by decide +kernel
theorem dX7_takesNumber_14 : decode cX7_takesNumber 14 = .ok (.bipush 48, 2) := by decide +kernel
theorem dX7_takesNumber_16 : decode cX7_takesNumber 16 = .ok (.bipush 57, 2) := by decide +kernel
theorem dX7_takesNumber_18 : decode cX7_takesNumber 18 = .ok (.invokestatic 41, 3) := by decide +kernel
theorem dX7_takesNumber_21 : decode cX7_takesNumber 21 = .ok (.ifCond .eq 64, 3) := by decide +kernel
theorem dX7_takesNumber_24 : decode cX7_takesNumber 24 = .ok (.aload_n 0, 1) := by decide +kernel
theorem dX7_takesNumber_25 : decode cX7_takesNumber 25 = .ok (.getfield 143, 3) := by decide +kernel
theorem dX7_takesNumber_28 : decode cX7_takesNumber 28 = .ok (.iload_n 3, 1) := by decide +kernel
theorem dX7_takesNumber_29 : decode cX7_takesNumber 29 = .ok (.isub, 1) := by decide +kernel
theorem dX7_takesNumber_30 : decode cX7_takesNumber 30 = .ok (.iconst 3, 1) := by decide +kernel
theorem dX7_takesNumber_31 : decode cX7_takesNumber 31 = .ok (.if_icmp .ge 54, 3) := by decide +kernel
theorem dX7_takesNumber_34 : decode cX7_takesNumber 34 = .ok (.aload_n 0, 1) := by decide +kernel
theorem dX7_takesNumber_35 : decode cX7_takesNumber 35 = .ok (.getfield 143, 3) := by decide +kernel
theorem dX7_takesNumber_38 : decode cX7_takesNumber 38 = .ok (.iload_n 3, 1) := by decide +kernel
theorem dX7_takesNumber_39 : decode cX7_takesNumber 39 = .ok (.if_icmp .eq 14, 3) := by decide +kernel
theorem dX7_takesNumber_42 : decode cX7_takesNumber 42 = .ok (.aload_n 0, 1) := by decide +kernel
theorem dX7_takesNumber_43 : decode cX7_takesNumber 43 = .ok (.getfield 17, 3) := by decide +kernel
theorem dX7_takesNumber_46 : decode cX7_takesNumber 46 = .ok (.iload_n 3, 1) := by decide +kernel
theorem dX7_takesNumber_47 : decode cX7_takesNumber 47 = .ok (.iaload, 1) := by decide +kernel
theorem dX7_takesNumber_48 : decode cX7_takesNumber 48 = .ok (.bipush 48, 2) := by decide +kernel
theorem dX7_takesNumber_50 : decode cX7_takesNumber 50 = .ok (.if_icmp .eq 35, 3) := by decide +kernel
theorem dX7_takesNumber_53 : decode cX7_takesNumber 53 = .ok (.aload_n 0, 1) := by decide +kernel
theorem dX7_takesNumber_54 : decode cX7_takesNumber 54 = .ok (.bipush 10, 2) := by decide +kernel
theorem dX7_takesNumber_56 : decode cX7_takesNumber 56 = .ok (.aload_n 0, 1) := by decide +kernel
theorem dX7_takesNumber_57 : decode cX7_takesNumber 57 = .ok (.getfield 149, 3) := by decide +kernel
theorem dX7_takesNumber_60 : decode cX7_takesNumber 60 = .ok (.imul, 1) := by decide +kernel
theorem dX7_takesNumber_61 : decode cX7_takesNumber 61 = .ok (.aload_n 0, 1) := by decide +kernel
theorem dX7_takesNumber_62 : decode cX7_takesNumber 62 = .ok (.invokevirtual 146, 3) := by decide +kernel
theorem dX7_takesNumber_65 : decode cX7_takesNumber 65 = .ok (.iadd, 1) := by decide +kernel
theorem dX7_takesNumber_66 : decode cX7_takesNumber 66 = .ok (.bipush 48, 2) := by decide +kernel
theorem dX7_takesNumber_68 : decode cX7_takesNumber 68 = .ok (.isub, 1) := by decide +kernel
theorem dX7_takesNumber_69 : decode cX7_takesNumber 69 = .ok (.putfield 149, 3) := by decide +kernel
theorem dX7_takesNumber_72 : decode cX7_takesNumber 72 = .ok (.aload_n 0, 1) := by decide +kernel
theorem dX7_takesNumber_73 : decode cX7_takesNumber 73 = .ok (.dup, 1) := by decide +kernel
theorem dX7_takesNumber_74 : decode cX7_takesNumber 74 = .ok (.getfield 143, 3) := by decide +kernel
theorem dX7_takesNumber_77 : decode cX7_takesNumber 77 = .ok (.iconst 1, 1) := by decide +kernel
theorem dX7_takesNumber_78 : decode cX7_takesNumber 78 = .ok (.iadd, 1) := by decide +kernel
theorem dX7_takesNumber_79 : decode cX7_takesNumber 79 = .ok (.putfield 143, 3) := by decide +kernel
theorem dX7_takesNumber_82 : decode cX7_takesNumber 82 = .ok (.goto (-72), 3) := by decide +kernel
theorem dX7_takesNumber_85 : decode cX7_takesNumber 85 = .ok (.aload_n 0, 1) := by decide +kernel
theorem dX7_takesNumber_86 : decode cX7_takesNumber 86 = .ok (.getfield 143, 3) := by decide +kernel
theorem dX7_takesNumber_89 : decode cX7_takesNumber 89 = .ok (.iload_n 3, 1) := by decide +kernel
theorem dX7_takesNumber_90 : decode cX7_takesNumber 90 = .ok (.if_icmp .le 19, 3) := by decide +kernel
theorem dX7_takesNumber_93 : decode cX7_takesNumber 93 = .ok (.aload_n 0, 1) := by decide +kernel
theorem dX7_takesNumber_94 : decode cX7_takesNumber 94 = .ok (.getfield 149, 3) := by decide +kernel
theorem dX7_takesNumber_97 : decode cX7_takesNumber 97 = .ok (.iload_n 1, 1) := by decide +kernel
theorem dX7_takesNumber_98 : decode cX7_takesNumber 98 = .ok (.iload_n 2, 1) := by decide +kernel
theorem dX7_takesNumber_99 : decode cX7_takesNumber 99 = .ok (.invokestatic 41, 3) := by decide +kernel
theorem dX7_takesNumber_102 : decode cX7_takesNumber 102 = .ok (.ifCond .eq 7, 3) := by decide +kernel
theorem dX7_takesNumber_105 : decode cX7_takesNumber 105 = .ok (.iconst 1, 1) := by decide +kernel
theorem dX7_takesNumber_106 : decode cX7_takesNumber 106 = .ok (.goto 4, 3) := by decide +kernel
theorem dX7_takesNumber_109 : decode cX7_takesNumber 109 = .ok (.iconst 0, 1) := by decide +kernel
theorem dX7_takesNumber_110 : decode cX7_takesNumber 110 = .ok (.istore 4, 2) := by decide +kernel
theorem dX7_takesNumber_112 : decode cX7_takesNumber 112 = .ok (.aload_n 0, 1) := by decide +kernel
theorem dX7_takesNumber_113 : decode cX7_takesNumber 113 = .ok (.iload 4, 2) := by decide +kernel
theorem dX7_takesNumber_115 : decode cX7_takesNumber 115 = .ok (.ifCond .eq 10, 3) := by decide +kernel
theorem dX7_takesNumber_118 : decode cX7_takesNumber 118 = .ok (.aload_n 0, 1) := by decide +kernel
theorem dX7_takesNumber_119 : decode cX7_takesNumber 119 = .ok (.getfield 143, 3) := by decide +kernel
theorem dX7_takesNumber_122 : decode cX7_takesNumber 122 = .ok (.goto 4, 3) := by decide +kernel
theorem dX7_takesNumber_125 : decode cX7_takesNumber 125 = .ok (.iload_n 3, 1) := by decide +kernel
theorem dX7_takesNumber_126 : decode cX7_takesNumber 126 = .ok (.putfield 143, 3) := by decide +kernel
theorem dX7_takesNumber_129 : decode cX7_takesNumber 129 = .ok (.iload 4, 2) := by decide +kernel
theorem dX7_takesNumber_131 : decode cX7_takesNumber 131 = .ok (.ireturn, 1) := by decide +kernel
theorem dX7_takesAct_0 : decode cX7_takesAct 0 = .ok (.iload_n 1, 1) := by decide +kernel
theorem dX7_takesAct_1 : decode cX7_takesAct 1 = .ok (.lookupswitch 86 #[(99, 52), (103, 35), (115, 44)], 35) := by decide +kernel
theorem dX7_takesAct_36 : decode cX7_takesAct 36 = .ok (.aload_n 0, 1) := by decide +kernel
theorem dX7_takesAct_37 : decode cX7_takesAct 37 = .ok (.iconst 1, 1) := by decide +kernel
theorem dX7_takesAct_38 : decode cX7_takesAct 38 = .ok (.sipush 999, 3) := by decide +kernel
theorem dX7_takesAct_41 : decode cX7_takesAct 41 = .ok (.invokevirtual 152, 3) := by decide +kernel
theorem dX7_takesAct_44 : decode cX7_takesAct 44 = .ok (.ireturn, 1) := by decide +kernel
theorem dX7_takesAct_45 : decode cX7_takesAct 45 = .ok (.aload_n 0, 1) := by decide +kernel
theorem dX7_takesAct_46 : decode cX7_takesAct 46 = .ok (.iconst 1, 1) := by decide +kernel
theorem dX7_takesAct_47 : decode cX7_takesAct 47 = .ok (.bipush 50, 2) := by decide +kernel
theorem dX7_takesAct_49 : decode cX7_takesAct 49 = .ok (.invokevirtual 152, 3) := by decide +kernel
theorem dX7_takesAct_52 : decode cX7_takesAct 52 = .ok (.ireturn, 1) := by decide +kernel
theorem dX7_takesAct_53 : decode cX7_takesAct 53 = .ok (.aload_n 0, 1) := by decide +kernel
theorem dX7_takesAct_54 : decode cX7_takesAct 54 = .ok (.iconst 0, 1) := by decide +kernel
theorem dX7_takesAct_55 : decode cX7_takesAct 55 = .ok (.iconst 5, 1) := by decide +kernel
theorem dX7_takesAct_56 : decode cX7_takesAct 56 = .ok (.invokevirtual 152, 3) := by decide +kernel
theorem dX7_takesAct_59 : decode cX7_takesAct 59 = .ok (.ifCond .eq 26, 3) := by decide +kernel
theorem dX7_takesAct_62 : decode cX7_takesAct 62 = .ok (.aload_n 0, 1) := by decide +kernel
theorem dX7_takesAct_63 : decode cX7_takesAct 63 = .ok (.bipush 61, 2) := by decide +kernel
theorem dX7_takesAct_65 : decode cX7_takesAct 65 = .ok (.invokevirtual 156, 3) := by decide +kernel
theorem dX7_takesAct_68 : decode cX7_takesAct 68 = .ok (.ifCond .eq 17, 3) := by decide +kernel
theorem dX7_takesAct_71 : decode cX7_takesAct 71 = .ok (.aload_n 0, 1) := by decide +kernel
theorem dX7_takesAct_72 : decode cX7_takesAct 72 = .ok (.iconst 0, 1) := by decide +kernel
theorem dX7_takesAct_73 : decode cX7_takesAct 73 = .ok (.bipush 100, 2) := by decide +kernel
theorem dX7_takesAct_75 : decode cX7_takesAct 75 = .ok (.invokevirtual 152, 3) := by decide +kernel
theorem dX7_takesAct_78 : decode cX7_takesAct 78 = .ok (.ifCond .eq 7, 3) := by decide +kernel
theorem dX7_takesAct_81 : decode cX7_takesAct 81 = .ok (.iconst 1, 1) := by decide +kernel
theorem dX7_takesAct_82 : decode cX7_takesAct 82 = .ok (.goto 4, 3) := by decide +kernel
theorem dX7_takesAct_85 : decode cX7_takesAct 85 = .ok (.iconst 0, 1) := by decide +kernel
theorem dX7_takesAct_86 : decode cX7_takesAct 86 = .ok (.ireturn, 1) := by decide +kernel
theorem dX7_takesAct_87 : decode cX7_takesAct 87 = .ok (.iconst 1, 1) := by decide +kernel
theorem dX7_takesAct_88 : decode cX7_takesAct 88 = .ok (.ireturn, 1) := by decide +kernel
theorem dX7_isLetter_0 : decode cX7_isLetter 0 = .ok (.iload_n 0, 1) := by decide +kernel
theorem dX7_isLetter_1 : decode cX7_isLetter 1 = .ok (.bipush 103, 2) := by decide +kernel
theorem dX7_isLetter_3 : decode cX7_isLetter 3 = .ok (.if_icmp .eq 33, 3) := by decide +kernel
theorem dX7_isLetter_6 : decode cX7_isLetter 6 = .ok (.iload_n 0, 1) := by decide +kernel
theorem dX7_isLetter_7 : decode cX7_isLetter 7 = .ok (.bipush 115, 2) := by decide +kernel
theorem dX7_isLetter_9 : decode cX7_isLetter 9 = .ok (.if_icmp .eq 27, 3) := by decide +kernel
theorem dX7_isLetter_12 : decode cX7_isLetter 12 = .ok (.iload_n 0, 1) := by decide +kernel
theorem dX7_isLetter_13 : decode cX7_isLetter 13 = .ok (.bipush 104, 2) := by decide +kernel
theorem dX7_isLetter_15 : decode cX7_isLetter 15 = .ok (.if_icmp .eq 21, 3) := by decide +kernel
theorem dX7_isLetter_18 : decode cX7_isLetter 18 = .ok (.iload_n 0, 1) := by decide +kernel
theorem dX7_isLetter_19 : decode cX7_isLetter 19 = .ok (.bipush 114, 2) := by decide +kernel
theorem dX7_isLetter_21 : decode cX7_isLetter 21 = .ok (.if_icmp .eq 15, 3) := by decide +kernel
theorem dX7_isLetter_24 : decode cX7_isLetter 24 = .ok (.iload_n 0, 1) := by decide +kernel
theorem dX7_isLetter_25 : decode cX7_isLetter 25 = .ok (.bipush 120, 2) := by decide +kernel
theorem dX7_isLetter_27 : decode cX7_isLetter 27 = .ok (.if_icmp .eq 9, 3) := by decide +kernel
theorem dX7_isLetter_30 : decode cX7_isLetter 30 = .ok (.iload_n 0, 1) := by decide +kernel
theorem dX7_isLetter_31 : decode cX7_isLetter 31 = .ok (.bipush 99, 2) := by decide +kernel
theorem dX7_isLetter_33 : decode cX7_isLetter 33 = .ok (.if_icmp .ne 7, 3) := by decide +kernel
theorem dX7_isLetter_36 : decode cX7_isLetter 36 = .ok (.iconst 1, 1) := by decide +kernel
theorem dX7_isLetter_37 : decode cX7_isLetter 37 = .ok (.goto 4, 3) := by decide +kernel
theorem dX7_isLetter_40 : decode cX7_isLetter 40 = .ok (.iconst 0, 1) := by decide +kernel
theorem dX7_isLetter_41 : decode cX7_isLetter 41 = .ok (.ireturn, 1) := by decide +kernel
theorem dX7_faultPosition_0 : decode cX7_faultPosition 0 = .ok (.aload_n 0, 1) := by decide +kernel
theorem dX7_faultPosition_1 : decode cX7_faultPosition 1 = .ok (.iconst 0, 1) := by decide +kernel
theorem dX7_faultPosition_2 : decode cX7_faultPosition 2 = .ok (.putfield 143, 3) := by decide +kernel
theorem dX7_faultPosition_5 : decode cX7_faultPosition 5 = .ok (.aload_n 0, 1) := by decide +kernel
theorem dX7_faultPosition_6 : decode cX7_faultPosition 6 = .ok (.getfield 143, 3) := by decide +kernel
theorem dX7_faultPosition_9 : decode cX7_faultPosition 9 = .ok (.aload_n 0, 1) := by decide +kernel
theorem dX7_faultPosition_10 : decode cX7_faultPosition 10 = .ok (.getfield 140, 3) := by decide +kernel
theorem dX7_faultPosition_13 : decode cX7_faultPosition 13 = .ok (.if_icmp .ge 55, 3) := by decide +kernel
theorem dX7_faultPosition_16 : decode cX7_faultPosition 16 = .ok (.aload_n 0, 1) := by decide +kernel
theorem dX7_faultPosition_17 : decode cX7_faultPosition 17 = .ok (.invokevirtual 146, 3) := by decide +kernel
theorem dX7_faultPosition_20 : decode cX7_faultPosition 20 = .ok (.istore_n 1, 1) := by decide +kernel
theorem dX7_faultPosition_21 : decode cX7_faultPosition 21 = .ok (.iload_n 1, 1) := by decide +kernel
theorem dX7_faultPosition_22 : decode cX7_faultPosition 22 = .ok (.invokestatic 159, 3) := by decide +kernel
theorem dX7_faultPosition_25 : decode cX7_faultPosition 25 = .ok (.ifCond .ne 8, 3) := by decide +kernel
theorem dX7_faultPosition_28 : decode cX7_faultPosition 28 = .ok (.aload_n 0, 1) := by decide +kernel
theorem dX7_faultPosition_29 : decode cX7_faultPosition 29 = .ok (.getfield 143, 3) := by decide +kernel
theorem dX7_faultPosition_32 : decode cX7_faultPosition 32 = .ok (.ireturn, 1) := by decide +kernel
theorem dX7_faultPosition_33 : decode cX7_faultPosition 33 = .ok (.aload_n 0, 1) := by decide +kernel
theorem dX7_faultPosition_34 : decode cX7_faultPosition 34 = .ok (.dup, 1) := by decide +kernel
theorem dX7_faultPosition_35 : decode cX7_faultPosition 35 = .ok (.getfield 143, 3) := by decide +kernel
theorem dX7_faultPosition_38 : decode cX7_faultPosition 38 = .ok (.iconst 1, 1) := by decide +kernel
theorem dX7_faultPosition_39 : decode cX7_faultPosition 39 = .ok (.iadd, 1) := by decide +kernel
theorem dX7_faultPosition_40 : decode cX7_faultPosition 40 = .ok (.putfield 143, 3) := by decide +kernel
theorem dX7_faultPosition_43 : decode cX7_faultPosition 43 = .ok (.aload_n 0, 1) := by decide +kernel
theorem dX7_faultPosition_44 : decode cX7_faultPosition 44 = .ok (.iload_n 1, 1) := by decide +kernel
theorem dX7_faultPosition_45 : decode cX7_faultPosition 45 = .ok (.invokevirtual 162, 3) := by decide +kernel
theorem dX7_faultPosition_48 : decode cX7_faultPosition 48 = .ok (.ifCond .eq 12, 3) := by decide +kernel
theorem dX7_faultPosition_51 : decode cX7_faultPosition 51 = .ok (.aload_n 0, 1) := by decide +kernel
theorem dX7_faultPosition_52 : decode cX7_faultPosition 52 = .ok (.bipush 59, 2) := by decide +kernel
theorem dX7_faultPosition_54 : decode cX7_faultPosition 54 = .ok (.invokevirtual 156, 3) := by decide +kernel
theorem dX7_faultPosition_57 : decode cX7_faultPosition 57 = .ok (.ifCond .ne 8, 3) := by decide +kernel
theorem dX7_faultPosition_60 : decode cX7_faultPosition 60 = .ok (.aload_n 0, 1) := by decide +kernel
theorem dX7_faultPosition_61 : decode cX7_faultPosition 61 = .ok (.getfield 143, 3) := by decide +kernel
theorem dX7_faultPosition_64 : decode cX7_faultPosition 64 = .ok (.ireturn, 1) := by decide +kernel
theorem dX7_faultPosition_65 : decode cX7_faultPosition 65 = .ok (.goto (-60), 3) := by decide +kernel
theorem dX7_faultPosition_68 : decode cX7_faultPosition 68 = .ok (.bipush (-6), 2) := by decide +kernel
theorem dX7_faultPosition_70 : decode cX7_faultPosition 70 = .ok (.ireturn, 1) := by decide +kernel
theorem dX7_does_0 : decode cX7_does 0 = .ok (.iconst 1, 1) := by decide +kernel
theorem dX7_does_1 : decode cX7_does 1 = .ok (.istore_n 2, 1) := by decide +kernel
theorem dX7_does_2 : decode cX7_does 2 = .ok (.iload_n 1, 1) := by decide +kernel
theorem dX7_does_3 : decode cX7_does 3 = .ok (.bipush 103, 2) := by decide +kernel
theorem dX7_does_5 : decode cX7_does 5 = .ok (.if_icmp .ne 54, 3) := by decide +kernel
theorem dX7_does_8 : decode cX7_does 8 = .ok (.aload_n 0, 1) := by decide +kernel
theorem dX7_does_9 : decode cX7_does 9 = .ok (.iconst 1, 1) := by decide +kernel
theorem dX7_does_10 : decode cX7_does 10 = .ok (.sipush 999, 3) := by decide +kernel
theorem dX7_does_13 : decode cX7_does 13 = .ok (.invokevirtual 152, 3) := by decide +kernel
theorem dX7_does_16 : decode cX7_does 16 = .ok (.pop, 1) := by decide +kernel
theorem dX7_does_17 : decode cX7_does 17 = .ok (.aload_n 0, 1) := by decide +kernel
theorem dX7_does_18 : decode cX7_does 18 = .ok (.invokevirtual 81, 3) := by decide +kernel
theorem dX7_does_21 : decode cX7_does 21 = .ok (.ifCond .ne 7, 3) := by decide +kernel
theorem dX7_does_24 : decode cX7_does 24 = .ok (.iconst 1, 1) := by decide +kernel
theorem dX7_does_25 : decode cX7_does 25 = .ok (.goto 4, 3) := by decide +kernel
theorem dX7_does_28 : decode cX7_does 28 = .ok (.iconst 0, 1) := by decide +kernel
theorem dX7_does_29 : decode cX7_does 29 = .ok (.istore_n 2, 1) := by decide +kernel
theorem dX7_does_30 : decode cX7_does 30 = .ok (.iload_n 2, 1) := by decide +kernel
theorem dX7_does_31 : decode cX7_does 31 = .ok (.ifCond .eq 14, 3) := by decide +kernel
theorem dX7_does_34 : decode cX7_does 34 = .ok (.aload_n 0, 1) := by decide +kernel
theorem dX7_does_35 : decode cX7_does 35 = .ok (.aload_n 0, 1) := by decide +kernel
theorem dX7_does_36 : decode cX7_does 36 = .ok (.getfield 149, 3) := by decide +kernel
theorem dX7_does_39 : decode cX7_does 39 = .ok (.invokevirtual 85, 3) := by decide +kernel
theorem dX7_does_42 : decode cX7_does 42 = .ok (.goto 207, 3) := by decide +kernel
theorem dX7_does_45 : decode cX7_does 45 = .ok (.aload_n 0, 1) := by decide +kernel
theorem dX7_does_46 : decode cX7_does 46 = .ok (.getfield 7, 3) := by decide +kernel
theorem dX7_does_49 : decode cX7_does 49 = .ok (.bipush 11, 2) := by decide +kernel
theorem dX7_does_51 : decode cX7_does 51 = .ok (.aload_n 0, 1) := by decide +kernel
theorem dX7_does_52 : decode cX7_does 52 = .ok (.invokevirtual 81, 3) := by decide +kernel
theorem dX7_does_55 : decode cX7_does 55 = .ok (.iastore, 1) := by decide +kernel
theorem dX7_does_56 : decode cX7_does 56 = .ok (.goto 193, 3) := by decide +kernel
theorem dX7_does_59 : decode cX7_does 59 = .ok (.iload_n 1, 1) := by decide +kernel
theorem dX7_does_60 : decode cX7_does 60 = .ok (.bipush 115, 2) := by decide +kernel
theorem dX7_does_62 : decode cX7_does 62 = .ok (.if_icmp .ne 36, 3) := by decide +kernel
theorem dX7_does_65 : decode cX7_does 65 = .ok (.aload_n 0, 1) := by decide +kernel
theorem dX7_does_66 : decode cX7_does 66 = .ok (.iconst 1, 1) := by decide +kernel
theorem dX7_does_67 : decode cX7_does 67 = .ok (.bipush 50, 2) := by decide +kernel
theorem dX7_does_69 : decode cX7_does 69 = .ok (.invokevirtual 152, 3) := by decide +kernel
theorem dX7_does_72 : decode cX7_does 72 = .ok (.pop, 1) := by decide +kernel
theorem dX7_does_73 : decode cX7_does 73 = .ok (.aload_n 0, 1) := by decide +kernel
theorem dX7_does_74 : decode cX7_does 74 = .ok (.invokevirtual 45, 3) := by decide +kernel
theorem dX7_does_77 : decode cX7_does 77 = .ok (.ifCond .ne 7, 3) := by decide +kernel
theorem dX7_does_80 : decode cX7_does 80 = .ok (.iconst 1, 1) := by decide +kernel
theorem dX7_does_81 : decode cX7_does 81 = .ok (.goto 4, 3) := by decide +kernel
theorem dX7_does_84 : decode cX7_does 84 = .ok (.iconst 0, 1) := by decide +kernel
theorem dX7_does_85 : decode cX7_does 85 = .ok (.istore_n 2, 1) := by decide +kernel
theorem dX7_does_86 : decode cX7_does 86 = .ok (.aload_n 0, 1) := by decide +kernel
theorem dX7_does_87 : decode cX7_does 87 = .ok (.aload_n 0, 1) := by decide +kernel
theorem dX7_does_88 : decode cX7_does 88 = .ok (.getfield 149, 3) := by decide +kernel
theorem dX7_does_91 : decode cX7_does 91 = .ok (.invokevirtual 127, 3) := by decide +kernel
theorem dX7_does_94 : decode cX7_does 94 = .ok (.pop, 1) := by decide +kernel
theorem dX7_does_95 : decode cX7_does 95 = .ok (.goto 154, 3) := by decide +kernel
theorem dX7_does_98 : decode cX7_does 98 = .ok (.iload_n 1, 1) := by decide +kernel
theorem dX7_does_99 : decode cX7_does 99 = .ok (.bipush 99, 2) := by decide +kernel
theorem dX7_does_101 : decode cX7_does 101 = .ok (.if_icmp .ne 80, 3) := by decide +kernel
theorem dX7_does_104 : decode cX7_does 104 = .ok (.aload_n 0, 1) := by decide +kernel
theorem dX7_does_105 : decode cX7_does 105 = .ok (.iconst 0, 1) := by decide +kernel
theorem dX7_does_106 : decode cX7_does 106 = .ok (.iconst 5, 1) := by decide +kernel
theorem dX7_does_107 : decode cX7_does 107 = .ok (.invokevirtual 152, 3) := by decide +kernel
theorem dX7_does_110 : decode cX7_does 110 = .ok (.pop, 1) := by decide +kernel
theorem dX7_does_111 : decode cX7_does 111 = .ok (.aload_n 0, 1) := by decide +kernel
theorem dX7_does_112 : decode cX7_does 112 = .ok (.getfield 149, 3) := by decide +kernel
theorem dX7_does_115 : decode cX7_does 115 = .ok (.istore_n 3, 1) := by decide +kernel
theorem dX7_does_116 : decode cX7_does 116 = .ok (.aload_n 0, 1) := by decide +kernel
theorem dX7_does_117 : decode cX7_does 117 = .ok (.bipush 61, 2) := by decide +kernel
theorem dX7_does_119 : decode cX7_does 119 = .ok (.invokevirtual 156, 3) := by decide +kernel
theorem dX7_does_122 : decode cX7_does 122 = .ok (.pop, 1) := by decide +kernel
theorem dX7_does_123 : decode cX7_does 123 = .ok (.aload_n 0, 1) := by decide +kernel
theorem dX7_does_124 : decode cX7_does 124 = .ok (.iconst 0, 1) := by decide +kernel
theorem dX7_does_125 : decode cX7_does 125 = .ok (.bipush 100, 2) := by decide +kernel
theorem dX7_does_127 : decode cX7_does 127 = .ok (.invokevirtual 152, 3) := by decide +kernel
theorem dX7_does_130 : decode cX7_does 130 = .ok (.pop, 1) := by decide +kernel
theorem dX7_does_131 : decode cX7_does 131 = .ok (.aload_n 0, 1) := by decide +kernel
theorem dX7_does_132 : decode cX7_does 132 = .ok (.iload_n 3, 1) := by decide +kernel
theorem dX7_does_133 : decode cX7_does 133 = .ok (.aload_n 0, 1) := by decide +kernel
theorem dX7_does_134 : decode cX7_does 134 = .ok (.getfield 149, 3) := by decide +kernel
theorem dX7_does_137 : decode cX7_does 137 = .ok (.invokevirtual 75, 3) := by decide +kernel
theorem dX7_does_140 : decode cX7_does 140 = .ok (.ifCond .ne 7, 3) := by decide +kernel
theorem dX7_does_143 : decode cX7_does 143 = .ok (.iconst 1, 1) := by decide +kernel
theorem dX7_does_144 : decode cX7_does 144 = .ok (.goto 4, 3) := by decide +kernel
theorem dX7_does_147 : decode cX7_does 147 = .ok (.iconst 0, 1) := by decide +kernel
theorem dX7_does_148 : decode cX7_does 148 = .ok (.istore_n 2, 1) := by decide +kernel
theorem dX7_does_149 : decode cX7_does 149 = .ok (.aload_n 0, 1) := by decide +kernel
theorem dX7_does_150 : decode cX7_does 150 = .ok (.getfield 7, 3) := by decide +kernel
theorem dX7_does_153 : decode cX7_does 153 = .ok (.bipush 12, 2) := by decide +kernel
theorem dX7_does_155 : decode cX7_does 155 = .ok (.iload_n 3, 1) := by decide +kernel
theorem dX7_does_156 : decode cX7_does 156 = .ok (.iadd, 1) := by decide +kernel
theorem dX7_does_157 : decode cX7_does 157 = .ok (.iload_n 2, 1) := by decide +kernel
theorem dX7_does_158 : decode cX7_does 158 = .ok (.ifCond .eq 10, 3) := by decide +kernel
theorem dX7_does_161 : decode cX7_does 161 = .ok (.aload_n 0, 1) := by decide +kernel
theorem dX7_does_162 : decode cX7_does 162 = .ok (.getfield 149, 3) := by decide +kernel
theorem dX7_does_165 : decode cX7_does 165 = .ok (.goto 12, 3) := by decide +kernel
theorem dX7_does_168 : decode cX7_does 168 = .ok (.aload_n 0, 1) := by decide +kernel
theorem dX7_does_169 : decode cX7_does 169 = .ok (.getfield 7, 3) := by decide +kernel
theorem dX7_does_172 : decode cX7_does 172 = .ok (.bipush 12, 2) := by decide +kernel
theorem dX7_does_174 : decode cX7_does 174 = .ok (.iload_n 3, 1) := by decide +kernel
theorem dX7_does_175 : decode cX7_does 175 = .ok (.iadd, 1) := by decide +kernel
theorem dX7_does_176 : decode cX7_does 176 = .ok (.iaload, 1) := by decide +kernel
theorem dX7_does_177 : decode cX7_does 177 = .ok (.iastore, 1) := by decide +kernel
theorem dX7_does_178 : decode cX7_does 178 = .ok (.goto 71, 3) := by decide +kernel
theorem dX7_does_181 : decode cX7_does 181 = .ok (.iload_n 1, 1) := by decide +kernel
theorem dX7_does_182 : decode cX7_does 182 = .ok (.bipush 120, 2) := by decide +kernel
theorem dX7_does_184 : decode cX7_does 184 = .ok (.if_icmp .ne 19, 3) := by decide +kernel
theorem dX7_does_187 : decode cX7_does 187 = .ok (.aload_n 0, 1) := by decide +kernel
theorem dX7_does_188 : decode cX7_does 188 = .ok (.invokevirtual 134, 3) := by decide +kernel
theorem dX7_does_191 : decode cX7_does 191 = .ok (.istore_n 2, 1) := by decide +kernel
theorem dX7_does_192 : decode cX7_does 192 = .ok (.iload_n 2, 1) := by decide +kernel
theorem dX7_does_193 : decode cX7_does 193 = .ok (.ifCond .eq 56, 3) := by decide +kernel
theorem dX7_does_196 : decode cX7_does 196 = .ok (.aload_n 0, 1) := by decide +kernel
theorem dX7_does_197 : decode cX7_does 197 = .ok (.invokevirtual 137, 3) := by decide +kernel
theorem dX7_does_200 : decode cX7_does 200 = .ok (.goto 49, 3) := by decide +kernel
theorem dX7_does_203 : decode cX7_does 203 = .ok (.aload_n 0, 1) := by decide +kernel
theorem dX7_does_204 : decode cX7_does 204 = .ok (.iload_n 1, 1) := by decide +kernel
theorem dX7_does_205 : decode cX7_does 205 = .ok (.bipush 104, 2) := by decide +kernel
theorem dX7_does_207 : decode cX7_does 207 = .ok (.if_icmp .ne 7, 3) := by decide +kernel
theorem dX7_does_210 : decode cX7_does 210 = .ok (.iconst 1, 1) := by decide +kernel
theorem dX7_does_211 : decode cX7_does 211 = .ok (.goto 4, 3) := by decide +kernel
theorem dX7_does_214 : decode cX7_does 214 = .ok (.iconst 0, 1) := by decide +kernel
theorem dX7_does_215 : decode cX7_does 215 = .ok (.invokevirtual 130, 3) := by decide +kernel
theorem dX7_does_218 : decode cX7_does 218 = .ok (.istore_n 2, 1) := by decide +kernel
theorem dX7_does_219 : decode cX7_does 219 = .ok (.aload_n 0, 1) := by decide +kernel
theorem dX7_does_220 : decode cX7_does 220 = .ok (.getfield 7, 3) := by decide +kernel
theorem dX7_does_223 : decode cX7_does 223 = .ok (.iconst 1, 1) := by decide +kernel
theorem dX7_does_224 : decode cX7_does 224 = .ok (.iload_n 2, 1) := by decide +kernel
theorem dX7_does_225 : decode cX7_does 225 = .ok (.ifCond .eq 17, 3) := by decide +kernel
theorem dX7_does_228 : decode cX7_does 228 = .ok (.iload_n 1, 1) := by decide +kernel
theorem dX7_does_229 : decode cX7_does 229 = .ok (.bipush 104, 2) := by decide +kernel
theorem dX7_does_231 : decode cX7_does 231 = .ok (.if_icmp .ne 7, 3) := by decide +kernel
theorem dX7_does_234 : decode cX7_does 234 = .ok (.iconst 2, 1) := by decide +kernel
theorem dX7_does_235 : decode cX7_does 235 = .ok (.goto 13, 3) := by decide +kernel
theorem dX7_does_238 : decode cX7_does 238 = .ok (.iconst 1, 1) := by decide +kernel
theorem dX7_does_239 : decode cX7_does 239 = .ok (.goto 9, 3) := by decide +kernel
theorem dX7_does_242 : decode cX7_does 242 = .ok (.aload_n 0, 1) := by decide +kernel
theorem dX7_does_243 : decode cX7_does 243 = .ok (.getfield 7, 3) := by decide +kernel
theorem dX7_does_246 : decode cX7_does 246 = .ok (.iconst 1, 1) := by decide +kernel
theorem dX7_does_247 : decode cX7_does 247 = .ok (.iaload, 1) := by decide +kernel
theorem dX7_does_248 : decode cX7_does 248 = .ok (.iastore, 1) := by decide +kernel
theorem dX7_does_249 : decode cX7_does 249 = .ok (.aload_n 0, 1) := by decide +kernel
theorem dX7_does_250 : decode cX7_does 250 = .ok (.bipush 59, 2) := by decide +kernel
theorem dX7_does_252 : decode cX7_does 252 = .ok (.invokevirtual 156, 3) := by decide +kernel
theorem dX7_does_255 : decode cX7_does 255 = .ok (.pop, 1) := by decide +kernel
theorem dX7_does_256 : decode cX7_does 256 = .ok (.iload_n 2, 1) := by decide +kernel
theorem dX7_does_257 : decode cX7_does 257 = .ok (.ireturn, 1) := by decide +kernel
theorem dX7_run_0 : decode cX7_run 0 = .ok (.aload_n 0, 1) := by decide +kernel
theorem dX7_run_1 : decode cX7_run 1 = .ok (.invokevirtual 165, 3) := by decide +kernel
theorem dX7_run_4 : decode cX7_run 4 = .ok (.bipush (-6), 2) := by decide +kernel
theorem dX7_run_6 : decode cX7_run 6 = .ok (.if_icmp .eq 6, 3) := by decide +kernel
theorem dX7_run_9 : decode cX7_run 9 = .ok (.bipush (-3), 2) := by decide +kernel
theorem dX7_run_11 : decode cX7_run 11 = .ok (.ireturn, 1) := by decide +kernel
theorem dX7_run_12 : decode cX7_run 12 = .ok (.aload_n 0, 1) := by decide +kernel
theorem dX7_run_13 : decode cX7_run 13 = .ok (.invokevirtual 53, 3) := by decide +kernel
theorem dX7_run_16 : decode cX7_run 16 = .ok (.aload_n 0, 1) := by decide +kernel
theorem dX7_run_17 : decode cX7_run 17 = .ok (.iconst 0, 1) := by decide +kernel
theorem dX7_run_18 : decode cX7_run 18 = .ok (.putfield 143, 3) := by decide +kernel
theorem dX7_run_21 : decode cX7_run 21 = .ok (.iconst 0, 1) := by decide +kernel
theorem dX7_run_22 : decode cX7_run 22 = .ok (.istore_n 1, 1) := by decide +kernel
theorem dX7_run_23 : decode cX7_run 23 = .ok (.aload_n 0, 1) := by decide +kernel
theorem dX7_run_24 : decode cX7_run 24 = .ok (.getfield 143, 3) := by decide +kernel
theorem dX7_run_27 : decode cX7_run 27 = .ok (.aload_n 0, 1) := by decide +kernel
theorem dX7_run_28 : decode cX7_run 28 = .ok (.getfield 140, 3) := by decide +kernel
theorem dX7_run_31 : decode cX7_run 31 = .ok (.if_icmp .ge 34, 3) := by decide +kernel
theorem dX7_run_34 : decode cX7_run 34 = .ok (.aload_n 0, 1) := by decide +kernel
theorem dX7_run_35 : decode cX7_run 35 = .ok (.invokevirtual 146, 3) := by decide +kernel
theorem dX7_run_38 : decode cX7_run 38 = .ok (.istore_n 2, 1) := by decide +kernel
theorem dX7_run_39 : decode cX7_run 39 = .ok (.aload_n 0, 1) := by decide +kernel
theorem dX7_run_40 : decode cX7_run 40 = .ok (.dup, 1) := by decide +kernel
theorem dX7_run_41 : decode cX7_run 41 = .ok (.getfield 143, 3) := by decide +kernel
theorem dX7_run_44 : decode cX7_run 44 = .ok (.iconst 1, 1) := by decide +kernel
theorem dX7_run_45 : decode cX7_run 45 = .ok (.iadd, 1) := by decide +kernel
theorem dX7_run_46 : decode cX7_run 46 = .ok (.putfield 143, 3) := by decide +kernel
theorem dX7_run_49 : decode cX7_run 49 = .ok (.aload_n 0, 1) := by decide +kernel
theorem dX7_run_50 : decode cX7_run 50 = .ok (.iload_n 2, 1) := by decide +kernel
theorem dX7_run_51 : decode cX7_run 51 = .ok (.invokevirtual 168, 3) := by decide +kernel
theorem dX7_run_54 : decode cX7_run 54 = .ok (.ifCond .ne 5, 3) := by decide +kernel
theorem dX7_run_57 : decode cX7_run 57 = .ok (.iload_n 1, 1) := by decide +kernel
theorem dX7_run_58 : decode cX7_run 58 = .ok (.ireturn, 1) := by decide +kernel
theorem dX7_run_59 : decode cX7_run 59 = .ok (.iinc 1 1, 3) := by decide +kernel
theorem dX7_run_62 : decode cX7_run 62 = .ok (.goto (-39), 3) := by decide +kernel
theorem dX7_run_65 : decode cX7_run 65 = .ok (.iload_n 1, 1) := by decide +kernel
theorem dX7_run_66 : decode cX7_run 66 = .ok (.ireturn, 1) := by decide +kernel
theorem dX7_undo_0 : decode cX7_undo 0 = .ok (.aload_n 0, 1) := by decide +kernel
theorem dX7_undo_1 : decode cX7_undo 1 = .ok (.getfield 29, 3) := by decide +kernel
theorem dX7_undo_4 : decode cX7_undo 4 = .ok (.ifCond .ne 6, 3) := by decide +kernel
theorem dX7_undo_7 : decode cX7_undo 7 = .ok (.bipush (-3), 2) := by decide +kernel
theorem dX7_undo_9 : decode cX7_undo 9 = .ok (.ireturn, 1) := by decide +kernel
theorem dX7_undo_10 : decode cX7_undo 10 = .ok (.aload_n 0, 1) := by decide +kernel
theorem dX7_undo_11 : decode cX7_undo 11 = .ok (.sipush 1808, 3) := by decide +kernel
theorem dX7_undo_14 : decode cX7_undo 14 = .ok (.aload_n 0, 1) := by decide +kernel
theorem dX7_undo_15 : decode cX7_undo 15 = .ok (.getfield 29, 3) := by decide +kernel
theorem dX7_undo_18 : decode cX7_undo 18 = .ok (.imul, 1) := by decide +kernel
theorem dX7_undo_19 : decode cX7_undo 19 = .ok (.iconst 0, 1) := by decide +kernel
theorem dX7_undo_20 : decode cX7_undo 20 = .ok (.invokevirtual 33, 3) := by decide +kernel
theorem dX7_undo_23 : decode cX7_undo 23 = .ok (.aload_n 0, 1) := by decide +kernel
theorem dX7_undo_24 : decode cX7_undo 24 = .ok (.dup, 1) := by decide +kernel
theorem dX7_undo_25 : decode cX7_undo 25 = .ok (.getfield 29, 3) := by decide +kernel
theorem dX7_undo_28 : decode cX7_undo 28 = .ok (.iconst 1, 1) := by decide +kernel
theorem dX7_undo_29 : decode cX7_undo 29 = .ok (.isub, 1) := by decide +kernel
theorem dX7_undo_30 : decode cX7_undo 30 = .ok (.putfield 29, 3) := by decide +kernel
theorem dX7_undo_33 : decode cX7_undo 33 = .ok (.aload_n 0, 1) := by decide +kernel
theorem dX7_undo_34 : decode cX7_undo 34 = .ok (.getfield 29, 3) := by decide +kernel
theorem dX7_undo_37 : decode cX7_undo 37 = .ok (.ireturn, 1) := by decide +kernel
theorem dX7_save_0 : decode cX7_save 0 = .ok (.iload_n 1, 1) := by decide +kernel
theorem dX7_save_1 : decode cX7_save 1 = .ok (.iconst 0, 1) := by decide +kernel
theorem dX7_save_2 : decode cX7_save 2 = .ok (.iconst 1, 1) := by decide +kernel
theorem dX7_save_3 : decode cX7_save 3 = .ok (.invokestatic 41, 3) := by decide +kernel
theorem dX7_save_6 : decode cX7_save 6 = .ok (.ifCond .ne 5, 3) := by decide +kernel
theorem dX7_save_9 : decode cX7_save 9 = .ok (.iconst (-1), 1) := by decide +kernel
theorem dX7_save_10 : decode cX7_save 10 = .ok (.ireturn, 1) := by decide +kernel
theorem dX7_save_11 : decode cX7_save 11 = .ok (.aload_n 0, 1) := by decide +kernel
theorem dX7_save_12 : decode cX7_save 12 = .ok (.iconst 0, 1) := by decide +kernel
theorem dX7_save_13 : decode cX7_save 13 = .ok (.sipush 1808, 3) := by decide +kernel
theorem dX7_save_16 : decode cX7_save 16 = .ok (.bipush 6, 2) := by decide +kernel
theorem dX7_save_18 : decode cX7_save 18 = .ok (.iload_n 1, 1) := by decide +kernel
theorem dX7_save_19 : decode cX7_save 19 = .ok (.iadd, 1) := by decide +kernel
theorem dX7_save_20 : decode cX7_save 20 = .ok (.imul, 1) := by decide +kernel
theorem dX7_save_21 : decode cX7_save 21 = .ok (.invokevirtual 33, 3) := by decide +kernel
theorem dX7_save_24 : decode cX7_save 24 = .ok (.aload_n 0, 1) := by decide +kernel
theorem dX7_save_25 : decode cX7_save 25 = .ok (.getfield 13, 3) := by decide +kernel
theorem dX7_save_28 : decode cX7_save 28 = .ok (.iload_n 1, 1) := by decide +kernel
theorem dX7_save_29 : decode cX7_save 29 = .ok (.iconst 1, 1) := by decide +kernel
theorem dX7_save_30 : decode cX7_save 30 = .ok (.bastore, 1) := by decide +kernel
theorem dX7_save_31 : decode cX7_save 31 = .ok (.aload_n 0, 1) := by decide +kernel
theorem dX7_save_32 : decode cX7_save 32 = .ok (.getfield 7, 3) := by decide +kernel
theorem dX7_save_35 : decode cX7_save 35 = .ok (.iconst 1, 1) := by decide +kernel
theorem dX7_save_36 : decode cX7_save 36 = .ok (.iaload, 1) := by decide +kernel
theorem dX7_save_37 : decode cX7_save 37 = .ok (.ireturn, 1) := by decide +kernel
theorem dX7_restore_0 : decode cX7_restore 0 = .ok (.iload_n 1, 1) := by decide +kernel
theorem dX7_restore_1 : decode cX7_restore 1 = .ok (.iconst 0, 1) := by decide +kernel
theorem dX7_restore_2 : decode cX7_restore 2 = .ok (.iconst 1, 1) := by decide +kernel
theorem dX7_restore_3 : decode cX7_restore 3 = .ok (.invokestatic 41, 3) := by decide +kernel
theorem dX7_restore_6 : decode cX7_restore 6 = .ok (.ifCond .ne 5, 3) := by decide +kernel
theorem dX7_restore_9 : decode cX7_restore 9 = .ok (.iconst (-1), 1) := by decide +kernel
theorem dX7_restore_10 : decode cX7_restore 10 = .ok (.ireturn, 1) := by decide +kernel
theorem dX7_restore_11 : decode cX7_restore 11 = .ok (.aload_n 0, 1) := by decide +kernel
theorem dX7_restore_12 : decode cX7_restore 12 = .ok (.getfield 13, 3) := by decide +kernel
theorem dX7_restore_15 : decode cX7_restore 15 = .ok (.iload_n 1, 1) := by decide +kernel
theorem dX7_restore_16 : decode cX7_restore 16 = .ok (.baload, 1) := by decide +kernel
theorem dX7_restore_17 : decode cX7_restore 17 = .ok (.ifCond .ne 6, 3) := by decide +kernel
theorem dX7_restore_20 : decode cX7_restore 20 = .ok (.bipush (-3), 2) := by decide +kernel
theorem dX7_restore_22 : decode cX7_restore 22 = .ok (.ireturn, 1) := by decide +kernel
theorem dX7_restore_23 : decode cX7_restore 23 = .ok (.aload_n 0, 1) := by decide +kernel
theorem dX7_restore_24 : decode cX7_restore 24 = .ok (.invokevirtual 53, 3) := by decide +kernel
theorem dX7_restore_27 : decode cX7_restore 27 = .ok (.aload_n 0, 1) := by decide +kernel
theorem dX7_restore_28 : decode cX7_restore 28 = .ok (.sipush 1808, 3) := by decide +kernel
theorem dX7_restore_31 : decode cX7_restore 31 = .ok (.bipush 6, 2) := by decide +kernel
theorem dX7_restore_33 : decode cX7_restore 33 = .ok (.iload_n 1, 1) := by decide +kernel
theorem dX7_restore_34 : decode cX7_restore 34 = .ok (.iadd, 1) := by decide +kernel
theorem dX7_restore_35 : decode cX7_restore 35 = .ok (.imul, 1) := by decide +kernel
theorem dX7_restore_36 : decode cX7_restore 36 = .ok (.iconst 0, 1) := by decide +kernel
theorem dX7_restore_37 : decode cX7_restore 37 = .ok (.invokevirtual 33, 3) := by decide +kernel
theorem dX7_restore_40 : decode cX7_restore 40 = .ok (.aload_n 0, 1) := by decide +kernel
theorem dX7_restore_41 : decode cX7_restore 41 = .ok (.getfield 7, 3) := by decide +kernel
theorem dX7_restore_44 : decode cX7_restore 44 = .ok (.iconst 1, 1) := by decide +kernel
theorem dX7_restore_45 : decode cX7_restore 45 = .ok (.iaload, 1) := by decide +kernel
theorem dX7_restore_46 : decode cX7_restore 46 = .ok (.ireturn, 1) := by decide +kernel
theorem dX7_frequency_0 : decode cX7_frequency 0 = .ok (.aload_n 0, 1) := by decide +kernel
theorem dX7_frequency_1 : decode cX7_frequency 1 = .ok (.iload_n 1, 1) := by decide +kernel
theorem dX7_frequency_2 : decode cX7_frequency 2 = .ok (.invokevirtual 109, 3) := by decide +kernel
theorem dX7_frequency_5 : decode cX7_frequency 5 = .ok (.ifCond .eq 16, 3) := by decide +kernel
theorem dX7_frequency_8 : decode cX7_frequency 8 = .ok (.aload_n 0, 1) := by decide +kernel
theorem dX7_frequency_9 : decode cX7_frequency 9 = .ok (.getfield 7, 3) := by decide +kernel
theorem dX7_frequency_12 : decode cX7_frequency 12 = .ok (.sipush 208, 3) := by decide +kernel
theorem dX7_frequency_15 : decode cX7_frequency 15 = .ok (.iload_n 1, 1) := by decide +kernel
theorem dX7_frequency_16 : decode cX7_frequency 16 = .ok (.iadd, 1) := by decide +kernel
theorem dX7_frequency_17 : decode cX7_frequency 17 = .ok (.iaload, 1) := by decide +kernel
theorem dX7_frequency_18 : decode cX7_frequency 18 = .ok (.goto 4, 3) := by decide +kernel
theorem dX7_frequency_21 : decode cX7_frequency 21 = .ok (.iconst (-1), 1) := by decide +kernel
theorem dX7_frequency_22 : decode cX7_frequency 22 = .ok (.ireturn, 1) := by decide +kernel
theorem dX7_target_0 : decode cX7_target 0 = .ok (.iload_n 1, 1) := by decide +kernel
theorem dX7_target_1 : decode cX7_target 1 = .ok (.iconst 1, 1) := by decide +kernel
theorem dX7_target_2 : decode cX7_target 2 = .ok (.sipush 2000, 3) := by decide +kernel
theorem dX7_target_5 : decode cX7_target 5 = .ok (.invokestatic 41, 3) := by decide +kernel
theorem dX7_target_8 : decode cX7_target 8 = .ok (.ifCond .ne 6, 3) := by decide +kernel
theorem dX7_target_11 : decode cX7_target 11 = .ok (.bipush (-2), 2) := by decide +kernel
theorem dX7_target_13 : decode cX7_target 13 = .ok (.ireturn, 1) := by decide +kernel
theorem dX7_target_14 : decode cX7_target 14 = .ok (.aload_n 0, 1) := by decide +kernel
theorem dX7_target_15 : decode cX7_target 15 = .ok (.getfield 7, 3) := by decide +kernel
theorem dX7_target_18 : decode cX7_target 18 = .ok (.iconst 4, 1) := by decide +kernel
theorem dX7_target_19 : decode cX7_target 19 = .ok (.iaload, 1) := by decide +kernel
theorem dX7_target_20 : decode cX7_target 20 = .ok (.ifCond .ne 8, 3) := by decide +kernel
theorem dX7_target_23 : decode cX7_target 23 = .ok (.bipush (-6), 2) := by decide +kernel
theorem dX7_target_25 : decode cX7_target 25 = .ok (.goto 8, 3) := by decide +kernel
theorem dX7_target_28 : decode cX7_target 28 = .ok (.aload_n 0, 1) := by decide +kernel
theorem dX7_target_29 : decode cX7_target 29 = .ok (.iload_n 1, 1) := by decide +kernel
theorem dX7_target_30 : decode cX7_target 30 = .ok (.invokevirtual 117, 3) := by decide +kernel
theorem dX7_target_33 : decode cX7_target 33 = .ok (.ireturn, 1) := by decide +kernel
theorem dX7_gain_0 : decode cX7_gain 0 = .ok (.aload_n 0, 1) := by decide +kernel
theorem dX7_gain_1 : decode cX7_gain 1 = .ok (.iload_n 1, 1) := by decide +kernel
theorem dX7_gain_2 : decode cX7_gain 2 = .ok (.invokevirtual 58, 3) := by decide +kernel
theorem dX7_gain_5 : decode cX7_gain 5 = .ok (.ifCond .ne 5, 3) := by decide +kernel
theorem dX7_gain_8 : decode cX7_gain 8 = .ok (.iconst (-1), 1) := by decide +kernel
theorem dX7_gain_9 : decode cX7_gain 9 = .ok (.ireturn, 1) := by decide +kernel
theorem dX7_gain_10 : decode cX7_gain 10 = .ok (.iload_n 2, 1) := by decide +kernel
theorem dX7_gain_11 : decode cX7_gain 11 = .ok (.iconst 1, 1) := by decide +kernel
theorem dX7_gain_12 : decode cX7_gain 12 = .ok (.sipush 2000, 3) := by decide +kernel
theorem dX7_gain_15 : decode cX7_gain 15 = .ok (.invokestatic 41, 3) := by decide +kernel
theorem dX7_gain_18 : decode cX7_gain 18 = .ok (.ifCond .eq 12, 3) := by decide +kernel
theorem dX7_gain_21 : decode cX7_gain 21 = .ok (.aload_n 0, 1) := by decide +kernel
theorem dX7_gain_22 : decode cX7_gain 22 = .ok (.iload_n 1, 1) := by decide +kernel
theorem dX7_gain_23 : decode cX7_gain 23 = .ok (.iload_n 2, 1) := by decide +kernel
theorem dX7_gain_24 : decode cX7_gain 24 = .ok (.invokevirtual 62, 3) := by decide +kernel
theorem dX7_gain_27 : decode cX7_gain 27 = .ok (.goto 5, 3) := by decide +kernel
theorem dX7_gain_30 : decode cX7_gain 30 = .ok (.bipush (-2), 2) := by decide +kernel
theorem dX7_gain_32 : decode cX7_gain 32 = .ok (.ireturn, 1) := by decide +kernel
theorem dX7_limit_0 : decode cX7_limit 0 = .ok (.aload_n 0, 1) := by decide +kernel
theorem dX7_limit_1 : decode cX7_limit 1 = .ok (.iload_n 1, 1) := by decide +kernel
theorem dX7_limit_2 : decode cX7_limit 2 = .ok (.invokevirtual 58, 3) := by decide +kernel
theorem dX7_limit_5 : decode cX7_limit 5 = .ok (.ifCond .ne 5, 3) := by decide +kernel
theorem dX7_limit_8 : decode cX7_limit 8 = .ok (.iconst (-1), 1) := by decide +kernel
theorem dX7_limit_9 : decode cX7_limit 9 = .ok (.ireturn, 1) := by decide +kernel
theorem dX7_limit_10 : decode cX7_limit 10 = .ok (.iload_n 2, 1) := by decide +kernel
theorem dX7_limit_11 : decode cX7_limit 11 = .ok (.iconst 1, 1) := by decide +kernel
theorem dX7_limit_12 : decode cX7_limit 12 = .ok (.sipush 2000, 3) := by decide +kernel
theorem dX7_limit_15 : decode cX7_limit 15 = .ok (.invokestatic 41, 3) := by decide +kernel
theorem dX7_limit_18 : decode cX7_limit 18 = .ok (.ifCond .eq 12, 3) := by decide +kernel
theorem dX7_limit_21 : decode cX7_limit 21 = .ok (.aload_n 0, 1) := by decide +kernel
theorem dX7_limit_22 : decode cX7_limit 22 = .ok (.iload_n 1, 1) := by decide +kernel
theorem dX7_limit_23 : decode cX7_limit 23 = .ok (.iload_n 2, 1) := by decide +kernel
theorem dX7_limit_24 : decode cX7_limit 24 = .ok (.invokevirtual 97, 3) := by decide +kernel
theorem dX7_limit_27 : decode cX7_limit 27 = .ok (.goto 5, 3) := by decide +kernel
theorem dX7_limit_30 : decode cX7_limit 30 = .ok (.bipush (-2), 2) := by decide +kernel
theorem dX7_limit_32 : decode cX7_limit 32 = .ok (.ireturn, 1) := by decide +kernel
theorem dX7_channel_0 : decode cX7_channel 0 = .ok (.aload_n 0, 1) := by decide +kernel
theorem dX7_channel_1 : decode cX7_channel 1 = .ok (.iload_n 1, 1) := by decide +kernel
theorem dX7_channel_2 : decode cX7_channel 2 = .ok (.invokevirtual 58, 3) := by decide +kernel
theorem dX7_channel_5 : decode cX7_channel 5 = .ok (.ifCond .ne 5, 3) := by decide +kernel
theorem dX7_channel_8 : decode cX7_channel 8 = .ok (.iconst (-1), 1) := by decide +kernel
theorem dX7_channel_9 : decode cX7_channel 9 = .ok (.ireturn, 1) := by decide +kernel
theorem dX7_channel_10 : decode cX7_channel 10 = .ok (.iload_n 2, 1) := by decide +kernel
theorem dX7_channel_11 : decode cX7_channel 11 = .ok (.iconst 0, 1) := by decide +kernel
theorem dX7_channel_12 : decode cX7_channel 12 = .ok (.bipush 7, 2) := by decide +kernel
theorem dX7_channel_14 : decode cX7_channel 14 = .ok (.invokestatic 41, 3) := by decide +kernel
theorem dX7_channel_17 : decode cX7_channel 17 = .ok (.ifCond .ne 6, 3) := by decide +kernel
theorem dX7_channel_20 : decode cX7_channel 20 = .ok (.bipush (-2), 2) := by decide +kernel
theorem dX7_channel_22 : decode cX7_channel 22 = .ok (.ireturn, 1) := by decide +kernel
theorem dX7_channel_23 : decode cX7_channel 23 = .ok (.iload_n 2, 1) := by decide +kernel
theorem dX7_channel_24 : decode cX7_channel 24 = .ok (.iconst 3, 1) := by decide +kernel
theorem dX7_channel_25 : decode cX7_channel 25 = .ok (.if_icmp .ge 12, 3) := by decide +kernel
theorem dX7_channel_28 : decode cX7_channel 28 = .ok (.aload_n 0, 1) := by decide +kernel
theorem dX7_channel_29 : decode cX7_channel 29 = .ok (.iload_n 1, 1) := by decide +kernel
theorem dX7_channel_30 : decode cX7_channel 30 = .ok (.iload_n 2, 1) := by decide +kernel
theorem dX7_channel_31 : decode cX7_channel 31 = .ok (.invokevirtual 65, 3) := by decide +kernel
theorem dX7_channel_34 : decode cX7_channel 34 = .ok (.goto 29, 3) := by decide +kernel
theorem dX7_channel_37 : decode cX7_channel 37 = .ok (.iload_n 2, 1) := by decide +kernel
theorem dX7_channel_38 : decode cX7_channel 38 = .ok (.iconst 3, 1) := by decide +kernel
theorem dX7_channel_39 : decode cX7_channel 39 = .ok (.if_icmp .ne 13, 3) := by decide +kernel
theorem dX7_channel_42 : decode cX7_channel 42 = .ok (.aload_n 0, 1) := by decide +kernel
theorem dX7_channel_43 : decode cX7_channel 43 = .ok (.iload_n 1, 1) := by decide +kernel
theorem dX7_channel_44 : decode cX7_channel 44 = .ok (.bipush 12, 2) := by decide +kernel
theorem dX7_channel_46 : decode cX7_channel 46 = .ok (.invokevirtual 65, 3) := by decide +kernel
theorem dX7_channel_49 : decode cX7_channel 49 = .ok (.goto 14, 3) := by decide +kernel
theorem dX7_channel_52 : decode cX7_channel 52 = .ok (.aload_n 0, 1) := by decide +kernel
theorem dX7_channel_53 : decode cX7_channel 53 = .ok (.iload_n 1, 1) := by decide +kernel
theorem dX7_channel_54 : decode cX7_channel 54 = .ok (.bipush 25, 2) := by decide +kernel
theorem dX7_channel_56 : decode cX7_channel 56 = .ok (.iload_n 2, 1) := by decide +kernel
theorem dX7_channel_57 : decode cX7_channel 57 = .ok (.iadd, 1) := by decide +kernel
theorem dX7_channel_58 : decode cX7_channel 58 = .ok (.iconst 4, 1) := by decide +kernel
theorem dX7_channel_59 : decode cX7_channel 59 = .ok (.isub, 1) := by decide +kernel
theorem dX7_channel_60 : decode cX7_channel 60 = .ok (.invokevirtual 65, 3) := by decide +kernel
theorem dX7_channel_63 : decode cX7_channel 63 = .ok (.ireturn, 1) := by decide +kernel
theorem dX7_level_0 : decode cX7_level 0 = .ok (.aload_n 0, 1) := by decide +kernel
theorem dX7_level_1 : decode cX7_level 1 = .ok (.iload_n 1, 1) := by decide +kernel
theorem dX7_level_2 : decode cX7_level 2 = .ok (.invokevirtual 109, 3) := by decide +kernel
theorem dX7_level_5 : decode cX7_level 5 = .ok (.ifCond .eq 29, 3) := by decide +kernel
theorem dX7_level_8 : decode cX7_level 8 = .ok (.aload_n 0, 1) := by decide +kernel
theorem dX7_level_9 : decode cX7_level 9 = .ok (.iload_n 2, 1) := by decide +kernel
theorem dX7_level_10 : decode cX7_level 10 = .ok (.invokevirtual 58, 3) := by decide +kernel
theorem dX7_level_13 : decode cX7_level 13 = .ok (.ifCond .eq 21, 3) := by decide +kernel
theorem dX7_level_16 : decode cX7_level 16 = .ok (.aload_n 0, 1) := by decide +kernel
theorem dX7_level_17 : decode cX7_level 17 = .ok (.getfield 7, 3) := by decide +kernel
theorem dX7_level_20 : decode cX7_level 20 = .ok (.sipush 308, 3) := by decide +kernel
theorem dX7_level_23 : decode cX7_level 23 = .ok (.bipush 6, 2) := by decide +kernel
theorem dX7_level_25 : decode cX7_level 25 = .ok (.iload_n 1, 1) := by decide +kernel
theorem dX7_level_26 : decode cX7_level 26 = .ok (.imul, 1) := by decide +kernel
theorem dX7_level_27 : decode cX7_level 27 = .ok (.iadd, 1) := by decide +kernel
theorem dX7_level_28 : decode cX7_level 28 = .ok (.iload_n 2, 1) := by decide +kernel
theorem dX7_level_29 : decode cX7_level 29 = .ok (.iadd, 1) := by decide +kernel
theorem dX7_level_30 : decode cX7_level 30 = .ok (.iaload, 1) := by decide +kernel
theorem dX7_level_31 : decode cX7_level 31 = .ok (.goto 4, 3) := by decide +kernel
theorem dX7_level_34 : decode cX7_level 34 = .ok (.iconst (-1), 1) := by decide +kernel
theorem dX7_level_35 : decode cX7_level 35 = .ok (.ireturn, 1) := by decide +kernel
theorem dX7_averaged_0 : decode cX7_averaged 0 = .ok (.aload_n 0, 1) := by decide +kernel
theorem dX7_averaged_1 : decode cX7_averaged 1 = .ok (.iload_n 1, 1) := by decide +kernel
theorem dX7_averaged_2 : decode cX7_averaged 2 = .ok (.invokevirtual 109, 3) := by decide +kernel
theorem dX7_averaged_5 : decode cX7_averaged 5 = .ok (.ifCond .eq 29, 3) := by decide +kernel
theorem dX7_averaged_8 : decode cX7_averaged 8 = .ok (.aload_n 0, 1) := by decide +kernel
theorem dX7_averaged_9 : decode cX7_averaged 9 = .ok (.iload_n 2, 1) := by decide +kernel
theorem dX7_averaged_10 : decode cX7_averaged 10 = .ok (.invokevirtual 58, 3) := by decide +kernel
theorem dX7_averaged_13 : decode cX7_averaged 13 = .ok (.ifCond .eq 21, 3) := by decide +kernel
theorem dX7_averaged_16 : decode cX7_averaged 16 = .ok (.aload_n 0, 1) := by decide +kernel
theorem dX7_averaged_17 : decode cX7_averaged 17 = .ok (.getfield 7, 3) := by decide +kernel
theorem dX7_averaged_20 : decode cX7_averaged 20 = .ok (.sipush 908, 3) := by decide +kernel
theorem dX7_averaged_23 : decode cX7_averaged 23 = .ok (.bipush 6, 2) := by decide +kernel
theorem dX7_averaged_25 : decode cX7_averaged 25 = .ok (.iload_n 1, 1) := by decide +kernel
theorem dX7_averaged_26 : decode cX7_averaged 26 = .ok (.imul, 1) := by decide +kernel
theorem dX7_averaged_27 : decode cX7_averaged 27 = .ok (.iadd, 1) := by decide +kernel
theorem dX7_averaged_28 : decode cX7_averaged 28 = .ok (.iload_n 2, 1) := by decide +kernel
theorem dX7_averaged_29 : decode cX7_averaged 29 = .ok (.iadd, 1) := by decide +kernel
theorem dX7_averaged_30 : decode cX7_averaged 30 = .ok (.iaload, 1) := by decide +kernel
theorem dX7_averaged_31 : decode cX7_averaged 31 = .ok (.goto 4, 3) := by decide +kernel
theorem dX7_averaged_34 : decode cX7_averaged 34 = .ok (.iconst (-1), 1) := by decide +kernel
theorem dX7_averaged_35 : decode cX7_averaged 35 = .ok (.ireturn, 1) := by decide +kernel
theorem dX7_controlGain_0 : decode cX7_controlGain 0 = .ok (.aload_n 0, 1) := by decide +kernel
theorem dX7_controlGain_1 : decode cX7_controlGain 1 = .ok (.iload_n 1, 1) := by decide +kernel
theorem dX7_controlGain_2 : decode cX7_controlGain 2 = .ok (.invokevirtual 109, 3) := by decide +kernel
theorem dX7_controlGain_5 : decode cX7_controlGain 5 = .ok (.ifCond .eq 16, 3) := by decide +kernel
theorem dX7_controlGain_8 : decode cX7_controlGain 8 = .ok (.aload_n 0, 1) := by decide +kernel
theorem dX7_controlGain_9 : decode cX7_controlGain 9 = .ok (.getfield 7, 3) := by decide +kernel
theorem dX7_controlGain_12 : decode cX7_controlGain 12 = .ok (.sipush 1508, 3) := by decide +kernel
theorem dX7_controlGain_15 : decode cX7_controlGain 15 = .ok (.iload_n 1, 1) := by decide +kernel
theorem dX7_controlGain_16 : decode cX7_controlGain 16 = .ok (.iadd, 1) := by decide +kernel
theorem dX7_controlGain_17 : decode cX7_controlGain 17 = .ok (.iaload, 1) := by decide +kernel
theorem dX7_controlGain_18 : decode cX7_controlGain 18 = .ok (.goto 4, 3) := by decide +kernel
theorem dX7_controlGain_21 : decode cX7_controlGain 21 = .ok (.iconst (-1), 1) := by decide +kernel
theorem dX7_controlGain_22 : decode cX7_controlGain 22 = .ok (.ireturn, 1) := by decide +kernel
theorem dX7_driveAt_0 : decode cX7_driveAt 0 = .ok (.aload_n 0, 1) := by decide +kernel
theorem dX7_driveAt_1 : decode cX7_driveAt 1 = .ok (.iload_n 1, 1) := by decide +kernel
theorem dX7_driveAt_2 : decode cX7_driveAt 2 = .ok (.invokevirtual 109, 3) := by decide +kernel
theorem dX7_driveAt_5 : decode cX7_driveAt 5 = .ok (.ifCond .eq 16, 3) := by decide +kernel
theorem dX7_driveAt_8 : decode cX7_driveAt 8 = .ok (.aload_n 0, 1) := by decide +kernel
theorem dX7_driveAt_9 : decode cX7_driveAt 9 = .ok (.getfield 7, 3) := by decide +kernel
theorem dX7_driveAt_12 : decode cX7_driveAt 12 = .ok (.sipush 1608, 3) := by decide +kernel
theorem dX7_driveAt_15 : decode cX7_driveAt 15 = .ok (.iload_n 1, 1) := by decide +kernel
theorem dX7_driveAt_16 : decode cX7_driveAt 16 = .ok (.iadd, 1) := by decide +kernel
theorem dX7_driveAt_17 : decode cX7_driveAt 17 = .ok (.iaload, 1) := by decide +kernel
theorem dX7_driveAt_18 : decode cX7_driveAt 18 = .ok (.goto 4, 3) := by decide +kernel
theorem dX7_driveAt_21 : decode cX7_driveAt 21 = .ok (.iconst (-1), 1) := by decide +kernel
theorem dX7_driveAt_22 : decode cX7_driveAt 22 = .ok (.ireturn, 1) := by decide +kernel
theorem dX7_notchedBy_0 : decode cX7_notchedBy 0 = .ok (.aload_n 0, 1) := by decide +kernel
theorem dX7_notchedBy_1 : decode cX7_notchedBy 1 = .ok (.iload_n 1, 1) := by decide +kernel
theorem dX7_notchedBy_2 : decode cX7_notchedBy 2 = .ok (.invokevirtual 109, 3) := by decide +kernel
theorem dX7_notchedBy_5 : decode cX7_notchedBy 5 = .ok (.ifCond .eq 16, 3) := by decide +kernel
theorem dX7_notchedBy_8 : decode cX7_notchedBy 8 = .ok (.aload_n 0, 1) := by decide +kernel
theorem dX7_notchedBy_9 : decode cX7_notchedBy 9 = .ok (.getfield 7, 3) := by decide +kernel
theorem dX7_notchedBy_12 : decode cX7_notchedBy 12 = .ok (.sipush 1708, 3) := by decide +kernel
theorem dX7_notchedBy_15 : decode cX7_notchedBy 15 = .ok (.iload_n 1, 1) := by decide +kernel
theorem dX7_notchedBy_16 : decode cX7_notchedBy 16 = .ok (.iadd, 1) := by decide +kernel
theorem dX7_notchedBy_17 : decode cX7_notchedBy 17 = .ok (.iaload, 1) := by decide +kernel
theorem dX7_notchedBy_18 : decode cX7_notchedBy 18 = .ok (.goto 4, 3) := by decide +kernel
theorem dX7_notchedBy_21 : decode cX7_notchedBy 21 = .ok (.iconst (-1), 1) := by decide +kernel
theorem dX7_notchedBy_22 : decode cX7_notchedBy 22 = .ok (.ireturn, 1) := by decide +kernel
theorem dX7_gainAt_0 : decode cX7_gainAt 0 = .ok (.aload_n 0, 1) := by decide +kernel
theorem dX7_gainAt_1 : decode cX7_gainAt 1 = .ok (.iload_n 1, 1) := by decide +kernel
theorem dX7_gainAt_2 : decode cX7_gainAt 2 = .ok (.invokevirtual 109, 3) := by decide +kernel
theorem dX7_gainAt_5 : decode cX7_gainAt 5 = .ok (.ifCond .eq 21, 3) := by decide +kernel
theorem dX7_gainAt_8 : decode cX7_gainAt 8 = .ok (.aload_n 0, 1) := by decide +kernel
theorem dX7_gainAt_9 : decode cX7_gainAt 9 = .ok (.getfield 7, 3) := by decide +kernel
theorem dX7_gainAt_12 : decode cX7_gainAt 12 = .ok (.sipush 908, 3) := by decide +kernel
theorem dX7_gainAt_15 : decode cX7_gainAt 15 = .ok (.bipush 6, 2) := by decide +kernel
theorem dX7_gainAt_17 : decode cX7_gainAt 17 = .ok (.iload_n 1, 1) := by decide +kernel
theorem dX7_gainAt_18 : decode cX7_gainAt 18 = .ok (.imul, 1) := by decide +kernel
theorem dX7_gainAt_19 : decode cX7_gainAt 19 = .ok (.iadd, 1) := by decide +kernel
theorem dX7_gainAt_20 : decode cX7_gainAt 20 = .ok (.iload_n 2, 1) := by decide +kernel
theorem dX7_gainAt_21 : decode cX7_gainAt 21 = .ok (.iadd, 1) := by decide +kernel
theorem dX7_gainAt_22 : decode cX7_gainAt 22 = .ok (.iaload, 1) := by decide +kernel
theorem dX7_gainAt_23 : decode cX7_gainAt 23 = .ok (.goto 5, 3) := by decide +kernel
theorem dX7_gainAt_26 : decode cX7_gainAt 26 = .ok (.bipush (-6), 2) := by decide +kernel
theorem dX7_gainAt_28 : decode cX7_gainAt 28 = .ok (.ireturn, 1) := by decide +kernel
theorem dX7_isResonance_0 : decode cX7_isResonance 0 = .ok (.aload_n 0, 1) := by decide +kernel
theorem dX7_isResonance_1 : decode cX7_isResonance 1 = .ok (.iload_n 1, 1) := by decide +kernel
theorem dX7_isResonance_2 : decode cX7_isResonance 2 = .ok (.iload_n 2, 1) := by decide +kernel
theorem dX7_isResonance_3 : decode cX7_isResonance 3 = .ok (.invokevirtual 171, 3) := by decide +kernel
theorem dX7_isResonance_6 : decode cX7_isResonance 6 = .ok (.istore_n 3, 1) := by decide +kernel
theorem dX7_isResonance_7 : decode cX7_isResonance 7 = .ok (.iload_n 3, 1) := by decide +kernel
theorem dX7_isResonance_8 : decode cX7_isResonance 8 = .ok (.bipush (-6), 2) := by decide +kernel
theorem dX7_isResonance_10 : decode cX7_isResonance 10 = .ok (.if_icmp .eq 31, 3) := by decide +kernel
theorem dX7_isResonance_13 : decode cX7_isResonance 13 = .ok (.iload_n 3, 1) := by decide +kernel
theorem dX7_isResonance_14 : decode cX7_isResonance 14 = .ok (.aload_n 0, 1) := by decide +kernel
theorem dX7_isResonance_15 : decode cX7_isResonance 15 = .ok (.iload_n 1, 1) := by decide +kernel
theorem dX7_isResonance_16 : decode cX7_isResonance 16 = .ok (.iconst 1, 1) := by decide +kernel
theorem dX7_isResonance_17 : decode cX7_isResonance 17 = .ok (.isub, 1) := by decide +kernel
theorem dX7_isResonance_18 : decode cX7_isResonance 18 = .ok (.iload_n 2, 1) := by decide +kernel
theorem dX7_isResonance_19 : decode cX7_isResonance 19 = .ok (.invokevirtual 171, 3) := by decide +kernel
theorem dX7_isResonance_22 : decode cX7_isResonance 22 = .ok (.if_icmp .le 19, 3) := by decide +kernel
theorem dX7_isResonance_25 : decode cX7_isResonance 25 = .ok (.iload_n 3, 1) := by decide +kernel
theorem dX7_isResonance_26 : decode cX7_isResonance 26 = .ok (.aload_n 0, 1) := by decide +kernel
theorem dX7_isResonance_27 : decode cX7_isResonance 27 = .ok (.iload_n 1, 1) := by decide +kernel
theorem dX7_isResonance_28 : decode cX7_isResonance 28 = .ok (.iconst 1, 1) := by decide +kernel
theorem dX7_isResonance_29 : decode cX7_isResonance 29 = .ok (.iadd, 1) := by decide +kernel
theorem dX7_isResonance_30 : decode cX7_isResonance 30 = .ok (.iload_n 2, 1) := by decide +kernel
theorem dX7_isResonance_31 : decode cX7_isResonance 31 = .ok (.invokevirtual 171, 3) := by decide +kernel
theorem dX7_isResonance_34 : decode cX7_isResonance 34 = .ok (.if_icmp .le 7, 3) := by decide +kernel
theorem dX7_isResonance_37 : decode cX7_isResonance 37 = .ok (.iconst 1, 1) := by decide +kernel
theorem dX7_isResonance_38 : decode cX7_isResonance 38 = .ok (.goto 4, 3) := by decide +kernel
theorem dX7_isResonance_41 : decode cX7_isResonance 41 = .ok (.iconst 0, 1) := by decide +kernel
theorem dX7_isResonance_42 : decode cX7_isResonance 42 = .ok (.ireturn, 1) := by decide +kernel
theorem dX7_resonance_0 : decode cX7_resonance 0 = .ok (.aload_n 0, 1) := by decide +kernel
theorem dX7_resonance_1 : decode cX7_resonance 1 = .ok (.iload_n 1, 1) := by decide +kernel
theorem dX7_resonance_2 : decode cX7_resonance 2 = .ok (.invokevirtual 58, 3) := by decide +kernel
theorem dX7_resonance_5 : decode cX7_resonance 5 = .ok (.ifCond .ne 5, 3) := by decide +kernel
theorem dX7_resonance_8 : decode cX7_resonance 8 = .ok (.iconst (-1), 1) := by decide +kernel
theorem dX7_resonance_9 : decode cX7_resonance 9 = .ok (.ireturn, 1) := by decide +kernel
theorem dX7_resonance_10 : decode cX7_resonance 10 = .ok (.iload_n 2, 1) := by decide +kernel
theorem dX7_resonance_11 : decode cX7_resonance 11 = .ok (.ifCond .ge 6, 3) := by decide +kernel
theorem dX7_resonance_14 : decode cX7_resonance 14 = .ok (.bipush (-2), 2) := by decide +kernel
theorem dX7_resonance_16 : decode cX7_resonance 16 = .ok (.ireturn, 1) := by decide +kernel
theorem dX7_resonance_17 : decode cX7_resonance 17 = .ok (.iconst 0, 1) := by decide +kernel
theorem dX7_resonance_18 : decode cX7_resonance 18 = .ok (.istore_n 3, 1) := by decide +kernel
theorem dX7_resonance_19 : decode cX7_resonance 19 = .ok (.iload_n 3, 1) := by decide +kernel
theorem dX7_resonance_20 : decode cX7_resonance 20 = .ok (.aload_n 0, 1) := by decide +kernel
theorem dX7_resonance_21 : decode cX7_resonance 21 = .ok (.getfield 7, 3) := by decide +kernel
theorem dX7_resonance_24 : decode cX7_resonance 24 = .ok (.iconst 0, 1) := by decide +kernel
theorem dX7_resonance_25 : decode cX7_resonance 25 = .ok (.iaload, 1) := by decide +kernel
theorem dX7_resonance_26 : decode cX7_resonance 26 = .ok (.if_icmp .ge 101, 3) := by decide +kernel
theorem dX7_resonance_29 : decode cX7_resonance 29 = .ok (.iconst 0, 1) := by decide +kernel
theorem dX7_resonance_30 : decode cX7_resonance 30 = .ok (.istore 4, 2) := by decide +kernel
theorem dX7_resonance_32 : decode cX7_resonance 32 = .ok (.iconst 0, 1) := by decide +kernel
theorem dX7_resonance_33 : decode cX7_resonance 33 = .ok (.istore 5, 2) := by decide +kernel
theorem dX7_resonance_35 : decode cX7_resonance 35 = .ok (.iload 5, 2) := by decide +kernel
theorem dX7_resonance_37 : decode cX7_resonance 37 = .ok (.aload_n 0, 1) := by decide +kernel
theorem dX7_resonance_38 : decode cX7_resonance 38 = .ok (.getfield 7, 3) := by decide +kernel
theorem dX7_resonance_41 : decode cX7_resonance 41 = .ok (.iconst 0, 1) := by decide +kernel
theorem dX7_resonance_42 : decode cX7_resonance 42 = .ok (.iaload, 1) := by decide +kernel
theorem dX7_resonance_43 : decode cX7_resonance 43 = .ok (.if_icmp .ge 61, 3) := by decide +kernel
theorem dX7_resonance_46 : decode cX7_resonance 46 = .ok (.aload_n 0, 1) := by decide +kernel
theorem dX7_resonance_47 : decode cX7_resonance 47 = .ok (.iload 5, 2) := by decide +kernel
theorem dX7_resonance_49 : decode cX7_resonance 49 = .ok (.iload_n 1, 1) := by decide +kernel
theorem dX7_resonance_50 : decode cX7_resonance 50 = .ok (.invokevirtual 171, 3) := by decide +kernel
theorem dX7_resonance_53 : decode cX7_resonance 53 = .ok (.aload_n 0, 1) := by decide +kernel
theorem dX7_resonance_54 : decode cX7_resonance 54 = .ok (.iload_n 3, 1) := by decide +kernel
theorem dX7_resonance_55 : decode cX7_resonance 55 = .ok (.iload_n 1, 1) := by decide +kernel
theorem dX7_resonance_56 : decode cX7_resonance 56 = .ok (.invokevirtual 171, 3) := by decide +kernel
theorem dX7_resonance_59 : decode cX7_resonance 59 = .ok (.isub, 1) := by decide +kernel
theorem dX7_resonance_60 : decode cX7_resonance 60 = .ok (.istore 6, 2) := by decide +kernel
theorem dX7_resonance_62 : decode cX7_resonance 62 = .ok (.iload 4, 2) := by decide +kernel
theorem dX7_resonance_64 : decode cX7_resonance 64 = .ok (.aload_n 0, 1) := by decide +kernel
theorem dX7_resonance_65 : decode cX7_resonance 65 = .ok (.iload 5, 2) := by decide +kernel
theorem dX7_resonance_67 : decode cX7_resonance 67 = .ok (.iload_n 1, 1) := by decide +kernel
theorem dX7_resonance_68 : decode cX7_resonance 68 = .ok (.invokevirtual 174, 3) := by decide +kernel
theorem dX7_resonance_71 : decode cX7_resonance 71 = .ok (.ifCond .eq 23, 3) := by decide +kernel
theorem dX7_resonance_74 : decode cX7_resonance 74 = .ok (.iload 6, 2) := by decide +kernel
theorem dX7_resonance_76 : decode cX7_resonance 76 = .ok (.ifCond .gt 14, 3) := by decide +kernel
theorem dX7_resonance_79 : decode cX7_resonance 79 = .ok (.iload 6, 2) := by decide +kernel
theorem dX7_resonance_81 : decode cX7_resonance 81 = .ok (.ifCond .ne 13, 3) := by decide +kernel
theorem dX7_resonance_84 : decode cX7_resonance 84 = .ok (.iload 5, 2) := by decide +kernel
theorem dX7_resonance_86 : decode cX7_resonance 86 = .ok (.iload_n 3, 1) := by decide +kernel
theorem dX7_resonance_87 : decode cX7_resonance 87 = .ok (.if_icmp .ge 7, 3) := by decide +kernel
theorem dX7_resonance_90 : decode cX7_resonance 90 = .ok (.iconst 1, 1) := by decide +kernel
theorem dX7_resonance_91 : decode cX7_resonance 91 = .ok (.goto 4, 3) := by decide +kernel
theorem dX7_resonance_94 : decode cX7_resonance 94 = .ok (.iconst 0, 1) := by decide +kernel
theorem dX7_resonance_95 : decode cX7_resonance 95 = .ok (.iadd, 1) := by decide +kernel
theorem dX7_resonance_96 : decode cX7_resonance 96 = .ok (.istore 4, 2) := by decide +kernel
theorem dX7_resonance_98 : decode cX7_resonance 98 = .ok (.iinc 5 1, 3) := by decide +kernel
theorem dX7_resonance_101 : decode cX7_resonance 101 = .ok (.goto (-66), 3) := by decide +kernel
theorem dX7_resonance_104 : decode cX7_resonance 104 = .ok (.aload_n 0, 1) := by decide +kernel
theorem dX7_resonance_105 : decode cX7_resonance 105 = .ok (.iload_n 3, 1) := by decide +kernel
theorem dX7_resonance_106 : decode cX7_resonance 106 = .ok (.iload_n 1, 1) := by decide +kernel
theorem dX7_resonance_107 : decode cX7_resonance 107 = .ok (.invokevirtual 174, 3) := by decide +kernel
theorem dX7_resonance_110 : decode cX7_resonance 110 = .ok (.ifCond .eq 11, 3) := by decide +kernel
theorem dX7_resonance_113 : decode cX7_resonance 113 = .ok (.iload 4, 2) := by decide +kernel
theorem dX7_resonance_115 : decode cX7_resonance 115 = .ok (.iload_n 2, 1) := by decide +kernel
theorem dX7_resonance_116 : decode cX7_resonance 116 = .ok (.if_icmp .ne 5, 3) := by decide +kernel
theorem dX7_resonance_119 : decode cX7_resonance 119 = .ok (.iload_n 3, 1) := by decide +kernel
theorem dX7_resonance_120 : decode cX7_resonance 120 = .ok (.ireturn, 1) := by decide +kernel
theorem dX7_resonance_121 : decode cX7_resonance 121 = .ok (.iinc 3 1, 3) := by decide +kernel
theorem dX7_resonance_124 : decode cX7_resonance 124 = .ok (.goto (-105), 3) := by decide +kernel
theorem dX7_resonance_127 : decode cX7_resonance 127 = .ok (.bipush (-6), 2) := by decide +kernel
theorem dX7_resonance_129 : decode cX7_resonance 129 = .ok (.ireturn, 1) := by decide +kernel
theorem dX7_total_0 : decode cX7_total 0 = .ok (.iload_n 1, 1) := by decide +kernel
theorem dX7_total_1 : decode cX7_total 1 = .ok (.iconst 0, 1) := by decide +kernel
theorem dX7_total_2 : decode cX7_total 2 = .ok (.bipush 19, 2) := by decide +kernel
theorem dX7_total_4 : decode cX7_total 4 = .ok (.invokestatic 41, 3) := by decide +kernel
theorem dX7_total_7 : decode cX7_total 7 = .ok (.ifCond .ne 6, 3) := by decide +kernel
theorem dX7_total_10 : decode cX7_total 10 = .ok (.bipush (-2), 2) := by decide +kernel
theorem dX7_total_12 : decode cX7_total 12 = .ok (.ireturn, 1) := by decide +kernel
theorem dX7_total_13 : decode cX7_total 13 = .ok (.iload_n 1, 1) := by decide +kernel
theorem dX7_total_14 : decode cX7_total 14 = .ok (.tableswitch 122 0 13 #[70, 77, 98, 105, 122, 122, 122, 122, 122, 122, 122, 122, 112, 117], 70) := by decide +kernel
theorem dX7_total_84 : decode cX7_total 84 = .ok (.aload_n 0, 1) := by decide +kernel
theorem dX7_total_85 : decode cX7_total 85 = .ok (.getfield 7, 3) := by decide +kernel
theorem dX7_total_88 : decode cX7_total 88 = .ok (.iconst 1, 1) := by decide +kernel
theorem dX7_total_89 : decode cX7_total 89 = .ok (.iaload, 1) := by decide +kernel
theorem dX7_total_90 : decode cX7_total 90 = .ok (.ireturn, 1) := by decide +kernel
theorem dX7_total_91 : decode cX7_total 91 = .ok (.aload_n 0, 1) := by decide +kernel
theorem dX7_total_92 : decode cX7_total 92 = .ok (.getfield 7, 3) := by decide +kernel
theorem dX7_total_95 : decode cX7_total 95 = .ok (.iconst 1, 1) := by decide +kernel
theorem dX7_total_96 : decode cX7_total 96 = .ok (.iaload, 1) := by decide +kernel
theorem dX7_total_97 : decode cX7_total 97 = .ok (.ifCond .ne 8, 3) := by decide +kernel
theorem dX7_total_100 : decode cX7_total 100 = .ok (.bipush (-6), 2) := by decide +kernel
theorem dX7_total_102 : decode cX7_total 102 = .ok (.goto 9, 3) := by decide +kernel
theorem dX7_total_105 : decode cX7_total 105 = .ok (.aload_n 0, 1) := by decide +kernel
theorem dX7_total_106 : decode cX7_total 106 = .ok (.getfield 7, 3) := by decide +kernel
theorem dX7_total_109 : decode cX7_total 109 = .ok (.iconst 2, 1) := by decide +kernel
theorem dX7_total_110 : decode cX7_total 110 = .ok (.iaload, 1) := by decide +kernel
theorem dX7_total_111 : decode cX7_total 111 = .ok (.ireturn, 1) := by decide +kernel
theorem dX7_total_112 : decode cX7_total 112 = .ok (.aload_n 0, 1) := by decide +kernel
theorem dX7_total_113 : decode cX7_total 113 = .ok (.getfield 7, 3) := by decide +kernel
theorem dX7_total_116 : decode cX7_total 116 = .ok (.iconst 3, 1) := by decide +kernel
theorem dX7_total_117 : decode cX7_total 117 = .ok (.iaload, 1) := by decide +kernel
theorem dX7_total_118 : decode cX7_total 118 = .ok (.ireturn, 1) := by decide +kernel
theorem dX7_total_119 : decode cX7_total 119 = .ok (.aload_n 0, 1) := by decide +kernel
theorem dX7_total_120 : decode cX7_total 120 = .ok (.getfield 7, 3) := by decide +kernel
theorem dX7_total_123 : decode cX7_total 123 = .ok (.iconst 0, 1) := by decide +kernel
theorem dX7_total_124 : decode cX7_total 124 = .ok (.iaload, 1) := by decide +kernel
theorem dX7_total_125 : decode cX7_total 125 = .ok (.ireturn, 1) := by decide +kernel
theorem dX7_total_126 : decode cX7_total 126 = .ok (.aload_n 0, 1) := by decide +kernel
theorem dX7_total_127 : decode cX7_total 127 = .ok (.getfield 29, 3) := by decide +kernel
theorem dX7_total_130 : decode cX7_total 130 = .ok (.ireturn, 1) := by decide +kernel
theorem dX7_total_131 : decode cX7_total 131 = .ok (.aload_n 0, 1) := by decide +kernel
theorem dX7_total_132 : decode cX7_total 132 = .ok (.getfield 140, 3) := by decide +kernel
theorem dX7_total_135 : decode cX7_total 135 = .ok (.ireturn, 1) := by decide +kernel
theorem dX7_total_136 : decode cX7_total 136 = .ok (.iload_n 1, 1) := by decide +kernel
theorem dX7_total_137 : decode cX7_total 137 = .ok (.bipush 13, 2) := by decide +kernel
theorem dX7_total_139 : decode cX7_total 139 = .ok (.if_icmp .le 14, 3) := by decide +kernel
theorem dX7_total_142 : decode cX7_total 142 = .ok (.aload_n 0, 1) := by decide +kernel
theorem dX7_total_143 : decode cX7_total 143 = .ok (.iload_n 1, 1) := by decide +kernel
theorem dX7_total_144 : decode cX7_total 144 = .ok (.bipush 14, 2) := by decide +kernel
theorem dX7_total_146 : decode cX7_total 146 = .ok (.isub, 1) := by decide +kernel
theorem dX7_total_147 : decode cX7_total 147 = .ok (.invokevirtual 78, 3) := by decide +kernel
theorem dX7_total_150 : decode cX7_total 150 = .ok (.goto 9, 3) := by decide +kernel
theorem dX7_total_153 : decode cX7_total 153 = .ok (.aload_n 0, 1) := by decide +kernel
theorem dX7_total_154 : decode cX7_total 154 = .ok (.getfield 7, 3) := by decide +kernel
theorem dX7_total_157 : decode cX7_total 157 = .ok (.iload_n 1, 1) := by decide +kernel
theorem dX7_total_158 : decode cX7_total 158 = .ok (.iaload, 1) := by decide +kernel
theorem dX7_total_159 : decode cX7_total 159 = .ok (.ireturn, 1) := by decide +kernel
theorem dX7_putAside_0 : decode cX7_putAside 0 = .ok (.aload_n 0, 1) := by decide +kernel
theorem dX7_putAside_1 : decode cX7_putAside 1 = .ok (.iconst 0, 1) := by decide +kernel
theorem dX7_putAside_2 : decode cX7_putAside 2 = .ok (.sipush 14464, 3) := by decide +kernel
theorem dX7_putAside_5 : decode cX7_putAside 5 = .ok (.invokevirtual 33, 3) := by decide +kernel
theorem dX7_putAside_8 : decode cX7_putAside 8 = .ok (.return_, 1) := by decide +kernel
theorem dX7_comesBack_0 : decode cX7_comesBack 0 = .ok (.aload_n 0, 1) := by decide +kernel
theorem dX7_comesBack_1 : decode cX7_comesBack 1 = .ok (.sipush 14464, 3) := by decide +kernel
theorem dX7_comesBack_4 : decode cX7_comesBack 4 = .ok (.iconst 0, 1) := by decide +kernel
theorem dX7_comesBack_5 : decode cX7_comesBack 5 = .ok (.invokevirtual 33, 3) := by decide +kernel
theorem dX7_comesBack_8 : decode cX7_comesBack 8 = .ok (.return_, 1) := by decide +kernel
theorem dX7_loopsLeft_0 : decode cX7_loopsLeft 0 = .ok (.aload_n 0, 1) := by decide +kernel
theorem dX7_loopsLeft_1 : decode cX7_loopsLeft 1 = .ok (.invokevirtual 177, 3) := by decide +kernel
theorem dX7_loopsLeft_4 : decode cX7_loopsLeft 4 = .ok (.aload_n 0, 1) := by decide +kernel
theorem dX7_loopsLeft_5 : decode cX7_loopsLeft 5 = .ok (.sipush 500, 3) := by decide +kernel
theorem dX7_loopsLeft_8 : decode cX7_loopsLeft 8 = .ok (.invokevirtual 127, 3) := by decide +kernel
theorem dX7_loopsLeft_11 : decode cX7_loopsLeft 11 = .ok (.istore_n 1, 1) := by decide +kernel
theorem dX7_loopsLeft_12 : decode cX7_loopsLeft 12 = .ok (.aload_n 0, 1) := by decide +kernel
theorem dX7_loopsLeft_13 : decode cX7_loopsLeft 13 = .ok (.invokevirtual 45, 3) := by decide +kernel
theorem dX7_loopsLeft_16 : decode cX7_loopsLeft 16 = .ok (.istore_n 2, 1) := by decide +kernel
theorem dX7_loopsLeft_17 : decode cX7_loopsLeft 17 = .ok (.aload_n 0, 1) := by decide +kernel
theorem dX7_loopsLeft_18 : decode cX7_loopsLeft 18 = .ok (.invokevirtual 180, 3) := by decide +kernel
theorem dX7_loopsLeft_21 : decode cX7_loopsLeft 21 = .ok (.iload_n 2, 1) := by decide +kernel
theorem dX7_loopsLeft_22 : decode cX7_loopsLeft 22 = .ok (.ifCond .eq 7, 3) := by decide +kernel
theorem dX7_loopsLeft_25 : decode cX7_loopsLeft 25 = .ok (.iload_n 1, 1) := by decide +kernel
theorem dX7_loopsLeft_26 : decode cX7_loopsLeft 26 = .ok (.goto 5, 3) := by decide +kernel
theorem dX7_loopsLeft_29 : decode cX7_loopsLeft 29 = .ok (.bipush (-6), 2) := by decide +kernel
theorem dX7_loopsLeft_31 : decode cX7_loopsLeft 31 = .ok (.ireturn, 1) := by decide +kernel
theorem dX7_wouldAbort_0 : decode cX7_wouldAbort 0 = .ok (.iload_n 1, 1) := by decide +kernel
theorem dX7_wouldAbort_1 : decode cX7_wouldAbort 1 = .ok (.iconst 1, 1) := by decide +kernel
theorem dX7_wouldAbort_2 : decode cX7_wouldAbort 2 = .ok (.sipush 300, 3) := by decide +kernel
theorem dX7_wouldAbort_5 : decode cX7_wouldAbort 5 = .ok (.invokestatic 41, 3) := by decide +kernel
theorem dX7_wouldAbort_8 : decode cX7_wouldAbort 8 = .ok (.ifCond .ne 6, 3) := by decide +kernel
theorem dX7_wouldAbort_11 : decode cX7_wouldAbort 11 = .ok (.bipush (-2), 2) := by decide +kernel
theorem dX7_wouldAbort_13 : decode cX7_wouldAbort 13 = .ok (.ireturn, 1) := by decide +kernel
theorem dX7_wouldAbort_14 : decode cX7_wouldAbort 14 = .ok (.aload_n 0, 1) := by decide +kernel
theorem dX7_wouldAbort_15 : decode cX7_wouldAbort 15 = .ok (.invokevirtual 134, 3) := by decide +kernel
theorem dX7_wouldAbort_18 : decode cX7_wouldAbort 18 = .ok (.ifCond .ne 6, 3) := by decide +kernel
theorem dX7_wouldAbort_21 : decode cX7_wouldAbort 21 = .ok (.bipush (-6), 2) := by decide +kernel
theorem dX7_wouldAbort_23 : decode cX7_wouldAbort 23 = .ok (.ireturn, 1) := by decide +kernel
theorem dX7_wouldAbort_24 : decode cX7_wouldAbort 24 = .ok (.aload_n 0, 1) := by decide +kernel
theorem dX7_wouldAbort_25 : decode cX7_wouldAbort 25 = .ok (.invokevirtual 177, 3) := by decide +kernel
theorem dX7_wouldAbort_28 : decode cX7_wouldAbort 28 = .ok (.iconst 0, 1) := by decide +kernel
theorem dX7_wouldAbort_29 : decode cX7_wouldAbort 29 = .ok (.istore_n 2, 1) := by decide +kernel
theorem dX7_wouldAbort_30 : decode cX7_wouldAbort 30 = .ok (.iload_n 2, 1) := by decide +kernel
theorem dX7_wouldAbort_31 : decode cX7_wouldAbort 31 = .ok (.iload_n 1, 1) := by decide +kernel
theorem dX7_wouldAbort_32 : decode cX7_wouldAbort 32 = .ok (.if_icmp .ge 20, 3) := by decide +kernel
theorem dX7_wouldAbort_35 : decode cX7_wouldAbort 35 = .ok (.aload_n 0, 1) := by decide +kernel
theorem dX7_wouldAbort_36 : decode cX7_wouldAbort 36 = .ok (.invokevirtual 134, 3) := by decide +kernel
theorem dX7_wouldAbort_39 : decode cX7_wouldAbort 39 = .ok (.ifCond .eq 13, 3) := by decide +kernel
theorem dX7_wouldAbort_42 : decode cX7_wouldAbort 42 = .ok (.aload_n 0, 1) := by decide +kernel
theorem dX7_wouldAbort_43 : decode cX7_wouldAbort 43 = .ok (.invokevirtual 124, 3) := by decide +kernel
theorem dX7_wouldAbort_46 : decode cX7_wouldAbort 46 = .ok (.iinc 2 1, 3) := by decide +kernel
theorem dX7_wouldAbort_49 : decode cX7_wouldAbort 49 = .ok (.goto (-19), 3) := by decide +kernel
theorem dX7_wouldAbort_52 : decode cX7_wouldAbort 52 = .ok (.aload_n 0, 1) := by decide +kernel
theorem dX7_wouldAbort_53 : decode cX7_wouldAbort 53 = .ok (.getfield 7, 3) := by decide +kernel
theorem dX7_wouldAbort_56 : decode cX7_wouldAbort 56 = .ok (.iconst 1, 1) := by decide +kernel
theorem dX7_wouldAbort_57 : decode cX7_wouldAbort 57 = .ok (.iaload, 1) := by decide +kernel
theorem dX7_wouldAbort_58 : decode cX7_wouldAbort 58 = .ok (.iconst 3, 1) := by decide +kernel
theorem dX7_wouldAbort_59 : decode cX7_wouldAbort 59 = .ok (.if_icmp .ne 13, 3) := by decide +kernel
theorem dX7_wouldAbort_62 : decode cX7_wouldAbort 62 = .ok (.aload_n 0, 1) := by decide +kernel
theorem dX7_wouldAbort_63 : decode cX7_wouldAbort 63 = .ok (.getfield 7, 3) := by decide +kernel
theorem dX7_wouldAbort_66 : decode cX7_wouldAbort 66 = .ok (.bipush 9, 2) := by decide +kernel
theorem dX7_wouldAbort_68 : decode cX7_wouldAbort 68 = .ok (.iaload, 1) := by decide +kernel
theorem dX7_wouldAbort_69 : decode cX7_wouldAbort 69 = .ok (.goto 5, 3) := by decide +kernel
theorem dX7_wouldAbort_72 : decode cX7_wouldAbort 72 = .ok (.bipush (-6), 2) := by decide +kernel
theorem dX7_wouldAbort_74 : decode cX7_wouldAbort 74 = .ok (.istore_n 2, 1) := by decide +kernel
theorem dX7_wouldAbort_75 : decode cX7_wouldAbort 75 = .ok (.aload_n 0, 1) := by decide +kernel
theorem dX7_wouldAbort_76 : decode cX7_wouldAbort 76 = .ok (.invokevirtual 180, 3) := by decide +kernel
theorem dX7_wouldAbort_79 : decode cX7_wouldAbort 79 = .ok (.iload_n 2, 1) := by decide +kernel
theorem dX7_wouldAbort_80 : decode cX7_wouldAbort 80 = .ok (.ireturn, 1) := by decide +kernel
theorem dX7_highest_0 : decode cX7_highest 0 = .ok (.aload_n 0, 1) := by decide +kernel
theorem dX7_highest_1 : decode cX7_highest 1 = .ok (.iload_n 1, 1) := by decide +kernel
theorem dX7_highest_2 : decode cX7_highest 2 = .ok (.invokevirtual 58, 3) := by decide +kernel
theorem dX7_highest_5 : decode cX7_highest 5 = .ok (.ifCond .ne 5, 3) := by decide +kernel
theorem dX7_highest_8 : decode cX7_highest 8 = .ok (.iconst (-1), 1) := by decide +kernel
theorem dX7_highest_9 : decode cX7_highest 9 = .ok (.ireturn, 1) := by decide +kernel
theorem dX7_highest_10 : decode cX7_highest 10 = .ok (.iload_n 2, 1) := by decide +kernel
theorem dX7_highest_11 : decode cX7_highest 11 = .ok (.iconst 1, 1) := by decide +kernel
theorem dX7_highest_12 : decode cX7_highest 12 = .ok (.sipush 300, 3) := by decide +kernel
theorem dX7_highest_15 : decode cX7_highest 15 = .ok (.invokestatic 41, 3) := by decide +kernel
theorem dX7_highest_18 : decode cX7_highest 18 = .ok (.ifCond .ne 6, 3) := by decide +kernel
theorem dX7_highest_21 : decode cX7_highest 21 = .ok (.bipush (-2), 2) := by decide +kernel
theorem dX7_highest_23 : decode cX7_highest 23 = .ok (.ireturn, 1) := by decide +kernel
theorem dX7_highest_24 : decode cX7_highest 24 = .ok (.aload_n 0, 1) := by decide +kernel
theorem dX7_highest_25 : decode cX7_highest 25 = .ok (.invokevirtual 177, 3) := by decide +kernel
theorem dX7_highest_28 : decode cX7_highest 28 = .ok (.bipush (-6), 2) := by decide +kernel
theorem dX7_highest_30 : decode cX7_highest 30 = .ok (.istore_n 3, 1) := by decide +kernel
theorem dX7_highest_31 : decode cX7_highest 31 = .ok (.iconst 0, 1) := by decide +kernel
theorem dX7_highest_32 : decode cX7_highest 32 = .ok (.istore 4, 2) := by decide +kernel
theorem dX7_highest_34 : decode cX7_highest 34 = .ok (.iload 4, 2) := by decide +kernel
theorem dX7_highest_36 : decode cX7_highest 36 = .ok (.iload_n 2, 1) := by decide +kernel
theorem dX7_highest_37 : decode cX7_highest 37 = .ok (.if_icmp .ge 49, 3) := by decide +kernel
theorem dX7_highest_40 : decode cX7_highest 40 = .ok (.aload_n 0, 1) := by decide +kernel
theorem dX7_highest_41 : decode cX7_highest 41 = .ok (.invokevirtual 134, 3) := by decide +kernel
theorem dX7_highest_44 : decode cX7_highest 44 = .ok (.ifCond .eq 42, 3) := by decide +kernel
theorem dX7_highest_47 : decode cX7_highest 47 = .ok (.aload_n 0, 1) := by decide +kernel
theorem dX7_highest_48 : decode cX7_highest 48 = .ok (.getfield 7, 3) := by decide +kernel
theorem dX7_highest_51 : decode cX7_highest 51 = .ok (.iconst 2, 1) := by decide +kernel
theorem dX7_highest_52 : decode cX7_highest 52 = .ok (.iaload, 1) := by decide +kernel
theorem dX7_highest_53 : decode cX7_highest 53 = .ok (.istore 5, 2) := by decide +kernel
theorem dX7_highest_55 : decode cX7_highest 55 = .ok (.aload_n 0, 1) := by decide +kernel
theorem dX7_highest_56 : decode cX7_highest 56 = .ok (.invokevirtual 124, 3) := by decide +kernel
theorem dX7_highest_59 : decode cX7_highest 59 = .ok (.iload_n 3, 1) := by decide +kernel
theorem dX7_highest_60 : decode cX7_highest 60 = .ok (.aload_n 0, 1) := by decide +kernel
theorem dX7_highest_61 : decode cX7_highest 61 = .ok (.getfield 7, 3) := by decide +kernel
theorem dX7_highest_64 : decode cX7_highest 64 = .ok (.sipush 308, 3) := by decide +kernel
theorem dX7_highest_67 : decode cX7_highest 67 = .ok (.bipush 6, 2) := by decide +kernel
theorem dX7_highest_69 : decode cX7_highest 69 = .ok (.iload 5, 2) := by decide +kernel
theorem dX7_highest_71 : decode cX7_highest 71 = .ok (.imul, 1) := by decide +kernel
theorem dX7_highest_72 : decode cX7_highest 72 = .ok (.iadd, 1) := by decide +kernel
theorem dX7_highest_73 : decode cX7_highest 73 = .ok (.iload_n 1, 1) := by decide +kernel
theorem dX7_highest_74 : decode cX7_highest 74 = .ok (.iadd, 1) := by decide +kernel
theorem dX7_highest_75 : decode cX7_highest 75 = .ok (.iaload, 1) := by decide +kernel
theorem dX7_highest_76 : decode cX7_highest 76 = .ok (.invokestatic 100, 3) := by decide +kernel
theorem dX7_highest_79 : decode cX7_highest 79 = .ok (.istore_n 3, 1) := by decide +kernel
theorem dX7_highest_80 : decode cX7_highest 80 = .ok (.iinc 4 1, 3) := by decide +kernel
theorem dX7_highest_83 : decode cX7_highest 83 = .ok (.goto (-49), 3) := by decide +kernel
theorem dX7_highest_86 : decode cX7_highest 86 = .ok (.aload_n 0, 1) := by decide +kernel
theorem dX7_highest_87 : decode cX7_highest 87 = .ok (.invokevirtual 180, 3) := by decide +kernel
theorem dX7_highest_90 : decode cX7_highest 90 = .ok (.iload_n 3, 1) := by decide +kernel
theorem dX7_highest_91 : decode cX7_highest 91 = .ok (.ireturn, 1) := by decide +kernel
