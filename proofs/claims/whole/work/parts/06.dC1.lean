theorem dX7_limitOf_55 : decode cX7_limitOf 55 = .ok (.iload 4, 2) := by decide +kernel
theorem dX7_limitOf_57 : decode cX7_limitOf 57 = .ok (.imul, 1) := by decide +kernel
theorem dX7_limitOf_58 : decode cX7_limitOf 58 = .ok (.iadd, 1) := by decide +kernel
theorem dX7_limitOf_59 : decode cX7_limitOf 59 = .ok (.iconst 2, 1) := by decide +kernel
theorem dX7_limitOf_60 : decode cX7_limitOf 60 = .ok (.iadd, 1) := by decide +kernel
theorem dX7_limitOf_61 : decode cX7_limitOf 61 = .ok (.invokevirtual 65, 3) := by decide +kernel
theorem dX7_limitOf_64 : decode cX7_limitOf 64 = .ok (.istore 6, 2) := by decide +kernel
theorem dX7_limitOf_66 : decode cX7_limitOf 66 = .ok (.iload 5, 2) := by decide +kernel
theorem dX7_limitOf_68 : decode cX7_limitOf 68 = .ok (.ifCond .eq 20, 3) := by decide +kernel
theorem dX7_limitOf_71 : decode cX7_limitOf 71 = .ok (.iload_n 3, 1) := by decide +kernel
theorem dX7_limitOf_72 : decode cX7_limitOf 72 = .ok (.bipush (-6), 2) := by decide +kernel
theorem dX7_limitOf_74 : decode cX7_limitOf 74 = .ok (.if_icmp .eq 9, 3) := by decide +kernel
theorem dX7_limitOf_77 : decode cX7_limitOf 77 = .ok (.iload 6, 2) := by decide +kernel
theorem dX7_limitOf_79 : decode cX7_limitOf 79 = .ok (.iload_n 3, 1) := by decide +kernel
theorem dX7_limitOf_80 : decode cX7_limitOf 80 = .ok (.if_icmp .ge 8, 3) := by decide +kernel
theorem dX7_limitOf_83 : decode cX7_limitOf 83 = .ok (.iload 6, 2) := by decide +kernel
theorem dX7_limitOf_85 : decode cX7_limitOf 85 = .ok (.goto 4, 3) := by decide +kernel
theorem dX7_limitOf_88 : decode cX7_limitOf 88 = .ok (.iload_n 3, 1) := by decide +kernel
theorem dX7_limitOf_89 : decode cX7_limitOf 89 = .ok (.istore_n 3, 1) := by decide +kernel
theorem dX7_limitOf_90 : decode cX7_limitOf 90 = .ok (.iinc 4 1, 3) := by decide +kernel
theorem dX7_limitOf_93 : decode cX7_limitOf 93 = .ok (.goto (-87), 3) := by decide +kernel
theorem dX7_limitOf_96 : decode cX7_limitOf 96 = .ok (.iload_n 3, 1) := by decide +kernel
theorem dX7_limitOf_97 : decode cX7_limitOf 97 = .ok (.ireturn, 1) := by decide +kernel
theorem dX7_refusal_0 : decode cX7_refusal 0 = .ok (.iconst 0, 1) := by decide +kernel
theorem dX7_refusal_1 : decode cX7_refusal 1 = .ok (.istore_n 1, 1) := by decide +kernel
theorem dX7_refusal_2 : decode cX7_refusal 2 = .ok (.iconst 0, 1) := by decide +kernel
theorem dX7_refusal_3 : decode cX7_refusal 3 = .ok (.istore_n 2, 1) := by decide +kernel
theorem dX7_refusal_4 : decode cX7_refusal 4 = .ok (.iload_n 2, 1) := by decide +kernel
theorem dX7_refusal_5 : decode cX7_refusal 5 = .ok (.aload_n 0, 1) := by decide +kernel
theorem dX7_refusal_6 : decode cX7_refusal 6 = .ok (.getfield 7, 3) := by decide +kernel
theorem dX7_refusal_9 : decode cX7_refusal 9 = .ok (.iconst 5, 1) := by decide +kernel
theorem dX7_refusal_10 : decode cX7_refusal 10 = .ok (.iaload, 1) := by decide +kernel
theorem dX7_refusal_11 : decode cX7_refusal 11 = .ok (.if_icmp .ge 29, 3) := by decide +kernel
theorem dX7_refusal_14 : decode cX7_refusal 14 = .ok (.iload_n 1, 1) := by decide +kernel
theorem dX7_refusal_15 : decode cX7_refusal 15 = .ok (.ifCond .ne 13, 3) := by decide +kernel
theorem dX7_refusal_18 : decode cX7_refusal 18 = .ok (.aload_n 0, 1) := by decide +kernel
theorem dX7_refusal_19 : decode cX7_refusal 19 = .ok (.iload_n 2, 1) := by decide +kernel
theorem dX7_refusal_20 : decode cX7_refusal 20 = .ok (.iconst 0, 1) := by decide +kernel
theorem dX7_refusal_21 : decode cX7_refusal 21 = .ok (.invokevirtual 65, 3) := by decide +kernel
theorem dX7_refusal_24 : decode cX7_refusal 24 = .ok (.iconst 1, 1) := by decide +kernel
theorem dX7_refusal_25 : decode cX7_refusal 25 = .ok (.if_icmp .ne 7, 3) := by decide +kernel
theorem dX7_refusal_28 : decode cX7_refusal 28 = .ok (.iconst 1, 1) := by decide +kernel
theorem dX7_refusal_29 : decode cX7_refusal 29 = .ok (.goto 4, 3) := by decide +kernel
theorem dX7_refusal_32 : decode cX7_refusal 32 = .ok (.iconst 0, 1) := by decide +kernel
theorem dX7_refusal_33 : decode cX7_refusal 33 = .ok (.istore_n 1, 1) := by decide +kernel
theorem dX7_refusal_34 : decode cX7_refusal 34 = .ok (.iinc 2 1, 3) := by decide +kernel
theorem dX7_refusal_37 : decode cX7_refusal 37 = .ok (.goto (-33), 3) := by decide +kernel
theorem dX7_refusal_40 : decode cX7_refusal 40 = .ok (.aload_n 0, 1) := by decide +kernel
theorem dX7_refusal_41 : decode cX7_refusal 41 = .ok (.invokevirtual 45, 3) := by decide +kernel
theorem dX7_refusal_44 : decode cX7_refusal 44 = .ok (.ifCond .ne 7, 3) := by decide +kernel
theorem dX7_refusal_47 : decode cX7_refusal 47 = .ok (.iconst 1, 1) := by decide +kernel
theorem dX7_refusal_48 : decode cX7_refusal 48 = .ok (.goto 38, 3) := by decide +kernel
theorem dX7_refusal_51 : decode cX7_refusal 51 = .ok (.aload_n 0, 1) := by decide +kernel
theorem dX7_refusal_52 : decode cX7_refusal 52 = .ok (.getfield 7, 3) := by decide +kernel
theorem dX7_refusal_55 : decode cX7_refusal 55 = .ok (.iconst 0, 1) := by decide +kernel
theorem dX7_refusal_56 : decode cX7_refusal 56 = .ok (.iaload, 1) := by decide +kernel
theorem dX7_refusal_57 : decode cX7_refusal 57 = .ok (.ifCond .ne 7, 3) := by decide +kernel
theorem dX7_refusal_60 : decode cX7_refusal 60 = .ok (.iconst 2, 1) := by decide +kernel
theorem dX7_refusal_61 : decode cX7_refusal 61 = .ok (.goto 25, 3) := by decide +kernel
theorem dX7_refusal_64 : decode cX7_refusal 64 = .ok (.aload_n 0, 1) := by decide +kernel
theorem dX7_refusal_65 : decode cX7_refusal 65 = .ok (.getfield 7, 3) := by decide +kernel
theorem dX7_refusal_68 : decode cX7_refusal 68 = .ok (.iconst 4, 1) := by decide +kernel
theorem dX7_refusal_69 : decode cX7_refusal 69 = .ok (.iaload, 1) := by decide +kernel
theorem dX7_refusal_70 : decode cX7_refusal 70 = .ok (.ifCond .ne 7, 3) := by decide +kernel
theorem dX7_refusal_73 : decode cX7_refusal 73 = .ok (.iconst 3, 1) := by decide +kernel
theorem dX7_refusal_74 : decode cX7_refusal 74 = .ok (.goto 12, 3) := by decide +kernel
theorem dX7_refusal_77 : decode cX7_refusal 77 = .ok (.iload_n 1, 1) := by decide +kernel
theorem dX7_refusal_78 : decode cX7_refusal 78 = .ok (.ifCond .eq 7, 3) := by decide +kernel
theorem dX7_refusal_81 : decode cX7_refusal 81 = .ok (.iconst 0, 1) := by decide +kernel
theorem dX7_refusal_82 : decode cX7_refusal 82 = .ok (.goto 4, 3) := by decide +kernel
theorem dX7_refusal_85 : decode cX7_refusal 85 = .ok (.iconst 4, 1) := by decide +kernel
theorem dX7_refusal_86 : decode cX7_refusal 86 = .ok (.ireturn, 1) := by decide +kernel
theorem dX7_starts_0 : decode cX7_starts 0 = .ok (.aload_n 0, 1) := by decide +kernel
theorem dX7_starts_1 : decode cX7_starts 1 = .ok (.invokevirtual 23, 3) := by decide +kernel
theorem dX7_starts_4 : decode cX7_starts 4 = .ok (.aload_n 0, 1) := by decide +kernel
theorem dX7_starts_5 : decode cX7_starts 5 = .ok (.getfield 7, 3) := by decide +kernel
theorem dX7_starts_8 : decode cX7_starts 8 = .ok (.bipush 11, 2) := by decide +kernel
theorem dX7_starts_10 : decode cX7_starts 10 = .ok (.iconst 0, 1) := by decide +kernel
theorem dX7_starts_11 : decode cX7_starts 11 = .ok (.iastore, 1) := by decide +kernel
theorem dX7_starts_12 : decode cX7_starts 12 = .ok (.aload_n 0, 1) := by decide +kernel
theorem dX7_starts_13 : decode cX7_starts 13 = .ok (.getfield 7, 3) := by decide +kernel
theorem dX7_starts_16 : decode cX7_starts 16 = .ok (.iconst 1, 1) := by decide +kernel
theorem dX7_starts_17 : decode cX7_starts 17 = .ok (.iconst 1, 1) := by decide +kernel
theorem dX7_starts_18 : decode cX7_starts 18 = .ok (.iastore, 1) := by decide +kernel
theorem dX7_starts_19 : decode cX7_starts 19 = .ok (.aload_n 0, 1) := by decide +kernel
theorem dX7_starts_20 : decode cX7_starts 20 = .ok (.getfield 7, 3) := by decide +kernel
theorem dX7_starts_23 : decode cX7_starts 23 = .ok (.iconst 2, 1) := by decide +kernel
theorem dX7_starts_24 : decode cX7_starts 24 = .ok (.iconst 0, 1) := by decide +kernel
theorem dX7_starts_25 : decode cX7_starts 25 = .ok (.iastore, 1) := by decide +kernel
theorem dX7_starts_26 : decode cX7_starts 26 = .ok (.aload_n 0, 1) := by decide +kernel
theorem dX7_starts_27 : decode cX7_starts 27 = .ok (.getfield 7, 3) := by decide +kernel
theorem dX7_starts_30 : decode cX7_starts 30 = .ok (.iconst 3, 1) := by decide +kernel
theorem dX7_starts_31 : decode cX7_starts 31 = .ok (.iload_n 1, 1) := by decide +kernel
theorem dX7_starts_32 : decode cX7_starts 32 = .ok (.iastore, 1) := by decide +kernel
theorem dX7_starts_33 : decode cX7_starts 33 = .ok (.aload_n 0, 1) := by decide +kernel
theorem dX7_starts_34 : decode cX7_starts 34 = .ok (.getfield 7, 3) := by decide +kernel
theorem dX7_starts_37 : decode cX7_starts 37 = .ok (.sipush 1608, 3) := by decide +kernel
theorem dX7_starts_40 : decode cX7_starts 40 = .ok (.iload_n 1, 1) := by decide +kernel
theorem dX7_starts_41 : decode cX7_starts 41 = .ok (.iastore, 1) := by decide +kernel
theorem dX7_starts_42 : decode cX7_starts 42 = .ok (.return_, 1) := by decide +kernel
theorem dX7_start_0 : decode cX7_start 0 = .ok (.iload_n 1, 1) := by decide +kernel
theorem dX7_start_1 : decode cX7_start 1 = .ok (.iconst 1, 1) := by decide +kernel
theorem dX7_start_2 : decode cX7_start 2 = .ok (.sipush 1000, 3) := by decide +kernel
theorem dX7_start_5 : decode cX7_start 5 = .ok (.invokestatic 41, 3) := by decide +kernel
theorem dX7_start_8 : decode cX7_start 8 = .ok (.ifCond .ne 6, 3) := by decide +kernel
theorem dX7_start_11 : decode cX7_start 11 = .ok (.bipush (-2), 2) := by decide +kernel
theorem dX7_start_13 : decode cX7_start 13 = .ok (.ireturn, 1) := by decide +kernel
theorem dX7_start_14 : decode cX7_start 14 = .ok (.aload_n 0, 1) := by decide +kernel
theorem dX7_start_15 : decode cX7_start 15 = .ok (.invokevirtual 81, 3) := by decide +kernel
theorem dX7_start_18 : decode cX7_start 18 = .ok (.ifCond .eq 17, 3) := by decide +kernel
theorem dX7_start_21 : decode cX7_start 21 = .ok (.aload_n 0, 1) := by decide +kernel
theorem dX7_start_22 : decode cX7_start 22 = .ok (.getfield 7, 3) := by decide +kernel
theorem dX7_start_25 : decode cX7_start 25 = .ok (.bipush 11, 2) := by decide +kernel
theorem dX7_start_27 : decode cX7_start 27 = .ok (.aload_n 0, 1) := by decide +kernel
theorem dX7_start_28 : decode cX7_start 28 = .ok (.invokevirtual 81, 3) := by decide +kernel
theorem dX7_start_31 : decode cX7_start 31 = .ok (.iastore, 1) := by decide +kernel
theorem dX7_start_32 : decode cX7_start 32 = .ok (.bipush (-5), 2) := by decide +kernel
theorem dX7_start_34 : decode cX7_start 34 = .ok (.ireturn, 1) := by decide +kernel
theorem dX7_start_35 : decode cX7_start 35 = .ok (.aload_n 0, 1) := by decide +kernel
theorem dX7_start_36 : decode cX7_start 36 = .ok (.invokevirtual 53, 3) := by decide +kernel
theorem dX7_start_39 : decode cX7_start 39 = .ok (.aload_n 0, 1) := by decide +kernel
theorem dX7_start_40 : decode cX7_start 40 = .ok (.iload_n 1, 1) := by decide +kernel
theorem dX7_start_41 : decode cX7_start 41 = .ok (.invokevirtual 85, 3) := by decide +kernel
theorem dX7_start_44 : decode cX7_start 44 = .ok (.aload_n 0, 1) := by decide +kernel
theorem dX7_start_45 : decode cX7_start 45 = .ok (.getfield 7, 3) := by decide +kernel
theorem dX7_start_48 : decode cX7_start 48 = .ok (.iconst 0, 1) := by decide +kernel
theorem dX7_start_49 : decode cX7_start 49 = .ok (.iaload, 1) := by decide +kernel
theorem dX7_start_50 : decode cX7_start 50 = .ok (.ireturn, 1) := by decide +kernel
theorem dX7_averagedBy_0 : decode cX7_averagedBy 0 = .ok (.aload_n 0, 1) := by decide +kernel
theorem dX7_averagedBy_1 : decode cX7_averagedBy 1 = .ok (.iconst 1, 1) := by decide +kernel
theorem dX7_averagedBy_2 : decode cX7_averagedBy 2 = .ok (.invokevirtual 78, 3) := by decide +kernel
theorem dX7_averagedBy_5 : decode cX7_averagedBy 5 = .ok (.istore_n 3, 1) := by decide +kernel
theorem dX7_averagedBy_6 : decode cX7_averagedBy 6 = .ok (.iload_n 1, 1) := by decide +kernel
theorem dX7_averagedBy_7 : decode cX7_averagedBy 7 = .ok (.bipush (-6), 2) := by decide +kernel
theorem dX7_averagedBy_9 : decode cX7_averagedBy 9 = .ok (.if_icmp .ne 7, 3) := by decide +kernel
theorem dX7_averagedBy_12 : decode cX7_averagedBy 12 = .ok (.iload_n 2, 1) := by decide +kernel
theorem dX7_averagedBy_13 : decode cX7_averagedBy 13 = .ok (.goto 17, 3) := by decide +kernel
theorem dX7_averagedBy_16 : decode cX7_averagedBy 16 = .ok (.iload_n 1, 1) := by decide +kernel
theorem dX7_averagedBy_17 : decode cX7_averagedBy 17 = .ok (.i2l, 1) := by decide +kernel
theorem dX7_averagedBy_18 : decode cX7_averagedBy 18 = .ok (.iload_n 3, 1) := by decide +kernel
theorem dX7_averagedBy_19 : decode cX7_averagedBy 19 = .ok (.iconst 1, 1) := by decide +kernel
theorem dX7_averagedBy_20 : decode cX7_averagedBy 20 = .ok (.isub, 1) := by decide +kernel
theorem dX7_averagedBy_21 : decode cX7_averagedBy 21 = .ok (.i2l, 1) := by decide +kernel
theorem dX7_averagedBy_22 : decode cX7_averagedBy 22 = .ok (.lmul, 1) := by decide +kernel
theorem dX7_averagedBy_23 : decode cX7_averagedBy 23 = .ok (.iload_n 2, 1) := by decide +kernel
theorem dX7_averagedBy_24 : decode cX7_averagedBy 24 = .ok (.i2l, 1) := by decide +kernel
theorem dX7_averagedBy_25 : decode cX7_averagedBy 25 = .ok (.ladd, 1) := by decide +kernel
theorem dX7_averagedBy_26 : decode cX7_averagedBy 26 = .ok (.iload_n 3, 1) := by decide +kernel
theorem dX7_averagedBy_27 : decode cX7_averagedBy 27 = .ok (.i2l, 1) := by decide +kernel
theorem dX7_averagedBy_28 : decode cX7_averagedBy 28 = .ok (.ldiv, 1) := by decide +kernel
theorem dX7_averagedBy_29 : decode cX7_averagedBy 29 = .ok (.l2i, 1) := by decide +kernel
theorem dX7_averagedBy_30 : decode cX7_averagedBy 30 = .ok (.ireturn, 1) := by decide +kernel
theorem dX7_controlLevel_0 : decode cX7_controlLevel 0 = .ok (.lconst 0, 1) := by decide +kernel
theorem dX7_controlLevel_1 : decode cX7_controlLevel 1 = .ok (.lstore_n 1, 1) := by decide +kernel
theorem dX7_controlLevel_2 : decode cX7_controlLevel 2 = .ok (.iconst 0, 1) := by decide +kernel
theorem dX7_controlLevel_3 : decode cX7_controlLevel 3 = .ok (.istore_n 3, 1) := by decide +kernel
theorem dX7_controlLevel_4 : decode cX7_controlLevel 4 = .ok (.iconst 0, 1) := by decide +kernel
theorem dX7_controlLevel_5 : decode cX7_controlLevel 5 = .ok (.istore 4, 2) := by decide +kernel
theorem dX7_controlLevel_7 : decode cX7_controlLevel 7 = .ok (.iconst 0, 1) := by decide +kernel
theorem dX7_controlLevel_8 : decode cX7_controlLevel 8 = .ok (.istore 5, 2) := by decide +kernel
theorem dX7_controlLevel_10 : decode cX7_controlLevel 10 = .ok (.iconst 0, 1) := by decide +kernel
theorem dX7_controlLevel_11 : decode cX7_controlLevel 11 = .ok (.istore 6, 2) := by decide +kernel
theorem dX7_controlLevel_13 : decode cX7_controlLevel 13 = .ok (.iload 6, 2) := by decide +kernel
theorem dX7_controlLevel_15 : decode cX7_controlLevel 15 = .ok (.aload_n 0, 1) := by decide +kernel
theorem dX7_controlLevel_16 : decode cX7_controlLevel 16 = .ok (.getfield 7, 3) := by decide +kernel
theorem dX7_controlLevel_19 : decode cX7_controlLevel 19 = .ok (.iconst 5, 1) := by decide +kernel
theorem dX7_controlLevel_20 : decode cX7_controlLevel 20 = .ok (.iaload, 1) := by decide +kernel
theorem dX7_controlLevel_21 : decode cX7_controlLevel 21 = .ok (.if_icmp .ge 92, 3) := by decide +kernel
theorem dX7_controlLevel_24 : decode cX7_controlLevel 24 = .ok (.aload_n 0, 1) := by decide +kernel
theorem dX7_controlLevel_25 : decode cX7_controlLevel 25 = .ok (.iload 6, 2) := by decide +kernel
theorem dX7_controlLevel_27 : decode cX7_controlLevel 27 = .ok (.iconst 0, 1) := by decide +kernel
theorem dX7_controlLevel_28 : decode cX7_controlLevel 28 = .ok (.invokevirtual 65, 3) := by decide +kernel
theorem dX7_controlLevel_31 : decode cX7_controlLevel 31 = .ok (.iconst 1, 1) := by decide +kernel
theorem dX7_controlLevel_32 : decode cX7_controlLevel 32 = .ok (.if_icmp .ne 75, 3) := by decide +kernel
theorem dX7_controlLevel_35 : decode cX7_controlLevel 35 = .ok (.aload_n 0, 1) := by decide +kernel
theorem dX7_controlLevel_36 : decode cX7_controlLevel 36 = .ok (.getfield 7, 3) := by decide +kernel
theorem dX7_controlLevel_39 : decode cX7_controlLevel 39 = .ok (.sipush 308, 3) := by decide +kernel
theorem dX7_controlLevel_42 : decode cX7_controlLevel 42 = .ok (.bipush 6, 2) := by decide +kernel
theorem dX7_controlLevel_44 : decode cX7_controlLevel 44 = .ok (.aload_n 0, 1) := by decide +kernel
theorem dX7_controlLevel_45 : decode cX7_controlLevel 45 = .ok (.getfield 7, 3) := by decide +kernel
theorem dX7_controlLevel_48 : decode cX7_controlLevel 48 = .ok (.iconst 2, 1) := by decide +kernel
theorem dX7_controlLevel_49 : decode cX7_controlLevel 49 = .ok (.iaload, 1) := by decide +kernel
theorem dX7_controlLevel_50 : decode cX7_controlLevel 50 = .ok (.imul, 1) := by decide +kernel
theorem dX7_controlLevel_51 : decode cX7_controlLevel 51 = .ok (.iadd, 1) := by decide +kernel
theorem dX7_controlLevel_52 : decode cX7_controlLevel 52 = .ok (.iload 6, 2) := by decide +kernel
theorem dX7_controlLevel_54 : decode cX7_controlLevel 54 = .ok (.iadd, 1) := by decide +kernel
theorem dX7_controlLevel_55 : decode cX7_controlLevel 55 = .ok (.iaload, 1) := by decide +kernel
theorem dX7_controlLevel_56 : decode cX7_controlLevel 56 = .ok (.istore 7, 2) := by decide +kernel
theorem dX7_controlLevel_58 : decode cX7_controlLevel 58 = .ok (.iload_n 3, 1) := by decide +kernel
theorem dX7_controlLevel_59 : decode cX7_controlLevel 59 = .ok (.ifCond .eq 10, 3) := by decide +kernel
theorem dX7_controlLevel_62 : decode cX7_controlLevel 62 = .ok (.iload 7, 2) := by decide +kernel
theorem dX7_controlLevel_64 : decode cX7_controlLevel 64 = .ok (.iload 4, 2) := by decide +kernel
theorem dX7_controlLevel_66 : decode cX7_controlLevel 66 = .ok (.if_icmp .le 8, 3) := by decide +kernel
theorem dX7_controlLevel_69 : decode cX7_controlLevel 69 = .ok (.iload 7, 2) := by decide +kernel
theorem dX7_controlLevel_71 : decode cX7_controlLevel 71 = .ok (.goto 5, 3) := by decide +kernel
theorem dX7_controlLevel_74 : decode cX7_controlLevel 74 = .ok (.iload 4, 2) := by decide +kernel
theorem dX7_controlLevel_76 : decode cX7_controlLevel 76 = .ok (.istore 4, 2) := by decide +kernel
theorem dX7_controlLevel_78 : decode cX7_controlLevel 78 = .ok (.iload_n 3, 1) := by decide +kernel
theorem dX7_controlLevel_79 : decode cX7_controlLevel 79 = .ok (.ifCond .eq 10, 3) := by decide +kernel
theorem dX7_controlLevel_82 : decode cX7_controlLevel 82 = .ok (.iload 7, 2) := by decide +kernel
theorem dX7_controlLevel_84 : decode cX7_controlLevel 84 = .ok (.iload 5, 2) := by decide +kernel
theorem dX7_controlLevel_86 : decode cX7_controlLevel 86 = .ok (.if_icmp .ge 8, 3) := by decide +kernel
theorem dX7_controlLevel_89 : decode cX7_controlLevel 89 = .ok (.iload 7, 2) := by decide +kernel
theorem dX7_controlLevel_91 : decode cX7_controlLevel 91 = .ok (.goto 5, 3) := by decide +kernel
theorem dX7_controlLevel_94 : decode cX7_controlLevel 94 = .ok (.iload 5, 2) := by decide +kernel
theorem dX7_controlLevel_96 : decode cX7_controlLevel 96 = .ok (.istore 5, 2) := by decide +kernel
theorem dX7_controlLevel_98 : decode cX7_controlLevel 98 = .ok (.lload_n 1, 1) := by decide +kernel
theorem dX7_controlLevel_99 : decode cX7_controlLevel 99 = .ok (.iload 7, 2) := by decide +kernel
theorem dX7_controlLevel_101 : decode cX7_controlLevel 101 = .ok (.i2l, 1) := by decide +kernel
theorem dX7_controlLevel_102 : decode cX7_controlLevel 102 = .ok (.ladd, 1) := by decide +kernel
theorem dX7_controlLevel_103 : decode cX7_controlLevel 103 = .ok (.lstore_n 1, 1) := by decide +kernel
theorem dX7_controlLevel_104 : decode cX7_controlLevel 104 = .ok (.iinc 3 1, 3) := by decide +kernel
theorem dX7_controlLevel_107 : decode cX7_controlLevel 107 = .ok (.iinc 6 1, 3) := by decide +kernel
theorem dX7_controlLevel_110 : decode cX7_controlLevel 110 = .ok (.goto (-97), 3) := by decide +kernel
theorem dX7_controlLevel_113 : decode cX7_controlLevel 113 = .ok (.aload_n 0, 1) := by decide +kernel
theorem dX7_controlLevel_114 : decode cX7_controlLevel 114 = .ok (.iconst 0, 1) := by decide +kernel
theorem dX7_controlLevel_115 : decode cX7_controlLevel 115 = .ok (.invokevirtual 78, 3) := by decide +kernel
theorem dX7_controlLevel_118 : decode cX7_controlLevel 118 = .ok (.ifCond .ne 11, 3) := by decide +kernel
theorem dX7_controlLevel_121 : decode cX7_controlLevel 121 = .ok (.lload_n 1, 1) := by decide +kernel
theorem dX7_controlLevel_122 : decode cX7_controlLevel 122 = .ok (.iload_n 3, 1) := by decide +kernel
theorem dX7_controlLevel_123 : decode cX7_controlLevel 123 = .ok (.i2l, 1) := by decide +kernel
theorem dX7_controlLevel_124 : decode cX7_controlLevel 124 = .ok (.ldiv, 1) := by decide +kernel
theorem dX7_controlLevel_125 : decode cX7_controlLevel 125 = .ok (.l2i, 1) := by decide +kernel
theorem dX7_controlLevel_126 : decode cX7_controlLevel 126 = .ok (.goto 19, 3) := by decide +kernel
theorem dX7_controlLevel_129 : decode cX7_controlLevel 129 = .ok (.aload_n 0, 1) := by decide +kernel
theorem dX7_controlLevel_130 : decode cX7_controlLevel 130 = .ok (.iconst 0, 1) := by decide +kernel
theorem dX7_controlLevel_131 : decode cX7_controlLevel 131 = .ok (.invokevirtual 78, 3) := by decide +kernel
theorem dX7_controlLevel_134 : decode cX7_controlLevel 134 = .ok (.iconst 1, 1) := by decide +kernel
theorem dX7_controlLevel_135 : decode cX7_controlLevel 135 = .ok (.if_icmp .ne 8, 3) := by decide +kernel
theorem dX7_controlLevel_138 : decode cX7_controlLevel 138 = .ok (.iload 4, 2) := by decide +kernel
theorem dX7_controlLevel_140 : decode cX7_controlLevel 140 = .ok (.goto 5, 3) := by decide +kernel
theorem dX7_controlLevel_143 : decode cX7_controlLevel 143 = .ok (.iload 5, 2) := by decide +kernel
theorem dX7_controlLevel_145 : decode cX7_controlLevel 145 = .ok (.ireturn, 1) := by decide +kernel
theorem dX7_measures_0 : decode cX7_measures 0 = .ok (.aload_n 0, 1) := by decide +kernel
theorem dX7_measures_1 : decode cX7_measures 1 = .ok (.getfield 7, 3) := by decide +kernel
theorem dX7_measures_4 : decode cX7_measures 4 = .ok (.iconst 2, 1) := by decide +kernel
theorem dX7_measures_5 : decode cX7_measures 5 = .ok (.iaload, 1) := by decide +kernel
theorem dX7_measures_6 : decode cX7_measures 6 = .ok (.istore_n 1, 1) := by decide +kernel
theorem dX7_measures_7 : decode cX7_measures 7 = .ok (.aload_n 0, 1) := by decide +kernel
theorem dX7_measures_8 : decode cX7_measures 8 = .ok (.getfield 7, 3) := by decide +kernel
theorem dX7_measures_11 : decode cX7_measures 11 = .ok (.sipush 208, 3) := by decide +kernel
theorem dX7_measures_14 : decode cX7_measures 14 = .ok (.iload_n 1, 1) := by decide +kernel
theorem dX7_measures_15 : decode cX7_measures 15 = .ok (.iadd, 1) := by decide +kernel
theorem dX7_measures_16 : decode cX7_measures 16 = .ok (.iaload, 1) := by decide +kernel
theorem dX7_measures_17 : decode cX7_measures 17 = .ok (.istore_n 2, 1) := by decide +kernel
theorem dX7_measures_18 : decode cX7_measures 18 = .ok (.aload_n 0, 1) := by decide +kernel
theorem dX7_measures_19 : decode cX7_measures 19 = .ok (.getfield 7, 3) := by decide +kernel
theorem dX7_measures_22 : decode cX7_measures 22 = .ok (.iconst 3, 1) := by decide +kernel
theorem dX7_measures_23 : decode cX7_measures 23 = .ok (.iaload, 1) := by decide +kernel
theorem dX7_measures_24 : decode cX7_measures 24 = .ok (.i2l, 1) := by decide +kernel
theorem dX7_measures_25 : decode cX7_measures 25 = .ok (.lstore_n 3, 1) := by decide +kernel
theorem dX7_measures_26 : decode cX7_measures 26 = .ok (.iconst 0, 1) := by decide +kernel
theorem dX7_measures_27 : decode cX7_measures 27 = .ok (.istore 5, 2) := by decide +kernel
theorem dX7_measures_29 : decode cX7_measures 29 = .ok (.iload 5, 2) := by decide +kernel
theorem dX7_measures_31 : decode cX7_measures 31 = .ok (.aload_n 0, 1) := by decide +kernel
theorem dX7_measures_32 : decode cX7_measures 32 = .ok (.getfield 7, 3) := by decide +kernel
theorem dX7_measures_35 : decode cX7_measures 35 = .ok (.iconst 5, 1) := by decide +kernel
theorem dX7_measures_36 : decode cX7_measures 36 = .ok (.iaload, 1) := by decide +kernel
theorem dX7_measures_37 : decode cX7_measures 37 = .ok (.if_icmp .ge 98, 3) := by decide +kernel
theorem dX7_measures_40 : decode cX7_measures 40 = .ok (.bipush 6, 2) := by decide +kernel
theorem dX7_measures_42 : decode cX7_measures 42 = .ok (.iload_n 1, 1) := by decide +kernel
theorem dX7_measures_43 : decode cX7_measures 43 = .ok (.imul, 1) := by decide +kernel
theorem dX7_measures_44 : decode cX7_measures 44 = .ok (.iload 5, 2) := by decide +kernel
theorem dX7_measures_46 : decode cX7_measures 46 = .ok (.iadd, 1) := by decide +kernel
theorem dX7_measures_47 : decode cX7_measures 47 = .ok (.istore 6, 2) := by decide +kernel
theorem dX7_measures_49 : decode cX7_measures 49 = .ok (.aload_n 0, 1) := by decide +kernel
theorem dX7_measures_50 : decode cX7_measures 50 = .ok (.iload 5, 2) := by decide +kernel
theorem dX7_measures_52 : decode cX7_measures 52 = .ok (.iload_n 2, 1) := by decide +kernel
theorem dX7_measures_53 : decode cX7_measures 53 = .ok (.invokevirtual 62, 3) := by decide +kernel
theorem dX7_measures_56 : decode cX7_measures 56 = .ok (.i2l, 1) := by decide +kernel
theorem dX7_measures_57 : decode cX7_measures 57 = .ok (.lload_n 3, 1) := by decide +kernel
theorem dX7_measures_58 : decode cX7_measures 58 = .ok (.lmul, 1) := by decide +kernel
theorem dX7_measures_59 : decode cX7_measures 59 = .ok (.ldc2_w 89, 3) := by decide +kernel
theorem dX7_measures_62 : decode cX7_measures 62 = .ok (.ldiv, 1) := by decide +kernel
theorem dX7_measures_63 : decode cX7_measures 63 = .ok (.l2i, 1) := by decide +kernel
theorem dX7_measures_64 : decode cX7_measures 64 = .ok (.istore 7, 2) := by decide +kernel
theorem dX7_measures_66 : decode cX7_measures 66 = .ok (.aload_n 0, 1) := by decide +kernel
theorem dX7_measures_67 : decode cX7_measures 67 = .ok (.getfield 7, 3) := by decide +kernel
theorem dX7_measures_70 : decode cX7_measures 70 = .ok (.sipush 308, 3) := by decide +kernel
theorem dX7_measures_73 : decode cX7_measures 73 = .ok (.iload 6, 2) := by decide +kernel
theorem dX7_measures_75 : decode cX7_measures 75 = .ok (.iadd, 1) := by decide +kernel
theorem dX7_measures_76 : decode cX7_measures 76 = .ok (.iload 7, 2) := by decide +kernel
theorem dX7_measures_78 : decode cX7_measures 78 = .ok (.iastore, 1) := by decide +kernel
theorem dX7_measures_79 : decode cX7_measures 79 = .ok (.aload_n 0, 1) := by decide +kernel
theorem dX7_measures_80 : decode cX7_measures 80 = .ok (.getfield 20, 3) := by decide +kernel
theorem dX7_measures_83 : decode cX7_measures 83 = .ok (.iload 5, 2) := by decide +kernel
theorem dX7_measures_85 : decode cX7_measures 85 = .ok (.iload 7, 2) := by decide +kernel
theorem dX7_measures_87 : decode cX7_measures 87 = .ok (.i2l, 1) := by decide +kernel
theorem dX7_measures_88 : decode cX7_measures 88 = .ok (.ldc2_w 89, 3) := by decide +kernel
theorem dX7_measures_91 : decode cX7_measures 91 = .ok (.lmul, 1) := by decide +kernel
theorem dX7_measures_92 : decode cX7_measures 92 = .ok (.lload_n 3, 1) := by decide +kernel
theorem dX7_measures_93 : decode cX7_measures 93 = .ok (.ldiv, 1) := by decide +kernel
theorem dX7_measures_94 : decode cX7_measures 94 = .ok (.l2i, 1) := by decide +kernel
theorem dX7_measures_95 : decode cX7_measures 95 = .ok (.iastore, 1) := by decide +kernel
theorem dX7_measures_96 : decode cX7_measures 96 = .ok (.aload_n 0, 1) := by decide +kernel
theorem dX7_measures_97 : decode cX7_measures 97 = .ok (.getfield 7, 3) := by decide +kernel
theorem dX7_measures_100 : decode cX7_measures 100 = .ok (.sipush 908, 3) := by decide +kernel
theorem dX7_measures_103 : decode cX7_measures 103 = .ok (.iload 6, 2) := by decide +kernel
theorem dX7_measures_105 : decode cX7_measures 105 = .ok (.iadd, 1) := by decide +kernel
theorem dX7_measures_106 : decode cX7_measures 106 = .ok (.aload_n 0, 1) := by decide +kernel
theorem dX7_measures_107 : decode cX7_measures 107 = .ok (.aload_n 0, 1) := by decide +kernel
theorem dX7_measures_108 : decode cX7_measures 108 = .ok (.getfield 7, 3) := by decide +kernel
theorem dX7_measures_111 : decode cX7_measures 111 = .ok (.sipush 908, 3) := by decide +kernel
theorem dX7_measures_114 : decode cX7_measures 114 = .ok (.iload 6, 2) := by decide +kernel
theorem dX7_measures_116 : decode cX7_measures 116 = .ok (.iadd, 1) := by decide +kernel
theorem dX7_measures_117 : decode cX7_measures 117 = .ok (.iaload, 1) := by decide +kernel
theorem dX7_measures_118 : decode cX7_measures 118 = .ok (.aload_n 0, 1) := by decide +kernel
theorem dX7_measures_119 : decode cX7_measures 119 = .ok (.getfield 20, 3) := by decide +kernel
theorem dX7_measures_122 : decode cX7_measures 122 = .ok (.iload 5, 2) := by decide +kernel
theorem dX7_measures_124 : decode cX7_measures 124 = .ok (.iaload, 1) := by decide +kernel
theorem dX7_measures_125 : decode cX7_measures 125 = .ok (.invokevirtual 91, 3) := by decide +kernel
theorem dX7_measures_128 : decode cX7_measures 128 = .ok (.iastore, 1) := by decide +kernel
theorem dX7_measures_129 : decode cX7_measures 129 = .ok (.iinc 5 1, 3) := by decide +kernel
theorem dX7_measures_132 : decode cX7_measures 132 = .ok (.goto (-103), 3) := by decide +kernel
theorem dX7_measures_135 : decode cX7_measures 135 = .ok (.aload_n 0, 1) := by decide +kernel
theorem dX7_measures_136 : decode cX7_measures 136 = .ok (.invokevirtual 94, 3) := by decide +kernel
theorem dX7_measures_139 : decode cX7_measures 139 = .ok (.istore 5, 2) := by decide +kernel
theorem dX7_measures_141 : decode cX7_measures 141 = .ok (.aload_n 0, 1) := by decide +kernel
theorem dX7_measures_142 : decode cX7_measures 142 = .ok (.getfield 7, 3) := by decide +kernel
theorem dX7_measures_145 : decode cX7_measures 145 = .ok (.sipush 1508, 3) := by decide +kernel
theorem dX7_measures_148 : decode cX7_measures 148 = .ok (.iload_n 1, 1) := by decide +kernel
theorem dX7_measures_149 : decode cX7_measures 149 = .ok (.iadd, 1) := by decide +kernel
theorem dX7_measures_150 : decode cX7_measures 150 = .ok (.aload_n 0, 1) := by decide +kernel
theorem dX7_measures_151 : decode cX7_measures 151 = .ok (.aload_n 0, 1) := by decide +kernel
theorem dX7_measures_152 : decode cX7_measures 152 = .ok (.getfield 7, 3) := by decide +kernel
theorem dX7_measures_155 : decode cX7_measures 155 = .ok (.sipush 1508, 3) := by decide +kernel
theorem dX7_measures_158 : decode cX7_measures 158 = .ok (.iload_n 1, 1) := by decide +kernel
theorem dX7_measures_159 : decode cX7_measures 159 = .ok (.iadd, 1) := by decide +kernel
theorem dX7_measures_160 : decode cX7_measures 160 = .ok (.iaload, 1) := by decide +kernel
theorem dX7_measures_161 : decode cX7_measures 161 = .ok (.iload 5, 2) := by decide +kernel
theorem dX7_measures_163 : decode cX7_measures 163 = .ok (.i2l, 1) := by decide +kernel
theorem dX7_measures_164 : decode cX7_measures 164 = .ok (.ldc2_w 89, 3) := by decide +kernel
theorem dX7_measures_167 : decode cX7_measures 167 = .ok (.lmul, 1) := by decide +kernel
theorem dX7_measures_168 : decode cX7_measures 168 = .ok (.lload_n 3, 1) := by decide +kernel
theorem dX7_measures_169 : decode cX7_measures 169 = .ok (.ldiv, 1) := by decide +kernel
theorem dX7_measures_170 : decode cX7_measures 170 = .ok (.l2i, 1) := by decide +kernel
theorem dX7_measures_171 : decode cX7_measures 171 = .ok (.invokevirtual 91, 3) := by decide +kernel
theorem dX7_measures_174 : decode cX7_measures 174 = .ok (.iastore, 1) := by decide +kernel
theorem dX7_measures_175 : decode cX7_measures 175 = .ok (.iload 5, 2) := by decide +kernel
theorem dX7_measures_177 : decode cX7_measures 177 = .ok (.ireturn, 1) := by decide +kernel
theorem dX7_watches_0 : decode cX7_watches 0 = .ok (.aload_n 0, 1) := by decide +kernel
theorem dX7_watches_1 : decode cX7_watches 1 = .ok (.getfield 7, 3) := by decide +kernel
theorem dX7_watches_4 : decode cX7_watches 4 = .ok (.iconst 2, 1) := by decide +kernel
theorem dX7_watches_5 : decode cX7_watches 5 = .ok (.iaload, 1) := by decide +kernel
theorem dX7_watches_6 : decode cX7_watches 6 = .ok (.istore_n 1, 1) := by decide +kernel
theorem dX7_watches_7 : decode cX7_watches 7 = .ok (.bipush (-6), 2) := by decide +kernel
theorem dX7_watches_9 : decode cX7_watches 9 = .ok (.istore_n 2, 1) := by decide +kernel
theorem dX7_watches_10 : decode cX7_watches 10 = .ok (.iconst 0, 1) := by decide +kernel
theorem dX7_watches_11 : decode cX7_watches 11 = .ok (.istore_n 3, 1) := by decide +kernel
theorem dX7_watches_12 : decode cX7_watches 12 = .ok (.iload_n 3, 1) := by decide +kernel
theorem dX7_watches_13 : decode cX7_watches 13 = .ok (.aload_n 0, 1) := by decide +kernel
theorem dX7_watches_14 : decode cX7_watches 14 = .ok (.getfield 7, 3) := by decide +kernel
theorem dX7_watches_17 : decode cX7_watches 17 = .ok (.iconst 5, 1) := by decide +kernel
theorem dX7_watches_18 : decode cX7_watches 18 = .ok (.iaload, 1) := by decide +kernel
theorem dX7_watches_19 : decode cX7_watches 19 = .ok (.if_icmp .ge 198, 3) := by decide +kernel
theorem dX7_watches_22 : decode cX7_watches 22 = .ok (.aload_n 0, 1) := by decide +kernel
theorem dX7_watches_23 : decode cX7_watches 23 = .ok (.getfield 7, 3) := by decide +kernel
theorem dX7_watches_26 : decode cX7_watches 26 = .ok (.sipush 308, 3) := by decide +kernel
theorem dX7_watches_29 : decode cX7_watches 29 = .ok (.bipush 6, 2) := by decide +kernel
theorem dX7_watches_31 : decode cX7_watches 31 = .ok (.iload_n 1, 1) := by decide +kernel
theorem dX7_watches_32 : decode cX7_watches 32 = .ok (.imul, 1) := by decide +kernel
theorem dX7_watches_33 : decode cX7_watches 33 = .ok (.iadd, 1) := by decide +kernel
theorem dX7_watches_34 : decode cX7_watches 34 = .ok (.iload_n 3, 1) := by decide +kernel
theorem dX7_watches_35 : decode cX7_watches 35 = .ok (.iadd, 1) := by decide +kernel
theorem dX7_watches_36 : decode cX7_watches 36 = .ok (.iaload, 1) := by decide +kernel
theorem dX7_watches_37 : decode cX7_watches 37 = .ok (.istore 4, 2) := by decide +kernel
theorem dX7_watches_39 : decode cX7_watches 39 = .ok (.aload_n 0, 1) := by decide +kernel
theorem dX7_watches_40 : decode cX7_watches 40 = .ok (.iload_n 3, 1) := by decide +kernel
theorem dX7_watches_41 : decode cX7_watches 41 = .ok (.aload_n 0, 1) := by decide +kernel
theorem dX7_watches_42 : decode cX7_watches 42 = .ok (.getfield 7, 3) := by decide +kernel
theorem dX7_watches_45 : decode cX7_watches 45 = .ok (.sipush 208, 3) := by decide +kernel
theorem dX7_watches_48 : decode cX7_watches 48 = .ok (.iload_n 1, 1) := by decide +kernel
theorem dX7_watches_49 : decode cX7_watches 49 = .ok (.iadd, 1) := by decide +kernel
theorem dX7_watches_50 : decode cX7_watches 50 = .ok (.iaload, 1) := by decide +kernel
theorem dX7_watches_51 : decode cX7_watches 51 = .ok (.invokevirtual 97, 3) := by decide +kernel
theorem dX7_watches_54 : decode cX7_watches 54 = .ok (.istore 5, 2) := by decide +kernel
theorem dX7_watches_56 : decode cX7_watches 56 = .ok (.iload 5, 2) := by decide +kernel
theorem dX7_watches_58 : decode cX7_watches 58 = .ok (.bipush (-6), 2) := by decide +kernel
theorem dX7_watches_60 : decode cX7_watches 60 = .ok (.if_icmp .eq 14, 3) := by decide +kernel
theorem dX7_watches_63 : decode cX7_watches 63 = .ok (.iload 4, 2) := by decide +kernel
theorem dX7_watches_65 : decode cX7_watches 65 = .ok (.iload 5, 2) := by decide +kernel
theorem dX7_watches_67 : decode cX7_watches 67 = .ok (.if_icmp .le 7, 3) := by decide +kernel
theorem dX7_watches_70 : decode cX7_watches 70 = .ok (.iconst 1, 1) := by decide +kernel
theorem dX7_watches_71 : decode cX7_watches 71 = .ok (.goto 4, 3) := by decide +kernel
theorem dX7_watches_74 : decode cX7_watches 74 = .ok (.iconst 0, 1) := by decide +kernel
theorem dX7_watches_75 : decode cX7_watches 75 = .ok (.istore 6, 2) := by decide +kernel
theorem dX7_watches_77 : decode cX7_watches 77 = .ok (.aload_n 0, 1) := by decide +kernel
theorem dX7_watches_78 : decode cX7_watches 78 = .ok (.iload_n 3, 1) := by decide +kernel
theorem dX7_watches_79 : decode cX7_watches 79 = .ok (.bipush 25, 2) := by decide +kernel
theorem dX7_watches_81 : decode cX7_watches 81 = .ok (.iload 6, 2) := by decide +kernel
theorem dX7_watches_83 : decode cX7_watches 83 = .ok (.ifCond .eq 15, 3) := by decide +kernel
theorem dX7_watches_86 : decode cX7_watches 86 = .ok (.aload_n 0, 1) := by decide +kernel
theorem dX7_watches_87 : decode cX7_watches 87 = .ok (.iload_n 3, 1) := by decide +kernel
theorem dX7_watches_88 : decode cX7_watches 88 = .ok (.bipush 25, 2) := by decide +kernel
theorem dX7_watches_90 : decode cX7_watches 90 = .ok (.invokevirtual 65, 3) := by decide +kernel
theorem dX7_watches_93 : decode cX7_watches 93 = .ok (.iconst 1, 1) := by decide +kernel
theorem dX7_watches_94 : decode cX7_watches 94 = .ok (.iadd, 1) := by decide +kernel
theorem dX7_watches_95 : decode cX7_watches 95 = .ok (.goto 4, 3) := by decide +kernel
theorem dX7_watches_98 : decode cX7_watches 98 = .ok (.iconst 0, 1) := by decide +kernel
theorem dX7_watches_99 : decode cX7_watches 99 = .ok (.invokevirtual 37, 3) := by decide +kernel
theorem dX7_watches_102 : decode cX7_watches 102 = .ok (.iload 6, 2) := by decide +kernel
theorem dX7_watches_104 : decode cX7_watches 104 = .ok (.ifCond .eq 49, 3) := by decide +kernel
theorem dX7_watches_107 : decode cX7_watches 107 = .ok (.aload_n 0, 1) := by decide +kernel
theorem dX7_watches_108 : decode cX7_watches 108 = .ok (.iload_n 3, 1) := by decide +kernel
theorem dX7_watches_109 : decode cX7_watches 109 = .ok (.bipush 26, 2) := by decide +kernel
theorem dX7_watches_111 : decode cX7_watches 111 = .ok (.aload_n 0, 1) := by decide +kernel
theorem dX7_watches_112 : decode cX7_watches 112 = .ok (.iload_n 3, 1) := by decide +kernel
theorem dX7_watches_113 : decode cX7_watches 113 = .ok (.bipush 26, 2) := by decide +kernel
theorem dX7_watches_115 : decode cX7_watches 115 = .ok (.invokevirtual 65, 3) := by decide +kernel
theorem dX7_watches_118 : decode cX7_watches 118 = .ok (.aload_n 0, 1) := by decide +kernel
theorem dX7_watches_119 : decode cX7_watches 119 = .ok (.iload_n 3, 1) := by decide +kernel
theorem dX7_watches_120 : decode cX7_watches 120 = .ok (.bipush 25, 2) := by decide +kernel
theorem dX7_watches_122 : decode cX7_watches 122 = .ok (.invokevirtual 65, 3) := by decide +kernel
theorem dX7_watches_125 : decode cX7_watches 125 = .ok (.invokestatic 100, 3) := by decide +kernel
theorem dX7_watches_128 : decode cX7_watches 128 = .ok (.invokevirtual 37, 3) := by decide +kernel
theorem dX7_watches_131 : decode cX7_watches 131 = .ok (.aload_n 0, 1) := by decide +kernel
theorem dX7_watches_132 : decode cX7_watches 132 = .ok (.iload_n 3, 1) := by decide +kernel
theorem dX7_watches_133 : decode cX7_watches 133 = .ok (.bipush 27, 2) := by decide +kernel
theorem dX7_watches_135 : decode cX7_watches 135 = .ok (.aload_n 0, 1) := by decide +kernel
theorem dX7_watches_136 : decode cX7_watches 136 = .ok (.iload_n 3, 1) := by decide +kernel
theorem dX7_watches_137 : decode cX7_watches 137 = .ok (.bipush 27, 2) := by decide +kernel
theorem dX7_watches_139 : decode cX7_watches 139 = .ok (.invokevirtual 65, 3) := by decide +kernel
theorem dX7_watches_142 : decode cX7_watches 142 = .ok (.iload 4, 2) := by decide +kernel
theorem dX7_watches_144 : decode cX7_watches 144 = .ok (.iload 5, 2) := by decide +kernel
theorem dX7_watches_146 : decode cX7_watches 146 = .ok (.isub, 1) := by decide +kernel
theorem dX7_watches_147 : decode cX7_watches 147 = .ok (.invokestatic 100, 3) := by decide +kernel
theorem dX7_watches_150 : decode cX7_watches 150 = .ok (.invokevirtual 37, 3) := by decide +kernel
theorem dX7_watches_153 : decode cX7_watches 153 = .ok (.aload_n 0, 1) := by decide +kernel
theorem dX7_watches_154 : decode cX7_watches 154 = .ok (.iload_n 3, 1) := by decide +kernel
theorem dX7_watches_155 : decode cX7_watches 155 = .ok (.bipush 28, 2) := by decide +kernel
theorem dX7_watches_157 : decode cX7_watches 157 = .ok (.iload 4, 2) := by decide +kernel
theorem dX7_watches_159 : decode cX7_watches 159 = .ok (.aload_n 0, 1) := by decide +kernel
theorem dX7_watches_160 : decode cX7_watches 160 = .ok (.iload_n 3, 1) := by decide +kernel
theorem dX7_watches_161 : decode cX7_watches 161 = .ok (.iconst 2, 1) := by decide +kernel
theorem dX7_watches_162 : decode cX7_watches 162 = .ok (.invokevirtual 65, 3) := by decide +kernel
theorem dX7_watches_165 : decode cX7_watches 165 = .ok (.if_icmp .le 15, 3) := by decide +kernel
theorem dX7_watches_168 : decode cX7_watches 168 = .ok (.aload_n 0, 1) := by decide +kernel
theorem dX7_watches_169 : decode cX7_watches 169 = .ok (.iload_n 3, 1) := by decide +kernel
theorem dX7_watches_170 : decode cX7_watches 170 = .ok (.bipush 28, 2) := by decide +kernel
theorem dX7_watches_172 : decode cX7_watches 172 = .ok (.invokevirtual 65, 3) := by decide +kernel
theorem dX7_watches_175 : decode cX7_watches 175 = .ok (.iconst 1, 1) := by decide +kernel
theorem dX7_watches_176 : decode cX7_watches 176 = .ok (.iadd, 1) := by decide +kernel
theorem dX7_watches_177 : decode cX7_watches 177 = .ok (.goto 4, 3) := by decide +kernel
theorem dX7_watches_180 : decode cX7_watches 180 = .ok (.iconst 0, 1) := by decide +kernel
theorem dX7_watches_181 : decode cX7_watches 181 = .ok (.invokevirtual 37, 3) := by decide +kernel
theorem dX7_watches_184 : decode cX7_watches 184 = .ok (.iload_n 2, 1) := by decide +kernel
theorem dX7_watches_185 : decode cX7_watches 185 = .ok (.bipush (-6), 2) := by decide +kernel
theorem dX7_watches_187 : decode cX7_watches 187 = .ok (.if_icmp .ne 22, 3) := by decide +kernel
theorem dX7_watches_190 : decode cX7_watches 190 = .ok (.aload_n 0, 1) := by decide +kernel
theorem dX7_watches_191 : decode cX7_watches 191 = .ok (.iload_n 3, 1) := by decide +kernel
theorem dX7_watches_192 : decode cX7_watches 192 = .ok (.bipush 28, 2) := by decide +kernel
theorem dX7_watches_194 : decode cX7_watches 194 = .ok (.invokevirtual 65, 3) := by decide +kernel
theorem dX7_watches_197 : decode cX7_watches 197 = .ok (.aload_n 0, 1) := by decide +kernel
theorem dX7_watches_198 : decode cX7_watches 198 = .ok (.iconst 2, 1) := by decide +kernel
theorem dX7_watches_199 : decode cX7_watches 199 = .ok (.invokevirtual 78, 3) := by decide +kernel
theorem dX7_watches_202 : decode cX7_watches 202 = .ok (.if_icmp .lt 7, 3) := by decide +kernel
theorem dX7_watches_205 : decode cX7_watches 205 = .ok (.iload_n 3, 1) := by decide +kernel
theorem dX7_watches_206 : decode cX7_watches 206 = .ok (.goto 4, 3) := by decide +kernel
theorem dX7_watches_209 : decode cX7_watches 209 = .ok (.iload_n 2, 1) := by decide +kernel
theorem dX7_watches_210 : decode cX7_watches 210 = .ok (.istore_n 2, 1) := by decide +kernel
theorem dX7_watches_211 : decode cX7_watches 211 = .ok (.iinc 3 1, 3) := by decide +kernel
theorem dX7_watches_214 : decode cX7_watches 214 = .ok (.goto (-202), 3) := by decide +kernel
theorem dX7_watches_217 : decode cX7_watches 217 = .ok (.iload_n 2, 1) := by decide +kernel
theorem dX7_watches_218 : decode cX7_watches 218 = .ok (.ireturn, 1) := by decide +kernel
theorem dX7_greater_0 : decode cX7_greater 0 = .ok (.iload_n 0, 1) := by decide +kernel
theorem dX7_greater_1 : decode cX7_greater 1 = .ok (.iload_n 1, 1) := by decide +kernel
theorem dX7_greater_2 : decode cX7_greater 2 = .ok (.if_icmp .le 7, 3) := by decide +kernel
theorem dX7_greater_5 : decode cX7_greater 5 = .ok (.iload_n 0, 1) := by decide +kernel
theorem dX7_greater_6 : decode cX7_greater 6 = .ok (.goto 4, 3) := by decide +kernel
theorem dX7_greater_9 : decode cX7_greater 9 = .ok (.iload_n 1, 1) := by decide +kernel
theorem dX7_greater_10 : decode cX7_greater 10 = .ok (.ireturn, 1) := by decide +kernel
theorem dX7_loop_0 : decode cX7_loop 0 = .ok (.aload_n 0, 1) := by decide +kernel
theorem dX7_loop_1 : decode cX7_loop 1 = .ok (.getfield 7, 3) := by decide +kernel
theorem dX7_loop_4 : decode cX7_loop 4 = .ok (.bipush 8, 2) := by decide +kernel
theorem dX7_loop_6 : decode cX7_loop 6 = .ok (.dup2, 1) := by decide +kernel
theorem dX7_loop_7 : decode cX7_loop 7 = .ok (.iaload, 1) := by decide +kernel
theorem dX7_loop_8 : decode cX7_loop 8 = .ok (.iconst 1, 1) := by decide +kernel
theorem dX7_loop_9 : decode cX7_loop 9 = .ok (.iadd, 1) := by decide +kernel
theorem dX7_loop_10 : decode cX7_loop 10 = .ok (.iastore, 1) := by decide +kernel
theorem dX7_loop_11 : decode cX7_loop 11 = .ok (.aload_n 0, 1) := by decide +kernel
theorem dX7_loop_12 : decode cX7_loop 12 = .ok (.getfield 7, 3) := by decide +kernel
theorem dX7_loop_15 : decode cX7_loop 15 = .ok (.iconst 1, 1) := by decide +kernel
theorem dX7_loop_16 : decode cX7_loop 16 = .ok (.iaload, 1) := by decide +kernel
theorem dX7_loop_17 : decode cX7_loop 17 = .ok (.iconst 3, 1) := by decide +kernel
theorem dX7_loop_18 : decode cX7_loop 18 = .ok (.if_icmp .ne 45, 3) := by decide +kernel
theorem dX7_loop_21 : decode cX7_loop 21 = .ok (.aload_n 0, 1) := by decide +kernel
theorem dX7_loop_22 : decode cX7_loop 22 = .ok (.getfield 7, 3) := by decide +kernel
theorem dX7_loop_25 : decode cX7_loop 25 = .ok (.iconst 3, 1) := by decide +kernel
theorem dX7_loop_26 : decode cX7_loop 26 = .ok (.aload_n 0, 1) := by decide +kernel
theorem dX7_loop_27 : decode cX7_loop 27 = .ok (.getfield 7, 3) := by decide +kernel
theorem dX7_loop_30 : decode cX7_loop 30 = .ok (.iconst 3, 1) := by decide +kernel
theorem dX7_loop_31 : decode cX7_loop 31 = .ok (.iaload, 1) := by decide +kernel
theorem dX7_loop_32 : decode cX7_loop 32 = .ok (.aload_n 0, 1) := by decide +kernel
theorem dX7_loop_33 : decode cX7_loop 33 = .ok (.iconst 4, 1) := by decide +kernel
theorem dX7_loop_34 : decode cX7_loop 34 = .ok (.invokevirtual 78, 3) := by decide +kernel
theorem dX7_loop_37 : decode cX7_loop 37 = .ok (.imul, 1) := by decide +kernel
theorem dX7_loop_38 : decode cX7_loop 38 = .ok (.bipush 100, 2) := by decide +kernel
theorem dX7_loop_40 : decode cX7_loop 40 = .ok (.idiv, 1) := by decide +kernel
theorem dX7_loop_41 : decode cX7_loop 41 = .ok (.iastore, 1) := by decide +kernel
theorem dX7_loop_42 : decode cX7_loop 42 = .ok (.aload_n 0, 1) := by decide +kernel
theorem dX7_loop_43 : decode cX7_loop 43 = .ok (.getfield 7, 3) := by decide +kernel
theorem dX7_loop_46 : decode cX7_loop 46 = .ok (.iconst 1, 1) := by decide +kernel
theorem dX7_loop_47 : decode cX7_loop 47 = .ok (.aload_n 0, 1) := by decide +kernel
theorem dX7_loop_48 : decode cX7_loop 48 = .ok (.getfield 7, 3) := by decide +kernel
theorem dX7_loop_51 : decode cX7_loop 51 = .ok (.iconst 3, 1) := by decide +kernel
theorem dX7_loop_52 : decode cX7_loop 52 = .ok (.iaload, 1) := by decide +kernel
theorem dX7_loop_53 : decode cX7_loop 53 = .ok (.ifCond .ne 7, 3) := by decide +kernel
theorem dX7_loop_56 : decode cX7_loop 56 = .ok (.iconst 4, 1) := by decide +kernel
theorem dX7_loop_57 : decode cX7_loop 57 = .ok (.goto 4, 3) := by decide +kernel
theorem dX7_loop_60 : decode cX7_loop 60 = .ok (.iconst 3, 1) := by decide +kernel
theorem dX7_loop_61 : decode cX7_loop 61 = .ok (.iastore, 1) := by decide +kernel
theorem dX7_loop_62 : decode cX7_loop 62 = .ok (.return_, 1) := by decide +kernel
theorem dX7_loop_63 : decode cX7_loop 63 = .ok (.aload_n 0, 1) := by decide +kernel
theorem dX7_loop_64 : decode cX7_loop 64 = .ok (.invokevirtual 103, 3) := by decide +kernel
theorem dX7_loop_67 : decode cX7_loop 67 = .ok (.istore_n 1, 1) := by decide +kernel
theorem dX7_loop_68 : decode cX7_loop 68 = .ok (.aload_n 0, 1) := by decide +kernel
theorem dX7_loop_69 : decode cX7_loop 69 = .ok (.invokevirtual 106, 3) := by decide +kernel
theorem dX7_loop_72 : decode cX7_loop 72 = .ok (.istore_n 2, 1) := by decide +kernel
theorem dX7_loop_73 : decode cX7_loop 73 = .ok (.iload_n 2, 1) := by decide +kernel
theorem dX7_loop_74 : decode cX7_loop 74 = .ok (.bipush (-6), 2) := by decide +kernel
theorem dX7_loop_76 : decode cX7_loop 76 = .ok (.if_icmp .eq 32, 3) := by decide +kernel
theorem dX7_loop_79 : decode cX7_loop 79 = .ok (.aload_n 0, 1) := by decide +kernel
theorem dX7_loop_80 : decode cX7_loop 80 = .ok (.getfield 7, 3) := by decide +kernel
theorem dX7_loop_83 : decode cX7_loop 83 = .ok (.iconst 1, 1) := by decide +kernel
theorem dX7_loop_84 : decode cX7_loop 84 = .ok (.iconst 3, 1) := by decide +kernel
theorem dX7_loop_85 : decode cX7_loop 85 = .ok (.iastore, 1) := by decide +kernel
theorem dX7_loop_86 : decode cX7_loop 86 = .ok (.aload_n 0, 1) := by decide +kernel
theorem dX7_loop_87 : decode cX7_loop 87 = .ok (.getfield 7, 3) := by decide +kernel
theorem dX7_loop_90 : decode cX7_loop 90 = .ok (.bipush 9, 2) := by decide +kernel
theorem dX7_loop_92 : decode cX7_loop 92 = .ok (.iload_n 2, 1) := by decide +kernel
theorem dX7_loop_93 : decode cX7_loop 93 = .ok (.iastore, 1) := by decide +kernel
theorem dX7_loop_94 : decode cX7_loop 94 = .ok (.aload_n 0, 1) := by decide +kernel
theorem dX7_loop_95 : decode cX7_loop 95 = .ok (.getfield 7, 3) := by decide +kernel
theorem dX7_loop_98 : decode cX7_loop 98 = .ok (.bipush 10, 2) := by decide +kernel
theorem dX7_loop_100 : decode cX7_loop 100 = .ok (.aload_n 0, 1) := by decide +kernel
theorem dX7_loop_101 : decode cX7_loop 101 = .ok (.getfield 7, 3) := by decide +kernel
theorem dX7_loop_104 : decode cX7_loop 104 = .ok (.iconst 2, 1) := by decide +kernel
theorem dX7_loop_105 : decode cX7_loop 105 = .ok (.iaload, 1) := by decide +kernel
theorem dX7_loop_106 : decode cX7_loop 106 = .ok (.iastore, 1) := by decide +kernel
theorem dX7_loop_107 : decode cX7_loop 107 = .ok (.return_, 1) := by decide +kernel
theorem dX7_loop_108 : decode cX7_loop 108 = .ok (.aload_n 0, 1) := by decide +kernel
theorem dX7_loop_109 : decode cX7_loop 109 = .ok (.getfield 7, 3) := by decide +kernel
theorem dX7_loop_112 : decode cX7_loop 112 = .ok (.iconst 2, 1) := by decide +kernel
theorem dX7_loop_113 : decode cX7_loop 113 = .ok (.iaload, 1) := by decide +kernel
theorem dX7_loop_114 : decode cX7_loop 114 = .ok (.istore_n 3, 1) := by decide +kernel
theorem dX7_loop_115 : decode cX7_loop 115 = .ok (.aload_n 0, 1) := by decide +kernel
theorem dX7_loop_116 : decode cX7_loop 116 = .ok (.getfield 7, 3) := by decide +kernel
theorem dX7_loop_119 : decode cX7_loop 119 = .ok (.iconst 1, 1) := by decide +kernel
theorem dX7_loop_120 : decode cX7_loop 120 = .ok (.iaload, 1) := by decide +kernel
theorem dX7_loop_121 : decode cX7_loop 121 = .ok (.iconst 1, 1) := by decide +kernel
theorem dX7_loop_122 : decode cX7_loop 122 = .ok (.if_icmp .ne 130, 3) := by decide +kernel
theorem dX7_loop_125 : decode cX7_loop 125 = .ok (.iload_n 3, 1) := by decide +kernel
theorem dX7_loop_126 : decode cX7_loop 126 = .ok (.aload_n 0, 1) := by decide +kernel
theorem dX7_loop_127 : decode cX7_loop 127 = .ok (.getfield 7, 3) := by decide +kernel
theorem dX7_loop_130 : decode cX7_loop 130 = .ok (.bipush 7, 2) := by decide +kernel
theorem dX7_loop_132 : decode cX7_loop 132 = .ok (.iaload, 1) := by decide +kernel
theorem dX7_loop_133 : decode cX7_loop 133 = .ok (.iconst 1, 1) := by decide +kernel
theorem dX7_loop_134 : decode cX7_loop 134 = .ok (.if_icmp .ne 7, 3) := by decide +kernel
theorem dX7_loop_137 : decode cX7_loop 137 = .ok (.iconst 1, 1) := by decide +kernel
theorem dX7_loop_138 : decode cX7_loop 138 = .ok (.goto 4, 3) := by decide +kernel
theorem dX7_loop_141 : decode cX7_loop 141 = .ok (.iconst (-1), 1) := by decide +kernel
theorem dX7_loop_142 : decode cX7_loop 142 = .ok (.iadd, 1) := by decide +kernel
theorem dX7_loop_143 : decode cX7_loop 143 = .ok (.istore_n 3, 1) := by decide +kernel
theorem dX7_loop_144 : decode cX7_loop 144 = .ok (.aload_n 0, 1) := by decide +kernel
theorem dX7_loop_145 : decode cX7_loop 145 = .ok (.iload_n 3, 1) := by decide +kernel
theorem dX7_loop_146 : decode cX7_loop 146 = .ok (.invokevirtual 109, 3) := by decide +kernel
theorem dX7_loop_149 : decode cX7_loop 149 = .ok (.ifCond .ne 103, 3) := by decide +kernel
theorem dX7_loop_152 : decode cX7_loop 152 = .ok (.aload_n 0, 1) := by decide +kernel
theorem dX7_loop_153 : decode cX7_loop 153 = .ok (.getfield 7, 3) := by decide +kernel
theorem dX7_loop_156 : decode cX7_loop 156 = .ok (.bipush 6, 2) := by decide +kernel
theorem dX7_loop_158 : decode cX7_loop 158 = .ok (.dup2, 1) := by decide +kernel
theorem dX7_loop_159 : decode cX7_loop 159 = .ok (.iaload, 1) := by decide +kernel
theorem dX7_loop_160 : decode cX7_loop 160 = .ok (.iconst 1, 1) := by decide +kernel
theorem dX7_loop_161 : decode cX7_loop 161 = .ok (.iadd, 1) := by decide +kernel
theorem dX7_loop_162 : decode cX7_loop 162 = .ok (.iastore, 1) := by decide +kernel
theorem dX7_loop_163 : decode cX7_loop 163 = .ok (.aload_n 0, 1) := by decide +kernel
theorem dX7_loop_164 : decode cX7_loop 164 = .ok (.getfield 7, 3) := by decide +kernel
theorem dX7_loop_167 : decode cX7_loop 167 = .ok (.bipush 6, 2) := by decide +kernel
theorem dX7_loop_169 : decode cX7_loop 169 = .ok (.iaload, 1) := by decide +kernel
theorem dX7_loop_170 : decode cX7_loop 170 = .ok (.aload_n 0, 1) := by decide +kernel
theorem dX7_loop_171 : decode cX7_loop 171 = .ok (.iconst 5, 1) := by decide +kernel
theorem dX7_loop_172 : decode cX7_loop 172 = .ok (.invokevirtual 78, 3) := by decide +kernel
theorem dX7_loop_175 : decode cX7_loop 175 = .ok (.if_icmp .lt 18, 3) := by decide +kernel
theorem dX7_loop_178 : decode cX7_loop 178 = .ok (.aload_n 0, 1) := by decide +kernel
theorem dX7_loop_179 : decode cX7_loop 179 = .ok (.getfield 7, 3) := by decide +kernel
theorem dX7_loop_182 : decode cX7_loop 182 = .ok (.iconst 1, 1) := by decide +kernel
theorem dX7_loop_183 : decode cX7_loop 183 = .ok (.iconst 5, 1) := by decide +kernel
theorem dX7_loop_184 : decode cX7_loop 184 = .ok (.iastore, 1) := by decide +kernel
theorem dX7_loop_185 : decode cX7_loop 185 = .ok (.aload_n 0, 1) := by decide +kernel
theorem dX7_loop_186 : decode cX7_loop 186 = .ok (.getfield 7, 3) := by decide +kernel
theorem dX7_loop_189 : decode cX7_loop 189 = .ok (.iconst 3, 1) := by decide +kernel
theorem dX7_loop_190 : decode cX7_loop 190 = .ok (.iconst 0, 1) := by decide +kernel
theorem dX7_loop_191 : decode cX7_loop 191 = .ok (.iastore, 1) := by decide +kernel
theorem dX7_loop_192 : decode cX7_loop 192 = .ok (.return_, 1) := by decide +kernel
theorem dX7_loop_193 : decode cX7_loop 193 = .ok (.aload_n 0, 1) := by decide +kernel
theorem dX7_loop_194 : decode cX7_loop 194 = .ok (.getfield 7, 3) := by decide +kernel
theorem dX7_loop_197 : decode cX7_loop 197 = .ok (.bipush 7, 2) := by decide +kernel
theorem dX7_loop_199 : decode cX7_loop 199 = .ok (.iconst 1, 1) := by decide +kernel
theorem dX7_loop_200 : decode cX7_loop 200 = .ok (.aload_n 0, 1) := by decide +kernel
theorem dX7_loop_201 : decode cX7_loop 201 = .ok (.getfield 7, 3) := by decide +kernel
theorem dX7_loop_204 : decode cX7_loop 204 = .ok (.bipush 7, 2) := by decide +kernel
theorem dX7_loop_206 : decode cX7_loop 206 = .ok (.iaload, 1) := by decide +kernel
theorem dX7_loop_207 : decode cX7_loop 207 = .ok (.isub, 1) := by decide +kernel
theorem dX7_loop_208 : decode cX7_loop 208 = .ok (.iastore, 1) := by decide +kernel
theorem dX7_loop_209 : decode cX7_loop 209 = .ok (.aload_n 0, 1) := by decide +kernel
theorem dX7_loop_210 : decode cX7_loop 210 = .ok (.getfield 7, 3) := by decide +kernel
theorem dX7_loop_213 : decode cX7_loop 213 = .ok (.iconst 2, 1) := by decide +kernel
theorem dX7_loop_214 : decode cX7_loop 214 = .ok (.iaload, 1) := by decide +kernel
theorem dX7_loop_215 : decode cX7_loop 215 = .ok (.aload_n 0, 1) := by decide +kernel
theorem dX7_loop_216 : decode cX7_loop 216 = .ok (.getfield 7, 3) := by decide +kernel
theorem dX7_loop_219 : decode cX7_loop 219 = .ok (.bipush 7, 2) := by decide +kernel
theorem dX7_loop_221 : decode cX7_loop 221 = .ok (.iaload, 1) := by decide +kernel
theorem dX7_loop_222 : decode cX7_loop 222 = .ok (.iconst 1, 1) := by decide +kernel
theorem dX7_loop_223 : decode cX7_loop 223 = .ok (.if_icmp .ne 7, 3) := by decide +kernel
theorem dX7_loop_226 : decode cX7_loop 226 = .ok (.iconst 1, 1) := by decide +kernel
theorem dX7_loop_227 : decode cX7_loop 227 = .ok (.goto 4, 3) := by decide +kernel
theorem dX7_loop_230 : decode cX7_loop 230 = .ok (.iconst (-1), 1) := by decide +kernel
theorem dX7_loop_231 : decode cX7_loop 231 = .ok (.iadd, 1) := by decide +kernel
theorem dX7_loop_232 : decode cX7_loop 232 = .ok (.istore_n 3, 1) := by decide +kernel
theorem dX7_loop_233 : decode cX7_loop 233 = .ok (.aload_n 0, 1) := by decide +kernel
theorem dX7_loop_234 : decode cX7_loop 234 = .ok (.iload_n 3, 1) := by decide +kernel
theorem dX7_loop_235 : decode cX7_loop 235 = .ok (.invokevirtual 109, 3) := by decide +kernel
theorem dX7_loop_238 : decode cX7_loop 238 = .ok (.ifCond .eq 7, 3) := by decide +kernel
theorem dX7_loop_241 : decode cX7_loop 241 = .ok (.iload_n 3, 1) := by decide +kernel
theorem dX7_loop_242 : decode cX7_loop 242 = .ok (.goto 9, 3) := by decide +kernel
theorem dX7_loop_245 : decode cX7_loop 245 = .ok (.aload_n 0, 1) := by decide +kernel
theorem dX7_loop_246 : decode cX7_loop 246 = .ok (.getfield 7, 3) := by decide +kernel
theorem dX7_loop_249 : decode cX7_loop 249 = .ok (.iconst 2, 1) := by decide +kernel
theorem dX7_loop_250 : decode cX7_loop 250 = .ok (.iaload, 1) := by decide +kernel
theorem dX7_loop_251 : decode cX7_loop 251 = .ok (.istore_n 3, 1) := by decide +kernel
theorem dX7_loop_252 : decode cX7_loop 252 = .ok (.aload_n 0, 1) := by decide +kernel
theorem dX7_loop_253 : decode cX7_loop 253 = .ok (.iload_n 3, 1) := by decide +kernel
theorem dX7_loop_254 : decode cX7_loop 254 = .ok (.iload_n 1, 1) := by decide +kernel
theorem dX7_loop_255 : decode cX7_loop 255 = .ok (.invokevirtual 112, 3) := by decide +kernel
theorem dX7_loop_258 : decode cX7_loop 258 = .ok (.return_, 1) := by decide +kernel
theorem dX7_goesTo_0 : decode cX7_goesTo 0 = .ok (.aload_n 0, 1) := by decide +kernel
theorem dX7_goesTo_1 : decode cX7_goesTo 1 = .ok (.getfield 7, 3) := by decide +kernel
theorem dX7_goesTo_4 : decode cX7_goesTo 4 = .ok (.sipush 208, 3) := by decide +kernel
theorem dX7_goesTo_7 : decode cX7_goesTo 7 = .ok (.iload_n 1, 1) := by decide +kernel
theorem dX7_goesTo_8 : decode cX7_goesTo 8 = .ok (.iadd, 1) := by decide +kernel
theorem dX7_goesTo_9 : decode cX7_goesTo 9 = .ok (.iaload, 1) := by decide +kernel
theorem dX7_goesTo_10 : decode cX7_goesTo 10 = .ok (.istore_n 3, 1) := by decide +kernel
theorem dX7_goesTo_11 : decode cX7_goesTo 11 = .ok (.aload_n 0, 1) := by decide +kernel
theorem dX7_goesTo_12 : decode cX7_goesTo 12 = .ok (.getfield 7, 3) := by decide +kernel
theorem dX7_goesTo_15 : decode cX7_goesTo 15 = .ok (.iconst 3, 1) := by decide +kernel
theorem dX7_goesTo_16 : decode cX7_goesTo 16 = .ok (.iaload, 1) := by decide +kernel
theorem dX7_goesTo_17 : decode cX7_goesTo 17 = .ok (.i2l, 1) := by decide +kernel
theorem dX7_goesTo_18 : decode cX7_goesTo 18 = .ok (.lstore 4, 2) := by decide +kernel
theorem dX7_goesTo_20 : decode cX7_goesTo 20 = .ok (.ldc2_w 115, 3) := by decide +kernel
theorem dX7_goesTo_23 : decode cX7_goesTo 23 = .ok (.lload 4, 2) := by decide +kernel
theorem dX7_goesTo_25 : decode cX7_goesTo 25 = .ok (.lmul, 1) := by decide +kernel
theorem dX7_goesTo_26 : decode cX7_goesTo 26 = .ok (.lstore 6, 2) := by decide +kernel
theorem dX7_goesTo_28 : decode cX7_goesTo 28 = .ok (.aload_n 0, 1) := by decide +kernel
theorem dX7_goesTo_29 : decode cX7_goesTo 29 = .ok (.getfield 7, 3) := by decide +kernel
theorem dX7_goesTo_32 : decode cX7_goesTo 32 = .ok (.sipush 1508, 3) := by decide +kernel
theorem dX7_goesTo_35 : decode cX7_goesTo 35 = .ok (.iload_n 1, 1) := by decide +kernel
theorem dX7_goesTo_36 : decode cX7_goesTo 36 = .ok (.iadd, 1) := by decide +kernel
theorem dX7_goesTo_37 : decode cX7_goesTo 37 = .ok (.iaload, 1) := by decide +kernel
theorem dX7_goesTo_38 : decode cX7_goesTo 38 = .ok (.ifCond .le 30, 3) := by decide +kernel
theorem dX7_goesTo_41 : decode cX7_goesTo 41 = .ok (.aload_n 0, 1) := by decide +kernel
theorem dX7_goesTo_42 : decode cX7_goesTo 42 = .ok (.iload_n 3, 1) := by decide +kernel
theorem dX7_goesTo_43 : decode cX7_goesTo 43 = .ok (.invokevirtual 117, 3) := by decide +kernel
theorem dX7_goesTo_46 : decode cX7_goesTo 46 = .ok (.i2l, 1) := by decide +kernel
theorem dX7_goesTo_47 : decode cX7_goesTo 47 = .ok (.ldc2_w 89, 3) := by decide +kernel
theorem dX7_goesTo_50 : decode cX7_goesTo 50 = .ok (.lmul, 1) := by decide +kernel
theorem dX7_goesTo_51 : decode cX7_goesTo 51 = .ok (.aload_n 0, 1) := by decide +kernel
theorem dX7_goesTo_52 : decode cX7_goesTo 52 = .ok (.getfield 7, 3) := by decide +kernel
theorem dX7_goesTo_55 : decode cX7_goesTo 55 = .ok (.sipush 1508, 3) := by decide +kernel
theorem dX7_goesTo_58 : decode cX7_goesTo 58 = .ok (.iload_n 1, 1) := by decide +kernel
theorem dX7_goesTo_59 : decode cX7_goesTo 59 = .ok (.iadd, 1) := by decide +kernel
theorem dX7_goesTo_60 : decode cX7_goesTo 60 = .ok (.iaload, 1) := by decide +kernel
theorem dX7_goesTo_61 : decode cX7_goesTo 61 = .ok (.i2l, 1) := by decide +kernel
theorem dX7_goesTo_62 : decode cX7_goesTo 62 = .ok (.ldiv, 1) := by decide +kernel
theorem dX7_goesTo_63 : decode cX7_goesTo 63 = .ok (.lstore 6, 2) := by decide +kernel
theorem dX7_goesTo_65 : decode cX7_goesTo 65 = .ok (.goto 21, 3) := by decide +kernel
theorem dX7_goesTo_68 : decode cX7_goesTo 68 = .ok (.iload_n 2, 1) := by decide +kernel
theorem dX7_goesTo_69 : decode cX7_goesTo 69 = .ok (.ifCond .le 17, 3) := by decide +kernel
theorem dX7_goesTo_72 : decode cX7_goesTo 72 = .ok (.lload 4, 2) := by decide +kernel
theorem dX7_goesTo_74 : decode cX7_goesTo 74 = .ok (.aload_n 0, 1) := by decide +kernel
theorem dX7_goesTo_75 : decode cX7_goesTo 75 = .ok (.iload_n 3, 1) := by decide +kernel
theorem dX7_goesTo_76 : decode cX7_goesTo 76 = .ok (.invokevirtual 117, 3) := by decide +kernel
theorem dX7_goesTo_79 : decode cX7_goesTo 79 = .ok (.i2l, 1) := by decide +kernel
theorem dX7_goesTo_80 : decode cX7_goesTo 80 = .ok (.lmul, 1) := by decide +kernel
theorem dX7_goesTo_81 : decode cX7_goesTo 81 = .ok (.iload_n 2, 1) := by decide +kernel
theorem dX7_goesTo_82 : decode cX7_goesTo 82 = .ok (.i2l, 1) := by decide +kernel
theorem dX7_goesTo_83 : decode cX7_goesTo 83 = .ok (.ldiv, 1) := by decide +kernel
theorem dX7_goesTo_84 : decode cX7_goesTo 84 = .ok (.lstore 6, 2) := by decide +kernel
theorem dX7_goesTo_86 : decode cX7_goesTo 86 = .ok (.lload 4, 2) := by decide +kernel
theorem dX7_goesTo_88 : decode cX7_goesTo 88 = .ok (.lload 4, 2) := by decide +kernel
theorem dX7_goesTo_90 : decode cX7_goesTo 90 = .ok (.ldc2_w 115, 3) := by decide +kernel
theorem dX7_goesTo_93 : decode cX7_goesTo 93 = .ok (.ldiv, 1) := by decide +kernel
theorem dX7_goesTo_94 : decode cX7_goesTo 94 = .ok (.lsub, 1) := by decide +kernel
theorem dX7_goesTo_95 : decode cX7_goesTo 95 = .ok (.lstore 8, 2) := by decide +kernel
theorem dX7_goesTo_97 : decode cX7_goesTo 97 = .ok (.lload 4, 2) := by decide +kernel
theorem dX7_goesTo_99 : decode cX7_goesTo 99 = .ok (.lload 4, 2) := by decide +kernel
theorem dX7_goesTo_101 : decode cX7_goesTo 101 = .ok (.aload_n 0, 1) := by decide +kernel
theorem dX7_goesTo_102 : decode cX7_goesTo 102 = .ok (.iconst 3, 1) := by decide +kernel
theorem dX7_goesTo_103 : decode cX7_goesTo 103 = .ok (.invokevirtual 78, 3) := by decide +kernel
theorem dX7_goesTo_106 : decode cX7_goesTo 106 = .ok (.i2l, 1) := by decide +kernel
theorem dX7_goesTo_107 : decode cX7_goesTo 107 = .ok (.lmul, 1) := by decide +kernel
theorem dX7_goesTo_108 : decode cX7_goesTo 108 = .ok (.ldc2_w 120, 3) := by decide +kernel
theorem dX7_goesTo_111 : decode cX7_goesTo 111 = .ok (.ldiv, 1) := by decide +kernel
theorem dX7_goesTo_112 : decode cX7_goesTo 112 = .ok (.ladd, 1) := by decide +kernel
theorem dX7_goesTo_113 : decode cX7_goesTo 113 = .ok (.lconst 1, 1) := by decide +kernel
theorem dX7_goesTo_114 : decode cX7_goesTo 114 = .ok (.ladd, 1) := by decide +kernel
theorem dX7_goesTo_115 : decode cX7_goesTo 115 = .ok (.lstore 10, 2) := by decide +kernel
theorem dX7_goesTo_117 : decode cX7_goesTo 117 = .ok (.lload 6, 2) := by decide +kernel
theorem dX7_goesTo_119 : decode cX7_goesTo 119 = .ok (.lload 8, 2) := by decide +kernel
theorem dX7_goesTo_121 : decode cX7_goesTo 121 = .ok (.lcmp, 1) := by decide +kernel
theorem dX7_goesTo_122 : decode cX7_goesTo 122 = .ok (.ifCond .ge 8, 3) := by decide +kernel
theorem dX7_goesTo_125 : decode cX7_goesTo 125 = .ok (.lload 8, 2) := by decide +kernel
theorem dX7_goesTo_127 : decode cX7_goesTo 127 = .ok (.goto 5, 3) := by decide +kernel
theorem dX7_goesTo_130 : decode cX7_goesTo 130 = .ok (.lload 6, 2) := by decide +kernel
theorem dX7_goesTo_132 : decode cX7_goesTo 132 = .ok (.lstore 6, 2) := by decide +kernel
theorem dX7_goesTo_134 : decode cX7_goesTo 134 = .ok (.lload 6, 2) := by decide +kernel
theorem dX7_goesTo_136 : decode cX7_goesTo 136 = .ok (.lload 10, 2) := by decide +kernel
theorem dX7_goesTo_138 : decode cX7_goesTo 138 = .ok (.lcmp, 1) := by decide +kernel
theorem dX7_goesTo_139 : decode cX7_goesTo 139 = .ok (.ifCond .le 8, 3) := by decide +kernel
theorem dX7_goesTo_142 : decode cX7_goesTo 142 = .ok (.lload 10, 2) := by decide +kernel
theorem dX7_goesTo_144 : decode cX7_goesTo 144 = .ok (.goto 5, 3) := by decide +kernel
theorem dX7_goesTo_147 : decode cX7_goesTo 147 = .ok (.lload 6, 2) := by decide +kernel
theorem dX7_goesTo_149 : decode cX7_goesTo 149 = .ok (.lstore 6, 2) := by decide +kernel
theorem dX7_goesTo_151 : decode cX7_goesTo 151 = .ok (.bipush (-6), 2) := by decide +kernel
theorem dX7_goesTo_153 : decode cX7_goesTo 153 = .ok (.istore 12, 2) := by decide +kernel
theorem dX7_goesTo_155 : decode cX7_goesTo 155 = .ok (.iconst 0, 1) := by decide +kernel
theorem dX7_goesTo_156 : decode cX7_goesTo 156 = .ok (.istore 13, 2) := by decide +kernel
theorem dX7_goesTo_158 : decode cX7_goesTo 158 = .ok (.iload 13, 2) := by decide +kernel
theorem dX7_goesTo_160 : decode cX7_goesTo 160 = .ok (.aload_n 0, 1) := by decide +kernel
theorem dX7_goesTo_161 : decode cX7_goesTo 161 = .ok (.getfield 7, 3) := by decide +kernel
theorem dX7_goesTo_164 : decode cX7_goesTo 164 = .ok (.iconst 5, 1) := by decide +kernel
theorem dX7_goesTo_165 : decode cX7_goesTo 165 = .ok (.iaload, 1) := by decide +kernel
theorem dX7_goesTo_166 : decode cX7_goesTo 166 = .ok (.if_icmp .ge 103, 3) := by decide +kernel
theorem dX7_goesTo_169 : decode cX7_goesTo 169 = .ok (.aload_n 0, 1) := by decide +kernel
theorem dX7_goesTo_170 : decode cX7_goesTo 170 = .ok (.iload 13, 2) := by decide +kernel
theorem dX7_goesTo_172 : decode cX7_goesTo 172 = .ok (.iload_n 3, 1) := by decide +kernel
theorem dX7_goesTo_173 : decode cX7_goesTo 173 = .ok (.invokevirtual 97, 3) := by decide +kernel
theorem dX7_goesTo_176 : decode cX7_goesTo 176 = .ok (.istore 14, 2) := by decide +kernel
theorem dX7_goesTo_178 : decode cX7_goesTo 178 = .ok (.aload_n 0, 1) := by decide +kernel
theorem dX7_goesTo_179 : decode cX7_goesTo 179 = .ok (.getfield 7, 3) := by decide +kernel
theorem dX7_goesTo_182 : decode cX7_goesTo 182 = .ok (.sipush 908, 3) := by decide +kernel
theorem dX7_goesTo_185 : decode cX7_goesTo 185 = .ok (.bipush 6, 2) := by decide +kernel
theorem dX7_goesTo_187 : decode cX7_goesTo 187 = .ok (.iload_n 1, 1) := by decide +kernel
theorem dX7_goesTo_188 : decode cX7_goesTo 188 = .ok (.imul, 1) := by decide +kernel
theorem dX7_goesTo_189 : decode cX7_goesTo 189 = .ok (.iadd, 1) := by decide +kernel
theorem dX7_goesTo_190 : decode cX7_goesTo 190 = .ok (.iload 13, 2) := by decide +kernel
theorem dX7_goesTo_192 : decode cX7_goesTo 192 = .ok (.iadd, 1) := by decide +kernel
theorem dX7_goesTo_193 : decode cX7_goesTo 193 = .ok (.iaload, 1) := by decide +kernel
theorem dX7_goesTo_194 : decode cX7_goesTo 194 = .ok (.istore 15, 2) := by decide +kernel
theorem dX7_goesTo_196 : decode cX7_goesTo 196 = .ok (.iload 15, 2) := by decide +kernel
theorem dX7_goesTo_198 : decode cX7_goesTo 198 = .ok (.bipush (-6), 2) := by decide +kernel
theorem dX7_goesTo_200 : decode cX7_goesTo 200 = .ok (.if_icmp .ne 13, 3) := by decide +kernel
theorem dX7_goesTo_203 : decode cX7_goesTo 203 = .ok (.aload_n 0, 1) := by decide +kernel
theorem dX7_goesTo_204 : decode cX7_goesTo 204 = .ok (.getfield 20, 3) := by decide +kernel
theorem dX7_goesTo_207 : decode cX7_goesTo 207 = .ok (.iload 13, 2) := by decide +kernel
theorem dX7_goesTo_209 : decode cX7_goesTo 209 = .ok (.iaload, 1) := by decide +kernel
theorem dX7_goesTo_210 : decode cX7_goesTo 210 = .ok (.goto 5, 3) := by decide +kernel
theorem dX7_goesTo_213 : decode cX7_goesTo 213 = .ok (.iload 15, 2) := by decide +kernel
theorem dX7_goesTo_215 : decode cX7_goesTo 215 = .ok (.istore 16, 2) := by decide +kernel
theorem dX7_goesTo_217 : decode cX7_goesTo 217 = .ok (.iload 14, 2) := by decide +kernel
theorem dX7_goesTo_219 : decode cX7_goesTo 219 = .ok (.bipush (-6), 2) := by decide +kernel
theorem dX7_goesTo_221 : decode cX7_goesTo 221 = .ok (.if_icmp .eq 42, 3) := by decide +kernel
theorem dX7_goesTo_224 : decode cX7_goesTo 224 = .ok (.iload 16, 2) := by decide +kernel
theorem dX7_goesTo_226 : decode cX7_goesTo 226 = .ok (.ifCond .le 37, 3) := by decide +kernel
theorem dX7_goesTo_229 : decode cX7_goesTo 229 = .ok (.lload 6, 2) := by decide +kernel
theorem dX7_goesTo_231 : decode cX7_goesTo 231 = .ok (.iload 14, 2) := by decide +kernel
theorem dX7_goesTo_233 : decode cX7_goesTo 233 = .ok (.i2l, 1) := by decide +kernel
theorem dX7_goesTo_234 : decode cX7_goesTo 234 = .ok (.ldc2_w 89, 3) := by decide +kernel
theorem dX7_goesTo_237 : decode cX7_goesTo 237 = .ok (.lmul, 1) := by decide +kernel
theorem dX7_goesTo_238 : decode cX7_goesTo 238 = .ok (.iload 16, 2) := by decide +kernel
theorem dX7_goesTo_240 : decode cX7_goesTo 240 = .ok (.i2l, 1) := by decide +kernel
theorem dX7_goesTo_241 : decode cX7_goesTo 241 = .ok (.ldiv, 1) := by decide +kernel
theorem dX7_goesTo_242 : decode cX7_goesTo 242 = .ok (.lcmp, 1) := by decide +kernel
theorem dX7_goesTo_243 : decode cX7_goesTo 243 = .ok (.ifCond .le 20, 3) := by decide +kernel
theorem dX7_goesTo_246 : decode cX7_goesTo 246 = .ok (.iload 14, 2) := by decide +kernel
theorem dX7_goesTo_248 : decode cX7_goesTo 248 = .ok (.i2l, 1) := by decide +kernel
theorem dX7_goesTo_249 : decode cX7_goesTo 249 = .ok (.ldc2_w 89, 3) := by decide +kernel
theorem dX7_goesTo_252 : decode cX7_goesTo 252 = .ok (.lmul, 1) := by decide +kernel
theorem dX7_goesTo_253 : decode cX7_goesTo 253 = .ok (.iload 16, 2) := by decide +kernel
theorem dX7_goesTo_255 : decode cX7_goesTo 255 = .ok (.i2l, 1) := by decide +kernel
theorem dX7_goesTo_256 : decode cX7_goesTo 256 = .ok (.ldiv, 1) := by decide +kernel
theorem dX7_goesTo_257 : decode cX7_goesTo 257 = .ok (.lstore 6, 2) := by decide +kernel
theorem dX7_goesTo_259 : decode cX7_goesTo 259 = .ok (.iload 13, 2) := by decide +kernel
theorem dX7_goesTo_261 : decode cX7_goesTo 261 = .ok (.istore 12, 2) := by decide +kernel
theorem dX7_goesTo_263 : decode cX7_goesTo 263 = .ok (.iinc 13 1, 3) := by decide +kernel
theorem dX7_goesTo_266 : decode cX7_goesTo 266 = .ok (.goto (-108), 3) := by decide +kernel
theorem dX7_goesTo_269 : decode cX7_goesTo 269 = .ok (.lload 6, 2) := by decide +kernel
theorem dX7_goesTo_271 : decode cX7_goesTo 271 = .ok (.ldc2_w 122, 3) := by decide +kernel
theorem dX7_goesTo_274 : decode cX7_goesTo 274 = .ok (.lcmp, 1) := by decide +kernel
theorem dX7_goesTo_275 : decode cX7_goesTo 275 = .ok (.ifCond .le 9, 3) := by decide +kernel
theorem dX7_goesTo_278 : decode cX7_goesTo 278 = .ok (.ldc2_w 122, 3) := by decide +kernel
theorem dX7_goesTo_281 : decode cX7_goesTo 281 = .ok (.goto 5, 3) := by decide +kernel
theorem dX7_goesTo_284 : decode cX7_goesTo 284 = .ok (.lload 6, 2) := by decide +kernel
theorem dX7_goesTo_286 : decode cX7_goesTo 286 = .ok (.lstore 6, 2) := by decide +kernel
theorem dX7_goesTo_288 : decode cX7_goesTo 288 = .ok (.lload 6, 2) := by decide +kernel
theorem dX7_goesTo_290 : decode cX7_goesTo 290 = .ok (.lconst 1, 1) := by decide +kernel
theorem dX7_goesTo_291 : decode cX7_goesTo 291 = .ok (.lcmp, 1) := by decide +kernel
theorem dX7_goesTo_292 : decode cX7_goesTo 292 = .ok (.ifCond .ge 7, 3) := by decide +kernel
theorem dX7_goesTo_295 : decode cX7_goesTo 295 = .ok (.lconst 1, 1) := by decide +kernel
theorem dX7_goesTo_296 : decode cX7_goesTo 296 = .ok (.goto 5, 3) := by decide +kernel
theorem dX7_goesTo_299 : decode cX7_goesTo 299 = .ok (.lload 6, 2) := by decide +kernel
theorem dX7_goesTo_301 : decode cX7_goesTo 301 = .ok (.lstore 6, 2) := by decide +kernel
theorem dX7_goesTo_303 : decode cX7_goesTo 303 = .ok (.aload_n 0, 1) := by decide +kernel
theorem dX7_goesTo_304 : decode cX7_goesTo 304 = .ok (.getfield 7, 3) := by decide +kernel
theorem dX7_goesTo_307 : decode cX7_goesTo 307 = .ok (.sipush 1708, 3) := by decide +kernel
theorem dX7_goesTo_310 : decode cX7_goesTo 310 = .ok (.iload_n 1, 1) := by decide +kernel
theorem dX7_goesTo_311 : decode cX7_goesTo 311 = .ok (.iadd, 1) := by decide +kernel
theorem dX7_goesTo_312 : decode cX7_goesTo 312 = .ok (.iload 12, 2) := by decide +kernel
theorem dX7_goesTo_314 : decode cX7_goesTo 314 = .ok (.iastore, 1) := by decide +kernel
theorem dX7_goesTo_315 : decode cX7_goesTo 315 = .ok (.aload_n 0, 1) := by decide +kernel
theorem dX7_goesTo_316 : decode cX7_goesTo 316 = .ok (.getfield 7, 3) := by decide +kernel
theorem dX7_goesTo_319 : decode cX7_goesTo 319 = .ok (.sipush 1608, 3) := by decide +kernel
theorem dX7_goesTo_322 : decode cX7_goesTo 322 = .ok (.iload_n 1, 1) := by decide +kernel
theorem dX7_goesTo_323 : decode cX7_goesTo 323 = .ok (.iadd, 1) := by decide +kernel
theorem dX7_goesTo_324 : decode cX7_goesTo 324 = .ok (.lload 6, 2) := by decide +kernel
theorem dX7_goesTo_326 : decode cX7_goesTo 326 = .ok (.l2i, 1) := by decide +kernel
theorem dX7_goesTo_327 : decode cX7_goesTo 327 = .ok (.iastore, 1) := by decide +kernel
theorem dX7_goesTo_328 : decode cX7_goesTo 328 = .ok (.aload_n 0, 1) := by decide +kernel
theorem dX7_goesTo_329 : decode cX7_goesTo 329 = .ok (.getfield 7, 3) := by decide +kernel
theorem dX7_goesTo_332 : decode cX7_goesTo 332 = .ok (.iconst 2, 1) := by decide +kernel
theorem dX7_goesTo_333 : decode cX7_goesTo 333 = .ok (.iload_n 1, 1) := by decide +kernel
theorem dX7_goesTo_334 : decode cX7_goesTo 334 = .ok (.iastore, 1) := by decide +kernel
theorem dX7_goesTo_335 : decode cX7_goesTo 335 = .ok (.aload_n 0, 1) := by decide +kernel
theorem dX7_goesTo_336 : decode cX7_goesTo 336 = .ok (.getfield 7, 3) := by decide +kernel
theorem dX7_goesTo_339 : decode cX7_goesTo 339 = .ok (.iconst 3, 1) := by decide +kernel
theorem dX7_goesTo_340 : decode cX7_goesTo 340 = .ok (.lload 6, 2) := by decide +kernel
theorem dX7_goesTo_342 : decode cX7_goesTo 342 = .ok (.l2i, 1) := by decide +kernel
theorem dX7_goesTo_343 : decode cX7_goesTo 343 = .ok (.iastore, 1) := by decide +kernel
theorem dX7_goesTo_344 : decode cX7_goesTo 344 = .ok (.return_, 1) := by decide +kernel
theorem dX7_loops_0 : decode cX7_loops 0 = .ok (.iconst 0, 1) := by decide +kernel
theorem dX7_loops_1 : decode cX7_loops 1 = .ok (.istore_n 2, 1) := by decide +kernel
theorem dX7_loops_2 : decode cX7_loops 2 = .ok (.iload_n 2, 1) := by decide +kernel
theorem dX7_loops_3 : decode cX7_loops 3 = .ok (.iload_n 1, 1) := by decide +kernel
theorem dX7_loops_4 : decode cX7_loops 4 = .ok (.if_icmp .ge 20, 3) := by decide +kernel
theorem dX7_loops_7 : decode cX7_loops 7 = .ok (.aload_n 0, 1) := by decide +kernel
theorem dX7_loops_8 : decode cX7_loops 8 = .ok (.invokevirtual 45, 3) := by decide +kernel
theorem dX7_loops_11 : decode cX7_loops 11 = .ok (.ifCond .ne 13, 3) := by decide +kernel
theorem dX7_loops_14 : decode cX7_loops 14 = .ok (.aload_n 0, 1) := by decide +kernel
theorem dX7_loops_15 : decode cX7_loops 15 = .ok (.invokevirtual 124, 3) := by decide +kernel
theorem dX7_loops_18 : decode cX7_loops 18 = .ok (.iinc 2 1, 3) := by decide +kernel
theorem dX7_loops_21 : decode cX7_loops 21 = .ok (.goto (-19), 3) := by decide +kernel
theorem dX7_loops_24 : decode cX7_loops 24 = .ok (.iload_n 2, 1) := by decide +kernel
theorem dX7_loops_25 : decode cX7_loops 25 = .ok (.ireturn, 1) := by decide +kernel
theorem dX7_step_0 : decode cX7_step 0 = .ok (.iload_n 1, 1) := by decide +kernel
theorem dX7_step_1 : decode cX7_step 1 = .ok (.iconst 1, 1) := by decide +kernel
theorem dX7_step_2 : decode cX7_step 2 = .ok (.bipush 50, 2) := by decide +kernel
theorem dX7_step_4 : decode cX7_step 4 = .ok (.invokestatic 41, 3) := by decide +kernel
theorem dX7_step_7 : decode cX7_step 7 = .ok (.ifCond .ne 6, 3) := by decide +kernel
theorem dX7_step_10 : decode cX7_step 10 = .ok (.bipush (-2), 2) := by decide +kernel
theorem dX7_step_12 : decode cX7_step 12 = .ok (.ireturn, 1) := by decide +kernel
theorem dX7_step_13 : decode cX7_step 13 = .ok (.aload_n 0, 1) := by decide +kernel
theorem dX7_step_14 : decode cX7_step 14 = .ok (.invokevirtual 45, 3) := by decide +kernel
theorem dX7_step_17 : decode cX7_step 17 = .ok (.ifCond .eq 6, 3) := by decide +kernel
theorem dX7_step_20 : decode cX7_step 20 = .ok (.bipush (-3), 2) := by decide +kernel
theorem dX7_step_22 : decode cX7_step 22 = .ok (.ireturn, 1) := by decide +kernel
theorem dX7_step_23 : decode cX7_step 23 = .ok (.aload_n 0, 1) := by decide +kernel
theorem dX7_step_24 : decode cX7_step 24 = .ok (.invokevirtual 53, 3) := by decide +kernel
theorem dX7_step_27 : decode cX7_step 27 = .ok (.aload_n 0, 1) := by decide +kernel
theorem dX7_step_28 : decode cX7_step 28 = .ok (.iload_n 1, 1) := by decide +kernel
theorem dX7_step_29 : decode cX7_step 29 = .ok (.invokevirtual 127, 3) := by decide +kernel
theorem dX7_step_32 : decode cX7_step 32 = .ok (.ireturn, 1) := by decide +kernel
theorem dX7_canHold_0 : decode cX7_canHold 0 = .ok (.aload_n 0, 1) := by decide +kernel
theorem dX7_canHold_1 : decode cX7_canHold 1 = .ok (.getfield 7, 3) := by decide +kernel
theorem dX7_canHold_4 : decode cX7_canHold 4 = .ok (.iconst 1, 1) := by decide +kernel
theorem dX7_canHold_5 : decode cX7_canHold 5 = .ok (.iaload, 1) := by decide +kernel
theorem dX7_canHold_6 : decode cX7_canHold 6 = .ok (.iload_n 1, 1) := by decide +kernel
theorem dX7_canHold_7 : decode cX7_canHold 7 = .ok (.ifCond .eq 7, 3) := by decide +kernel
theorem dX7_canHold_10 : decode cX7_canHold 10 = .ok (.iconst 1, 1) := by decide +kernel
theorem dX7_canHold_11 : decode cX7_canHold 11 = .ok (.goto 4, 3) := by decide +kernel
theorem dX7_canHold_14 : decode cX7_canHold 14 = .ok (.iconst 2, 1) := by decide +kernel
theorem dX7_canHold_15 : decode cX7_canHold 15 = .ok (.if_icmp .ne 7, 3) := by decide +kernel
theorem dX7_canHold_18 : decode cX7_canHold 18 = .ok (.iconst 1, 1) := by decide +kernel
theorem dX7_canHold_19 : decode cX7_canHold 19 = .ok (.goto 4, 3) := by decide +kernel
theorem dX7_canHold_22 : decode cX7_canHold 22 = .ok (.iconst 0, 1) := by decide +kernel
theorem dX7_canHold_23 : decode cX7_canHold 23 = .ok (.ireturn, 1) := by decide +kernel
theorem dX7_hold_0 : decode cX7_hold 0 = .ok (.aload_n 0, 1) := by decide +kernel
theorem dX7_hold_1 : decode cX7_hold 1 = .ok (.iload_n 1, 1) := by decide +kernel
theorem dX7_hold_2 : decode cX7_hold 2 = .ok (.invokevirtual 130, 3) := by decide +kernel
theorem dX7_hold_5 : decode cX7_hold 5 = .ok (.ifCond .ne 6, 3) := by decide +kernel
theorem dX7_hold_8 : decode cX7_hold 8 = .ok (.bipush (-3), 2) := by decide +kernel
theorem dX7_hold_10 : decode cX7_hold 10 = .ok (.ireturn, 1) := by decide +kernel
theorem dX7_hold_11 : decode cX7_hold 11 = .ok (.aload_n 0, 1) := by decide +kernel
theorem dX7_hold_12 : decode cX7_hold 12 = .ok (.invokevirtual 53, 3) := by decide +kernel
theorem dX7_hold_15 : decode cX7_hold 15 = .ok (.aload_n 0, 1) := by decide +kernel
theorem dX7_hold_16 : decode cX7_hold 16 = .ok (.getfield 7, 3) := by decide +kernel
theorem dX7_hold_19 : decode cX7_hold 19 = .ok (.iconst 1, 1) := by decide +kernel
theorem dX7_hold_20 : decode cX7_hold 20 = .ok (.iload_n 1, 1) := by decide +kernel
theorem dX7_hold_21 : decode cX7_hold 21 = .ok (.ifCond .eq 7, 3) := by decide +kernel
theorem dX7_hold_24 : decode cX7_hold 24 = .ok (.iconst 2, 1) := by decide +kernel
theorem dX7_hold_25 : decode cX7_hold 25 = .ok (.goto 4, 3) := by decide +kernel
theorem dX7_hold_28 : decode cX7_hold 28 = .ok (.iconst 1, 1) := by decide +kernel
theorem dX7_hold_29 : decode cX7_hold 29 = .ok (.iastore, 1) := by decide +kernel
theorem dX7_hold_30 : decode cX7_hold 30 = .ok (.aload_n 0, 1) := by decide +kernel
theorem dX7_hold_31 : decode cX7_hold 31 = .ok (.getfield 7, 3) := by decide +kernel
theorem dX7_hold_34 : decode cX7_hold 34 = .ok (.iconst 2, 1) := by decide +kernel
theorem dX7_hold_35 : decode cX7_hold 35 = .ok (.iaload, 1) := by decide +kernel
theorem dX7_hold_36 : decode cX7_hold 36 = .ok (.ireturn, 1) := by decide +kernel
theorem dX7_canAbort_0 : decode cX7_canAbort 0 = .ok (.aload_n 0, 1) := by decide +kernel
theorem dX7_canAbort_1 : decode cX7_canAbort 1 = .ok (.getfield 7, 3) := by decide +kernel
theorem dX7_canAbort_4 : decode cX7_canAbort 4 = .ok (.iconst 1, 1) := by decide +kernel
theorem dX7_canAbort_5 : decode cX7_canAbort 5 = .ok (.iaload, 1) := by decide +kernel
theorem dX7_canAbort_6 : decode cX7_canAbort 6 = .ok (.iconst 1, 1) := by decide +kernel
theorem dX7_canAbort_7 : decode cX7_canAbort 7 = .ok (.if_icmp .eq 13, 3) := by decide +kernel
theorem dX7_canAbort_10 : decode cX7_canAbort 10 = .ok (.aload_n 0, 1) := by decide +kernel
theorem dX7_canAbort_11 : decode cX7_canAbort 11 = .ok (.getfield 7, 3) := by decide +kernel
theorem dX7_canAbort_14 : decode cX7_canAbort 14 = .ok (.iconst 1, 1) := by decide +kernel
theorem dX7_canAbort_15 : decode cX7_canAbort 15 = .ok (.iaload, 1) := by decide +kernel
theorem dX7_canAbort_16 : decode cX7_canAbort 16 = .ok (.iconst 2, 1) := by decide +kernel
theorem dX7_canAbort_17 : decode cX7_canAbort 17 = .ok (.if_icmp .ne 7, 3) := by decide +kernel
theorem dX7_canAbort_20 : decode cX7_canAbort 20 = .ok (.iconst 1, 1) := by decide +kernel
theorem dX7_canAbort_21 : decode cX7_canAbort 21 = .ok (.goto 4, 3) := by decide +kernel
theorem dX7_canAbort_24 : decode cX7_canAbort 24 = .ok (.iconst 0, 1) := by decide +kernel
theorem dX7_canAbort_25 : decode cX7_canAbort 25 = .ok (.ireturn, 1) := by decide +kernel
theorem dX7_aborts_0 : decode cX7_aborts 0 = .ok (.aload_n 0, 1) := by decide +kernel
theorem dX7_aborts_1 : decode cX7_aborts 1 = .ok (.getfield 7, 3) := by decide +kernel
theorem dX7_aborts_4 : decode cX7_aborts 4 = .ok (.iconst 1, 1) := by decide +kernel
theorem dX7_aborts_5 : decode cX7_aborts 5 = .ok (.iconst 3, 1) := by decide +kernel
theorem dX7_aborts_6 : decode cX7_aborts 6 = .ok (.iastore, 1) := by decide +kernel
theorem dX7_aborts_7 : decode cX7_aborts 7 = .ok (.aload_n 0, 1) := by decide +kernel
theorem dX7_aborts_8 : decode cX7_aborts 8 = .ok (.getfield 7, 3) := by decide +kernel
theorem dX7_aborts_11 : decode cX7_aborts 11 = .ok (.bipush 9, 2) := by decide +kernel
theorem dX7_aborts_13 : decode cX7_aborts 13 = .ok (.bipush (-6), 2) := by decide +kernel
theorem dX7_aborts_15 : decode cX7_aborts 15 = .ok (.iastore, 1) := by decide +kernel
theorem dX7_aborts_16 : decode cX7_aborts 16 = .ok (.aload_n 0, 1) := by decide +kernel
theorem dX7_aborts_17 : decode cX7_aborts 17 = .ok (.getfield 7, 3) := by decide +kernel
theorem dX7_aborts_20 : decode cX7_aborts 20 = .ok (.bipush 10, 2) := by decide +kernel
theorem dX7_aborts_22 : decode cX7_aborts 22 = .ok (.aload_n 0, 1) := by decide +kernel
theorem dX7_aborts_23 : decode cX7_aborts 23 = .ok (.getfield 7, 3) := by decide +kernel
theorem dX7_aborts_26 : decode cX7_aborts 26 = .ok (.iconst 2, 1) := by decide +kernel
theorem dX7_aborts_27 : decode cX7_aborts 27 = .ok (.iaload, 1) := by decide +kernel
theorem dX7_aborts_28 : decode cX7_aborts 28 = .ok (.iastore, 1) := by decide +kernel
theorem dX7_aborts_29 : decode cX7_aborts 29 = .ok (.return_, 1) := by decide +kernel
theorem dX7_abort_0 : decode cX7_abort 0 = .ok (.aload_n 0, 1) := by decide +kernel
theorem dX7_abort_1 : decode cX7_abort 1 = .ok (.invokevirtual 134, 3) := by decide +kernel
theorem dX7_abort_4 : decode cX7_abort 4 = .ok (.ifCond .ne 6, 3) := by decide +kernel
theorem dX7_abort_7 : decode cX7_abort 7 = .ok (.bipush (-3), 2) := by decide +kernel
theorem dX7_abort_9 : decode cX7_abort 9 = .ok (.ireturn, 1) := by decide +kernel
theorem dX7_abort_10 : decode cX7_abort 10 = .ok (.aload_n 0, 1) := by decide +kernel
theorem dX7_abort_11 : decode cX7_abort 11 = .ok (.invokevirtual 53, 3) := by decide +kernel
theorem dX7_abort_14 : decode cX7_abort 14 = .ok (.aload_n 0, 1) := by decide +kernel
theorem dX7_abort_15 : decode cX7_abort 15 = .ok (.invokevirtual 137, 3) := by decide +kernel
theorem dX7_abort_18 : decode cX7_abort 18 = .ok (.aload_n 0, 1) := by decide +kernel
theorem dX7_abort_19 : decode cX7_abort 19 = .ok (.getfield 7, 3) := by decide +kernel
theorem dX7_abort_22 : decode cX7_abort 22 = .ok (.iconst 2, 1) := by decide +kernel
theorem dX7_abort_23 : decode cX7_abort 23 = .ok (.iaload, 1) := by decide +kernel
theorem dX7_abort_24 : decode cX7_abort 24 = .ok (.ireturn, 1) := by decide +kernel
theorem dX7_append_0 : decode cX7_append 0 = .ok (.iload_n 1, 1) := by decide +kernel
theorem dX7_append_1 : decode cX7_append 1 = .ok (.bipush 32, 2) := by decide +kernel
theorem dX7_append_3 : decode cX7_append 3 = .ok (.bipush 126, 2) := by decide +kernel
theorem dX7_append_5 : decode cX7_append 5 = .ok (.invokestatic 41, 3) := by decide +kernel
theorem dX7_append_8 : decode cX7_append 8 = .ok (.ifCond .ne 6, 3) := by decide +kernel
theorem dX7_append_11 : decode cX7_append 11 = .ok (.bipush (-2), 2) := by decide +kernel
theorem dX7_append_13 : decode cX7_append 13 = .ok (.ireturn, 1) := by decide +kernel
theorem dX7_append_14 : decode cX7_append 14 = .ok (.aload_n 0, 1) := by decide +kernel
theorem dX7_append_15 : decode cX7_append 15 = .ok (.getfield 140, 3) := by decide +kernel
theorem dX7_append_18 : decode cX7_append 18 = .ok (.bipush 80, 2) := by decide +kernel
theorem dX7_append_20 : decode cX7_append 20 = .ok (.if_icmp .ne 6, 3) := by decide +kernel
theorem dX7_append_23 : decode cX7_append 23 = .ok (.bipush (-4), 2) := by decide +kernel
theorem dX7_append_25 : decode cX7_append 25 = .ok (.ireturn, 1) := by decide +kernel
theorem dX7_append_26 : decode cX7_append 26 = .ok (.aload_n 0, 1) := by decide +kernel
theorem dX7_append_27 : decode cX7_append 27 = .ok (.getfield 17, 3) := by decide +kernel
theorem dX7_append_30 : decode cX7_append 30 = .ok (.aload_n 0, 1) := by decide +kernel
theorem dX7_append_31 : decode cX7_append 31 = .ok (.getfield 140, 3) := by decide +kernel
theorem dX7_append_34 : decode cX7_append 34 = .ok (.iload_n 1, 1) := by decide +kernel
theorem dX7_append_35 : decode cX7_append 35 = .ok (.iastore, 1) := by decide +kernel
theorem dX7_append_36 : decode cX7_append 36 = .ok (.aload_n 0, 1) := by decide +kernel
theorem dX7_append_37 : decode cX7_append 37 = .ok (.dup, 1) := by decide +kernel
theorem dX7_append_38 : decode cX7_append 38 = .ok (.getfield 140, 3) := by decide +kernel
theorem dX7_append_41 : decode cX7_append 41 = .ok (.iconst 1, 1) := by decide +kernel
theorem dX7_append_42 : decode cX7_append 42 = .ok (.iadd, 1) := by decide +kernel
theorem dX7_append_43 : decode cX7_append 43 = .ok (.putfield 140, 3) := by decide +kernel
theorem dX7_append_46 : decode cX7_append 46 = .ok (.aload_n 0, 1) := by decide +kernel
theorem dX7_append_47 : decode cX7_append 47 = .ok (.getfield 140, 3) := by decide +kernel
theorem dX7_append_50 : decode cX7_append 50 = .ok (.ireturn, 1) := by decide +kernel
theorem dX7_clearText_0 : decode cX7_clearText 0 = .ok (.aload_n 0, 1) := by decide +kernel
theorem dX7_clearText_1 : decode cX7_clearText 1 = .ok (.getfield 140, 3) := by decide +kernel
theorem dX7_clearText_4 : decode cX7_clearText 4 = .ok (.istore_n 1, 1) := by decide +kernel
theorem dX7_clearText_5 : decode cX7_clearText 5 = .ok (.aload_n 0, 1) := by decide +kernel
theorem dX7_clearText_6 : decode cX7_clearText 6 = .ok (.iconst 0, 1) := by decide +kernel
theorem dX7_clearText_7 : decode cX7_clearText 7 = .ok (.putfield 140, 3) := by decide +kernel
theorem dX7_clearText_10 : decode cX7_clearText 10 = .ok (.iload_n 1, 1) := by decide +kernel
theorem dX7_clearText_11 : decode cX7_clearText 11 = .ok (.ireturn, 1) := by decide +kernel
theorem dX7_peek_0 : decode cX7_peek 0 = .ok (.aload_n 0, 1) := by decide +kernel
theorem dX7_peek_1 : decode cX7_peek 1 = .ok (.getfield 143, 3) := by decide +kernel
theorem dX7_peek_4 : decode cX7_peek 4 = .ok (.aload_n 0, 1) := by decide +kernel
theorem dX7_peek_5 : decode cX7_peek 5 = .ok (.getfield 140, 3) := by decide +kernel
theorem dX7_peek_8 : decode cX7_peek 8 = .ok (.if_icmp .ge 15, 3) := by decide +kernel
theorem dX7_peek_11 : decode cX7_peek 11 = .ok (.aload_n 0, 1) := by decide +kernel
theorem dX7_peek_12 : decode cX7_peek 12 = .ok (.getfield 17, 3) := by decide +kernel
theorem dX7_peek_15 : decode cX7_peek 15 = .ok (.aload_n 0, 1) := by decide +kernel
theorem dX7_peek_16 : decode cX7_peek 16 = .ok (.getfield 143, 3) := by decide +kernel
theorem dX7_peek_19 : decode cX7_peek 19 = .ok (.iaload, 1) := by decide +kernel
theorem dX7_peek_20 : decode cX7_peek 20 = .ok (.goto 5, 3) := by decide +kernel
theorem dX7_peek_23 : decode cX7_peek 23 = .ok (.bipush (-6), 2) := by decide +kernel
theorem dX7_peek_25 : decode cX7_peek 25 = .ok (.ireturn, 1) := by decide +kernel
theorem dX7_takes_0 : decode cX7_takes 0 = .ok (.aload_n 0, 1) := by decide +kernel
theorem dX7_takes_1 : decode cX7_takes 1 = .ok (.invokevirtual 146, 3) := by decide +kernel
theorem dX7_takes_4 : decode cX7_takes 4 = .ok (.iload_n 1, 1) := by decide +kernel
theorem dX7_takes_5 : decode cX7_takes 5 = .ok (.if_icmp .ne 7, 3) := by decide +kernel
theorem dX7_takes_8 : decode cX7_takes 8 = .ok (.iconst 1, 1) := by decide +kernel
theorem dX7_takes_9 : decode cX7_takes 9 = .ok (.goto 4, 3) := by decide +kernel
