theorem dX4_init_0 : decode cX4_init 0 = .ok (.aload_n 0, 1) := by decide +kernel
theorem dX4_init_1 : decode cX4_init 1 = .ok (.invokespecial 3, 3) := by decide +kernel
theorem dX4_init_4 : decode cX4_init 4 = .ok (.aload_n 0, 1) := by decide +kernel
theorem dX4_init_5 : decode cX4_init 5 = .ok (.new 9, 3) := by decide +kernel
theorem dX4_init_8 : decode cX4_init 8 = .ok (.dup, 1) := by decide +kernel
theorem dX4_init_9 : decode cX4_init 9 = .ok (.invokespecial 11, 3) := by decide +kernel
theorem dX4_init_12 : decode cX4_init 12 = .ok (.putfield 12, 3) := by decide +kernel
theorem dX4_init_15 : decode cX4_init 15 = .ok (.aload_n 0, 1) := by decide +kernel
theorem dX4_init_16 : decode cX4_init 16 = .ok (.new 18, 3) := by decide +kernel
theorem dX4_init_19 : decode cX4_init 19 = .ok (.dup, 1) := by decide +kernel
theorem dX4_init_20 : decode cX4_init 20 = .ok (.invokespecial 20, 3) := by decide +kernel
theorem dX4_init_23 : decode cX4_init 23 = .ok (.putfield 21, 3) := by decide +kernel
theorem dX4_init_26 : decode cX4_init 26 = .ok (.aload_n 0, 1) := by decide +kernel
theorem dX4_init_27 : decode cX4_init 27 = .ok (.bipush 6, 2) := by decide +kernel
theorem dX4_init_29 : decode cX4_init 29 = .ok (.anewarray 25, 3) := by decide +kernel
theorem dX4_init_32 : decode cX4_init 32 = .ok (.putfield 27, 3) := by decide +kernel
theorem dX4_init_35 : decode cX4_init 35 = .ok (.aload_n 0, 1) := by decide +kernel
theorem dX4_init_36 : decode cX4_init 36 = .ok (.bipush 6, 2) := by decide +kernel
theorem dX4_init_38 : decode cX4_init 38 = .ok (.newarray .int, 2) := by decide +kernel
theorem dX4_init_40 : decode cX4_init 40 = .ok (.putfield 31, 3) := by decide +kernel
theorem dX4_init_43 : decode cX4_init 43 = .ok (.aload_n 0, 1) := by decide +kernel
theorem dX4_init_44 : decode cX4_init 44 = .ok (.bipush 100, 2) := by decide +kernel
theorem dX4_init_46 : decode cX4_init 46 = .ok (.newarray .int, 2) := by decide +kernel
theorem dX4_init_48 : decode cX4_init 48 = .ok (.putfield 35, 3) := by decide +kernel
theorem dX4_init_51 : decode cX4_init 51 = .ok (.aload_n 0, 1) := by decide +kernel
theorem dX4_init_52 : decode cX4_init 52 = .ok (.bipush 100, 2) := by decide +kernel
theorem dX4_init_54 : decode cX4_init 54 = .ok (.newarray .int, 2) := by decide +kernel
theorem dX4_init_56 : decode cX4_init 56 = .ok (.putfield 38, 3) := by decide +kernel
theorem dX4_init_59 : decode cX4_init 59 = .ok (.aload_n 0, 1) := by decide +kernel
theorem dX4_init_60 : decode cX4_init 60 = .ok (.bipush 100, 2) := by decide +kernel
theorem dX4_init_62 : decode cX4_init 62 = .ok (.newarray .int, 2) := by decide +kernel
theorem dX4_init_64 : decode cX4_init 64 = .ok (.putfield 41, 3) := by decide +kernel
theorem dX4_init_67 : decode cX4_init 67 = .ok (.aload_n 0, 1) := by decide +kernel
theorem dX4_init_68 : decode cX4_init 68 = .ok (.iconst 0, 1) := by decide +kernel
theorem dX4_init_69 : decode cX4_init 69 = .ok (.putfield 44, 3) := by decide +kernel
theorem dX4_init_72 : decode cX4_init 72 = .ok (.aload_n 0, 1) := by decide +kernel
theorem dX4_init_73 : decode cX4_init 73 = .ok (.iconst 0, 1) := by decide +kernel
theorem dX4_init_74 : decode cX4_init 74 = .ok (.putfield 48, 3) := by decide +kernel
theorem dX4_init_77 : decode cX4_init 77 = .ok (.iconst 0, 1) := by decide +kernel
theorem dX4_init_78 : decode cX4_init 78 = .ok (.istore_n 1, 1) := by decide +kernel
theorem dX4_init_79 : decode cX4_init 79 = .ok (.iload_n 1, 1) := by decide +kernel
theorem dX4_init_80 : decode cX4_init 80 = .ok (.bipush 6, 2) := by decide +kernel
theorem dX4_init_82 : decode cX4_init 82 = .ok (.if_icmp .ge 22, 3) := by decide +kernel
theorem dX4_init_85 : decode cX4_init 85 = .ok (.aload_n 0, 1) := by decide +kernel
theorem dX4_init_86 : decode cX4_init 86 = .ok (.getfield 27, 3) := by decide +kernel
theorem dX4_init_89 : decode cX4_init 89 = .ok (.iload_n 1, 1) := by decide +kernel
theorem dX4_init_90 : decode cX4_init 90 = .ok (.new 25, 3) := by decide +kernel
theorem dX4_init_93 : decode cX4_init 93 = .ok (.dup, 1) := by decide +kernel
theorem dX4_init_94 : decode cX4_init 94 = .ok (.invokespecial 51, 3) := by decide +kernel
theorem dX4_init_97 : decode cX4_init 97 = .ok (.aastore, 1) := by decide +kernel
theorem dX4_init_98 : decode cX4_init 98 = .ok (.iinc 1 1, 3) := by decide +kernel
theorem dX4_init_101 : decode cX4_init 101 = .ok (.goto (-22), 3) := by decide +kernel
theorem dX4_init_104 : decode cX4_init 104 = .ok (.getstatic 52, 3) := by decide +kernel
theorem dX4_init_107 : decode cX4_init 107 = .ok (.aload_n 0, 1) := by decide +kernel
theorem dX4_init_108 : decode cX4_init 108 = .ok (.getfield 31, 3) := by decide +kernel
theorem dX4_init_111 : decode cX4_init 111 = .ok (.invokestatic 55, 3) := by decide +kernel
theorem dX4_init_114 : decode cX4_init 114 = .ok (.aload_n 0, 1) := by decide +kernel
theorem dX4_init_115 : decode cX4_init 115 = .ok (.invokevirtual 59, 3) := by decide +kernel
theorem dX4_init_118 : decode cX4_init 118 = .ok (.aload_n 0, 1) := by decide +kernel
theorem dX4_init_119 : decode cX4_init 119 = .ok (.invokevirtual 62, 3) := by decide +kernel
theorem dX4_init_122 : decode cX4_init 122 = .ok (.return_, 1) := by decide +kernel
theorem dX4_hasLine_0 : decode cX4_hasLine 0 = .ok (.iload_n 1, 1) := by decide +kernel
theorem dX4_hasLine_1 : decode cX4_hasLine 1 = .ok (.iconst 0, 1) := by decide +kernel
theorem dX4_hasLine_2 : decode cX4_hasLine 2 = .ok (.aload_n 0, 1) := by decide +kernel
theorem dX4_hasLine_3 : decode cX4_hasLine 3 = .ok (.getfield 12, 3) := by decide +kernel
theorem dX4_hasLine_6 : decode cX4_hasLine 6 = .ok (.getfield 65, 3) := by decide +kernel
theorem dX4_hasLine_9 : decode cX4_hasLine 9 = .ok (.iconst 1, 1) := by decide +kernel
theorem dX4_hasLine_10 : decode cX4_hasLine 10 = .ok (.isub, 1) := by decide +kernel
theorem dX4_hasLine_11 : decode cX4_hasLine 11 = .ok (.invokestatic 68, 3) := by decide +kernel
theorem dX4_hasLine_14 : decode cX4_hasLine 14 = .ok (.ireturn, 1) := by decide +kernel
theorem dX4_hasChannel_0 : decode cX4_hasChannel 0 = .ok (.iload_n 1, 1) := by decide +kernel
theorem dX4_hasChannel_1 : decode cX4_hasChannel 1 = .ok (.iconst 0, 1) := by decide +kernel
theorem dX4_hasChannel_2 : decode cX4_hasChannel 2 = .ok (.aload_n 0, 1) := by decide +kernel
theorem dX4_hasChannel_3 : decode cX4_hasChannel 3 = .ok (.getfield 72, 3) := by decide +kernel
theorem dX4_hasChannel_6 : decode cX4_hasChannel 6 = .ok (.iconst 1, 1) := by decide +kernel
theorem dX4_hasChannel_7 : decode cX4_hasChannel 7 = .ok (.isub, 1) := by decide +kernel
theorem dX4_hasChannel_8 : decode cX4_hasChannel 8 = .ok (.invokestatic 68, 3) := by decide +kernel
theorem dX4_hasChannel_11 : decode cX4_hasChannel 11 = .ok (.ireturn, 1) := by decide +kernel
theorem dX4_measures_0 : decode cX4_measures 0 = .ok (.aload_n 0, 1) := by decide +kernel
theorem dX4_measures_1 : decode cX4_measures 1 = .ok (.getfield 44, 3) := by decide +kernel
theorem dX4_measures_4 : decode cX4_measures 4 = .ok (.iconst 1, 1) := by decide +kernel
theorem dX4_measures_5 : decode cX4_measures 5 = .ok (.if_icmp .eq 11, 3) := by decide +kernel
theorem dX4_measures_8 : decode cX4_measures 8 = .ok (.aload_n 0, 1) := by decide +kernel
theorem dX4_measures_9 : decode cX4_measures 9 = .ok (.getfield 44, 3) := by decide +kernel
theorem dX4_measures_12 : decode cX4_measures 12 = .ok (.iconst 2, 1) := by decide +kernel
theorem dX4_measures_13 : decode cX4_measures 13 = .ok (.if_icmp .ne 7, 3) := by decide +kernel
theorem dX4_measures_16 : decode cX4_measures 16 = .ok (.iconst 1, 1) := by decide +kernel
theorem dX4_measures_17 : decode cX4_measures 17 = .ok (.goto 4, 3) := by decide +kernel
theorem dX4_measures_20 : decode cX4_measures 20 = .ok (.iconst 0, 1) := by decide +kernel
theorem dX4_measures_21 : decode cX4_measures 21 = .ok (.ireturn, 1) := by decide +kernel
theorem dX4_rests_0 : decode cX4_rests 0 = .ok (.aload_n 0, 1) := by decide +kernel
theorem dX4_rests_1 : decode cX4_rests 1 = .ok (.invokevirtual 75, 3) := by decide +kernel
theorem dX4_rests_4 : decode cX4_rests 4 = .ok (.ifCond .ne 15, 3) := by decide +kernel
theorem dX4_rests_7 : decode cX4_rests 7 = .ok (.aload_n 0, 1) := by decide +kernel
theorem dX4_rests_8 : decode cX4_rests 8 = .ok (.getfield 44, 3) := by decide +kernel
theorem dX4_rests_11 : decode cX4_rests 11 = .ok (.iconst 3, 1) := by decide +kernel
theorem dX4_rests_12 : decode cX4_rests 12 = .ok (.if_icmp .eq 7, 3) := by decide +kernel
theorem dX4_rests_15 : decode cX4_rests 15 = .ok (.iconst 1, 1) := by decide +kernel
theorem dX4_rests_16 : decode cX4_rests 16 = .ok (.goto 4, 3) := by decide +kernel
theorem dX4_rests_19 : decode cX4_rests 19 = .ok (.iconst 0, 1) := by decide +kernel
theorem dX4_rests_20 : decode cX4_rests 20 = .ok (.ireturn, 1) := by decide +kernel
theorem dX4_forgetRun_0 : decode cX4_forgetRun 0 = .ok (.iconst 0, 1) := by decide +kernel
theorem dX4_forgetRun_1 : decode cX4_forgetRun 1 = .ok (.istore_n 1, 1) := by decide +kernel
theorem dX4_forgetRun_2 : decode cX4_forgetRun 2 = .ok (.iload_n 1, 1) := by decide +kernel
theorem dX4_forgetRun_3 : decode cX4_forgetRun 3 = .ok (.aload_n 0, 1) := by decide +kernel
theorem dX4_forgetRun_4 : decode cX4_forgetRun 4 = .ok (.getfield 72, 3) := by decide +kernel
theorem dX4_forgetRun_7 : decode cX4_forgetRun 7 = .ok (.if_icmp .ge 18, 3) := by decide +kernel
theorem dX4_forgetRun_10 : decode cX4_forgetRun 10 = .ok (.aload_n 0, 1) := by decide +kernel
theorem dX4_forgetRun_11 : decode cX4_forgetRun 11 = .ok (.getfield 27, 3) := by decide +kernel
theorem dX4_forgetRun_14 : decode cX4_forgetRun 14 = .ok (.iload_n 1, 1) := by decide +kernel
theorem dX4_forgetRun_15 : decode cX4_forgetRun 15 = .ok (.aaload, 1) := by decide +kernel
theorem dX4_forgetRun_16 : decode cX4_forgetRun 16 = .ok (.invokevirtual 79, 3) := by decide +kernel
theorem dX4_forgetRun_19 : decode cX4_forgetRun 19 = .ok (.iinc 1 1, 3) := by decide +kernel
theorem dX4_forgetRun_22 : decode cX4_forgetRun 22 = .ok (.goto (-20), 3) := by decide +kernel
theorem dX4_forgetRun_25 : decode cX4_forgetRun 25 = .ok (.aload_n 0, 1) := by decide +kernel
theorem dX4_forgetRun_26 : decode cX4_forgetRun 26 = .ok (.getfield 38, 3) := by decide +kernel
theorem dX4_forgetRun_29 : decode cX4_forgetRun 29 = .ok (.bipush (-6), 2) := by decide +kernel
theorem dX4_forgetRun_31 : decode cX4_forgetRun 31 = .ok (.invokestatic 80, 3) := by decide +kernel
theorem dX4_forgetRun_34 : decode cX4_forgetRun 34 = .ok (.aload_n 0, 1) := by decide +kernel
theorem dX4_forgetRun_35 : decode cX4_forgetRun 35 = .ok (.getfield 41, 3) := by decide +kernel
theorem dX4_forgetRun_38 : decode cX4_forgetRun 38 = .ok (.bipush (-6), 2) := by decide +kernel
theorem dX4_forgetRun_40 : decode cX4_forgetRun 40 = .ok (.invokestatic 80, 3) := by decide +kernel
theorem dX4_forgetRun_43 : decode cX4_forgetRun 43 = .ok (.aload_n 0, 1) := by decide +kernel
theorem dX4_forgetRun_44 : decode cX4_forgetRun 44 = .ok (.iconst 1, 1) := by decide +kernel
theorem dX4_forgetRun_45 : decode cX4_forgetRun 45 = .ok (.putfield 86, 3) := by decide +kernel
theorem dX4_forgetRun_48 : decode cX4_forgetRun 48 = .ok (.aload_n 0, 1) := by decide +kernel
theorem dX4_forgetRun_49 : decode cX4_forgetRun 49 = .ok (.iconst 0, 1) := by decide +kernel
theorem dX4_forgetRun_50 : decode cX4_forgetRun 50 = .ok (.putfield 90, 3) := by decide +kernel
theorem dX4_forgetRun_53 : decode cX4_forgetRun 53 = .ok (.aload_n 0, 1) := by decide +kernel
theorem dX4_forgetRun_54 : decode cX4_forgetRun 54 = .ok (.iconst 0, 1) := by decide +kernel
theorem dX4_forgetRun_55 : decode cX4_forgetRun 55 = .ok (.putfield 93, 3) := by decide +kernel
theorem dX4_forgetRun_58 : decode cX4_forgetRun 58 = .ok (.aload_n 0, 1) := by decide +kernel
theorem dX4_forgetRun_59 : decode cX4_forgetRun 59 = .ok (.bipush (-6), 2) := by decide +kernel
theorem dX4_forgetRun_61 : decode cX4_forgetRun 61 = .ok (.putfield 96, 3) := by decide +kernel
theorem dX4_forgetRun_64 : decode cX4_forgetRun 64 = .ok (.aload_n 0, 1) := by decide +kernel
theorem dX4_forgetRun_65 : decode cX4_forgetRun 65 = .ok (.bipush (-6), 2) := by decide +kernel
theorem dX4_forgetRun_67 : decode cX4_forgetRun 67 = .ok (.putfield 99, 3) := by decide +kernel
theorem dX4_forgetRun_70 : decode cX4_forgetRun 70 = .ok (.return_, 1) := by decide +kernel
theorem dX4_forgetGains_0 : decode cX4_forgetGains 0 = .ok (.iconst 0, 1) := by decide +kernel
theorem dX4_forgetGains_1 : decode cX4_forgetGains 1 = .ok (.istore_n 1, 1) := by decide +kernel
theorem dX4_forgetGains_2 : decode cX4_forgetGains 2 = .ok (.iload_n 1, 1) := by decide +kernel
theorem dX4_forgetGains_3 : decode cX4_forgetGains 3 = .ok (.aload_n 0, 1) := by decide +kernel
theorem dX4_forgetGains_4 : decode cX4_forgetGains 4 = .ok (.getfield 72, 3) := by decide +kernel
theorem dX4_forgetGains_7 : decode cX4_forgetGains 7 = .ok (.if_icmp .ge 18, 3) := by decide +kernel
theorem dX4_forgetGains_10 : decode cX4_forgetGains 10 = .ok (.aload_n 0, 1) := by decide +kernel
theorem dX4_forgetGains_11 : decode cX4_forgetGains 11 = .ok (.getfield 27, 3) := by decide +kernel
theorem dX4_forgetGains_14 : decode cX4_forgetGains 14 = .ok (.iload_n 1, 1) := by decide +kernel
theorem dX4_forgetGains_15 : decode cX4_forgetGains 15 = .ok (.aaload, 1) := by decide +kernel
theorem dX4_forgetGains_16 : decode cX4_forgetGains 16 = .ok (.invokevirtual 102, 3) := by decide +kernel
theorem dX4_forgetGains_19 : decode cX4_forgetGains 19 = .ok (.iinc 1 1, 3) := by decide +kernel
theorem dX4_forgetGains_22 : decode cX4_forgetGains 22 = .ok (.goto (-20), 3) := by decide +kernel
theorem dX4_forgetGains_25 : decode cX4_forgetGains 25 = .ok (.aload_n 0, 1) := by decide +kernel
theorem dX4_forgetGains_26 : decode cX4_forgetGains 26 = .ok (.getfield 35, 3) := by decide +kernel
theorem dX4_forgetGains_29 : decode cX4_forgetGains 29 = .ok (.bipush (-6), 2) := by decide +kernel
theorem dX4_forgetGains_31 : decode cX4_forgetGains 31 = .ok (.invokestatic 80, 3) := by decide +kernel
theorem dX4_forgetGains_34 : decode cX4_forgetGains 34 = .ok (.return_, 1) := by decide +kernel
theorem dX4_layLines_0 : decode cX4_layLines 0 = .ok (.iload_n 1, 1) := by decide +kernel
theorem dX4_layLines_1 : decode cX4_layLines 1 = .ok (.iconst 5, 1) := by decide +kernel
theorem dX4_layLines_2 : decode cX4_layLines 2 = .ok (.sipush 1000, 3) := by decide +kernel
theorem dX4_layLines_5 : decode cX4_layLines 5 = .ok (.invokestatic 68, 3) := by decide +kernel
theorem dX4_layLines_8 : decode cX4_layLines 8 = .ok (.ifCond .eq 26, 3) := by decide +kernel
theorem dX4_layLines_11 : decode cX4_layLines 11 = .ok (.iload_n 2, 1) := by decide +kernel
theorem dX4_layLines_12 : decode cX4_layLines 12 = .ok (.iload_n 1, 1) := by decide +kernel
theorem dX4_layLines_13 : decode cX4_layLines 13 = .ok (.sipush 2000, 3) := by decide +kernel
theorem dX4_layLines_16 : decode cX4_layLines 16 = .ok (.invokestatic 68, 3) := by decide +kernel
theorem dX4_layLines_19 : decode cX4_layLines 19 = .ok (.ifCond .eq 15, 3) := by decide +kernel
theorem dX4_layLines_22 : decode cX4_layLines 22 = .ok (.iload_n 3, 1) := by decide +kernel
theorem dX4_layLines_23 : decode cX4_layLines 23 = .ok (.bipush 10, 2) := by decide +kernel
theorem dX4_layLines_25 : decode cX4_layLines 25 = .ok (.sipush 1000, 3) := by decide +kernel
theorem dX4_layLines_28 : decode cX4_layLines 28 = .ok (.invokestatic 68, 3) := by decide +kernel
theorem dX4_layLines_31 : decode cX4_layLines 31 = .ok (.ifCond .ne 6, 3) := by decide +kernel
theorem dX4_layLines_34 : decode cX4_layLines 34 = .ok (.bipush (-2), 2) := by decide +kernel
theorem dX4_layLines_36 : decode cX4_layLines 36 = .ok (.ireturn, 1) := by decide +kernel
theorem dX4_layLines_37 : decode cX4_layLines 37 = .ok (.aload_n 0, 1) := by decide +kernel
theorem dX4_layLines_38 : decode cX4_layLines 38 = .ok (.invokevirtual 103, 3) := by decide +kernel
theorem dX4_layLines_41 : decode cX4_layLines 41 = .ok (.ifCond .ne 6, 3) := by decide +kernel
theorem dX4_layLines_44 : decode cX4_layLines 44 = .ok (.bipush (-3), 2) := by decide +kernel
theorem dX4_layLines_46 : decode cX4_layLines 46 = .ok (.ireturn, 1) := by decide +kernel
theorem dX4_layLines_47 : decode cX4_layLines 47 = .ok (.iload_n 1, 1) := by decide +kernel
theorem dX4_layLines_48 : decode cX4_layLines 48 = .ok (.iload_n 2, 1) := by decide +kernel
theorem dX4_layLines_49 : decode cX4_layLines 49 = .ok (.iload_n 3, 1) := by decide +kernel
theorem dX4_layLines_50 : decode cX4_layLines 50 = .ok (.invokestatic 106, 3) := by decide +kernel
theorem dX4_layLines_53 : decode cX4_layLines 53 = .ok (.istore 4, 2) := by decide +kernel
theorem dX4_layLines_55 : decode cX4_layLines 55 = .ok (.iload 4, 2) := by decide +kernel
theorem dX4_layLines_57 : decode cX4_layLines 57 = .ok (.bipush 100, 2) := by decide +kernel
theorem dX4_layLines_59 : decode cX4_layLines 59 = .ok (.if_icmp .le 6, 3) := by decide +kernel
theorem dX4_layLines_62 : decode cX4_layLines 62 = .ok (.bipush (-4), 2) := by decide +kernel
theorem dX4_layLines_64 : decode cX4_layLines 64 = .ok (.ireturn, 1) := by decide +kernel
theorem dX4_layLines_65 : decode cX4_layLines 65 = .ok (.aload_n 0, 1) := by decide +kernel
theorem dX4_layLines_66 : decode cX4_layLines 66 = .ok (.getfield 12, 3) := by decide +kernel
theorem dX4_layLines_69 : decode cX4_layLines 69 = .ok (.iload_n 1, 1) := by decide +kernel
theorem dX4_layLines_70 : decode cX4_layLines 70 = .ok (.iload_n 3, 1) := by decide +kernel
theorem dX4_layLines_71 : decode cX4_layLines 71 = .ok (.iload 4, 2) := by decide +kernel
theorem dX4_layLines_73 : decode cX4_layLines 73 = .ok (.invokevirtual 110, 3) := by decide +kernel
theorem dX4_layLines_76 : decode cX4_layLines 76 = .ok (.aload_n 0, 1) := by decide +kernel
theorem dX4_layLines_77 : decode cX4_layLines 77 = .ok (.invokevirtual 59, 3) := by decide +kernel
theorem dX4_layLines_80 : decode cX4_layLines 80 = .ok (.aload_n 0, 1) := by decide +kernel
theorem dX4_layLines_81 : decode cX4_layLines 81 = .ok (.invokevirtual 62, 3) := by decide +kernel
theorem dX4_layLines_84 : decode cX4_layLines 84 = .ok (.aload_n 0, 1) := by decide +kernel
theorem dX4_layLines_85 : decode cX4_layLines 85 = .ok (.iconst 0, 1) := by decide +kernel
theorem dX4_layLines_86 : decode cX4_layLines 86 = .ok (.putfield 44, 3) := by decide +kernel
theorem dX4_layLines_89 : decode cX4_layLines 89 = .ok (.aload_n 0, 1) := by decide +kernel
theorem dX4_layLines_90 : decode cX4_layLines 90 = .ok (.iconst 0, 1) := by decide +kernel
theorem dX4_layLines_91 : decode cX4_layLines 91 = .ok (.putfield 114, 3) := by decide +kernel
theorem dX4_layLines_94 : decode cX4_layLines 94 = .ok (.iload 4, 2) := by decide +kernel
theorem dX4_layLines_96 : decode cX4_layLines 96 = .ok (.ireturn, 1) := by decide +kernel
theorem dX4_putPoint_0 : decode cX4_putPoint 0 = .ok (.iload_n 1, 1) := by decide +kernel
theorem dX4_putPoint_1 : decode cX4_putPoint 1 = .ok (.invokestatic 117, 3) := by decide +kernel
theorem dX4_putPoint_4 : decode cX4_putPoint 4 = .ok (.ifCond .eq 13, 3) := by decide +kernel
theorem dX4_putPoint_7 : decode cX4_putPoint 7 = .ok (.iload_n 2, 1) := by decide +kernel
theorem dX4_putPoint_8 : decode cX4_putPoint 8 = .ok (.iconst 1, 1) := by decide +kernel
theorem dX4_putPoint_9 : decode cX4_putPoint 9 = .ok (.ldc 121, 2) := by decide +kernel
theorem dX4_putPoint_11 : decode cX4_putPoint 11 = .ok (.invokestatic 68, 3) := by decide +kernel
theorem dX4_putPoint_14 : decode cX4_putPoint 14 = .ok (.ifCond .ne 6, 3) := by decide +kernel
theorem dX4_putPoint_17 : decode cX4_putPoint 17 = .ok (.bipush (-2), 2) := by decide +kernel
theorem dX4_putPoint_19 : decode cX4_putPoint 19 = .ok (.ireturn, 1) := by decide +kernel
theorem dX4_putPoint_20 : decode cX4_putPoint 20 = .ok (.aload_n 0, 1) := by decide +kernel
theorem dX4_putPoint_21 : decode cX4_putPoint 21 = .ok (.invokevirtual 103, 3) := by decide +kernel
theorem dX4_putPoint_24 : decode cX4_putPoint 24 = .ok (.ifCond .ne 6, 3) := by decide +kernel
theorem dX4_putPoint_27 : decode cX4_putPoint 27 = .ok (.bipush (-3), 2) := by decide +kernel
theorem dX4_putPoint_29 : decode cX4_putPoint 29 = .ok (.ireturn, 1) := by decide +kernel
theorem dX4_putPoint_30 : decode cX4_putPoint 30 = .ok (.aload_n 0, 1) := by decide +kernel
theorem dX4_putPoint_31 : decode cX4_putPoint 31 = .ok (.getfield 21, 3) := by decide +kernel
theorem dX4_putPoint_34 : decode cX4_putPoint 34 = .ok (.iload_n 1, 1) := by decide +kernel
theorem dX4_putPoint_35 : decode cX4_putPoint 35 = .ok (.iload_n 2, 1) := by decide +kernel
theorem dX4_putPoint_36 : decode cX4_putPoint 36 = .ok (.invokevirtual 122, 3) := by decide +kernel
theorem dX4_putPoint_39 : decode cX4_putPoint 39 = .ok (.ireturn, 1) := by decide +kernel
theorem dX4_joinChannel_0 : decode cX4_joinChannel 0 = .ok (.iload_n 2, 1) := by decide +kernel
theorem dX4_joinChannel_1 : decode cX4_joinChannel 1 = .ok (.iconst 0, 1) := by decide +kernel
theorem dX4_joinChannel_2 : decode cX4_joinChannel 2 = .ok (.sipush 5000, 3) := by decide +kernel
theorem dX4_joinChannel_5 : decode cX4_joinChannel 5 = .ok (.invokestatic 68, 3) := by decide +kernel
theorem dX4_joinChannel_8 : decode cX4_joinChannel 8 = .ok (.ifCond .eq 13, 3) := by decide +kernel
theorem dX4_joinChannel_11 : decode cX4_joinChannel 11 = .ok (.iload_n 3, 1) := by decide +kernel
theorem dX4_joinChannel_12 : decode cX4_joinChannel 12 = .ok (.iconst 1, 1) := by decide +kernel
theorem dX4_joinChannel_13 : decode cX4_joinChannel 13 = .ok (.ldc 126, 2) := by decide +kernel
theorem dX4_joinChannel_15 : decode cX4_joinChannel 15 = .ok (.invokestatic 68, 3) := by decide +kernel
theorem dX4_joinChannel_18 : decode cX4_joinChannel 18 = .ok (.ifCond .ne 6, 3) := by decide +kernel
theorem dX4_joinChannel_21 : decode cX4_joinChannel 21 = .ok (.bipush (-2), 2) := by decide +kernel
theorem dX4_joinChannel_23 : decode cX4_joinChannel 23 = .ok (.ireturn, 1) := by decide +kernel
theorem dX4_joinChannel_24 : decode cX4_joinChannel 24 = .ok (.aload_n 0, 1) := by decide +kernel
theorem dX4_joinChannel_25 : decode cX4_joinChannel 25 = .ok (.invokevirtual 103, 3) := by decide +kernel
theorem dX4_joinChannel_28 : decode cX4_joinChannel 28 = .ok (.ifCond .ne 6, 3) := by decide +kernel
theorem dX4_joinChannel_31 : decode cX4_joinChannel 31 = .ok (.bipush (-3), 2) := by decide +kernel
theorem dX4_joinChannel_33 : decode cX4_joinChannel 33 = .ok (.ireturn, 1) := by decide +kernel
theorem dX4_joinChannel_34 : decode cX4_joinChannel 34 = .ok (.aload_n 0, 1) := by decide +kernel
theorem dX4_joinChannel_35 : decode cX4_joinChannel 35 = .ok (.getfield 72, 3) := by decide +kernel
theorem dX4_joinChannel_38 : decode cX4_joinChannel 38 = .ok (.bipush 6, 2) := by decide +kernel
theorem dX4_joinChannel_40 : decode cX4_joinChannel 40 = .ok (.if_icmp .lt 6, 3) := by decide +kernel
theorem dX4_joinChannel_43 : decode cX4_joinChannel 43 = .ok (.bipush (-4), 2) := by decide +kernel
theorem dX4_joinChannel_45 : decode cX4_joinChannel 45 = .ok (.ireturn, 1) := by decide +kernel
theorem dX4_joinChannel_46 : decode cX4_joinChannel 46 = .ok (.aload_n 0, 1) := by decide +kernel
theorem dX4_joinChannel_47 : decode cX4_joinChannel 47 = .ok (.getfield 27, 3) := by decide +kernel
theorem dX4_joinChannel_50 : decode cX4_joinChannel 50 = .ok (.aload_n 0, 1) := by decide +kernel
theorem dX4_joinChannel_51 : decode cX4_joinChannel 51 = .ok (.getfield 72, 3) := by decide +kernel
theorem dX4_joinChannel_54 : decode cX4_joinChannel 54 = .ok (.aaload, 1) := by decide +kernel
theorem dX4_joinChannel_55 : decode cX4_joinChannel 55 = .ok (.iload_n 1, 1) := by decide +kernel
theorem dX4_joinChannel_56 : decode cX4_joinChannel 56 = .ok (.iload_n 2, 1) := by decide +kernel
theorem dX4_joinChannel_57 : decode cX4_joinChannel 57 = .ok (.iload_n 3, 1) := by decide +kernel
theorem dX4_joinChannel_58 : decode cX4_joinChannel 58 = .ok (.invokevirtual 127, 3) := by decide +kernel
theorem dX4_joinChannel_61 : decode cX4_joinChannel 61 = .ok (.aload_n 0, 1) := by decide +kernel
theorem dX4_joinChannel_62 : decode cX4_joinChannel 62 = .ok (.dup, 1) := by decide +kernel
theorem dX4_joinChannel_63 : decode cX4_joinChannel 63 = .ok (.getfield 72, 3) := by decide +kernel
theorem dX4_joinChannel_66 : decode cX4_joinChannel 66 = .ok (.iconst 1, 1) := by decide +kernel
theorem dX4_joinChannel_67 : decode cX4_joinChannel 67 = .ok (.iadd, 1) := by decide +kernel
theorem dX4_joinChannel_68 : decode cX4_joinChannel 68 = .ok (.putfield 72, 3) := by decide +kernel
theorem dX4_joinChannel_71 : decode cX4_joinChannel 71 = .ok (.aload_n 0, 1) := by decide +kernel
theorem dX4_joinChannel_72 : decode cX4_joinChannel 72 = .ok (.getfield 72, 3) := by decide +kernel
theorem dX4_joinChannel_75 : decode cX4_joinChannel 75 = .ok (.iconst 1, 1) := by decide +kernel
theorem dX4_joinChannel_76 : decode cX4_joinChannel 76 = .ok (.isub, 1) := by decide +kernel
theorem dX4_joinChannel_77 : decode cX4_joinChannel 77 = .ok (.ireturn, 1) := by decide +kernel
theorem dX4_changeSetting_0 : decode cX4_changeSetting 0 = .ok (.iload_n 1, 1) := by decide +kernel
theorem dX4_changeSetting_1 : decode cX4_changeSetting 1 = .ok (.iconst 0, 1) := by decide +kernel
theorem dX4_changeSetting_2 : decode cX4_changeSetting 2 = .ok (.iconst 5, 1) := by decide +kernel
theorem dX4_changeSetting_3 : decode cX4_changeSetting 3 = .ok (.invokestatic 68, 3) := by decide +kernel
theorem dX4_changeSetting_6 : decode cX4_changeSetting 6 = .ok (.ifCond .ne 5, 3) := by decide +kernel
theorem dX4_changeSetting_9 : decode cX4_changeSetting 9 = .ok (.iconst (-1), 1) := by decide +kernel
theorem dX4_changeSetting_10 : decode cX4_changeSetting 10 = .ok (.ireturn, 1) := by decide +kernel
theorem dX4_changeSetting_11 : decode cX4_changeSetting 11 = .ok (.iload_n 2, 1) := by decide +kernel
theorem dX4_changeSetting_12 : decode cX4_changeSetting 12 = .ok (.getstatic 131, 3) := by decide +kernel
theorem dX4_changeSetting_15 : decode cX4_changeSetting 15 = .ok (.iload_n 1, 1) := by decide +kernel
theorem dX4_changeSetting_16 : decode cX4_changeSetting 16 = .ok (.iaload, 1) := by decide +kernel
theorem dX4_changeSetting_17 : decode cX4_changeSetting 17 = .ok (.getstatic 134, 3) := by decide +kernel
theorem dX4_changeSetting_20 : decode cX4_changeSetting 20 = .ok (.iload_n 1, 1) := by decide +kernel
theorem dX4_changeSetting_21 : decode cX4_changeSetting 21 = .ok (.iaload, 1) := by decide +kernel
theorem dX4_changeSetting_22 : decode cX4_changeSetting 22 = .ok (.invokestatic 68, 3) := by decide +kernel
theorem dX4_changeSetting_25 : decode cX4_changeSetting 25 = .ok (.ifCond .ne 6, 3) := by decide +kernel
theorem dX4_changeSetting_28 : decode cX4_changeSetting 28 = .ok (.bipush (-2), 2) := by decide +kernel
theorem dX4_changeSetting_30 : decode cX4_changeSetting 30 = .ok (.ireturn, 1) := by decide +kernel
theorem dX4_changeSetting_31 : decode cX4_changeSetting 31 = .ok (.aload_n 0, 1) := by decide +kernel
theorem dX4_changeSetting_32 : decode cX4_changeSetting 32 = .ok (.getfield 31, 3) := by decide +kernel
theorem dX4_changeSetting_35 : decode cX4_changeSetting 35 = .ok (.iload_n 1, 1) := by decide +kernel
theorem dX4_changeSetting_36 : decode cX4_changeSetting 36 = .ok (.iaload, 1) := by decide +kernel
theorem dX4_changeSetting_37 : decode cX4_changeSetting 37 = .ok (.istore_n 3, 1) := by decide +kernel
theorem dX4_changeSetting_38 : decode cX4_changeSetting 38 = .ok (.aload_n 0, 1) := by decide +kernel
theorem dX4_changeSetting_39 : decode cX4_changeSetting 39 = .ok (.getfield 31, 3) := by decide +kernel
theorem dX4_changeSetting_42 : decode cX4_changeSetting 42 = .ok (.iload_n 1, 1) := by decide +kernel
theorem dX4_changeSetting_43 : decode cX4_changeSetting 43 = .ok (.iload_n 2, 1) := by decide +kernel
theorem dX4_changeSetting_44 : decode cX4_changeSetting 44 = .ok (.iastore, 1) := by decide +kernel
theorem dX4_changeSetting_45 : decode cX4_changeSetting 45 = .ok (.iload_n 3, 1) := by decide +kernel
theorem dX4_changeSetting_46 : decode cX4_changeSetting 46 = .ok (.ireturn, 1) := by decide +kernel
theorem dX4_begin_0 : decode cX4_begin 0 = .ok (.iload_n 1, 1) := by decide +kernel
theorem dX4_begin_1 : decode cX4_begin 1 = .ok (.iconst 1, 1) := by decide +kernel
theorem dX4_begin_2 : decode cX4_begin 2 = .ok (.sipush 1000, 3) := by decide +kernel
theorem dX4_begin_5 : decode cX4_begin 5 = .ok (.invokestatic 68, 3) := by decide +kernel
theorem dX4_begin_8 : decode cX4_begin 8 = .ok (.ifCond .ne 6, 3) := by decide +kernel
theorem dX4_begin_11 : decode cX4_begin 11 = .ok (.bipush (-2), 2) := by decide +kernel
theorem dX4_begin_13 : decode cX4_begin 13 = .ok (.ireturn, 1) := by decide +kernel
theorem dX4_begin_14 : decode cX4_begin 14 = .ok (.aload_n 0, 1) := by decide +kernel
theorem dX4_begin_15 : decode cX4_begin 15 = .ok (.aload_n 0, 1) := by decide +kernel
theorem dX4_begin_16 : decode cX4_begin 16 = .ok (.invokevirtual 137, 3) := by decide +kernel
theorem dX4_begin_19 : decode cX4_begin 19 = .ok (.putfield 48, 3) := by decide +kernel
theorem dX4_begin_22 : decode cX4_begin 22 = .ok (.aload_n 0, 1) := by decide +kernel
theorem dX4_begin_23 : decode cX4_begin 23 = .ok (.getfield 48, 3) := by decide +kernel
theorem dX4_begin_26 : decode cX4_begin 26 = .ok (.ifCond .eq 6, 3) := by decide +kernel
theorem dX4_begin_29 : decode cX4_begin 29 = .ok (.bipush (-5), 2) := by decide +kernel
theorem dX4_begin_31 : decode cX4_begin 31 = .ok (.ireturn, 1) := by decide +kernel
theorem dX4_begin_32 : decode cX4_begin 32 = .ok (.aload_n 0, 1) := by decide +kernel
theorem dX4_begin_33 : decode cX4_begin 33 = .ok (.invokevirtual 59, 3) := by decide +kernel
theorem dX4_begin_36 : decode cX4_begin 36 = .ok (.aload_n 0, 1) := by decide +kernel
theorem dX4_begin_37 : decode cX4_begin 37 = .ok (.iconst 1, 1) := by decide +kernel
theorem dX4_begin_38 : decode cX4_begin 38 = .ok (.putfield 44, 3) := by decide +kernel
theorem dX4_begin_41 : decode cX4_begin 41 = .ok (.aload_n 0, 1) := by decide +kernel
theorem dX4_begin_42 : decode cX4_begin 42 = .ok (.iconst 0, 1) := by decide +kernel
theorem dX4_begin_43 : decode cX4_begin 43 = .ok (.putfield 114, 3) := by decide +kernel
theorem dX4_begin_46 : decode cX4_begin 46 = .ok (.aload_n 0, 1) := by decide +kernel
theorem dX4_begin_47 : decode cX4_begin 47 = .ok (.iload_n 1, 1) := by decide +kernel
theorem dX4_begin_48 : decode cX4_begin 48 = .ok (.putfield 141, 3) := by decide +kernel
theorem dX4_begin_51 : decode cX4_begin 51 = .ok (.aload_n 0, 1) := by decide +kernel
theorem dX4_begin_52 : decode cX4_begin 52 = .ok (.getfield 38, 3) := by decide +kernel
theorem dX4_begin_55 : decode cX4_begin 55 = .ok (.iconst 0, 1) := by decide +kernel
theorem dX4_begin_56 : decode cX4_begin 56 = .ok (.iload_n 1, 1) := by decide +kernel
theorem dX4_begin_57 : decode cX4_begin 57 = .ok (.iastore, 1) := by decide +kernel
theorem dX4_begin_58 : decode cX4_begin 58 = .ok (.aload_n 0, 1) := by decide +kernel
theorem dX4_begin_59 : decode cX4_begin 59 = .ok (.getfield 12, 3) := by decide +kernel
theorem dX4_begin_62 : decode cX4_begin 62 = .ok (.getfield 65, 3) := by decide +kernel
theorem dX4_begin_65 : decode cX4_begin 65 = .ok (.ireturn, 1) := by decide +kernel
theorem dX4_reasonToRefuse_0 : decode cX4_reasonToRefuse 0 = .ok (.aload_n 0, 1) := by decide +kernel
theorem dX4_reasonToRefuse_1 : decode cX4_reasonToRefuse 1 = .ok (.invokevirtual 103, 3) := by decide +kernel
theorem dX4_reasonToRefuse_4 : decode cX4_reasonToRefuse 4 = .ok (.ifCond .ne 5, 3) := by decide +kernel
theorem dX4_reasonToRefuse_7 : decode cX4_reasonToRefuse 7 = .ok (.iconst 1, 1) := by decide +kernel
theorem dX4_reasonToRefuse_8 : decode cX4_reasonToRefuse 8 = .ok (.ireturn, 1) := by decide +kernel
theorem dX4_reasonToRefuse_9 : decode cX4_reasonToRefuse 9 = .ok (.aload_n 0, 1) := by decide +kernel
theorem dX4_reasonToRefuse_10 : decode cX4_reasonToRefuse 10 = .ok (.getfield 12, 3) := by decide +kernel
theorem dX4_reasonToRefuse_13 : decode cX4_reasonToRefuse 13 = .ok (.getfield 65, 3) := by decide +kernel
theorem dX4_reasonToRefuse_16 : decode cX4_reasonToRefuse 16 = .ok (.ifCond .ne 5, 3) := by decide +kernel
theorem dX4_reasonToRefuse_19 : decode cX4_reasonToRefuse 19 = .ok (.iconst 2, 1) := by decide +kernel
theorem dX4_reasonToRefuse_20 : decode cX4_reasonToRefuse 20 = .ok (.ireturn, 1) := by decide +kernel
theorem dX4_reasonToRefuse_21 : decode cX4_reasonToRefuse 21 = .ok (.aload_n 0, 1) := by decide +kernel
theorem dX4_reasonToRefuse_22 : decode cX4_reasonToRefuse 22 = .ok (.getfield 21, 3) := by decide +kernel
theorem dX4_reasonToRefuse_25 : decode cX4_reasonToRefuse 25 = .ok (.getfield 144, 3) := by decide +kernel
theorem dX4_reasonToRefuse_28 : decode cX4_reasonToRefuse 28 = .ok (.ifCond .ne 5, 3) := by decide +kernel
theorem dX4_reasonToRefuse_31 : decode cX4_reasonToRefuse 31 = .ok (.iconst 3, 1) := by decide +kernel
theorem dX4_reasonToRefuse_32 : decode cX4_reasonToRefuse 32 = .ok (.ireturn, 1) := by decide +kernel
theorem dX4_reasonToRefuse_33 : decode cX4_reasonToRefuse 33 = .ok (.iconst 0, 1) := by decide +kernel
theorem dX4_reasonToRefuse_34 : decode cX4_reasonToRefuse 34 = .ok (.istore_n 1, 1) := by decide +kernel
theorem dX4_reasonToRefuse_35 : decode cX4_reasonToRefuse 35 = .ok (.iload_n 1, 1) := by decide +kernel
theorem dX4_reasonToRefuse_36 : decode cX4_reasonToRefuse 36 = .ok (.aload_n 0, 1) := by decide +kernel
theorem dX4_reasonToRefuse_37 : decode cX4_reasonToRefuse 37 = .ok (.getfield 72, 3) := by decide +kernel
theorem dX4_reasonToRefuse_40 : decode cX4_reasonToRefuse 40 = .ok (.if_icmp .ge 23, 3) := by decide +kernel
theorem dX4_reasonToRefuse_43 : decode cX4_reasonToRefuse 43 = .ok (.aload_n 0, 1) := by decide +kernel
theorem dX4_reasonToRefuse_44 : decode cX4_reasonToRefuse 44 = .ok (.getfield 27, 3) := by decide +kernel
theorem dX4_reasonToRefuse_47 : decode cX4_reasonToRefuse 47 = .ok (.iload_n 1, 1) := by decide +kernel
theorem dX4_reasonToRefuse_48 : decode cX4_reasonToRefuse 48 = .ok (.aaload, 1) := by decide +kernel
theorem dX4_reasonToRefuse_49 : decode cX4_reasonToRefuse 49 = .ok (.getfield 145, 3) := by decide +kernel
theorem dX4_reasonToRefuse_52 : decode cX4_reasonToRefuse 52 = .ok (.ifCond .eq 5, 3) := by decide +kernel
theorem dX4_reasonToRefuse_55 : decode cX4_reasonToRefuse 55 = .ok (.iconst 0, 1) := by decide +kernel
theorem dX4_reasonToRefuse_56 : decode cX4_reasonToRefuse 56 = .ok (.ireturn, 1) := by decide +kernel
theorem dX4_reasonToRefuse_57 : decode cX4_reasonToRefuse 57 = .ok (.iinc 1 1, 3) := by decide +kernel
theorem dX4_reasonToRefuse_60 : decode cX4_reasonToRefuse 60 = .ok (.goto (-25), 3) := by decide +kernel
theorem dX4_reasonToRefuse_63 : decode cX4_reasonToRefuse 63 = .ok (.iconst 4, 1) := by decide +kernel
theorem dX4_reasonToRefuse_64 : decode cX4_reasonToRefuse 64 = .ok (.ireturn, 1) := by decide +kernel
theorem dX4_holdOrGoOn_0 : decode cX4_holdOrGoOn 0 = .ok (.aload_n 0, 1) := by decide +kernel
theorem dX4_holdOrGoOn_1 : decode cX4_holdOrGoOn 1 = .ok (.getfield 44, 3) := by decide +kernel
theorem dX4_holdOrGoOn_4 : decode cX4_holdOrGoOn 4 = .ok (.iload_n 1, 1) := by decide +kernel
theorem dX4_holdOrGoOn_5 : decode cX4_holdOrGoOn 5 = .ok (.ifCond .eq 7, 3) := by decide +kernel
theorem dX4_holdOrGoOn_8 : decode cX4_holdOrGoOn 8 = .ok (.iconst 1, 1) := by decide +kernel
theorem dX4_holdOrGoOn_9 : decode cX4_holdOrGoOn 9 = .ok (.goto 4, 3) := by decide +kernel
theorem dX4_holdOrGoOn_12 : decode cX4_holdOrGoOn 12 = .ok (.iconst 2, 1) := by decide +kernel
theorem dX4_holdOrGoOn_13 : decode cX4_holdOrGoOn 13 = .ok (.if_icmp .eq 6, 3) := by decide +kernel
theorem dX4_holdOrGoOn_16 : decode cX4_holdOrGoOn 16 = .ok (.bipush (-3), 2) := by decide +kernel
theorem dX4_holdOrGoOn_18 : decode cX4_holdOrGoOn 18 = .ok (.ireturn, 1) := by decide +kernel
theorem dX4_holdOrGoOn_19 : decode cX4_holdOrGoOn 19 = .ok (.aload_n 0, 1) := by decide +kernel
theorem dX4_holdOrGoOn_20 : decode cX4_holdOrGoOn 20 = .ok (.iload_n 1, 1) := by decide +kernel
theorem dX4_holdOrGoOn_21 : decode cX4_holdOrGoOn 21 = .ok (.ifCond .eq 7, 3) := by decide +kernel
theorem dX4_holdOrGoOn_24 : decode cX4_holdOrGoOn 24 = .ok (.iconst 2, 1) := by decide +kernel
theorem dX4_holdOrGoOn_25 : decode cX4_holdOrGoOn 25 = .ok (.goto 4, 3) := by decide +kernel
theorem dX4_holdOrGoOn_28 : decode cX4_holdOrGoOn 28 = .ok (.iconst 1, 1) := by decide +kernel
theorem dX4_holdOrGoOn_29 : decode cX4_holdOrGoOn 29 = .ok (.putfield 44, 3) := by decide +kernel
theorem dX4_holdOrGoOn_32 : decode cX4_holdOrGoOn 32 = .ok (.aload_n 0, 1) := by decide +kernel
theorem dX4_holdOrGoOn_33 : decode cX4_holdOrGoOn 33 = .ok (.getfield 114, 3) := by decide +kernel
theorem dX4_holdOrGoOn_36 : decode cX4_holdOrGoOn 36 = .ok (.ireturn, 1) := by decide +kernel
theorem dX4_abortByHand_0 : decode cX4_abortByHand 0 = .ok (.aload_n 0, 1) := by decide +kernel
theorem dX4_abortByHand_1 : decode cX4_abortByHand 1 = .ok (.invokevirtual 75, 3) := by decide +kernel
theorem dX4_abortByHand_4 : decode cX4_abortByHand 4 = .ok (.ifCond .ne 6, 3) := by decide +kernel
theorem dX4_abortByHand_7 : decode cX4_abortByHand 7 = .ok (.bipush (-3), 2) := by decide +kernel
theorem dX4_abortByHand_9 : decode cX4_abortByHand 9 = .ok (.ireturn, 1) := by decide +kernel
theorem dX4_abortByHand_10 : decode cX4_abortByHand 10 = .ok (.aload_n 0, 1) := by decide +kernel
theorem dX4_abortByHand_11 : decode cX4_abortByHand 11 = .ok (.bipush (-6), 2) := by decide +kernel
theorem dX4_abortByHand_13 : decode cX4_abortByHand 13 = .ok (.invokevirtual 148, 3) := by decide +kernel
theorem dX4_abortByHand_16 : decode cX4_abortByHand 16 = .ok (.aload_n 0, 1) := by decide +kernel
theorem dX4_abortByHand_17 : decode cX4_abortByHand 17 = .ok (.getfield 114, 3) := by decide +kernel
theorem dX4_abortByHand_20 : decode cX4_abortByHand 20 = .ok (.ireturn, 1) := by decide +kernel
theorem dX4_beginAbort_0 : decode cX4_beginAbort 0 = .ok (.aload_n 0, 1) := by decide +kernel
theorem dX4_beginAbort_1 : decode cX4_beginAbort 1 = .ok (.iconst 3, 1) := by decide +kernel
theorem dX4_beginAbort_2 : decode cX4_beginAbort 2 = .ok (.putfield 44, 3) := by decide +kernel
theorem dX4_beginAbort_5 : decode cX4_beginAbort 5 = .ok (.aload_n 0, 1) := by decide +kernel
theorem dX4_beginAbort_6 : decode cX4_beginAbort 6 = .ok (.iload_n 1, 1) := by decide +kernel
theorem dX4_beginAbort_7 : decode cX4_beginAbort 7 = .ok (.putfield 96, 3) := by decide +kernel
theorem dX4_beginAbort_10 : decode cX4_beginAbort 10 = .ok (.aload_n 0, 1) := by decide +kernel
theorem dX4_beginAbort_11 : decode cX4_beginAbort 11 = .ok (.aload_n 0, 1) := by decide +kernel
theorem dX4_beginAbort_12 : decode cX4_beginAbort 12 = .ok (.getfield 114, 3) := by decide +kernel
theorem dX4_beginAbort_15 : decode cX4_beginAbort 15 = .ok (.putfield 99, 3) := by decide +kernel
theorem dX4_beginAbort_18 : decode cX4_beginAbort 18 = .ok (.return_, 1) := by decide +kernel
theorem dX4_doLoops_0 : decode cX4_doLoops 0 = .ok (.iload_n 1, 1) := by decide +kernel
theorem dX4_doLoops_1 : decode cX4_doLoops 1 = .ok (.iconst 1, 1) := by decide +kernel
theorem dX4_doLoops_2 : decode cX4_doLoops 2 = .ok (.bipush 50, 2) := by decide +kernel
theorem dX4_doLoops_4 : decode cX4_doLoops 4 = .ok (.invokestatic 68, 3) := by decide +kernel
theorem dX4_doLoops_7 : decode cX4_doLoops 7 = .ok (.ifCond .ne 6, 3) := by decide +kernel
theorem dX4_doLoops_10 : decode cX4_doLoops 10 = .ok (.bipush (-2), 2) := by decide +kernel
theorem dX4_doLoops_12 : decode cX4_doLoops 12 = .ok (.ireturn, 1) := by decide +kernel
theorem dX4_doLoops_13 : decode cX4_doLoops 13 = .ok (.aload_n 0, 1) := by decide +kernel
theorem dX4_doLoops_14 : decode cX4_doLoops 14 = .ok (.invokevirtual 103, 3) := by decide +kernel
theorem dX4_doLoops_17 : decode cX4_doLoops 17 = .ok (.ifCond .eq 6, 3) := by decide +kernel
theorem dX4_doLoops_20 : decode cX4_doLoops 20 = .ok (.bipush (-3), 2) := by decide +kernel
theorem dX4_doLoops_22 : decode cX4_doLoops 22 = .ok (.ireturn, 1) := by decide +kernel
theorem dX4_doLoops_23 : decode cX4_doLoops 23 = .ok (.iconst 0, 1) := by decide +kernel
theorem dX4_doLoops_24 : decode cX4_doLoops 24 = .ok (.istore_n 2, 1) := by decide +kernel
theorem dX4_doLoops_25 : decode cX4_doLoops 25 = .ok (.iload_n 2, 1) := by decide +kernel
theorem dX4_doLoops_26 : decode cX4_doLoops 26 = .ok (.iload_n 1, 1) := by decide +kernel
theorem dX4_doLoops_27 : decode cX4_doLoops 27 = .ok (.if_icmp .ge 20, 3) := by decide +kernel
theorem dX4_doLoops_30 : decode cX4_doLoops 30 = .ok (.aload_n 0, 1) := by decide +kernel
theorem dX4_doLoops_31 : decode cX4_doLoops 31 = .ok (.invokevirtual 103, 3) := by decide +kernel
theorem dX4_doLoops_34 : decode cX4_doLoops 34 = .ok (.ifCond .ne 13, 3) := by decide +kernel
theorem dX4_doLoops_37 : decode cX4_doLoops 37 = .ok (.aload_n 0, 1) := by decide +kernel
theorem dX4_doLoops_38 : decode cX4_doLoops 38 = .ok (.invokevirtual 152, 3) := by decide +kernel
theorem dX4_doLoops_41 : decode cX4_doLoops 41 = .ok (.iinc 2 1, 3) := by decide +kernel
theorem dX4_doLoops_44 : decode cX4_doLoops 44 = .ok (.goto (-19), 3) := by decide +kernel
theorem dX4_doLoops_47 : decode cX4_doLoops 47 = .ok (.iload_n 2, 1) := by decide +kernel
theorem dX4_doLoops_48 : decode cX4_doLoops 48 = .ok (.ireturn, 1) := by decide +kernel
theorem dX4_doLoop_0 : decode cX4_doLoop 0 = .ok (.aload_n 0, 1) := by decide +kernel
theorem dX4_doLoop_1 : decode cX4_doLoop 1 = .ok (.dup, 1) := by decide +kernel
theorem dX4_doLoop_2 : decode cX4_doLoop 2 = .ok (.getfield 93, 3) := by decide +kernel
theorem dX4_doLoop_5 : decode cX4_doLoop 5 = .ok (.iconst 1, 1) := by decide +kernel
theorem dX4_doLoop_6 : decode cX4_doLoop 6 = .ok (.iadd, 1) := by decide +kernel
theorem dX4_doLoop_7 : decode cX4_doLoop 7 = .ok (.putfield 93, 3) := by decide +kernel
theorem dX4_doLoop_10 : decode cX4_doLoop 10 = .ok (.aload_n 0, 1) := by decide +kernel
theorem dX4_doLoop_11 : decode cX4_doLoop 11 = .ok (.getfield 44, 3) := by decide +kernel
theorem dX4_doLoop_14 : decode cX4_doLoop 14 = .ok (.iconst 3, 1) := by decide +kernel
theorem dX4_doLoop_15 : decode cX4_doLoop 15 = .ok (.if_icmp .ne 8, 3) := by decide +kernel
theorem dX4_doLoop_18 : decode cX4_doLoop 18 = .ok (.aload_n 0, 1) := by decide +kernel
theorem dX4_doLoop_19 : decode cX4_doLoop 19 = .ok (.invokevirtual 155, 3) := by decide +kernel
theorem dX4_doLoop_22 : decode cX4_doLoop 22 = .ok (.return_, 1) := by decide +kernel
theorem dX4_doLoop_23 : decode cX4_doLoop 23 = .ok (.aload_n 0, 1) := by decide +kernel
theorem dX4_doLoop_24 : decode cX4_doLoop 24 = .ok (.aload_n 0, 1) := by decide +kernel
theorem dX4_doLoop_25 : decode cX4_doLoop 25 = .ok (.getfield 114, 3) := by decide +kernel
theorem dX4_doLoop_28 : decode cX4_doLoop 28 = .ok (.invokevirtual 158, 3) := by decide +kernel
theorem dX4_doLoop_31 : decode cX4_doLoop 31 = .ok (.ifCond .ne 4, 3) := by decide +kernel
theorem dX4_doLoop_34 : decode cX4_doLoop 34 = .ok (.return_, 1) := by decide +kernel
theorem dX4_doLoop_35 : decode cX4_doLoop 35 = .ok (.aload_n 0, 1) := by decide +kernel
theorem dX4_doLoop_36 : decode cX4_doLoop 36 = .ok (.getfield 12, 3) := by decide +kernel
theorem dX4_doLoop_39 : decode cX4_doLoop 39 = .ok (.getfield 161, 3) := by decide +kernel
theorem dX4_doLoop_42 : decode cX4_doLoop 42 = .ok (.aload_n 0, 1) := by decide +kernel
theorem dX4_doLoop_43 : decode cX4_doLoop 43 = .ok (.getfield 114, 3) := by decide +kernel
theorem dX4_doLoop_46 : decode cX4_doLoop 46 = .ok (.iaload, 1) := by decide +kernel
theorem dX4_doLoop_47 : decode cX4_doLoop 47 = .ok (.istore_n 1, 1) := by decide +kernel
theorem dX4_doLoop_48 : decode cX4_doLoop 48 = .ok (.aload_n 0, 1) := by decide +kernel
theorem dX4_doLoop_49 : decode cX4_doLoop 49 = .ok (.iload_n 1, 1) := by decide +kernel
theorem dX4_doLoop_50 : decode cX4_doLoop 50 = .ok (.invokevirtual 164, 3) := by decide +kernel
theorem dX4_doLoop_53 : decode cX4_doLoop 53 = .ok (.istore_n 2, 1) := by decide +kernel
theorem dX4_doLoop_54 : decode cX4_doLoop 54 = .ok (.aload_n 0, 1) := by decide +kernel
theorem dX4_doLoop_55 : decode cX4_doLoop 55 = .ok (.iload_n 1, 1) := by decide +kernel
theorem dX4_doLoop_56 : decode cX4_doLoop 56 = .ok (.invokevirtual 168, 3) := by decide +kernel
theorem dX4_doLoop_59 : decode cX4_doLoop 59 = .ok (.istore_n 3, 1) := by decide +kernel
theorem dX4_doLoop_60 : decode cX4_doLoop 60 = .ok (.iload_n 3, 1) := by decide +kernel
theorem dX4_doLoop_61 : decode cX4_doLoop 61 = .ok (.bipush (-6), 2) := by decide +kernel
theorem dX4_doLoop_63 : decode cX4_doLoop 63 = .ok (.if_icmp .eq 9, 3) := by decide +kernel
theorem dX4_doLoop_66 : decode cX4_doLoop 66 = .ok (.aload_n 0, 1) := by decide +kernel
theorem dX4_doLoop_67 : decode cX4_doLoop 67 = .ok (.iload_n 3, 1) := by decide +kernel
theorem dX4_doLoop_68 : decode cX4_doLoop 68 = .ok (.invokevirtual 148, 3) := by decide +kernel
theorem dX4_doLoop_71 : decode cX4_doLoop 71 = .ok (.return_, 1) := by decide +kernel
theorem dX4_doLoop_72 : decode cX4_doLoop 72 = .ok (.aload_n 0, 1) := by decide +kernel
theorem dX4_doLoop_73 : decode cX4_doLoop 73 = .ok (.getfield 44, 3) := by decide +kernel
theorem dX4_doLoop_76 : decode cX4_doLoop 76 = .ok (.iconst 2, 1) := by decide +kernel
theorem dX4_doLoop_77 : decode cX4_doLoop 77 = .ok (.if_icmp .ne 10, 3) := by decide +kernel
theorem dX4_doLoop_80 : decode cX4_doLoop 80 = .ok (.aload_n 0, 1) := by decide +kernel
theorem dX4_doLoop_81 : decode cX4_doLoop 81 = .ok (.getfield 114, 3) := by decide +kernel
theorem dX4_doLoop_84 : decode cX4_doLoop 84 = .ok (.goto 7, 3) := by decide +kernel
theorem dX4_doLoop_87 : decode cX4_doLoop 87 = .ok (.aload_n 0, 1) := by decide +kernel
theorem dX4_doLoop_88 : decode cX4_doLoop 88 = .ok (.invokevirtual 171, 3) := by decide +kernel
theorem dX4_doLoop_91 : decode cX4_doLoop 91 = .ok (.istore 4, 2) := by decide +kernel
theorem dX4_doLoop_93 : decode cX4_doLoop 93 = .ok (.iload 4, 2) := by decide +kernel
theorem dX4_doLoop_95 : decode cX4_doLoop 95 = .ok (.bipush (-6), 2) := by decide +kernel
theorem dX4_doLoop_97 : decode cX4_doLoop 97 = .ok (.if_icmp .ne 14, 3) := by decide +kernel
theorem dX4_doLoop_100 : decode cX4_doLoop 100 = .ok (.aload_n 0, 1) := by decide +kernel
theorem dX4_doLoop_101 : decode cX4_doLoop 101 = .ok (.iconst 5, 1) := by decide +kernel
theorem dX4_doLoop_102 : decode cX4_doLoop 102 = .ok (.putfield 44, 3) := by decide +kernel
theorem dX4_doLoop_105 : decode cX4_doLoop 105 = .ok (.aload_n 0, 1) := by decide +kernel
theorem dX4_doLoop_106 : decode cX4_doLoop 106 = .ok (.iconst 0, 1) := by decide +kernel
theorem dX4_doLoop_107 : decode cX4_doLoop 107 = .ok (.putfield 141, 3) := by decide +kernel
theorem dX4_doLoop_110 : decode cX4_doLoop 110 = .ok (.return_, 1) := by decide +kernel
theorem dX4_doLoop_111 : decode cX4_doLoop 111 = .ok (.aload_n 0, 1) := by decide +kernel
theorem dX4_doLoop_112 : decode cX4_doLoop 112 = .ok (.iload 4, 2) := by decide +kernel
theorem dX4_doLoop_114 : decode cX4_doLoop 114 = .ok (.iload_n 2, 1) := by decide +kernel
theorem dX4_doLoop_115 : decode cX4_doLoop 115 = .ok (.invokevirtual 174, 3) := by decide +kernel
theorem dX4_doLoop_118 : decode cX4_doLoop 118 = .ok (.return_, 1) := by decide +kernel
theorem dX4_rampDown_0 : decode cX4_rampDown 0 = .ok (.aload_n 0, 1) := by decide +kernel
theorem dX4_rampDown_1 : decode cX4_rampDown 1 = .ok (.aload_n 0, 1) := by decide +kernel
theorem dX4_rampDown_2 : decode cX4_rampDown 2 = .ok (.getfield 141, 3) := by decide +kernel
theorem dX4_rampDown_5 : decode cX4_rampDown 5 = .ok (.aload_n 0, 1) := by decide +kernel
theorem dX4_rampDown_6 : decode cX4_rampDown 6 = .ok (.getfield 31, 3) := by decide +kernel
theorem dX4_rampDown_9 : decode cX4_rampDown 9 = .ok (.iconst 4, 1) := by decide +kernel
theorem dX4_rampDown_10 : decode cX4_rampDown 10 = .ok (.iaload, 1) := by decide +kernel
theorem dX4_rampDown_11 : decode cX4_rampDown 11 = .ok (.imul, 1) := by decide +kernel
theorem dX4_rampDown_12 : decode cX4_rampDown 12 = .ok (.bipush 100, 2) := by decide +kernel
theorem dX4_rampDown_14 : decode cX4_rampDown 14 = .ok (.idiv, 1) := by decide +kernel
theorem dX4_rampDown_15 : decode cX4_rampDown 15 = .ok (.putfield 141, 3) := by decide +kernel
theorem dX4_rampDown_18 : decode cX4_rampDown 18 = .ok (.aload_n 0, 1) := by decide +kernel
theorem dX4_rampDown_19 : decode cX4_rampDown 19 = .ok (.getfield 141, 3) := by decide +kernel
theorem dX4_rampDown_22 : decode cX4_rampDown 22 = .ok (.ifCond .ne 8, 3) := by decide +kernel
theorem dX4_rampDown_25 : decode cX4_rampDown 25 = .ok (.aload_n 0, 1) := by decide +kernel
theorem dX4_rampDown_26 : decode cX4_rampDown 26 = .ok (.iconst 4, 1) := by decide +kernel
theorem dX4_rampDown_27 : decode cX4_rampDown 27 = .ok (.putfield 44, 3) := by decide +kernel
theorem dX4_rampDown_30 : decode cX4_rampDown 30 = .ok (.return_, 1) := by decide +kernel
theorem dX4_measureLevels_0 : decode cX4_measureLevels 0 = .ok (.aload_n 0, 1) := by decide +kernel
theorem dX4_measureLevels_1 : decode cX4_measureLevels 1 = .ok (.getfield 31, 3) := by decide +kernel
theorem dX4_measureLevels_4 : decode cX4_measureLevels 4 = .ok (.iconst 1, 1) := by decide +kernel
theorem dX4_measureLevels_5 : decode cX4_measureLevels 5 = .ok (.iaload, 1) := by decide +kernel
theorem dX4_measureLevels_6 : decode cX4_measureLevels 6 = .ok (.istore_n 2, 1) := by decide +kernel
theorem dX4_measureLevels_7 : decode cX4_measureLevels 7 = .ok (.iconst 0, 1) := by decide +kernel
theorem dX4_measureLevels_8 : decode cX4_measureLevels 8 = .ok (.istore_n 3, 1) := by decide +kernel
theorem dX4_measureLevels_9 : decode cX4_measureLevels 9 = .ok (.iload_n 3, 1) := by decide +kernel
theorem dX4_measureLevels_10 : decode cX4_measureLevels 10 = .ok (.aload_n 0, 1) := by decide +kernel
theorem dX4_measureLevels_11 : decode cX4_measureLevels 11 = .ok (.getfield 72, 3) := by decide +kernel
theorem dX4_measureLevels_14 : decode cX4_measureLevels 14 = .ok (.if_icmp .ge 28, 3) := by decide +kernel
theorem dX4_measureLevels_17 : decode cX4_measureLevels 17 = .ok (.aload_n 0, 1) := by decide +kernel
theorem dX4_measureLevels_18 : decode cX4_measureLevels 18 = .ok (.getfield 27, 3) := by decide +kernel
theorem dX4_measureLevels_21 : decode cX4_measureLevels 21 = .ok (.iload_n 3, 1) := by decide +kernel
theorem dX4_measureLevels_22 : decode cX4_measureLevels 22 = .ok (.aaload, 1) := by decide +kernel
theorem dX4_measureLevels_23 : decode cX4_measureLevels 23 = .ok (.aload_n 0, 1) := by decide +kernel
theorem dX4_measureLevels_24 : decode cX4_measureLevels 24 = .ok (.getfield 114, 3) := by decide +kernel
theorem dX4_measureLevels_27 : decode cX4_measureLevels 27 = .ok (.iload_n 1, 1) := by decide +kernel
theorem dX4_measureLevels_28 : decode cX4_measureLevels 28 = .ok (.aload_n 0, 1) := by decide +kernel
theorem dX4_measureLevels_29 : decode cX4_measureLevels 29 = .ok (.getfield 141, 3) := by decide +kernel
theorem dX4_measureLevels_32 : decode cX4_measureLevels 32 = .ok (.iload_n 2, 1) := by decide +kernel
theorem dX4_measureLevels_33 : decode cX4_measureLevels 33 = .ok (.invokevirtual 178, 3) := by decide +kernel
theorem dX4_measureLevels_36 : decode cX4_measureLevels 36 = .ok (.iinc 3 1, 3) := by decide +kernel
theorem dX4_measureLevels_39 : decode cX4_measureLevels 39 = .ok (.goto (-30), 3) := by decide +kernel
theorem dX4_measureLevels_42 : decode cX4_measureLevels 42 = .ok (.aload_n 0, 1) := by decide +kernel
theorem dX4_measureLevels_43 : decode cX4_measureLevels 43 = .ok (.invokevirtual 182, 3) := by decide +kernel
theorem dX4_measureLevels_46 : decode cX4_measureLevels 46 = .ok (.istore_n 3, 1) := by decide +kernel
theorem dX4_measureLevels_47 : decode cX4_measureLevels 47 = .ok (.iload_n 3, 1) := by decide +kernel
theorem dX4_measureLevels_48 : decode cX4_measureLevels 48 = .ok (.aload_n 0, 1) := by decide +kernel
theorem dX4_measureLevels_49 : decode cX4_measureLevels 49 = .ok (.getfield 141, 3) := by decide +kernel
theorem dX4_measureLevels_52 : decode cX4_measureLevels 52 = .ok (.invokestatic 185, 3) := by decide +kernel
theorem dX4_measureLevels_55 : decode cX4_measureLevels 55 = .ok (.istore 4, 2) := by decide +kernel
theorem dX4_measureLevels_57 : decode cX4_measureLevels 57 = .ok (.aload_n 0, 1) := by decide +kernel
theorem dX4_measureLevels_58 : decode cX4_measureLevels 58 = .ok (.getfield 35, 3) := by decide +kernel
theorem dX4_measureLevels_61 : decode cX4_measureLevels 61 = .ok (.aload_n 0, 1) := by decide +kernel
theorem dX4_measureLevels_62 : decode cX4_measureLevels 62 = .ok (.getfield 114, 3) := by decide +kernel
theorem dX4_measureLevels_65 : decode cX4_measureLevels 65 = .ok (.aload_n 0, 1) := by decide +kernel
theorem dX4_measureLevels_66 : decode cX4_measureLevels 66 = .ok (.getfield 35, 3) := by decide +kernel
theorem dX4_measureLevels_69 : decode cX4_measureLevels 69 = .ok (.aload_n 0, 1) := by decide +kernel
theorem dX4_measureLevels_70 : decode cX4_measureLevels 70 = .ok (.getfield 114, 3) := by decide +kernel
theorem dX4_measureLevels_73 : decode cX4_measureLevels 73 = .ok (.iaload, 1) := by decide +kernel
theorem dX4_measureLevels_74 : decode cX4_measureLevels 74 = .ok (.iload 4, 2) := by decide +kernel
theorem dX4_measureLevels_76 : decode cX4_measureLevels 76 = .ok (.iload_n 2, 1) := by decide +kernel
theorem dX4_measureLevels_77 : decode cX4_measureLevels 77 = .ok (.invokestatic 188, 3) := by decide +kernel
theorem dX4_measureLevels_80 : decode cX4_measureLevels 80 = .ok (.iastore, 1) := by decide +kernel
theorem dX4_measureLevels_81 : decode cX4_measureLevels 81 = .ok (.iload_n 3, 1) := by decide +kernel
theorem dX4_measureLevels_82 : decode cX4_measureLevels 82 = .ok (.ireturn, 1) := by decide +kernel
theorem dX4_controlLevel_0 : decode cX4_controlLevel 0 = .ok (.iconst 0, 1) := by decide +kernel
theorem dX4_controlLevel_1 : decode cX4_controlLevel 1 = .ok (.istore_n 1, 1) := by decide +kernel
theorem dX4_controlLevel_2 : decode cX4_controlLevel 2 = .ok (.iconst 0, 1) := by decide +kernel
theorem dX4_controlLevel_3 : decode cX4_controlLevel 3 = .ok (.istore_n 2, 1) := by decide +kernel
theorem dX4_controlLevel_4 : decode cX4_controlLevel 4 = .ok (.iconst 0, 1) := by decide +kernel
theorem dX4_controlLevel_5 : decode cX4_controlLevel 5 = .ok (.istore_n 3, 1) := by decide +kernel
theorem dX4_controlLevel_6 : decode cX4_controlLevel 6 = .ok (.iconst 0, 1) := by decide +kernel
theorem dX4_controlLevel_7 : decode cX4_controlLevel 7 = .ok (.istore 4, 2) := by decide +kernel
theorem dX4_controlLevel_9 : decode cX4_controlLevel 9 = .ok (.iconst 0, 1) := by decide +kernel
theorem dX4_controlLevel_10 : decode cX4_controlLevel 10 = .ok (.istore 5, 2) := by decide +kernel
theorem dX4_controlLevel_12 : decode cX4_controlLevel 12 = .ok (.iload 5, 2) := by decide +kernel
theorem dX4_controlLevel_14 : decode cX4_controlLevel 14 = .ok (.aload_n 0, 1) := by decide +kernel
theorem dX4_controlLevel_15 : decode cX4_controlLevel 15 = .ok (.getfield 72, 3) := by decide +kernel
theorem dX4_controlLevel_18 : decode cX4_controlLevel 18 = .ok (.if_icmp .ge 67, 3) := by decide +kernel
theorem dX4_controlLevel_21 : decode cX4_controlLevel 21 = .ok (.aload_n 0, 1) := by decide +kernel
theorem dX4_controlLevel_22 : decode cX4_controlLevel 22 = .ok (.getfield 27, 3) := by decide +kernel
theorem dX4_controlLevel_25 : decode cX4_controlLevel 25 = .ok (.iload 5, 2) := by decide +kernel
theorem dX4_controlLevel_27 : decode cX4_controlLevel 27 = .ok (.aaload, 1) := by decide +kernel
theorem dX4_controlLevel_28 : decode cX4_controlLevel 28 = .ok (.getfield 145, 3) := by decide +kernel
theorem dX4_controlLevel_31 : decode cX4_controlLevel 31 = .ok (.ifCond .eq 48, 3) := by decide +kernel
theorem dX4_controlLevel_34 : decode cX4_controlLevel 34 = .ok (.aload_n 0, 1) := by decide +kernel
theorem dX4_controlLevel_35 : decode cX4_controlLevel 35 = .ok (.getfield 27, 3) := by decide +kernel
theorem dX4_controlLevel_38 : decode cX4_controlLevel 38 = .ok (.iload 5, 2) := by decide +kernel
theorem dX4_controlLevel_40 : decode cX4_controlLevel 40 = .ok (.aaload, 1) := by decide +kernel
theorem dX4_controlLevel_41 : decode cX4_controlLevel 41 = .ok (.getfield 191, 3) := by decide +kernel
theorem dX4_controlLevel_44 : decode cX4_controlLevel 44 = .ok (.istore 6, 2) := by decide +kernel
theorem dX4_controlLevel_46 : decode cX4_controlLevel 46 = .ok (.iload_n 2, 1) := by decide +kernel
theorem dX4_controlLevel_47 : decode cX4_controlLevel 47 = .ok (.iload 6, 2) := by decide +kernel
theorem dX4_controlLevel_49 : decode cX4_controlLevel 49 = .ok (.iadd, 1) := by decide +kernel
theorem dX4_controlLevel_50 : decode cX4_controlLevel 50 = .ok (.istore_n 2, 1) := by decide +kernel
theorem dX4_controlLevel_51 : decode cX4_controlLevel 51 = .ok (.iload_n 3, 1) := by decide +kernel
theorem dX4_controlLevel_52 : decode cX4_controlLevel 52 = .ok (.iload 6, 2) := by decide +kernel
theorem dX4_controlLevel_54 : decode cX4_controlLevel 54 = .ok (.invokestatic 194, 3) := by decide +kernel
theorem dX4_controlLevel_57 : decode cX4_controlLevel 57 = .ok (.istore_n 3, 1) := by decide +kernel
theorem dX4_controlLevel_58 : decode cX4_controlLevel 58 = .ok (.iload_n 1, 1) := by decide +kernel
theorem dX4_controlLevel_59 : decode cX4_controlLevel 59 = .ok (.ifCond .ne 8, 3) := by decide +kernel
theorem dX4_controlLevel_62 : decode cX4_controlLevel 62 = .ok (.iload 6, 2) := by decide +kernel
theorem dX4_controlLevel_64 : decode cX4_controlLevel 64 = .ok (.goto 10, 3) := by decide +kernel
theorem dX4_controlLevel_67 : decode cX4_controlLevel 67 = .ok (.iload 4, 2) := by decide +kernel
theorem dX4_controlLevel_69 : decode cX4_controlLevel 69 = .ok (.iload 6, 2) := by decide +kernel
theorem dX4_controlLevel_71 : decode cX4_controlLevel 71 = .ok (.invokestatic 199, 3) := by decide +kernel
theorem dX4_controlLevel_74 : decode cX4_controlLevel 74 = .ok (.istore 4, 2) := by decide +kernel
theorem dX4_controlLevel_76 : decode cX4_controlLevel 76 = .ok (.iinc 1 1, 3) := by decide +kernel
theorem dX4_controlLevel_79 : decode cX4_controlLevel 79 = .ok (.iinc 5 1, 3) := by decide +kernel
theorem dX4_controlLevel_82 : decode cX4_controlLevel 82 = .ok (.goto (-70), 3) := by decide +kernel
theorem dX4_controlLevel_85 : decode cX4_controlLevel 85 = .ok (.aload_n 0, 1) := by decide +kernel
theorem dX4_controlLevel_86 : decode cX4_controlLevel 86 = .ok (.getfield 31, 3) := by decide +kernel
theorem dX4_controlLevel_89 : decode cX4_controlLevel 89 = .ok (.iconst 0, 1) := by decide +kernel
theorem dX4_controlLevel_90 : decode cX4_controlLevel 90 = .ok (.iaload, 1) := by decide +kernel
theorem dX4_controlLevel_91 : decode cX4_controlLevel 91 = .ok (.iconst 1, 1) := by decide +kernel
theorem dX4_controlLevel_92 : decode cX4_controlLevel 92 = .ok (.if_icmp .ne 5, 3) := by decide +kernel
theorem dX4_controlLevel_95 : decode cX4_controlLevel 95 = .ok (.iload_n 3, 1) := by decide +kernel
theorem dX4_controlLevel_96 : decode cX4_controlLevel 96 = .ok (.ireturn, 1) := by decide +kernel
theorem dX4_controlLevel_97 : decode cX4_controlLevel 97 = .ok (.aload_n 0, 1) := by decide +kernel
theorem dX4_controlLevel_98 : decode cX4_controlLevel 98 = .ok (.getfield 31, 3) := by decide +kernel
theorem dX4_controlLevel_101 : decode cX4_controlLevel 101 = .ok (.iconst 0, 1) := by decide +kernel
theorem dX4_controlLevel_102 : decode cX4_controlLevel 102 = .ok (.iaload, 1) := by decide +kernel
theorem dX4_controlLevel_103 : decode cX4_controlLevel 103 = .ok (.iconst 2, 1) := by decide +kernel
theorem dX4_controlLevel_104 : decode cX4_controlLevel 104 = .ok (.if_icmp .ne 6, 3) := by decide +kernel
theorem dX4_controlLevel_107 : decode cX4_controlLevel 107 = .ok (.iload 4, 2) := by decide +kernel
theorem dX4_controlLevel_109 : decode cX4_controlLevel 109 = .ok (.ireturn, 1) := by decide +kernel
theorem dX4_controlLevel_110 : decode cX4_controlLevel 110 = .ok (.iload_n 1, 1) := by decide +kernel
theorem dX4_controlLevel_111 : decode cX4_controlLevel 111 = .ok (.ifCond .le 9, 3) := by decide +kernel
theorem dX4_controlLevel_114 : decode cX4_controlLevel 114 = .ok (.iload_n 2, 1) := by decide +kernel
theorem dX4_controlLevel_115 : decode cX4_controlLevel 115 = .ok (.iload_n 1, 1) := by decide +kernel
theorem dX4_controlLevel_116 : decode cX4_controlLevel 116 = .ok (.idiv, 1) := by decide +kernel
theorem dX4_controlLevel_117 : decode cX4_controlLevel 117 = .ok (.goto 4, 3) := by decide +kernel
theorem dX4_controlLevel_120 : decode cX4_controlLevel 120 = .ok (.iconst 0, 1) := by decide +kernel
theorem dX4_controlLevel_121 : decode cX4_controlLevel 121 = .ok (.ireturn, 1) := by decide +kernel
theorem dX4_countLoop_0 : decode cX4_countLoop 0 = .ok (.bipush (-6), 2) := by decide +kernel
theorem dX4_countLoop_2 : decode cX4_countLoop 2 = .ok (.istore_n 2, 1) := by decide +kernel
theorem dX4_countLoop_3 : decode cX4_countLoop 3 = .ok (.iconst 0, 1) := by decide +kernel
theorem dX4_countLoop_4 : decode cX4_countLoop 4 = .ok (.istore_n 3, 1) := by decide +kernel
theorem dX4_countLoop_5 : decode cX4_countLoop 5 = .ok (.iload_n 3, 1) := by decide +kernel
theorem dX4_countLoop_6 : decode cX4_countLoop 6 = .ok (.aload_n 0, 1) := by decide +kernel
theorem dX4_countLoop_7 : decode cX4_countLoop 7 = .ok (.getfield 72, 3) := by decide +kernel
theorem dX4_countLoop_10 : decode cX4_countLoop 10 = .ok (.if_icmp .ge 57, 3) := by decide +kernel
theorem dX4_countLoop_13 : decode cX4_countLoop 13 = .ok (.aload_n 0, 1) := by decide +kernel
theorem dX4_countLoop_14 : decode cX4_countLoop 14 = .ok (.getfield 27, 3) := by decide +kernel
theorem dX4_countLoop_17 : decode cX4_countLoop 17 = .ok (.iload_n 3, 1) := by decide +kernel
theorem dX4_countLoop_18 : decode cX4_countLoop 18 = .ok (.aaload, 1) := by decide +kernel
theorem dX4_countLoop_19 : decode cX4_countLoop 19 = .ok (.iload_n 1, 1) := by decide +kernel
theorem dX4_countLoop_20 : decode cX4_countLoop 20 = .ok (.invokevirtual 202, 3) := by decide +kernel
theorem dX4_countLoop_23 : decode cX4_countLoop 23 = .ok (.aload_n 0, 1) := by decide +kernel
theorem dX4_countLoop_24 : decode cX4_countLoop 24 = .ok (.getfield 27, 3) := by decide +kernel
theorem dX4_countLoop_27 : decode cX4_countLoop 27 = .ok (.iload_n 3, 1) := by decide +kernel
theorem dX4_countLoop_28 : decode cX4_countLoop 28 = .ok (.aaload, 1) := by decide +kernel
theorem dX4_countLoop_29 : decode cX4_countLoop 29 = .ok (.getfield 204, 3) := by decide +kernel
theorem dX4_countLoop_32 : decode cX4_countLoop 32 = .ok (.aload_n 0, 1) := by decide +kernel
theorem dX4_countLoop_33 : decode cX4_countLoop 33 = .ok (.getfield 31, 3) := by decide +kernel
theorem dX4_countLoop_36 : decode cX4_countLoop 36 = .ok (.iconst 2, 1) := by decide +kernel
theorem dX4_countLoop_37 : decode cX4_countLoop 37 = .ok (.iaload, 1) := by decide +kernel
theorem dX4_countLoop_38 : decode cX4_countLoop 38 = .ok (.if_icmp .lt 7, 3) := by decide +kernel
theorem dX4_countLoop_41 : decode cX4_countLoop 41 = .ok (.iconst 1, 1) := by decide +kernel
theorem dX4_countLoop_42 : decode cX4_countLoop 42 = .ok (.goto 4, 3) := by decide +kernel
theorem dX4_countLoop_45 : decode cX4_countLoop 45 = .ok (.iconst 0, 1) := by decide +kernel
theorem dX4_countLoop_46 : decode cX4_countLoop 46 = .ok (.istore 4, 2) := by decide +kernel
theorem dX4_countLoop_48 : decode cX4_countLoop 48 = .ok (.iload 4, 2) := by decide +kernel
theorem dX4_countLoop_50 : decode cX4_countLoop 50 = .ok (.ifCond .eq 11, 3) := by decide +kernel
theorem dX4_countLoop_53 : decode cX4_countLoop 53 = .ok (.iload_n 2, 1) := by decide +kernel
theorem dX4_countLoop_54 : decode cX4_countLoop 54 = .ok (.bipush (-6), 2) := by decide +kernel
theorem dX4_countLoop_56 : decode cX4_countLoop 56 = .ok (.if_icmp .ne 5, 3) := by decide +kernel
theorem dX4_countLoop_59 : decode cX4_countLoop 59 = .ok (.iload_n 3, 1) := by decide +kernel
theorem dX4_countLoop_60 : decode cX4_countLoop 60 = .ok (.istore_n 2, 1) := by decide +kernel
theorem dX4_countLoop_61 : decode cX4_countLoop 61 = .ok (.iinc 3 1, 3) := by decide +kernel
theorem dX4_countLoop_64 : decode cX4_countLoop 64 = .ok (.goto (-59), 3) := by decide +kernel
theorem dX4_countLoop_67 : decode cX4_countLoop 67 = .ok (.iload_n 2, 1) := by decide +kernel
theorem dX4_countLoop_68 : decode cX4_countLoop 68 = .ok (.ireturn, 1) := by decide +kernel
theorem dX4_nextLine_0 : decode cX4_nextLine 0 = .ok (.aload_n 0, 1) := by decide +kernel
theorem dX4_nextLine_1 : decode cX4_nextLine 1 = .ok (.invokevirtual 207, 3) := by decide +kernel
theorem dX4_nextLine_4 : decode cX4_nextLine 4 = .ok (.istore_n 1, 1) := by decide +kernel
theorem dX4_nextLine_5 : decode cX4_nextLine 5 = .ok (.aload_n 0, 1) := by decide +kernel
theorem dX4_nextLine_6 : decode cX4_nextLine 6 = .ok (.iload_n 1, 1) := by decide +kernel
theorem dX4_nextLine_7 : decode cX4_nextLine 7 = .ok (.invokevirtual 158, 3) := by decide +kernel
theorem dX4_nextLine_10 : decode cX4_nextLine 10 = .ok (.ifCond .eq 5, 3) := by decide +kernel
theorem dX4_nextLine_13 : decode cX4_nextLine 13 = .ok (.iload_n 1, 1) := by decide +kernel
theorem dX4_nextLine_14 : decode cX4_nextLine 14 = .ok (.ireturn, 1) := by decide +kernel
theorem dX4_nextLine_15 : decode cX4_nextLine 15 = .ok (.aload_n 0, 1) := by decide +kernel
theorem dX4_nextLine_16 : decode cX4_nextLine 16 = .ok (.dup, 1) := by decide +kernel
theorem dX4_nextLine_17 : decode cX4_nextLine 17 = .ok (.getfield 90, 3) := by decide +kernel
theorem dX4_nextLine_20 : decode cX4_nextLine 20 = .ok (.iconst 1, 1) := by decide +kernel
theorem dX4_nextLine_21 : decode cX4_nextLine 21 = .ok (.iadd, 1) := by decide +kernel
theorem dX4_nextLine_22 : decode cX4_nextLine 22 = .ok (.putfield 90, 3) := by decide +kernel
theorem dX4_nextLine_25 : decode cX4_nextLine 25 = .ok (.aload_n 0, 1) := by decide +kernel
theorem dX4_nextLine_26 : decode cX4_nextLine 26 = .ok (.getfield 90, 3) := by decide +kernel
theorem dX4_nextLine_29 : decode cX4_nextLine 29 = .ok (.aload_n 0, 1) := by decide +kernel
theorem dX4_nextLine_30 : decode cX4_nextLine 30 = .ok (.getfield 31, 3) := by decide +kernel
theorem dX4_nextLine_33 : decode cX4_nextLine 33 = .ok (.iconst 5, 1) := by decide +kernel
theorem dX4_nextLine_34 : decode cX4_nextLine 34 = .ok (.iaload, 1) := by decide +kernel
theorem dX4_nextLine_35 : decode cX4_nextLine 35 = .ok (.if_icmp .lt 6, 3) := by decide +kernel
theorem dX4_nextLine_38 : decode cX4_nextLine 38 = .ok (.bipush (-6), 2) := by decide +kernel
theorem dX4_nextLine_40 : decode cX4_nextLine 40 = .ok (.ireturn, 1) := by decide +kernel
theorem dX4_nextLine_41 : decode cX4_nextLine 41 = .ok (.aload_n 0, 1) := by decide +kernel
theorem dX4_nextLine_42 : decode cX4_nextLine 42 = .ok (.aload_n 0, 1) := by decide +kernel
theorem dX4_nextLine_43 : decode cX4_nextLine 43 = .ok (.getfield 86, 3) := by decide +kernel
theorem dX4_nextLine_46 : decode cX4_nextLine 46 = .ok (.ifCond .ne 7, 3) := by decide +kernel
theorem dX4_nextLine_49 : decode cX4_nextLine 49 = .ok (.iconst 1, 1) := by decide +kernel
theorem dX4_nextLine_50 : decode cX4_nextLine 50 = .ok (.goto 4, 3) := by decide +kernel
theorem dX4_nextLine_53 : decode cX4_nextLine 53 = .ok (.iconst 0, 1) := by decide +kernel
theorem dX4_nextLine_54 : decode cX4_nextLine 54 = .ok (.putfield 86, 3) := by decide +kernel
theorem dX4_nextLine_57 : decode cX4_nextLine 57 = .ok (.aload_n 0, 1) := by decide +kernel
theorem dX4_nextLine_58 : decode cX4_nextLine 58 = .ok (.invokevirtual 207, 3) := by decide +kernel
theorem dX4_nextLine_61 : decode cX4_nextLine 61 = .ok (.istore_n 2, 1) := by decide +kernel
theorem dX4_nextLine_62 : decode cX4_nextLine 62 = .ok (.aload_n 0, 1) := by decide +kernel
theorem dX4_nextLine_63 : decode cX4_nextLine 63 = .ok (.iload_n 2, 1) := by decide +kernel
theorem dX4_nextLine_64 : decode cX4_nextLine 64 = .ok (.invokevirtual 158, 3) := by decide +kernel
theorem dX4_nextLine_67 : decode cX4_nextLine 67 = .ok (.ifCond .eq 7, 3) := by decide +kernel
theorem dX4_nextLine_70 : decode cX4_nextLine 70 = .ok (.iload_n 2, 1) := by decide +kernel
theorem dX4_nextLine_71 : decode cX4_nextLine 71 = .ok (.goto 7, 3) := by decide +kernel
theorem dX4_nextLine_74 : decode cX4_nextLine 74 = .ok (.aload_n 0, 1) := by decide +kernel
theorem dX4_nextLine_75 : decode cX4_nextLine 75 = .ok (.getfield 114, 3) := by decide +kernel
theorem dX4_nextLine_78 : decode cX4_nextLine 78 = .ok (.ireturn, 1) := by decide +kernel
theorem dX4_lineAhead_0 : decode cX4_lineAhead 0 = .ok (.aload_n 0, 1) := by decide +kernel
theorem dX4_lineAhead_1 : decode cX4_lineAhead 1 = .ok (.getfield 86, 3) := by decide +kernel
theorem dX4_lineAhead_4 : decode cX4_lineAhead 4 = .ok (.ifCond .eq 12, 3) := by decide +kernel
theorem dX4_lineAhead_7 : decode cX4_lineAhead 7 = .ok (.aload_n 0, 1) := by decide +kernel
theorem dX4_lineAhead_8 : decode cX4_lineAhead 8 = .ok (.getfield 114, 3) := by decide +kernel
theorem dX4_lineAhead_11 : decode cX4_lineAhead 11 = .ok (.iconst 1, 1) := by decide +kernel
theorem dX4_lineAhead_12 : decode cX4_lineAhead 12 = .ok (.iadd, 1) := by decide +kernel
theorem dX4_lineAhead_13 : decode cX4_lineAhead 13 = .ok (.goto 9, 3) := by decide +kernel
theorem dX4_lineAhead_16 : decode cX4_lineAhead 16 = .ok (.aload_n 0, 1) := by decide +kernel
theorem dX4_lineAhead_17 : decode cX4_lineAhead 17 = .ok (.getfield 114, 3) := by decide +kernel
theorem dX4_lineAhead_20 : decode cX4_lineAhead 20 = .ok (.iconst 1, 1) := by decide +kernel
theorem dX4_lineAhead_21 : decode cX4_lineAhead 21 = .ok (.isub, 1) := by decide +kernel
theorem dX4_lineAhead_22 : decode cX4_lineAhead 22 = .ok (.ireturn, 1) := by decide +kernel
theorem dX4_goTo_0 : decode cX4_goTo 0 = .ok (.aload_n 0, 1) := by decide +kernel
theorem dX4_goTo_1 : decode cX4_goTo 1 = .ok (.getfield 12, 3) := by decide +kernel
theorem dX4_goTo_4 : decode cX4_goTo 4 = .ok (.getfield 161, 3) := by decide +kernel
theorem dX4_goTo_7 : decode cX4_goTo 7 = .ok (.iload_n 1, 1) := by decide +kernel
theorem dX4_goTo_8 : decode cX4_goTo 8 = .ok (.iaload, 1) := by decide +kernel
theorem dX4_goTo_9 : decode cX4_goTo 9 = .ok (.istore_n 3, 1) := by decide +kernel
theorem dX4_goTo_10 : decode cX4_goTo 10 = .ok (.aload_n 0, 1) := by decide +kernel
theorem dX4_goTo_11 : decode cX4_goTo 11 = .ok (.iload_n 1, 1) := by decide +kernel
theorem dX4_goTo_12 : decode cX4_goTo 12 = .ok (.aload_n 0, 1) := by decide +kernel
theorem dX4_goTo_13 : decode cX4_goTo 13 = .ok (.getfield 21, 3) := by decide +kernel
theorem dX4_goTo_16 : decode cX4_goTo 16 = .ok (.iload_n 3, 1) := by decide +kernel
theorem dX4_goTo_17 : decode cX4_goTo 17 = .ok (.invokevirtual 210, 3) := by decide +kernel
theorem dX4_goTo_20 : decode cX4_goTo 20 = .ok (.iload_n 2, 1) := by decide +kernel
theorem dX4_goTo_21 : decode cX4_goTo 21 = .ok (.invokevirtual 213, 3) := by decide +kernel
theorem dX4_goTo_24 : decode cX4_goTo 24 = .ok (.lstore 4, 2) := by decide +kernel
theorem dX4_goTo_26 : decode cX4_goTo 26 = .ok (.lload 4, 2) := by decide +kernel
theorem dX4_goTo_28 : decode cX4_goTo 28 = .ok (.aload_n 0, 1) := by decide +kernel
theorem dX4_goTo_29 : decode cX4_goTo 29 = .ok (.getfield 141, 3) := by decide +kernel
theorem dX4_goTo_32 : decode cX4_goTo 32 = .ok (.aload_n 0, 1) := by decide +kernel
theorem dX4_goTo_33 : decode cX4_goTo 33 = .ok (.getfield 141, 3) := by decide +kernel
theorem dX4_goTo_36 : decode cX4_goTo 36 = .ok (.iconst 2, 1) := by decide +kernel
theorem dX4_goTo_37 : decode cX4_goTo 37 = .ok (.idiv, 1) := by decide +kernel
theorem dX4_goTo_38 : decode cX4_goTo 38 = .ok (.isub, 1) := by decide +kernel
theorem dX4_goTo_39 : decode cX4_goTo 39 = .ok (.i2l, 1) := by decide +kernel
theorem dX4_goTo_40 : decode cX4_goTo 40 = .ok (.invokestatic 217, 3) := by decide +kernel
theorem dX4_goTo_43 : decode cX4_goTo 43 = .ok (.lstore 4, 2) := by decide +kernel
theorem dX4_goTo_45 : decode cX4_goTo 45 = .ok (.lload 4, 2) := by decide +kernel
theorem dX4_goTo_47 : decode cX4_goTo 47 = .ok (.aload_n 0, 1) := by decide +kernel
theorem dX4_goTo_48 : decode cX4_goTo 48 = .ok (.getfield 141, 3) := by decide +kernel
theorem dX4_goTo_51 : decode cX4_goTo 51 = .ok (.aload_n 0, 1) := by decide +kernel
theorem dX4_goTo_52 : decode cX4_goTo 52 = .ok (.getfield 141, 3) := by decide +kernel
theorem dX4_goTo_55 : decode cX4_goTo 55 = .ok (.aload_n 0, 1) := by decide +kernel
theorem dX4_goTo_56 : decode cX4_goTo 56 = .ok (.getfield 31, 3) := by decide +kernel
theorem dX4_goTo_59 : decode cX4_goTo 59 = .ok (.iconst 3, 1) := by decide +kernel
theorem dX4_goTo_60 : decode cX4_goTo 60 = .ok (.iaload, 1) := by decide +kernel
theorem dX4_goTo_61 : decode cX4_goTo 61 = .ok (.imul, 1) := by decide +kernel
theorem dX4_goTo_62 : decode cX4_goTo 62 = .ok (.bipush 100, 2) := by decide +kernel
theorem dX4_goTo_64 : decode cX4_goTo 64 = .ok (.idiv, 1) := by decide +kernel
theorem dX4_goTo_65 : decode cX4_goTo 65 = .ok (.iadd, 1) := by decide +kernel
theorem dX4_goTo_66 : decode cX4_goTo 66 = .ok (.iconst 1, 1) := by decide +kernel
theorem dX4_goTo_67 : decode cX4_goTo 67 = .ok (.iadd, 1) := by decide +kernel
theorem dX4_goTo_68 : decode cX4_goTo 68 = .ok (.i2l, 1) := by decide +kernel
theorem dX4_goTo_69 : decode cX4_goTo 69 = .ok (.invokestatic 220, 3) := by decide +kernel
theorem dX4_goTo_72 : decode cX4_goTo 72 = .ok (.lstore 4, 2) := by decide +kernel
theorem dX4_goTo_74 : decode cX4_goTo 74 = .ok (.bipush (-6), 2) := by decide +kernel
theorem dX4_goTo_76 : decode cX4_goTo 76 = .ok (.istore 6, 2) := by decide +kernel
theorem dX4_goTo_78 : decode cX4_goTo 78 = .ok (.iconst 0, 1) := by decide +kernel
theorem dX4_goTo_79 : decode cX4_goTo 79 = .ok (.istore 7, 2) := by decide +kernel
theorem dX4_goTo_81 : decode cX4_goTo 81 = .ok (.iload 7, 2) := by decide +kernel
theorem dX4_goTo_83 : decode cX4_goTo 83 = .ok (.aload_n 0, 1) := by decide +kernel
theorem dX4_goTo_84 : decode cX4_goTo 84 = .ok (.getfield 72, 3) := by decide +kernel
theorem dX4_goTo_87 : decode cX4_goTo 87 = .ok (.if_icmp .ge 48, 3) := by decide +kernel
theorem dX4_goTo_90 : decode cX4_goTo 90 = .ok (.aload_n 0, 1) := by decide +kernel
theorem dX4_goTo_91 : decode cX4_goTo 91 = .ok (.getfield 27, 3) := by decide +kernel
theorem dX4_goTo_94 : decode cX4_goTo 94 = .ok (.iload 7, 2) := by decide +kernel
theorem dX4_goTo_96 : decode cX4_goTo 96 = .ok (.aaload, 1) := by decide +kernel
theorem dX4_goTo_97 : decode cX4_goTo 97 = .ok (.iload_n 1, 1) := by decide +kernel
theorem dX4_goTo_98 : decode cX4_goTo 98 = .ok (.iload_n 3, 1) := by decide +kernel
theorem dX4_goTo_99 : decode cX4_goTo 99 = .ok (.invokevirtual 222, 3) := by decide +kernel
theorem dX4_goTo_102 : decode cX4_goTo 102 = .ok (.istore 8, 2) := by decide +kernel
theorem dX4_goTo_104 : decode cX4_goTo 104 = .ok (.iload 8, 2) := by decide +kernel
theorem dX4_goTo_106 : decode cX4_goTo 106 = .ok (.bipush (-6), 2) := by decide +kernel
theorem dX4_goTo_108 : decode cX4_goTo 108 = .ok (.if_icmp .eq 21, 3) := by decide +kernel
theorem dX4_goTo_111 : decode cX4_goTo 111 = .ok (.lload 4, 2) := by decide +kernel
theorem dX4_goTo_113 : decode cX4_goTo 113 = .ok (.iload 8, 2) := by decide +kernel
theorem dX4_goTo_115 : decode cX4_goTo 115 = .ok (.i2l, 1) := by decide +kernel
theorem dX4_goTo_116 : decode cX4_goTo 116 = .ok (.lcmp, 1) := by decide +kernel
theorem dX4_goTo_117 : decode cX4_goTo 117 = .ok (.ifCond .le 12, 3) := by decide +kernel
theorem dX4_goTo_120 : decode cX4_goTo 120 = .ok (.iload 8, 2) := by decide +kernel
theorem dX4_goTo_122 : decode cX4_goTo 122 = .ok (.i2l, 1) := by decide +kernel
theorem dX4_goTo_123 : decode cX4_goTo 123 = .ok (.lstore 4, 2) := by decide +kernel
theorem dX4_goTo_125 : decode cX4_goTo 125 = .ok (.iload 7, 2) := by decide +kernel
theorem dX4_goTo_127 : decode cX4_goTo 127 = .ok (.istore 6, 2) := by decide +kernel
theorem dX4_goTo_129 : decode cX4_goTo 129 = .ok (.iinc 7 1, 3) := by decide +kernel
theorem dX4_goTo_132 : decode cX4_goTo 132 = .ok (.goto (-51), 3) := by decide +kernel
theorem dX4_goTo_135 : decode cX4_goTo 135 = .ok (.aload_n 0, 1) := by decide +kernel
theorem dX4_goTo_136 : decode cX4_goTo 136 = .ok (.lconst 1, 1) := by decide +kernel
theorem dX4_goTo_137 : decode cX4_goTo 137 = .ok (.lload 4, 2) := by decide +kernel
theorem dX4_goTo_139 : decode cX4_goTo 139 = .ok (.ldc2_w 225, 3) := by decide +kernel
theorem dX4_goTo_142 : decode cX4_goTo 142 = .ok (.invokestatic 220, 3) := by decide +kernel
theorem dX4_goTo_145 : decode cX4_goTo 145 = .ok (.invokestatic 217, 3) := by decide +kernel
theorem dX4_goTo_148 : decode cX4_goTo 148 = .ok (.l2i, 1) := by decide +kernel
theorem dX4_goTo_149 : decode cX4_goTo 149 = .ok (.putfield 141, 3) := by decide +kernel
theorem dX4_goTo_152 : decode cX4_goTo 152 = .ok (.aload_n 0, 1) := by decide +kernel
theorem dX4_goTo_153 : decode cX4_goTo 153 = .ok (.iload_n 1, 1) := by decide +kernel
theorem dX4_goTo_154 : decode cX4_goTo 154 = .ok (.putfield 114, 3) := by decide +kernel
theorem dX4_goTo_157 : decode cX4_goTo 157 = .ok (.aload_n 0, 1) := by decide +kernel
theorem dX4_goTo_158 : decode cX4_goTo 158 = .ok (.getfield 38, 3) := by decide +kernel
theorem dX4_goTo_161 : decode cX4_goTo 161 = .ok (.aload_n 0, 1) := by decide +kernel
theorem dX4_goTo_162 : decode cX4_goTo 162 = .ok (.getfield 114, 3) := by decide +kernel
theorem dX4_goTo_165 : decode cX4_goTo 165 = .ok (.aload_n 0, 1) := by decide +kernel
theorem dX4_goTo_166 : decode cX4_goTo 166 = .ok (.getfield 141, 3) := by decide +kernel
theorem dX4_goTo_169 : decode cX4_goTo 169 = .ok (.iastore, 1) := by decide +kernel
theorem dX4_goTo_170 : decode cX4_goTo 170 = .ok (.aload_n 0, 1) := by decide +kernel
theorem dX4_goTo_171 : decode cX4_goTo 171 = .ok (.getfield 41, 3) := by decide +kernel
theorem dX4_goTo_174 : decode cX4_goTo 174 = .ok (.aload_n 0, 1) := by decide +kernel
theorem dX4_goTo_175 : decode cX4_goTo 175 = .ok (.getfield 114, 3) := by decide +kernel
theorem dX4_goTo_178 : decode cX4_goTo 178 = .ok (.iload 6, 2) := by decide +kernel
theorem dX4_goTo_180 : decode cX4_goTo 180 = .ok (.iastore, 1) := by decide +kernel
theorem dX4_goTo_181 : decode cX4_goTo 181 = .ok (.return_, 1) := by decide +kernel
theorem dX4_wantedDrive_0 : decode cX4_wantedDrive 0 = .ok (.aload_n 0, 1) := by decide +kernel
theorem dX4_wantedDrive_1 : decode cX4_wantedDrive 1 = .ok (.getfield 35, 3) := by decide +kernel
theorem dX4_wantedDrive_4 : decode cX4_wantedDrive 4 = .ok (.iload_n 1, 1) := by decide +kernel
theorem dX4_wantedDrive_5 : decode cX4_wantedDrive 5 = .ok (.iaload, 1) := by decide +kernel
theorem dX4_wantedDrive_6 : decode cX4_wantedDrive 6 = .ok (.istore 4, 2) := by decide +kernel
theorem dX4_wantedDrive_8 : decode cX4_wantedDrive 8 = .ok (.iload 4, 2) := by decide +kernel
theorem dX4_wantedDrive_10 : decode cX4_wantedDrive 10 = .ok (.ifCond .le 14, 3) := by decide +kernel
theorem dX4_wantedDrive_13 : decode cX4_wantedDrive 13 = .ok (.iload_n 2, 1) := by decide +kernel
theorem dX4_wantedDrive_14 : decode cX4_wantedDrive 14 = .ok (.i2l, 1) := by decide +kernel
theorem dX4_wantedDrive_15 : decode cX4_wantedDrive 15 = .ok (.ldc2_w 227, 3) := by decide +kernel
theorem dX4_wantedDrive_18 : decode cX4_wantedDrive 18 = .ok (.lmul, 1) := by decide +kernel
theorem dX4_wantedDrive_19 : decode cX4_wantedDrive 19 = .ok (.iload 4, 2) := by decide +kernel
theorem dX4_wantedDrive_21 : decode cX4_wantedDrive 21 = .ok (.i2l, 1) := by decide +kernel
theorem dX4_wantedDrive_22 : decode cX4_wantedDrive 22 = .ok (.ldiv, 1) := by decide +kernel
theorem dX4_wantedDrive_23 : decode cX4_wantedDrive 23 = .ok (.lreturn, 1) := by decide +kernel
theorem dX4_wantedDrive_24 : decode cX4_wantedDrive 24 = .ok (.iload_n 3, 1) := by decide +kernel
theorem dX4_wantedDrive_25 : decode cX4_wantedDrive 25 = .ok (.ifCond .le 15, 3) := by decide +kernel
theorem dX4_wantedDrive_28 : decode cX4_wantedDrive 28 = .ok (.aload_n 0, 1) := by decide +kernel
theorem dX4_wantedDrive_29 : decode cX4_wantedDrive 29 = .ok (.getfield 141, 3) := by decide +kernel
theorem dX4_wantedDrive_32 : decode cX4_wantedDrive 32 = .ok (.i2l, 1) := by decide +kernel
theorem dX4_wantedDrive_33 : decode cX4_wantedDrive 33 = .ok (.iload_n 2, 1) := by decide +kernel
theorem dX4_wantedDrive_34 : decode cX4_wantedDrive 34 = .ok (.i2l, 1) := by decide +kernel
theorem dX4_wantedDrive_35 : decode cX4_wantedDrive 35 = .ok (.lmul, 1) := by decide +kernel
theorem dX4_wantedDrive_36 : decode cX4_wantedDrive 36 = .ok (.iload_n 3, 1) := by decide +kernel
theorem dX4_wantedDrive_37 : decode cX4_wantedDrive 37 = .ok (.i2l, 1) := by decide +kernel
theorem dX4_wantedDrive_38 : decode cX4_wantedDrive 38 = .ok (.ldiv, 1) := by decide +kernel
theorem dX4_wantedDrive_39 : decode cX4_wantedDrive 39 = .ok (.lreturn, 1) := by decide +kernel
theorem dX4_wantedDrive_40 : decode cX4_wantedDrive 40 = .ok (.ldc2_w 229, 3) := by decide +kernel
theorem dX4_wantedDrive_43 : decode cX4_wantedDrive 43 = .ok (.aload_n 0, 1) := by decide +kernel
theorem dX4_wantedDrive_44 : decode cX4_wantedDrive 44 = .ok (.getfield 141, 3) := by decide +kernel
theorem dX4_wantedDrive_47 : decode cX4_wantedDrive 47 = .ok (.i2l, 1) := by decide +kernel
theorem dX4_wantedDrive_48 : decode cX4_wantedDrive 48 = .ok (.lmul, 1) := by decide +kernel
theorem dX4_wantedDrive_49 : decode cX4_wantedDrive 49 = .ok (.lreturn, 1) := by decide +kernel
theorem dX4_totalOf_0 : decode cX4_totalOf 0 = .ok (.iload_n 1, 1) := by decide +kernel
theorem dX4_totalOf_1 : decode cX4_totalOf 1 = .ok (.tableswitch 140 0 10 #[59, 64, 81, 86, 94, 102, 107, 112, 125, 130, 135], 59) := by decide +kernel
theorem dX4_totalOf_60 : decode cX4_totalOf 60 = .ok (.aload_n 0, 1) := by decide +kernel
theorem dX4_totalOf_61 : decode cX4_totalOf 61 = .ok (.getfield 44, 3) := by decide +kernel
theorem dX4_totalOf_64 : decode cX4_totalOf 64 = .ok (.ireturn, 1) := by decide +kernel
theorem dX4_totalOf_65 : decode cX4_totalOf 65 = .ok (.aload_n 0, 1) := by decide +kernel
theorem dX4_totalOf_66 : decode cX4_totalOf 66 = .ok (.getfield 44, 3) := by decide +kernel
theorem dX4_totalOf_69 : decode cX4_totalOf 69 = .ok (.ifCond .ne 8, 3) := by decide +kernel
theorem dX4_totalOf_72 : decode cX4_totalOf 72 = .ok (.bipush (-6), 2) := by decide +kernel
theorem dX4_totalOf_74 : decode cX4_totalOf 74 = .ok (.goto 7, 3) := by decide +kernel
theorem dX4_totalOf_77 : decode cX4_totalOf 77 = .ok (.aload_n 0, 1) := by decide +kernel
theorem dX4_totalOf_78 : decode cX4_totalOf 78 = .ok (.getfield 114, 3) := by decide +kernel
theorem dX4_totalOf_81 : decode cX4_totalOf 81 = .ok (.ireturn, 1) := by decide +kernel
theorem dX4_totalOf_82 : decode cX4_totalOf 82 = .ok (.aload_n 0, 1) := by decide +kernel
theorem dX4_totalOf_83 : decode cX4_totalOf 83 = .ok (.getfield 141, 3) := by decide +kernel
theorem dX4_totalOf_86 : decode cX4_totalOf 86 = .ok (.ireturn, 1) := by decide +kernel
theorem dX4_totalOf_87 : decode cX4_totalOf 87 = .ok (.aload_n 0, 1) := by decide +kernel
theorem dX4_totalOf_88 : decode cX4_totalOf 88 = .ok (.getfield 12, 3) := by decide +kernel
theorem dX4_totalOf_91 : decode cX4_totalOf 91 = .ok (.getfield 65, 3) := by decide +kernel
theorem dX4_totalOf_94 : decode cX4_totalOf 94 = .ok (.ireturn, 1) := by decide +kernel
theorem dX4_totalOf_95 : decode cX4_totalOf 95 = .ok (.aload_n 0, 1) := by decide +kernel
theorem dX4_totalOf_96 : decode cX4_totalOf 96 = .ok (.getfield 21, 3) := by decide +kernel
theorem dX4_totalOf_99 : decode cX4_totalOf 99 = .ok (.getfield 144, 3) := by decide +kernel
theorem dX4_totalOf_102 : decode cX4_totalOf 102 = .ok (.ireturn, 1) := by decide +kernel
theorem dX4_totalOf_103 : decode cX4_totalOf 103 = .ok (.aload_n 0, 1) := by decide +kernel
theorem dX4_totalOf_104 : decode cX4_totalOf 104 = .ok (.getfield 72, 3) := by decide +kernel
theorem dX4_totalOf_107 : decode cX4_totalOf 107 = .ok (.ireturn, 1) := by decide +kernel
theorem dX4_totalOf_108 : decode cX4_totalOf 108 = .ok (.aload_n 0, 1) := by decide +kernel
theorem dX4_totalOf_109 : decode cX4_totalOf 109 = .ok (.getfield 90, 3) := by decide +kernel
theorem dX4_totalOf_112 : decode cX4_totalOf 112 = .ok (.ireturn, 1) := by decide +kernel
theorem dX4_totalOf_113 : decode cX4_totalOf 113 = .ok (.aload_n 0, 1) := by decide +kernel
theorem dX4_totalOf_114 : decode cX4_totalOf 114 = .ok (.getfield 86, 3) := by decide +kernel
theorem dX4_totalOf_117 : decode cX4_totalOf 117 = .ok (.ifCond .eq 7, 3) := by decide +kernel
theorem dX4_totalOf_120 : decode cX4_totalOf 120 = .ok (.iconst 1, 1) := by decide +kernel
theorem dX4_totalOf_121 : decode cX4_totalOf 121 = .ok (.goto 4, 3) := by decide +kernel
theorem dX4_totalOf_124 : decode cX4_totalOf 124 = .ok (.iconst 0, 1) := by decide +kernel
theorem dX4_totalOf_125 : decode cX4_totalOf 125 = .ok (.ireturn, 1) := by decide +kernel
theorem dX4_totalOf_126 : decode cX4_totalOf 126 = .ok (.aload_n 0, 1) := by decide +kernel
theorem dX4_totalOf_127 : decode cX4_totalOf 127 = .ok (.getfield 93, 3) := by decide +kernel
theorem dX4_totalOf_130 : decode cX4_totalOf 130 = .ok (.ireturn, 1) := by decide +kernel
theorem dX4_totalOf_131 : decode cX4_totalOf 131 = .ok (.aload_n 0, 1) := by decide +kernel
theorem dX4_totalOf_132 : decode cX4_totalOf 132 = .ok (.getfield 96, 3) := by decide +kernel
theorem dX4_totalOf_135 : decode cX4_totalOf 135 = .ok (.ireturn, 1) := by decide +kernel
theorem dX4_totalOf_136 : decode cX4_totalOf 136 = .ok (.aload_n 0, 1) := by decide +kernel
theorem dX4_totalOf_137 : decode cX4_totalOf 137 = .ok (.getfield 99, 3) := by decide +kernel
theorem dX4_totalOf_140 : decode cX4_totalOf 140 = .ok (.ireturn, 1) := by decide +kernel
theorem dX4_totalOf_141 : decode cX4_totalOf 141 = .ok (.aload_n 0, 1) := by decide +kernel
theorem dX4_totalOf_142 : decode cX4_totalOf 142 = .ok (.getfield 48, 3) := by decide +kernel
theorem dX4_totalOf_145 : decode cX4_totalOf 145 = .ok (.ireturn, 1) := by decide +kernel
theorem dX4_copyFrom_0 : decode cX4_copyFrom 0 = .ok (.aload_n 0, 1) := by decide +kernel
theorem dX4_copyFrom_1 : decode cX4_copyFrom 1 = .ok (.getfield 12, 3) := by decide +kernel
theorem dX4_copyFrom_4 : decode cX4_copyFrom 4 = .ok (.aload_n 1, 1) := by decide +kernel
theorem dX4_copyFrom_5 : decode cX4_copyFrom 5 = .ok (.getfield 12, 3) := by decide +kernel
theorem dX4_copyFrom_8 : decode cX4_copyFrom 8 = .ok (.invokevirtual 231, 3) := by decide +kernel
theorem dX4_copyFrom_11 : decode cX4_copyFrom 11 = .ok (.aload_n 0, 1) := by decide +kernel
theorem dX4_copyFrom_12 : decode cX4_copyFrom 12 = .ok (.getfield 21, 3) := by decide +kernel
theorem dX4_copyFrom_15 : decode cX4_copyFrom 15 = .ok (.aload_n 1, 1) := by decide +kernel
theorem dX4_copyFrom_16 : decode cX4_copyFrom 16 = .ok (.getfield 21, 3) := by decide +kernel
theorem dX4_copyFrom_19 : decode cX4_copyFrom 19 = .ok (.invokevirtual 235, 3) := by decide +kernel
theorem dX4_copyFrom_22 : decode cX4_copyFrom 22 = .ok (.iconst 0, 1) := by decide +kernel
theorem dX4_copyFrom_23 : decode cX4_copyFrom 23 = .ok (.istore_n 2, 1) := by decide +kernel
theorem dX4_copyFrom_24 : decode cX4_copyFrom 24 = .ok (.iload_n 2, 1) := by decide +kernel
theorem dX4_copyFrom_25 : decode cX4_copyFrom 25 = .ok (.aload_n 1, 1) := by decide +kernel
theorem dX4_copyFrom_26 : decode cX4_copyFrom 26 = .ok (.getfield 72, 3) := by decide +kernel
theorem dX4_copyFrom_29 : decode cX4_copyFrom 29 = .ok (.if_icmp .ge 24, 3) := by decide +kernel
theorem dX4_copyFrom_32 : decode cX4_copyFrom 32 = .ok (.aload_n 0, 1) := by decide +kernel
theorem dX4_copyFrom_33 : decode cX4_copyFrom 33 = .ok (.getfield 27, 3) := by decide +kernel
theorem dX4_copyFrom_36 : decode cX4_copyFrom 36 = .ok (.iload_n 2, 1) := by decide +kernel
theorem dX4_copyFrom_37 : decode cX4_copyFrom 37 = .ok (.aaload, 1) := by decide +kernel
theorem dX4_copyFrom_38 : decode cX4_copyFrom 38 = .ok (.aload_n 1, 1) := by decide +kernel
theorem dX4_copyFrom_39 : decode cX4_copyFrom 39 = .ok (.getfield 27, 3) := by decide +kernel
theorem dX4_copyFrom_42 : decode cX4_copyFrom 42 = .ok (.iload_n 2, 1) := by decide +kernel
theorem dX4_copyFrom_43 : decode cX4_copyFrom 43 = .ok (.aaload, 1) := by decide +kernel
theorem dX4_copyFrom_44 : decode cX4_copyFrom 44 = .ok (.invokevirtual 238, 3) := by decide +kernel
theorem dX4_copyFrom_47 : decode cX4_copyFrom 47 = .ok (.iinc 2 1, 3) := by decide +kernel
theorem dX4_copyFrom_50 : decode cX4_copyFrom 50 = .ok (.goto (-26), 3) := by decide +kernel
theorem dX4_copyFrom_53 : decode cX4_copyFrom 53 = .ok (.aload_n 0, 1) := by decide +kernel
theorem dX4_copyFrom_54 : decode cX4_copyFrom 54 = .ok (.aload_n 1, 1) := by decide +kernel
theorem dX4_copyFrom_55 : decode cX4_copyFrom 55 = .ok (.getfield 72, 3) := by decide +kernel
theorem dX4_copyFrom_58 : decode cX4_copyFrom 58 = .ok (.putfield 72, 3) := by decide +kernel
theorem dX4_copyFrom_61 : decode cX4_copyFrom 61 = .ok (.aload_n 1, 1) := by decide +kernel
theorem dX4_copyFrom_62 : decode cX4_copyFrom 62 = .ok (.getfield 31, 3) := by decide +kernel
theorem dX4_copyFrom_65 : decode cX4_copyFrom 65 = .ok (.aload_n 0, 1) := by decide +kernel
theorem dX4_copyFrom_66 : decode cX4_copyFrom 66 = .ok (.getfield 31, 3) := by decide +kernel
theorem dX4_copyFrom_69 : decode cX4_copyFrom 69 = .ok (.invokestatic 55, 3) := by decide +kernel
theorem dX4_copyFrom_72 : decode cX4_copyFrom 72 = .ok (.aload_n 1, 1) := by decide +kernel
theorem dX4_copyFrom_73 : decode cX4_copyFrom 73 = .ok (.getfield 35, 3) := by decide +kernel
theorem dX4_copyFrom_76 : decode cX4_copyFrom 76 = .ok (.aload_n 0, 1) := by decide +kernel
theorem dX4_copyFrom_77 : decode cX4_copyFrom 77 = .ok (.getfield 35, 3) := by decide +kernel
theorem dX4_copyFrom_80 : decode cX4_copyFrom 80 = .ok (.invokestatic 55, 3) := by decide +kernel
theorem dX4_copyFrom_83 : decode cX4_copyFrom 83 = .ok (.aload_n 1, 1) := by decide +kernel
theorem dX4_copyFrom_84 : decode cX4_copyFrom 84 = .ok (.getfield 38, 3) := by decide +kernel
theorem dX4_copyFrom_87 : decode cX4_copyFrom 87 = .ok (.aload_n 0, 1) := by decide +kernel
theorem dX4_copyFrom_88 : decode cX4_copyFrom 88 = .ok (.getfield 38, 3) := by decide +kernel
theorem dX4_copyFrom_91 : decode cX4_copyFrom 91 = .ok (.invokestatic 55, 3) := by decide +kernel
theorem dX4_copyFrom_94 : decode cX4_copyFrom 94 = .ok (.aload_n 1, 1) := by decide +kernel
theorem dX4_copyFrom_95 : decode cX4_copyFrom 95 = .ok (.getfield 41, 3) := by decide +kernel
theorem dX4_copyFrom_98 : decode cX4_copyFrom 98 = .ok (.aload_n 0, 1) := by decide +kernel
theorem dX4_copyFrom_99 : decode cX4_copyFrom 99 = .ok (.getfield 41, 3) := by decide +kernel
theorem dX4_copyFrom_102 : decode cX4_copyFrom 102 = .ok (.invokestatic 55, 3) := by decide +kernel
theorem dX4_copyFrom_105 : decode cX4_copyFrom 105 = .ok (.aload_n 0, 1) := by decide +kernel
theorem dX4_copyFrom_106 : decode cX4_copyFrom 106 = .ok (.aload_n 1, 1) := by decide +kernel
theorem dX4_copyFrom_107 : decode cX4_copyFrom 107 = .ok (.getfield 44, 3) := by decide +kernel
theorem dX4_copyFrom_110 : decode cX4_copyFrom 110 = .ok (.putfield 44, 3) := by decide +kernel
theorem dX4_copyFrom_113 : decode cX4_copyFrom 113 = .ok (.aload_n 0, 1) := by decide +kernel
theorem dX4_copyFrom_114 : decode cX4_copyFrom 114 = .ok (.aload_n 1, 1) := by decide +kernel
theorem dX4_copyFrom_115 : decode cX4_copyFrom 115 = .ok (.getfield 114, 3) := by decide +kernel
theorem dX4_copyFrom_118 : decode cX4_copyFrom 118 = .ok (.putfield 114, 3) := by decide +kernel
theorem dX4_copyFrom_121 : decode cX4_copyFrom 121 = .ok (.aload_n 0, 1) := by decide +kernel
theorem dX4_copyFrom_122 : decode cX4_copyFrom 122 = .ok (.aload_n 1, 1) := by decide +kernel
theorem dX4_copyFrom_123 : decode cX4_copyFrom 123 = .ok (.getfield 141, 3) := by decide +kernel
theorem dX4_copyFrom_126 : decode cX4_copyFrom 126 = .ok (.putfield 141, 3) := by decide +kernel
theorem dX4_copyFrom_129 : decode cX4_copyFrom 129 = .ok (.aload_n 0, 1) := by decide +kernel
theorem dX4_copyFrom_130 : decode cX4_copyFrom 130 = .ok (.aload_n 1, 1) := by decide +kernel
theorem dX4_copyFrom_131 : decode cX4_copyFrom 131 = .ok (.getfield 86, 3) := by decide +kernel
theorem dX4_copyFrom_134 : decode cX4_copyFrom 134 = .ok (.putfield 86, 3) := by decide +kernel
theorem dX4_copyFrom_137 : decode cX4_copyFrom 137 = .ok (.aload_n 0, 1) := by decide +kernel
theorem dX4_copyFrom_138 : decode cX4_copyFrom 138 = .ok (.aload_n 1, 1) := by decide +kernel
theorem dX4_copyFrom_139 : decode cX4_copyFrom 139 = .ok (.getfield 90, 3) := by decide +kernel
theorem dX4_copyFrom_142 : decode cX4_copyFrom 142 = .ok (.putfield 90, 3) := by decide +kernel
theorem dX4_copyFrom_145 : decode cX4_copyFrom 145 = .ok (.aload_n 0, 1) := by decide +kernel
theorem dX4_copyFrom_146 : decode cX4_copyFrom 146 = .ok (.aload_n 1, 1) := by decide +kernel
theorem dX4_copyFrom_147 : decode cX4_copyFrom 147 = .ok (.getfield 93, 3) := by decide +kernel
theorem dX4_copyFrom_150 : decode cX4_copyFrom 150 = .ok (.putfield 93, 3) := by decide +kernel
theorem dX4_copyFrom_153 : decode cX4_copyFrom 153 = .ok (.aload_n 0, 1) := by decide +kernel
theorem dX4_copyFrom_154 : decode cX4_copyFrom 154 = .ok (.aload_n 1, 1) := by decide +kernel
theorem dX4_copyFrom_155 : decode cX4_copyFrom 155 = .ok (.getfield 96, 3) := by decide +kernel
theorem dX4_copyFrom_158 : decode cX4_copyFrom 158 = .ok (.putfield 96, 3) := by decide +kernel
theorem dX4_copyFrom_161 : decode cX4_copyFrom 161 = .ok (.aload_n 0, 1) := by decide +kernel
theorem dX4_copyFrom_162 : decode cX4_copyFrom 162 = .ok (.aload_n 1, 1) := by decide +kernel
theorem dX4_copyFrom_163 : decode cX4_copyFrom 163 = .ok (.getfield 99, 3) := by decide +kernel
theorem dX4_copyFrom_166 : decode cX4_copyFrom 166 = .ok (.putfield 99, 3) := by decide +kernel
theorem dX4_copyFrom_169 : decode cX4_copyFrom 169 = .ok (.aload_n 0, 1) := by decide +kernel
theorem dX4_copyFrom_170 : decode cX4_copyFrom 170 = .ok (.aload_n 1, 1) := by decide +kernel
theorem dX4_copyFrom_171 : decode cX4_copyFrom 171 = .ok (.getfield 48, 3) := by decide +kernel
theorem dX4_copyFrom_174 : decode cX4_copyFrom 174 = .ok (.putfield 48, 3) := by decide +kernel
theorem dX4_copyFrom_177 : decode cX4_copyFrom 177 = .ok (.return_, 1) := by decide +kernel
theorem dX6_init_0 : decode cX6_init 0 = .ok (.aload_n 0, 1) := by decide +kernel
theorem dX6_init_1 : decode cX6_init 1 = .ok (.invokespecial 1, 3) := by decide +kernel
theorem dX6_init_4 : decode cX6_init 4 = .ok (.aload_n 0, 1) := by decide +kernel
theorem dX6_init_5 : decode cX6_init 5 = .ok (.new 7, 3) := by decide +kernel
theorem dX6_init_8 : decode cX6_init 8 = .ok (.dup, 1) := by decide +kernel
theorem dX6_init_9 : decode cX6_init 9 = .ok (.invokespecial 9, 3) := by decide +kernel
theorem dX6_init_12 : decode cX6_init 12 = .ok (.putfield 10, 3) := by decide +kernel
theorem dX6_init_15 : decode cX6_init 15 = .ok (.aload_n 0, 1) := by decide +kernel
theorem dX6_init_16 : decode cX6_init 16 = .ok (.new 7, 3) := by decide +kernel
theorem dX6_init_19 : decode cX6_init 19 = .ok (.dup, 1) := by decide +kernel
theorem dX6_init_20 : decode cX6_init 20 = .ok (.invokespecial 9, 3) := by decide +kernel
theorem dX6_init_23 : decode cX6_init 23 = .ok (.putfield 16, 3) := by decide +kernel
theorem dX6_init_26 : decode cX6_init 26 = .ok (.aload_n 0, 1) := by decide +kernel
theorem dX6_init_27 : decode cX6_init 27 = .ok (.new 19, 3) := by decide +kernel
theorem dX6_init_30 : decode cX6_init 30 = .ok (.dup, 1) := by decide +kernel
theorem dX6_init_31 : decode cX6_init 31 = .ok (.invokespecial 21, 3) := by decide +kernel
theorem dX6_init_34 : decode cX6_init 34 = .ok (.putfield 22, 3) := by decide +kernel
theorem dX6_init_37 : decode cX6_init 37 = .ok (.aload_n 0, 1) := by decide +kernel
theorem dX6_init_38 : decode cX6_init 38 = .ok (.iconst 2, 1) := by decide +kernel
theorem dX6_init_39 : decode cX6_init 39 = .ok (.anewarray 7, 3) := by decide +kernel
theorem dX6_init_42 : decode cX6_init 42 = .ok (.putfield 26, 3) := by decide +kernel
theorem dX6_init_45 : decode cX6_init 45 = .ok (.aload_n 0, 1) := by decide +kernel
theorem dX6_init_46 : decode cX6_init 46 = .ok (.iconst 2, 1) := by decide +kernel
theorem dX6_init_47 : decode cX6_init 47 = .ok (.newarray .boolean, 2) := by decide +kernel
theorem dX6_init_49 : decode cX6_init 49 = .ok (.putfield 30, 3) := by decide +kernel
theorem dX6_init_52 : decode cX6_init 52 = .ok (.aload_n 0, 1) := by decide +kernel
theorem dX6_init_53 : decode cX6_init 53 = .ok (.new 34, 3) := by decide +kernel
theorem dX6_init_56 : decode cX6_init 56 = .ok (.dup, 1) := by decide +kernel
theorem dX6_init_57 : decode cX6_init 57 = .ok (.invokespecial 36, 3) := by decide +kernel
theorem dX6_init_60 : decode cX6_init 60 = .ok (.putfield 37, 3) := by decide +kernel
theorem dX6_init_63 : decode cX6_init 63 = .ok (.iconst 0, 1) := by decide +kernel
theorem dX6_init_64 : decode cX6_init 64 = .ok (.istore_n 1, 1) := by decide +kernel
theorem dX6_init_65 : decode cX6_init 65 = .ok (.iload_n 1, 1) := by decide +kernel
theorem dX6_init_66 : decode cX6_init 66 = .ok (.iconst 2, 1) := by decide +kernel
theorem dX6_init_67 : decode cX6_init 67 = .ok (.if_icmp .ge 22, 3) := by decide +kernel
theorem dX6_init_70 : decode cX6_init 70 = .ok (.aload_n 0, 1) := by decide +kernel
theorem dX6_init_71 : decode cX6_init 71 = .ok (.getfield 26, 3) := by decide +kernel
theorem dX6_init_74 : decode cX6_init 74 = .ok (.iload_n 1, 1) := by decide +kernel
theorem dX6_init_75 : decode cX6_init 75 = .ok (.new 7, 3) := by decide +kernel
theorem dX6_init_78 : decode cX6_init 78 = .ok (.dup, 1) := by decide +kernel
theorem dX6_init_79 : decode cX6_init 79 = .ok (.invokespecial 9, 3) := by decide +kernel
theorem dX6_init_82 : decode cX6_init 82 = .ok (.aastore, 1) := by decide +kernel
theorem dX6_init_83 : decode cX6_init 83 = .ok (.iinc 1 1, 3) := by decide +kernel
theorem dX6_init_86 : decode cX6_init 86 = .ok (.goto (-21), 3) := by decide +kernel
theorem dX6_init_89 : decode cX6_init 89 = .ok (.return_, 1) := by decide +kernel
theorem dX6_setLines_0 : decode cX6_setLines 0 = .ok (.aload_n 0, 1) := by decide +kernel
theorem dX6_setLines_1 : decode cX6_setLines 1 = .ok (.getfield 22, 3) := by decide +kernel
theorem dX6_setLines_4 : decode cX6_setLines 4 = .ok (.aload_n 0, 1) := by decide +kernel
theorem dX6_setLines_5 : decode cX6_setLines 5 = .ok (.getfield 10, 3) := by decide +kernel
theorem dX6_setLines_8 : decode cX6_setLines 8 = .ok (.invokevirtual 41, 3) := by decide +kernel
theorem dX6_setLines_11 : decode cX6_setLines 11 = .ok (.aload_n 0, 1) := by decide +kernel
theorem dX6_setLines_12 : decode cX6_setLines 12 = .ok (.aload_n 0, 1) := by decide +kernel
theorem dX6_setLines_13 : decode cX6_setLines 13 = .ok (.getfield 10, 3) := by decide +kernel
theorem dX6_setLines_16 : decode cX6_setLines 16 = .ok (.iload_n 1, 1) := by decide +kernel
theorem dX6_setLines_17 : decode cX6_setLines 17 = .ok (.iload_n 2, 1) := by decide +kernel
theorem dX6_setLines_18 : decode cX6_setLines 18 = .ok (.iload_n 3, 1) := by decide +kernel
theorem dX6_setLines_19 : decode cX6_setLines 19 = .ok (.invokevirtual 45, 3) := by decide +kernel
theorem dX6_setLines_22 : decode cX6_setLines 22 = .ok (.invokevirtual 49, 3) := by decide +kernel
theorem dX6_setLines_25 : decode cX6_setLines 25 = .ok (.ireturn, 1) := by decide +kernel
theorem dX6_setPoint_0 : decode cX6_setPoint 0 = .ok (.aload_n 0, 1) := by decide +kernel
theorem dX6_setPoint_1 : decode cX6_setPoint 1 = .ok (.getfield 22, 3) := by decide +kernel
theorem dX6_setPoint_4 : decode cX6_setPoint 4 = .ok (.aload_n 0, 1) := by decide +kernel
theorem dX6_setPoint_5 : decode cX6_setPoint 5 = .ok (.getfield 10, 3) := by decide +kernel
theorem dX6_setPoint_8 : decode cX6_setPoint 8 = .ok (.invokevirtual 41, 3) := by decide +kernel
theorem dX6_setPoint_11 : decode cX6_setPoint 11 = .ok (.aload_n 0, 1) := by decide +kernel
theorem dX6_setPoint_12 : decode cX6_setPoint 12 = .ok (.aload_n 0, 1) := by decide +kernel
theorem dX6_setPoint_13 : decode cX6_setPoint 13 = .ok (.getfield 10, 3) := by decide +kernel
theorem dX6_setPoint_16 : decode cX6_setPoint 16 = .ok (.iload_n 1, 1) := by decide +kernel
theorem dX6_setPoint_17 : decode cX6_setPoint 17 = .ok (.iload_n 2, 1) := by decide +kernel
theorem dX6_setPoint_18 : decode cX6_setPoint 18 = .ok (.invokevirtual 53, 3) := by decide +kernel
theorem dX6_setPoint_21 : decode cX6_setPoint 21 = .ok (.invokevirtual 49, 3) := by decide +kernel
theorem dX6_setPoint_24 : decode cX6_setPoint 24 = .ok (.ireturn, 1) := by decide +kernel
theorem dX6_addChannel_0 : decode cX6_addChannel 0 = .ok (.aload_n 0, 1) := by decide +kernel
theorem dX6_addChannel_1 : decode cX6_addChannel 1 = .ok (.getfield 22, 3) := by decide +kernel
theorem dX6_addChannel_4 : decode cX6_addChannel 4 = .ok (.aload_n 0, 1) := by decide +kernel
theorem dX6_addChannel_5 : decode cX6_addChannel 5 = .ok (.getfield 10, 3) := by decide +kernel
theorem dX6_addChannel_8 : decode cX6_addChannel 8 = .ok (.invokevirtual 41, 3) := by decide +kernel
theorem dX6_addChannel_11 : decode cX6_addChannel 11 = .ok (.aload_n 0, 1) := by decide +kernel
theorem dX6_addChannel_12 : decode cX6_addChannel 12 = .ok (.aload_n 0, 1) := by decide +kernel
theorem dX6_addChannel_13 : decode cX6_addChannel 13 = .ok (.getfield 10, 3) := by decide +kernel
theorem dX6_addChannel_16 : decode cX6_addChannel 16 = .ok (.iload_n 1, 1) := by decide +kernel
theorem dX6_addChannel_17 : decode cX6_addChannel 17 = .ok (.iload_n 2, 1) := by decide +kernel
theorem dX6_addChannel_18 : decode cX6_addChannel 18 = .ok (.iload_n 3, 1) := by decide +kernel
theorem dX6_addChannel_19 : decode cX6_addChannel 19 = .ok (.invokevirtual 57, 3) := by decide +kernel
theorem dX6_addChannel_22 : decode cX6_addChannel 22 = .ok (.invokevirtual 49, 3) := by decide +kernel
theorem dX6_addChannel_25 : decode cX6_addChannel 25 = .ok (.ireturn, 1) := by decide +kernel
theorem dX6_setMode_0 : decode cX6_setMode 0 = .ok (.aload_n 0, 1) := by decide +kernel
theorem dX6_setMode_1 : decode cX6_setMode 1 = .ok (.getfield 10, 3) := by decide +kernel
theorem dX6_setMode_4 : decode cX6_setMode 4 = .ok (.iload_n 1, 1) := by decide +kernel
theorem dX6_setMode_5 : decode cX6_setMode 5 = .ok (.invokevirtual 61, 3) := by decide +kernel
theorem dX6_setMode_8 : decode cX6_setMode 8 = .ok (.ifCond .ne 5, 3) := by decide +kernel
theorem dX6_setMode_11 : decode cX6_setMode 11 = .ok (.iconst (-1), 1) := by decide +kernel
theorem dX6_setMode_12 : decode cX6_setMode 12 = .ok (.ireturn, 1) := by decide +kernel
theorem dX6_setMode_13 : decode cX6_setMode 13 = .ok (.aload_n 0, 1) := by decide +kernel
theorem dX6_setMode_14 : decode cX6_setMode 14 = .ok (.getfield 22, 3) := by decide +kernel
theorem dX6_setMode_17 : decode cX6_setMode 17 = .ok (.aload_n 0, 1) := by decide +kernel
theorem dX6_setMode_18 : decode cX6_setMode 18 = .ok (.getfield 10, 3) := by decide +kernel
theorem dX6_setMode_21 : decode cX6_setMode 21 = .ok (.invokevirtual 41, 3) := by decide +kernel
theorem dX6_setMode_24 : decode cX6_setMode 24 = .ok (.aload_n 0, 1) := by decide +kernel
theorem dX6_setMode_25 : decode cX6_setMode 25 = .ok (.aload_n 0, 1) := by decide +kernel
theorem dX6_setMode_26 : decode cX6_setMode 26 = .ok (.getfield 10, 3) := by decide +kernel
theorem dX6_setMode_29 : decode cX6_setMode 29 = .ok (.getfield 65, 3) := by decide +kernel
theorem dX6_setMode_32 : decode cX6_setMode 32 = .ok (.iload_n 1, 1) := by decide +kernel
theorem dX6_setMode_33 : decode cX6_setMode 33 = .ok (.aaload, 1) := by decide +kernel
theorem dX6_setMode_34 : decode cX6_setMode 34 = .ok (.iload_n 2, 1) := by decide +kernel
theorem dX6_setMode_35 : decode cX6_setMode 35 = .ok (.iload_n 3, 1) := by decide +kernel
theorem dX6_setMode_36 : decode cX6_setMode 36 = .ok (.iload 4, 2) := by decide +kernel
theorem dX6_setMode_38 : decode cX6_setMode 38 = .ok (.iload 5, 2) := by decide +kernel
theorem dX6_setMode_40 : decode cX6_setMode 40 = .ok (.invokevirtual 69, 3) := by decide +kernel
theorem dX6_setMode_43 : decode cX6_setMode 43 = .ok (.invokevirtual 49, 3) := by decide +kernel
theorem dX6_setMode_46 : decode cX6_setMode 46 = .ok (.ireturn, 1) := by decide +kernel
theorem dX6_addNotch_0 : decode cX6_addNotch 0 = .ok (.aload_n 0, 1) := by decide +kernel
theorem dX6_addNotch_1 : decode cX6_addNotch 1 = .ok (.getfield 10, 3) := by decide +kernel
theorem dX6_addNotch_4 : decode cX6_addNotch 4 = .ok (.iload_n 1, 1) := by decide +kernel
theorem dX6_addNotch_5 : decode cX6_addNotch 5 = .ok (.invokevirtual 61, 3) := by decide +kernel
theorem dX6_addNotch_8 : decode cX6_addNotch 8 = .ok (.ifCond .ne 5, 3) := by decide +kernel
theorem dX6_addNotch_11 : decode cX6_addNotch 11 = .ok (.iconst (-1), 1) := by decide +kernel
theorem dX6_addNotch_12 : decode cX6_addNotch 12 = .ok (.ireturn, 1) := by decide +kernel
theorem dX6_addNotch_13 : decode cX6_addNotch 13 = .ok (.aload_n 0, 1) := by decide +kernel
theorem dX6_addNotch_14 : decode cX6_addNotch 14 = .ok (.getfield 22, 3) := by decide +kernel
theorem dX6_addNotch_17 : decode cX6_addNotch 17 = .ok (.aload_n 0, 1) := by decide +kernel
theorem dX6_addNotch_18 : decode cX6_addNotch 18 = .ok (.getfield 10, 3) := by decide +kernel
theorem dX6_addNotch_21 : decode cX6_addNotch 21 = .ok (.invokevirtual 41, 3) := by decide +kernel
theorem dX6_addNotch_24 : decode cX6_addNotch 24 = .ok (.aload_n 0, 1) := by decide +kernel
theorem dX6_addNotch_25 : decode cX6_addNotch 25 = .ok (.aload_n 0, 1) := by decide +kernel
theorem dX6_addNotch_26 : decode cX6_addNotch 26 = .ok (.getfield 10, 3) := by decide +kernel
theorem dX6_addNotch_29 : decode cX6_addNotch 29 = .ok (.getfield 65, 3) := by decide +kernel
theorem dX6_addNotch_32 : decode cX6_addNotch 32 = .ok (.iload_n 1, 1) := by decide +kernel
theorem dX6_addNotch_33 : decode cX6_addNotch 33 = .ok (.aaload, 1) := by decide +kernel
theorem dX6_addNotch_34 : decode cX6_addNotch 34 = .ok (.iload_n 2, 1) := by decide +kernel
theorem dX6_addNotch_35 : decode cX6_addNotch 35 = .ok (.iload_n 3, 1) := by decide +kernel
theorem dX6_addNotch_36 : decode cX6_addNotch 36 = .ok (.iload 4, 2) := by decide +kernel
theorem dX6_addNotch_38 : decode cX6_addNotch 38 = .ok (.invokevirtual 75, 3) := by decide +kernel
theorem dX6_addNotch_41 : decode cX6_addNotch 41 = .ok (.invokevirtual 49, 3) := by decide +kernel
theorem dX6_addNotch_44 : decode cX6_addNotch 44 = .ok (.ireturn, 1) := by decide +kernel
theorem dX6_set_0 : decode cX6_set 0 = .ok (.aload_n 0, 1) := by decide +kernel
theorem dX6_set_1 : decode cX6_set 1 = .ok (.getfield 22, 3) := by decide +kernel
theorem dX6_set_4 : decode cX6_set 4 = .ok (.aload_n 0, 1) := by decide +kernel
theorem dX6_set_5 : decode cX6_set 5 = .ok (.getfield 10, 3) := by decide +kernel
theorem dX6_set_8 : decode cX6_set 8 = .ok (.invokevirtual 41, 3) := by decide +kernel
theorem dX6_set_11 : decode cX6_set 11 = .ok (.aload_n 0, 1) := by decide +kernel
theorem dX6_set_12 : decode cX6_set 12 = .ok (.aload_n 0, 1) := by decide +kernel
theorem dX6_set_13 : decode cX6_set 13 = .ok (.getfield 10, 3) := by decide +kernel
theorem dX6_set_16 : decode cX6_set 16 = .ok (.iload_n 1, 1) := by decide +kernel
theorem dX6_set_17 : decode cX6_set 17 = .ok (.iload_n 2, 1) := by decide +kernel
theorem dX6_set_18 : decode cX6_set 18 = .ok (.invokevirtual 78, 3) := by decide +kernel
theorem dX6_set_21 : decode cX6_set 21 = .ok (.invokevirtual 49, 3) := by decide +kernel
theorem dX6_set_24 : decode cX6_set 24 = .ok (.ireturn, 1) := by decide +kernel
theorem dX6_start_0 : decode cX6_start 0 = .ok (.aload_n 0, 1) := by decide +kernel
theorem dX6_start_1 : decode cX6_start 1 = .ok (.getfield 22, 3) := by decide +kernel
theorem dX6_start_4 : decode cX6_start 4 = .ok (.aload_n 0, 1) := by decide +kernel
theorem dX6_start_5 : decode cX6_start 5 = .ok (.getfield 10, 3) := by decide +kernel
theorem dX6_start_8 : decode cX6_start 8 = .ok (.invokevirtual 41, 3) := by decide +kernel
theorem dX6_start_11 : decode cX6_start 11 = .ok (.aload_n 0, 1) := by decide +kernel
theorem dX6_start_12 : decode cX6_start 12 = .ok (.aload_n 0, 1) := by decide +kernel
theorem dX6_start_13 : decode cX6_start 13 = .ok (.getfield 10, 3) := by decide +kernel
theorem dX6_start_16 : decode cX6_start 16 = .ok (.iload_n 1, 1) := by decide +kernel
theorem dX6_start_17 : decode cX6_start 17 = .ok (.invokevirtual 81, 3) := by decide +kernel
theorem dX6_start_20 : decode cX6_start 20 = .ok (.invokevirtual 49, 3) := by decide +kernel
theorem dX6_start_23 : decode cX6_start 23 = .ok (.ireturn, 1) := by decide +kernel
theorem dX6_step_0 : decode cX6_step 0 = .ok (.aload_n 0, 1) := by decide +kernel
theorem dX6_step_1 : decode cX6_step 1 = .ok (.getfield 22, 3) := by decide +kernel
theorem dX6_step_4 : decode cX6_step 4 = .ok (.aload_n 0, 1) := by decide +kernel
theorem dX6_step_5 : decode cX6_step 5 = .ok (.getfield 10, 3) := by decide +kernel
theorem dX6_step_8 : decode cX6_step 8 = .ok (.invokevirtual 41, 3) := by decide +kernel
theorem dX6_step_11 : decode cX6_step 11 = .ok (.aload_n 0, 1) := by decide +kernel
theorem dX6_step_12 : decode cX6_step 12 = .ok (.aload_n 0, 1) := by decide +kernel
theorem dX6_step_13 : decode cX6_step 13 = .ok (.getfield 10, 3) := by decide +kernel
theorem dX6_step_16 : decode cX6_step 16 = .ok (.iload_n 1, 1) := by decide +kernel
theorem dX6_step_17 : decode cX6_step 17 = .ok (.invokevirtual 84, 3) := by decide +kernel
theorem dX6_step_20 : decode cX6_step 20 = .ok (.invokevirtual 49, 3) := by decide +kernel
theorem dX6_step_23 : decode cX6_step 23 = .ok (.ireturn, 1) := by decide +kernel
theorem dX6_hold_0 : decode cX6_hold 0 = .ok (.aload_n 0, 1) := by decide +kernel
theorem dX6_hold_1 : decode cX6_hold 1 = .ok (.getfield 22, 3) := by decide +kernel
theorem dX6_hold_4 : decode cX6_hold 4 = .ok (.aload_n 0, 1) := by decide +kernel
theorem dX6_hold_5 : decode cX6_hold 5 = .ok (.getfield 10, 3) := by decide +kernel
theorem dX6_hold_8 : decode cX6_hold 8 = .ok (.invokevirtual 41, 3) := by decide +kernel
theorem dX6_hold_11 : decode cX6_hold 11 = .ok (.aload_n 0, 1) := by decide +kernel
theorem dX6_hold_12 : decode cX6_hold 12 = .ok (.aload_n 0, 1) := by decide +kernel
theorem dX6_hold_13 : decode cX6_hold 13 = .ok (.getfield 10, 3) := by decide +kernel
theorem dX6_hold_16 : decode cX6_hold 16 = .ok (.iload_n 1, 1) := by decide +kernel
theorem dX6_hold_17 : decode cX6_hold 17 = .ok (.invokevirtual 87, 3) := by decide +kernel
theorem dX6_hold_20 : decode cX6_hold 20 = .ok (.invokevirtual 49, 3) := by decide +kernel
theorem dX6_hold_23 : decode cX6_hold 23 = .ok (.ireturn, 1) := by decide +kernel
theorem dX6_abort_0 : decode cX6_abort 0 = .ok (.aload_n 0, 1) := by decide +kernel
theorem dX6_abort_1 : decode cX6_abort 1 = .ok (.getfield 22, 3) := by decide +kernel
theorem dX6_abort_4 : decode cX6_abort 4 = .ok (.aload_n 0, 1) := by decide +kernel
theorem dX6_abort_5 : decode cX6_abort 5 = .ok (.getfield 10, 3) := by decide +kernel
theorem dX6_abort_8 : decode cX6_abort 8 = .ok (.invokevirtual 41, 3) := by decide +kernel
theorem dX6_abort_11 : decode cX6_abort 11 = .ok (.aload_n 0, 1) := by decide +kernel
theorem dX6_abort_12 : decode cX6_abort 12 = .ok (.aload_n 0, 1) := by decide +kernel
theorem dX6_abort_13 : decode cX6_abort 13 = .ok (.getfield 10, 3) := by decide +kernel
theorem dX6_abort_16 : decode cX6_abort 16 = .ok (.invokevirtual 91, 3) := by decide +kernel
theorem dX6_abort_19 : decode cX6_abort 19 = .ok (.invokevirtual 49, 3) := by decide +kernel
theorem dX6_abort_22 : decode cX6_abort 22 = .ok (.ireturn, 1) := by decide +kernel
theorem dX6_append_0 : decode cX6_append 0 = .ok (.aload_n 0, 1) := by decide +kernel
theorem dX6_append_1 : decode cX6_append 1 = .ok (.getfield 37, 3) := by decide +kernel
theorem dX6_append_4 : decode cX6_append 4 = .ok (.iload_n 1, 1) := by decide +kernel
theorem dX6_append_5 : decode cX6_append 5 = .ok (.invokevirtual 95, 3) := by decide +kernel
theorem dX6_append_8 : decode cX6_append 8 = .ok (.ireturn, 1) := by decide +kernel
theorem dX6_clearText_0 : decode cX6_clearText 0 = .ok (.aload_n 0, 1) := by decide +kernel
theorem dX6_clearText_1 : decode cX6_clearText 1 = .ok (.getfield 37, 3) := by decide +kernel
theorem dX6_clearText_4 : decode cX6_clearText 4 = .ok (.getfield 98, 3) := by decide +kernel
theorem dX6_clearText_7 : decode cX6_clearText 7 = .ok (.istore_n 1, 1) := by decide +kernel
theorem dX6_clearText_8 : decode cX6_clearText 8 = .ok (.aload_n 0, 1) := by decide +kernel
theorem dX6_clearText_9 : decode cX6_clearText 9 = .ok (.getfield 37, 3) := by decide +kernel
theorem dX6_clearText_12 : decode cX6_clearText 12 = .ok (.iconst 0, 1) := by decide +kernel
theorem dX6_clearText_13 : decode cX6_clearText 13 = .ok (.putfield 98, 3) := by decide +kernel
theorem dX6_clearText_16 : decode cX6_clearText 16 = .ok (.iload_n 1, 1) := by decide +kernel
theorem dX6_clearText_17 : decode cX6_clearText 17 = .ok (.ireturn, 1) := by decide +kernel
theorem dX6_faultPosition_0 : decode cX6_faultPosition 0 = .ok (.aload_n 0, 1) := by decide +kernel
theorem dX6_faultPosition_1 : decode cX6_faultPosition 1 = .ok (.getfield 37, 3) := by decide +kernel
theorem dX6_faultPosition_4 : decode cX6_faultPosition 4 = .ok (.invokevirtual 102, 3) := by decide +kernel
theorem dX6_faultPosition_7 : decode cX6_faultPosition 7 = .ok (.ireturn, 1) := by decide +kernel
theorem dX6_run_0 : decode cX6_run 0 = .ok (.aload_n 0, 1) := by decide +kernel
theorem dX6_run_1 : decode cX6_run 1 = .ok (.getfield 37, 3) := by decide +kernel
theorem dX6_run_4 : decode cX6_run 4 = .ok (.invokevirtual 102, 3) := by decide +kernel
theorem dX6_run_7 : decode cX6_run 7 = .ok (.bipush (-6), 2) := by decide +kernel
theorem dX6_run_9 : decode cX6_run 9 = .ok (.if_icmp .eq 6, 3) := by decide +kernel
theorem dX6_run_12 : decode cX6_run 12 = .ok (.bipush (-3), 2) := by decide +kernel
theorem dX6_run_14 : decode cX6_run 14 = .ok (.ireturn, 1) := by decide +kernel
theorem dX6_run_15 : decode cX6_run 15 = .ok (.aload_n 0, 1) := by decide +kernel
theorem dX6_run_16 : decode cX6_run 16 = .ok (.getfield 22, 3) := by decide +kernel
theorem dX6_run_19 : decode cX6_run 19 = .ok (.aload_n 0, 1) := by decide +kernel
theorem dX6_run_20 : decode cX6_run 20 = .ok (.getfield 10, 3) := by decide +kernel
theorem dX6_run_23 : decode cX6_run 23 = .ok (.invokevirtual 41, 3) := by decide +kernel
theorem dX6_run_26 : decode cX6_run 26 = .ok (.aload_n 0, 1) := by decide +kernel
theorem dX6_run_27 : decode cX6_run 27 = .ok (.getfield 37, 3) := by decide +kernel
theorem dX6_run_30 : decode cX6_run 30 = .ok (.invokevirtual 105, 3) := by decide +kernel
theorem dX6_run_33 : decode cX6_run 33 = .ok (.iconst 0, 1) := by decide +kernel
theorem dX6_run_34 : decode cX6_run 34 = .ok (.istore_n 1, 1) := by decide +kernel
theorem dX6_run_35 : decode cX6_run 35 = .ok (.iload_n 1, 1) := by decide +kernel
theorem dX6_run_36 : decode cX6_run 36 = .ok (.bipush 80, 2) := by decide +kernel
theorem dX6_run_38 : decode cX6_run 38 = .ok (.if_icmp .ge 26, 3) := by decide +kernel
theorem dX6_run_41 : decode cX6_run 41 = .ok (.aload_n 0, 1) := by decide +kernel
theorem dX6_run_42 : decode cX6_run 42 = .ok (.getfield 37, 3) := by decide +kernel
theorem dX6_run_45 : decode cX6_run 45 = .ok (.invokevirtual 108, 3) := by decide +kernel
theorem dX6_run_48 : decode cX6_run 48 = .ok (.ifCond .eq 16, 3) := by decide +kernel
theorem dX6_run_51 : decode cX6_run 51 = .ok (.aload_n 0, 1) := by decide +kernel
theorem dX6_run_52 : decode cX6_run 52 = .ok (.invokevirtual 112, 3) := by decide +kernel
theorem dX6_run_55 : decode cX6_run 55 = .ok (.ifCond .lt 9, 3) := by decide +kernel
theorem dX6_run_58 : decode cX6_run 58 = .ok (.iinc 1 1, 3) := by decide +kernel
theorem dX6_run_61 : decode cX6_run 61 = .ok (.goto (-26), 3) := by decide +kernel
theorem dX6_run_64 : decode cX6_run 64 = .ok (.aload_n 0, 1) := by decide +kernel
theorem dX6_run_65 : decode cX6_run 65 = .ok (.iload_n 1, 1) := by decide +kernel
theorem dX6_run_66 : decode cX6_run 66 = .ok (.invokevirtual 49, 3) := by decide +kernel
theorem dX6_run_69 : decode cX6_run 69 = .ok (.ireturn, 1) := by decide +kernel
theorem dX6_carryOutAct_0 : decode cX6_carryOutAct 0 = .ok (.aload_n 0, 1) := by decide +kernel
theorem dX6_carryOutAct_1 : decode cX6_carryOutAct 1 = .ok (.getfield 37, 3) := by decide +kernel
theorem dX6_carryOutAct_4 : decode cX6_carryOutAct 4 = .ok (.getfield 115, 3) := by decide +kernel
theorem dX6_carryOutAct_7 : decode cX6_carryOutAct 7 = .ok (.lookupswitch 105 #[(103, 49), (104, 79), (114, 88), (115, 64), (120, 97)], 49) := by decide +kernel
theorem dX6_carryOutAct_56 : decode cX6_carryOutAct 56 = .ok (.aload_n 0, 1) := by decide +kernel
theorem dX6_carryOutAct_57 : decode cX6_carryOutAct 57 = .ok (.getfield 10, 3) := by decide +kernel
theorem dX6_carryOutAct_60 : decode cX6_carryOutAct 60 = .ok (.aload_n 0, 1) := by decide +kernel
theorem dX6_carryOutAct_61 : decode cX6_carryOutAct 61 = .ok (.getfield 37, 3) := by decide +kernel
theorem dX6_carryOutAct_64 : decode cX6_carryOutAct 64 = .ok (.getfield 118, 3) := by decide +kernel
theorem dX6_carryOutAct_67 : decode cX6_carryOutAct 67 = .ok (.invokevirtual 81, 3) := by decide +kernel
theorem dX6_carryOutAct_70 : decode cX6_carryOutAct 70 = .ok (.ireturn, 1) := by decide +kernel
theorem dX6_carryOutAct_71 : decode cX6_carryOutAct 71 = .ok (.aload_n 0, 1) := by decide +kernel
theorem dX6_carryOutAct_72 : decode cX6_carryOutAct 72 = .ok (.getfield 10, 3) := by decide +kernel
theorem dX6_carryOutAct_75 : decode cX6_carryOutAct 75 = .ok (.aload_n 0, 1) := by decide +kernel
theorem dX6_carryOutAct_76 : decode cX6_carryOutAct 76 = .ok (.getfield 37, 3) := by decide +kernel
theorem dX6_carryOutAct_79 : decode cX6_carryOutAct 79 = .ok (.getfield 118, 3) := by decide +kernel
theorem dX6_carryOutAct_82 : decode cX6_carryOutAct 82 = .ok (.invokevirtual 84, 3) := by decide +kernel
theorem dX6_carryOutAct_85 : decode cX6_carryOutAct 85 = .ok (.ireturn, 1) := by decide +kernel
theorem dX6_carryOutAct_86 : decode cX6_carryOutAct 86 = .ok (.aload_n 0, 1) := by decide +kernel
theorem dX6_carryOutAct_87 : decode cX6_carryOutAct 87 = .ok (.getfield 10, 3) := by decide +kernel
theorem dX6_carryOutAct_90 : decode cX6_carryOutAct 90 = .ok (.iconst 1, 1) := by decide +kernel
theorem dX6_carryOutAct_91 : decode cX6_carryOutAct 91 = .ok (.invokevirtual 87, 3) := by decide +kernel
theorem dX6_carryOutAct_94 : decode cX6_carryOutAct 94 = .ok (.ireturn, 1) := by decide +kernel
theorem dX6_carryOutAct_95 : decode cX6_carryOutAct 95 = .ok (.aload_n 0, 1) := by decide +kernel
theorem dX6_carryOutAct_96 : decode cX6_carryOutAct 96 = .ok (.getfield 10, 3) := by decide +kernel
theorem dX6_carryOutAct_99 : decode cX6_carryOutAct 99 = .ok (.iconst 0, 1) := by decide +kernel
theorem dX6_carryOutAct_100 : decode cX6_carryOutAct 100 = .ok (.invokevirtual 87, 3) := by decide +kernel
theorem dX6_carryOutAct_103 : decode cX6_carryOutAct 103 = .ok (.ireturn, 1) := by decide +kernel
theorem dX6_carryOutAct_104 : decode cX6_carryOutAct 104 = .ok (.aload_n 0, 1) := by decide +kernel
theorem dX6_carryOutAct_105 : decode cX6_carryOutAct 105 = .ok (.getfield 10, 3) := by decide +kernel
theorem dX6_carryOutAct_108 : decode cX6_carryOutAct 108 = .ok (.invokevirtual 91, 3) := by decide +kernel
theorem dX6_carryOutAct_111 : decode cX6_carryOutAct 111 = .ok (.ireturn, 1) := by decide +kernel
theorem dX6_carryOutAct_112 : decode cX6_carryOutAct 112 = .ok (.aload_n 0, 1) := by decide +kernel
theorem dX6_carryOutAct_113 : decode cX6_carryOutAct 113 = .ok (.getfield 10, 3) := by decide +kernel
theorem dX6_carryOutAct_116 : decode cX6_carryOutAct 116 = .ok (.aload_n 0, 1) := by decide +kernel
theorem dX6_carryOutAct_117 : decode cX6_carryOutAct 117 = .ok (.getfield 37, 3) := by decide +kernel
theorem dX6_carryOutAct_120 : decode cX6_carryOutAct 120 = .ok (.getfield 118, 3) := by decide +kernel
theorem dX6_carryOutAct_123 : decode cX6_carryOutAct 123 = .ok (.aload_n 0, 1) := by decide +kernel
theorem dX6_carryOutAct_124 : decode cX6_carryOutAct 124 = .ok (.getfield 37, 3) := by decide +kernel
theorem dX6_carryOutAct_127 : decode cX6_carryOutAct 127 = .ok (.getfield 121, 3) := by decide +kernel
theorem dX6_carryOutAct_130 : decode cX6_carryOutAct 130 = .ok (.invokevirtual 78, 3) := by decide +kernel
theorem dX6_carryOutAct_133 : decode cX6_carryOutAct 133 = .ok (.ireturn, 1) := by decide +kernel
theorem dX6_undo_0 : decode cX6_undo 0 = .ok (.aload_n 0, 1) := by decide +kernel
theorem dX6_undo_1 : decode cX6_undo 1 = .ok (.getfield 22, 3) := by decide +kernel
theorem dX6_undo_4 : decode cX6_undo 4 = .ok (.aload_n 0, 1) := by decide +kernel
theorem dX6_undo_5 : decode cX6_undo 5 = .ok (.getfield 10, 3) := by decide +kernel
theorem dX6_undo_8 : decode cX6_undo 8 = .ok (.invokevirtual 124, 3) := by decide +kernel
theorem dX6_undo_11 : decode cX6_undo 11 = .ok (.ireturn, 1) := by decide +kernel
theorem dX6_save_0 : decode cX6_save 0 = .ok (.iload_n 1, 1) := by decide +kernel
theorem dX6_save_1 : decode cX6_save 1 = .ok (.invokestatic 128, 3) := by decide +kernel
theorem dX6_save_4 : decode cX6_save 4 = .ok (.ifCond .ne 5, 3) := by decide +kernel
theorem dX6_save_7 : decode cX6_save 7 = .ok (.iconst (-1), 1) := by decide +kernel
theorem dX6_save_8 : decode cX6_save 8 = .ok (.ireturn, 1) := by decide +kernel
theorem dX6_save_9 : decode cX6_save 9 = .ok (.aload_n 0, 1) := by decide +kernel
theorem dX6_save_10 : decode cX6_save 10 = .ok (.getfield 26, 3) := by decide +kernel
theorem dX6_save_13 : decode cX6_save 13 = .ok (.iload_n 1, 1) := by decide +kernel
theorem dX6_save_14 : decode cX6_save 14 = .ok (.aaload, 1) := by decide +kernel
theorem dX6_save_15 : decode cX6_save 15 = .ok (.aload_n 0, 1) := by decide +kernel
theorem dX6_save_16 : decode cX6_save 16 = .ok (.getfield 10, 3) := by decide +kernel
theorem dX6_save_19 : decode cX6_save 19 = .ok (.invokevirtual 131, 3) := by decide +kernel
theorem dX6_save_22 : decode cX6_save 22 = .ok (.aload_n 0, 1) := by decide +kernel
theorem dX6_save_23 : decode cX6_save 23 = .ok (.getfield 30, 3) := by decide +kernel
theorem dX6_save_26 : decode cX6_save 26 = .ok (.iload_n 1, 1) := by decide +kernel
theorem dX6_save_27 : decode cX6_save 27 = .ok (.iconst 1, 1) := by decide +kernel
theorem dX6_save_28 : decode cX6_save 28 = .ok (.bastore, 1) := by decide +kernel
theorem dX6_save_29 : decode cX6_save 29 = .ok (.aload_n 0, 1) := by decide +kernel
theorem dX6_save_30 : decode cX6_save 30 = .ok (.getfield 10, 3) := by decide +kernel
theorem dX6_save_33 : decode cX6_save 33 = .ok (.getfield 134, 3) := by decide +kernel
theorem dX6_save_36 : decode cX6_save 36 = .ok (.ireturn, 1) := by decide +kernel
theorem dX6_restore_0 : decode cX6_restore 0 = .ok (.iload_n 1, 1) := by decide +kernel
theorem dX6_restore_1 : decode cX6_restore 1 = .ok (.invokestatic 128, 3) := by decide +kernel
theorem dX6_restore_4 : decode cX6_restore 4 = .ok (.ifCond .ne 5, 3) := by decide +kernel
theorem dX6_restore_7 : decode cX6_restore 7 = .ok (.iconst (-1), 1) := by decide +kernel
theorem dX6_restore_8 : decode cX6_restore 8 = .ok (.ireturn, 1) := by decide +kernel
theorem dX6_restore_9 : decode cX6_restore 9 = .ok (.aload_n 0, 1) := by decide +kernel
theorem dX6_restore_10 : decode cX6_restore 10 = .ok (.getfield 30, 3) := by decide +kernel
theorem dX6_restore_13 : decode cX6_restore 13 = .ok (.iload_n 1, 1) := by decide +kernel
theorem dX6_restore_14 : decode cX6_restore 14 = .ok (.baload, 1) := by decide +kernel
theorem dX6_restore_15 : decode cX6_restore 15 = .ok (.ifCond .ne 6, 3) := by decide +kernel
theorem dX6_restore_18 : decode cX6_restore 18 = .ok (.bipush (-3), 2) := by decide +kernel
theorem dX6_restore_20 : decode cX6_restore 20 = .ok (.ireturn, 1) := by decide +kernel
theorem dX6_restore_21 : decode cX6_restore 21 = .ok (.aload_n 0, 1) := by decide +kernel
theorem dX6_restore_22 : decode cX6_restore 22 = .ok (.getfield 22, 3) := by decide +kernel
theorem dX6_restore_25 : decode cX6_restore 25 = .ok (.aload_n 0, 1) := by decide +kernel
theorem dX6_restore_26 : decode cX6_restore 26 = .ok (.getfield 10, 3) := by decide +kernel
theorem dX6_restore_29 : decode cX6_restore 29 = .ok (.invokevirtual 41, 3) := by decide +kernel
theorem dX6_restore_32 : decode cX6_restore 32 = .ok (.aload_n 0, 1) := by decide +kernel
theorem dX6_restore_33 : decode cX6_restore 33 = .ok (.getfield 10, 3) := by decide +kernel
theorem dX6_restore_36 : decode cX6_restore 36 = .ok (.aload_n 0, 1) := by decide +kernel
theorem dX6_restore_37 : decode cX6_restore 37 = .ok (.getfield 26, 3) := by decide +kernel
theorem dX6_restore_40 : decode cX6_restore 40 = .ok (.iload_n 1, 1) := by decide +kernel
theorem dX6_restore_41 : decode cX6_restore 41 = .ok (.aaload, 1) := by decide +kernel
theorem dX6_restore_42 : decode cX6_restore 42 = .ok (.invokevirtual 131, 3) := by decide +kernel
theorem dX6_restore_45 : decode cX6_restore 45 = .ok (.aload_n 0, 1) := by decide +kernel
theorem dX6_restore_46 : decode cX6_restore 46 = .ok (.aload_n 0, 1) := by decide +kernel
theorem dX6_restore_47 : decode cX6_restore 47 = .ok (.getfield 10, 3) := by decide +kernel
theorem dX6_restore_50 : decode cX6_restore 50 = .ok (.getfield 134, 3) := by decide +kernel
theorem dX6_restore_53 : decode cX6_restore 53 = .ok (.invokevirtual 49, 3) := by decide +kernel
theorem dX6_restore_56 : decode cX6_restore 56 = .ok (.ireturn, 1) := by decide +kernel
theorem dX6_isSlot_0 : decode cX6_isSlot 0 = .ok (.iload_n 0, 1) := by decide +kernel
theorem dX6_isSlot_1 : decode cX6_isSlot 1 = .ok (.iconst 0, 1) := by decide +kernel
theorem dX6_isSlot_2 : decode cX6_isSlot 2 = .ok (.iconst 1, 1) := by decide +kernel
theorem dX6_isSlot_3 : decode cX6_isSlot 3 = .ok (.invokestatic 137, 3) := by decide +kernel
theorem dX6_isSlot_6 : decode cX6_isSlot 6 = .ok (.ireturn, 1) := by decide +kernel
theorem dX6_recorded_0 : decode cX6_recorded 0 = .ok (.iload_n 1, 1) := by decide +kernel
theorem dX6_recorded_1 : decode cX6_recorded 1 = .ok (.ifCond .lt 10, 3) := by decide +kernel
theorem dX6_recorded_4 : decode cX6_recorded 4 = .ok (.aload_n 0, 1) := by decide +kernel
theorem dX6_recorded_5 : decode cX6_recorded 5 = .ok (.getfield 22, 3) := by decide +kernel
theorem dX6_recorded_8 : decode cX6_recorded 8 = .ok (.invokevirtual 141, 3) := by decide +kernel
theorem dX6_recorded_11 : decode cX6_recorded 11 = .ok (.iload_n 1, 1) := by decide +kernel
theorem dX6_recorded_12 : decode cX6_recorded 12 = .ok (.ireturn, 1) := by decide +kernel
theorem dX6_frequency_0 : decode cX6_frequency 0 = .ok (.aload_n 0, 1) := by decide +kernel
theorem dX6_frequency_1 : decode cX6_frequency 1 = .ok (.aload_n 0, 1) := by decide +kernel
theorem dX6_frequency_2 : decode cX6_frequency 2 = .ok (.getfield 10, 3) := by decide +kernel
theorem dX6_frequency_5 : decode cX6_frequency 5 = .ok (.getfield 144, 3) := by decide +kernel
theorem dX6_frequency_8 : decode cX6_frequency 8 = .ok (.getfield 148, 3) := by decide +kernel
theorem dX6_frequency_11 : decode cX6_frequency 11 = .ok (.iload_n 1, 1) := by decide +kernel
theorem dX6_frequency_12 : decode cX6_frequency 12 = .ok (.invokevirtual 154, 3) := by decide +kernel
theorem dX6_frequency_15 : decode cX6_frequency 15 = .ok (.ireturn, 1) := by decide +kernel
theorem dX6_target_0 : decode cX6_target 0 = .ok (.iload_n 1, 1) := by decide +kernel
theorem dX6_target_1 : decode cX6_target 1 = .ok (.invokestatic 158, 3) := by decide +kernel
theorem dX6_target_4 : decode cX6_target 4 = .ok (.ifCond .ne 6, 3) := by decide +kernel
theorem dX6_target_7 : decode cX6_target 7 = .ok (.bipush (-2), 2) := by decide +kernel
theorem dX6_target_9 : decode cX6_target 9 = .ok (.ireturn, 1) := by decide +kernel
theorem dX6_target_10 : decode cX6_target 10 = .ok (.aload_n 0, 1) := by decide +kernel
theorem dX6_target_11 : decode cX6_target 11 = .ok (.getfield 10, 3) := by decide +kernel
theorem dX6_target_14 : decode cX6_target 14 = .ok (.getfield 161, 3) := by decide +kernel
theorem dX6_target_17 : decode cX6_target 17 = .ok (.iload_n 1, 1) := by decide +kernel
theorem dX6_target_18 : decode cX6_target 18 = .ok (.invokevirtual 165, 3) := by decide +kernel
theorem dX6_target_21 : decode cX6_target 21 = .ok (.ireturn, 1) := by decide +kernel
theorem dX6_gain_0 : decode cX6_gain 0 = .ok (.aload_n 0, 1) := by decide +kernel
theorem dX6_gain_1 : decode cX6_gain 1 = .ok (.getfield 10, 3) := by decide +kernel
theorem dX6_gain_4 : decode cX6_gain 4 = .ok (.iload_n 1, 1) := by decide +kernel
theorem dX6_gain_5 : decode cX6_gain 5 = .ok (.invokevirtual 61, 3) := by decide +kernel
theorem dX6_gain_8 : decode cX6_gain 8 = .ok (.ifCond .ne 5, 3) := by decide +kernel
theorem dX6_gain_11 : decode cX6_gain 11 = .ok (.iconst (-1), 1) := by decide +kernel
theorem dX6_gain_12 : decode cX6_gain 12 = .ok (.ireturn, 1) := by decide +kernel
theorem dX6_gain_13 : decode cX6_gain 13 = .ok (.iload_n 2, 1) := by decide +kernel
theorem dX6_gain_14 : decode cX6_gain 14 = .ok (.invokestatic 158, 3) := by decide +kernel
theorem dX6_gain_17 : decode cX6_gain 17 = .ok (.ifCond .ne 6, 3) := by decide +kernel
theorem dX6_gain_20 : decode cX6_gain 20 = .ok (.bipush (-2), 2) := by decide +kernel
theorem dX6_gain_22 : decode cX6_gain 22 = .ok (.ireturn, 1) := by decide +kernel
theorem dX6_gain_23 : decode cX6_gain 23 = .ok (.aload_n 0, 1) := by decide +kernel
theorem dX6_gain_24 : decode cX6_gain 24 = .ok (.getfield 10, 3) := by decide +kernel
theorem dX6_gain_27 : decode cX6_gain 27 = .ok (.getfield 65, 3) := by decide +kernel
theorem dX6_gain_30 : decode cX6_gain 30 = .ok (.iload_n 1, 1) := by decide +kernel
theorem dX6_gain_31 : decode cX6_gain 31 = .ok (.aaload, 1) := by decide +kernel
theorem dX6_gain_32 : decode cX6_gain 32 = .ok (.iload_n 2, 1) := by decide +kernel
theorem dX6_gain_33 : decode cX6_gain 33 = .ok (.invokevirtual 170, 3) := by decide +kernel
theorem dX6_gain_36 : decode cX6_gain 36 = .ok (.ireturn, 1) := by decide +kernel
theorem dX6_limit_0 : decode cX6_limit 0 = .ok (.aload_n 0, 1) := by decide +kernel
theorem dX6_limit_1 : decode cX6_limit 1 = .ok (.getfield 10, 3) := by decide +kernel
theorem dX6_limit_4 : decode cX6_limit 4 = .ok (.iload_n 1, 1) := by decide +kernel
theorem dX6_limit_5 : decode cX6_limit 5 = .ok (.invokevirtual 61, 3) := by decide +kernel
theorem dX6_limit_8 : decode cX6_limit 8 = .ok (.ifCond .ne 5, 3) := by decide +kernel
theorem dX6_limit_11 : decode cX6_limit 11 = .ok (.iconst (-1), 1) := by decide +kernel
theorem dX6_limit_12 : decode cX6_limit 12 = .ok (.ireturn, 1) := by decide +kernel
theorem dX6_limit_13 : decode cX6_limit 13 = .ok (.iload_n 2, 1) := by decide +kernel
theorem dX6_limit_14 : decode cX6_limit 14 = .ok (.invokestatic 158, 3) := by decide +kernel
theorem dX6_limit_17 : decode cX6_limit 17 = .ok (.ifCond .ne 6, 3) := by decide +kernel
theorem dX6_limit_20 : decode cX6_limit 20 = .ok (.bipush (-2), 2) := by decide +kernel
theorem dX6_limit_22 : decode cX6_limit 22 = .ok (.ireturn, 1) := by decide +kernel
theorem dX6_limit_23 : decode cX6_limit 23 = .ok (.aload_n 0, 1) := by decide +kernel
theorem dX6_limit_24 : decode cX6_limit 24 = .ok (.getfield 10, 3) := by decide +kernel
theorem dX6_limit_27 : decode cX6_limit 27 = .ok (.getfield 65, 3) := by decide +kernel
theorem dX6_limit_30 : decode cX6_limit 30 = .ok (.iload_n 1, 1) := by decide +kernel
theorem dX6_limit_31 : decode cX6_limit 31 = .ok (.aaload, 1) := by decide +kernel
theorem dX6_limit_32 : decode cX6_limit 32 = .ok (.iload_n 2, 1) := by decide +kernel
theorem dX6_limit_33 : decode cX6_limit 33 = .ok (.invokevirtual 173, 3) := by decide +kernel
theorem dX6_limit_36 : decode cX6_limit 36 = .ok (.ireturn, 1) := by decide +kernel
theorem dX6_channel_0 : decode cX6_channel 0 = .ok (.aload_n 0, 1) := by decide +kernel
theorem dX6_channel_1 : decode cX6_channel 1 = .ok (.getfield 10, 3) := by decide +kernel
theorem dX6_channel_4 : decode cX6_channel 4 = .ok (.iload_n 1, 1) := by decide +kernel
theorem dX6_channel_5 : decode cX6_channel 5 = .ok (.invokevirtual 61, 3) := by decide +kernel
theorem dX6_channel_8 : decode cX6_channel 8 = .ok (.ifCond .ne 5, 3) := by decide +kernel
theorem dX6_channel_11 : decode cX6_channel 11 = .ok (.iconst (-1), 1) := by decide +kernel
theorem dX6_channel_12 : decode cX6_channel 12 = .ok (.ireturn, 1) := by decide +kernel
theorem dX6_channel_13 : decode cX6_channel 13 = .ok (.iload_n 2, 1) := by decide +kernel
theorem dX6_channel_14 : decode cX6_channel 14 = .ok (.iconst 0, 1) := by decide +kernel
theorem dX6_channel_15 : decode cX6_channel 15 = .ok (.bipush 7, 2) := by decide +kernel
theorem dX6_channel_17 : decode cX6_channel 17 = .ok (.invokestatic 137, 3) := by decide +kernel
theorem dX6_channel_20 : decode cX6_channel 20 = .ok (.ifCond .ne 6, 3) := by decide +kernel
theorem dX6_channel_23 : decode cX6_channel 23 = .ok (.bipush (-2), 2) := by decide +kernel
theorem dX6_channel_25 : decode cX6_channel 25 = .ok (.ireturn, 1) := by decide +kernel
theorem dX6_channel_26 : decode cX6_channel 26 = .ok (.aload_n 0, 1) := by decide +kernel
theorem dX6_channel_27 : decode cX6_channel 27 = .ok (.getfield 10, 3) := by decide +kernel
theorem dX6_channel_30 : decode cX6_channel 30 = .ok (.getfield 65, 3) := by decide +kernel
theorem dX6_channel_33 : decode cX6_channel 33 = .ok (.iload_n 1, 1) := by decide +kernel
theorem dX6_channel_34 : decode cX6_channel 34 = .ok (.aaload, 1) := by decide +kernel
theorem dX6_channel_35 : decode cX6_channel 35 = .ok (.iload_n 2, 1) := by decide +kernel
theorem dX6_channel_36 : decode cX6_channel 36 = .ok (.invokevirtual 176, 3) := by decide +kernel
theorem dX6_channel_39 : decode cX6_channel 39 = .ok (.ireturn, 1) := by decide +kernel
theorem dX6_level_0 : decode cX6_level 0 = .ok (.aload_n 0, 1) := by decide +kernel
theorem dX6_level_1 : decode cX6_level 1 = .ok (.getfield 10, 3) := by decide +kernel
theorem dX6_level_4 : decode cX6_level 4 = .ok (.iload_n 2, 1) := by decide +kernel
theorem dX6_level_5 : decode cX6_level 5 = .ok (.invokevirtual 61, 3) := by decide +kernel
theorem dX6_level_8 : decode cX6_level 8 = .ok (.ifCond .ne 5, 3) := by decide +kernel
theorem dX6_level_11 : decode cX6_level 11 = .ok (.iconst (-1), 1) := by decide +kernel
theorem dX6_level_12 : decode cX6_level 12 = .ok (.ireturn, 1) := by decide +kernel
theorem dX6_level_13 : decode cX6_level 13 = .ok (.aload_n 0, 1) := by decide +kernel
theorem dX6_level_14 : decode cX6_level 14 = .ok (.aload_n 0, 1) := by decide +kernel
theorem dX6_level_15 : decode cX6_level 15 = .ok (.getfield 10, 3) := by decide +kernel
theorem dX6_level_18 : decode cX6_level 18 = .ok (.getfield 65, 3) := by decide +kernel
theorem dX6_level_21 : decode cX6_level 21 = .ok (.iload_n 2, 1) := by decide +kernel
theorem dX6_level_22 : decode cX6_level 22 = .ok (.aaload, 1) := by decide +kernel
theorem dX6_level_23 : decode cX6_level 23 = .ok (.getfield 179, 3) := by decide +kernel
theorem dX6_level_26 : decode cX6_level 26 = .ok (.iload_n 1, 1) := by decide +kernel
theorem dX6_level_27 : decode cX6_level 27 = .ok (.invokevirtual 154, 3) := by decide +kernel
theorem dX6_level_30 : decode cX6_level 30 = .ok (.ireturn, 1) := by decide +kernel
theorem dX6_averaged_0 : decode cX6_averaged 0 = .ok (.aload_n 0, 1) := by decide +kernel
theorem dX6_averaged_1 : decode cX6_averaged 1 = .ok (.getfield 10, 3) := by decide +kernel
theorem dX6_averaged_4 : decode cX6_averaged 4 = .ok (.iload_n 2, 1) := by decide +kernel
theorem dX6_averaged_5 : decode cX6_averaged 5 = .ok (.invokevirtual 61, 3) := by decide +kernel
theorem dX6_averaged_8 : decode cX6_averaged 8 = .ok (.ifCond .ne 5, 3) := by decide +kernel
theorem dX6_averaged_11 : decode cX6_averaged 11 = .ok (.iconst (-1), 1) := by decide +kernel
theorem dX6_averaged_12 : decode cX6_averaged 12 = .ok (.ireturn, 1) := by decide +kernel
theorem dX6_averaged_13 : decode cX6_averaged 13 = .ok (.aload_n 0, 1) := by decide +kernel
theorem dX6_averaged_14 : decode cX6_averaged 14 = .ok (.aload_n 0, 1) := by decide +kernel
theorem dX6_averaged_15 : decode cX6_averaged 15 = .ok (.getfield 10, 3) := by decide +kernel
theorem dX6_averaged_18 : decode cX6_averaged 18 = .ok (.getfield 65, 3) := by decide +kernel
theorem dX6_averaged_21 : decode cX6_averaged 21 = .ok (.iload_n 2, 1) := by decide +kernel
theorem dX6_averaged_22 : decode cX6_averaged 22 = .ok (.aaload, 1) := by decide +kernel
theorem dX6_averaged_23 : decode cX6_averaged 23 = .ok (.getfield 182, 3) := by decide +kernel
theorem dX6_averaged_26 : decode cX6_averaged 26 = .ok (.iload_n 1, 1) := by decide +kernel
theorem dX6_averaged_27 : decode cX6_averaged 27 = .ok (.invokevirtual 154, 3) := by decide +kernel
theorem dX6_averaged_30 : decode cX6_averaged 30 = .ok (.ireturn, 1) := by decide +kernel
theorem dX6_controlGain_0 : decode cX6_controlGain 0 = .ok (.aload_n 0, 1) := by decide +kernel
theorem dX6_controlGain_1 : decode cX6_controlGain 1 = .ok (.aload_n 0, 1) := by decide +kernel
theorem dX6_controlGain_2 : decode cX6_controlGain 2 = .ok (.getfield 10, 3) := by decide +kernel
theorem dX6_controlGain_5 : decode cX6_controlGain 5 = .ok (.getfield 185, 3) := by decide +kernel
theorem dX6_controlGain_8 : decode cX6_controlGain 8 = .ok (.iload_n 1, 1) := by decide +kernel
theorem dX6_controlGain_9 : decode cX6_controlGain 9 = .ok (.invokevirtual 154, 3) := by decide +kernel
theorem dX6_controlGain_12 : decode cX6_controlGain 12 = .ok (.ireturn, 1) := by decide +kernel
theorem dX6_driveAt_0 : decode cX6_driveAt 0 = .ok (.aload_n 0, 1) := by decide +kernel
theorem dX6_driveAt_1 : decode cX6_driveAt 1 = .ok (.aload_n 0, 1) := by decide +kernel
theorem dX6_driveAt_2 : decode cX6_driveAt 2 = .ok (.getfield 10, 3) := by decide +kernel
theorem dX6_driveAt_5 : decode cX6_driveAt 5 = .ok (.getfield 188, 3) := by decide +kernel
theorem dX6_driveAt_8 : decode cX6_driveAt 8 = .ok (.iload_n 1, 1) := by decide +kernel
theorem dX6_driveAt_9 : decode cX6_driveAt 9 = .ok (.invokevirtual 154, 3) := by decide +kernel
theorem dX6_driveAt_12 : decode cX6_driveAt 12 = .ok (.ireturn, 1) := by decide +kernel
theorem dX6_notchedBy_0 : decode cX6_notchedBy 0 = .ok (.aload_n 0, 1) := by decide +kernel
theorem dX6_notchedBy_1 : decode cX6_notchedBy 1 = .ok (.aload_n 0, 1) := by decide +kernel
theorem dX6_notchedBy_2 : decode cX6_notchedBy 2 = .ok (.getfield 10, 3) := by decide +kernel
theorem dX6_notchedBy_5 : decode cX6_notchedBy 5 = .ok (.getfield 191, 3) := by decide +kernel
theorem dX6_notchedBy_8 : decode cX6_notchedBy 8 = .ok (.iload_n 1, 1) := by decide +kernel
theorem dX6_notchedBy_9 : decode cX6_notchedBy 9 = .ok (.invokevirtual 154, 3) := by decide +kernel
theorem dX6_notchedBy_12 : decode cX6_notchedBy 12 = .ok (.ireturn, 1) := by decide +kernel
theorem dX6_resonance_0 : decode cX6_resonance 0 = .ok (.aload_n 0, 1) := by decide +kernel
theorem dX6_resonance_1 : decode cX6_resonance 1 = .ok (.getfield 10, 3) := by decide +kernel
theorem dX6_resonance_4 : decode cX6_resonance 4 = .ok (.iload_n 1, 1) := by decide +kernel
theorem dX6_resonance_5 : decode cX6_resonance 5 = .ok (.invokevirtual 61, 3) := by decide +kernel
theorem dX6_resonance_8 : decode cX6_resonance 8 = .ok (.ifCond .ne 5, 3) := by decide +kernel
theorem dX6_resonance_11 : decode cX6_resonance 11 = .ok (.iconst (-1), 1) := by decide +kernel
theorem dX6_resonance_12 : decode cX6_resonance 12 = .ok (.ireturn, 1) := by decide +kernel
theorem dX6_resonance_13 : decode cX6_resonance 13 = .ok (.iload_n 2, 1) := by decide +kernel
theorem dX6_resonance_14 : decode cX6_resonance 14 = .ok (.ifCond .ge 6, 3) := by decide +kernel
theorem dX6_resonance_17 : decode cX6_resonance 17 = .ok (.bipush (-2), 2) := by decide +kernel
theorem dX6_resonance_19 : decode cX6_resonance 19 = .ok (.ireturn, 1) := by decide +kernel
theorem dX6_resonance_20 : decode cX6_resonance 20 = .ok (.aload_n 0, 1) := by decide +kernel
theorem dX6_resonance_21 : decode cX6_resonance 21 = .ok (.getfield 10, 3) := by decide +kernel
theorem dX6_resonance_24 : decode cX6_resonance 24 = .ok (.getfield 65, 3) := by decide +kernel
theorem dX6_resonance_27 : decode cX6_resonance 27 = .ok (.iload_n 1, 1) := by decide +kernel
theorem dX6_resonance_28 : decode cX6_resonance 28 = .ok (.aaload, 1) := by decide +kernel
theorem dX6_resonance_29 : decode cX6_resonance 29 = .ok (.iload_n 2, 1) := by decide +kernel
theorem dX6_resonance_30 : decode cX6_resonance 30 = .ok (.aload_n 0, 1) := by decide +kernel
theorem dX6_resonance_31 : decode cX6_resonance 31 = .ok (.getfield 10, 3) := by decide +kernel
theorem dX6_resonance_34 : decode cX6_resonance 34 = .ok (.getfield 144, 3) := by decide +kernel
theorem dX6_resonance_37 : decode cX6_resonance 37 = .ok (.getfield 194, 3) := by decide +kernel
theorem dX6_resonance_40 : decode cX6_resonance 40 = .ok (.invokevirtual 197, 3) := by decide +kernel
theorem dX6_resonance_43 : decode cX6_resonance 43 = .ok (.ireturn, 1) := by decide +kernel
theorem dX6_total_0 : decode cX6_total 0 = .ok (.iload_n 1, 1) := by decide +kernel
theorem dX6_total_1 : decode cX6_total 1 = .ok (.iconst 0, 1) := by decide +kernel
theorem dX6_total_2 : decode cX6_total 2 = .ok (.bipush 19, 2) := by decide +kernel
theorem dX6_total_4 : decode cX6_total 4 = .ok (.invokestatic 137, 3) := by decide +kernel
theorem dX6_total_7 : decode cX6_total 7 = .ok (.ifCond .ne 6, 3) := by decide +kernel
theorem dX6_total_10 : decode cX6_total 10 = .ok (.bipush (-2), 2) := by decide +kernel
theorem dX6_total_12 : decode cX6_total 12 = .ok (.ireturn, 1) := by decide +kernel
theorem dX6_total_13 : decode cX6_total 13 = .ok (.iload_n 1, 1) := by decide +kernel
theorem dX6_total_14 : decode cX6_total 14 = .ok (.bipush 14, 2) := by decide +kernel
theorem dX6_total_16 : decode cX6_total 16 = .ok (.if_icmp .lt 16, 3) := by decide +kernel
theorem dX6_total_19 : decode cX6_total 19 = .ok (.aload_n 0, 1) := by decide +kernel
theorem dX6_total_20 : decode cX6_total 20 = .ok (.getfield 10, 3) := by decide +kernel
theorem dX6_total_23 : decode cX6_total 23 = .ok (.getfield 200, 3) := by decide +kernel
theorem dX6_total_26 : decode cX6_total 26 = .ok (.iload_n 1, 1) := by decide +kernel
theorem dX6_total_27 : decode cX6_total 27 = .ok (.bipush 14, 2) := by decide +kernel
theorem dX6_total_29 : decode cX6_total 29 = .ok (.isub, 1) := by decide +kernel
theorem dX6_total_30 : decode cX6_total 30 = .ok (.iaload, 1) := by decide +kernel
theorem dX6_total_31 : decode cX6_total 31 = .ok (.ireturn, 1) := by decide +kernel
theorem dX6_total_32 : decode cX6_total 32 = .ok (.iload_n 1, 1) := by decide +kernel
theorem dX6_total_33 : decode cX6_total 33 = .ok (.bipush 12, 2) := by decide +kernel
theorem dX6_total_35 : decode cX6_total 35 = .ok (.if_icmp .ne 11, 3) := by decide +kernel
theorem dX6_total_38 : decode cX6_total 38 = .ok (.aload_n 0, 1) := by decide +kernel
theorem dX6_total_39 : decode cX6_total 39 = .ok (.getfield 22, 3) := by decide +kernel
theorem dX6_total_42 : decode cX6_total 42 = .ok (.getfield 203, 3) := by decide +kernel
theorem dX6_total_45 : decode cX6_total 45 = .ok (.ireturn, 1) := by decide +kernel
theorem dX6_total_46 : decode cX6_total 46 = .ok (.iload_n 1, 1) := by decide +kernel
theorem dX6_total_47 : decode cX6_total 47 = .ok (.bipush 13, 2) := by decide +kernel
theorem dX6_total_49 : decode cX6_total 49 = .ok (.if_icmp .ne 11, 3) := by decide +kernel
theorem dX6_total_52 : decode cX6_total 52 = .ok (.aload_n 0, 1) := by decide +kernel
theorem dX6_total_53 : decode cX6_total 53 = .ok (.getfield 37, 3) := by decide +kernel
theorem dX6_total_56 : decode cX6_total 56 = .ok (.getfield 98, 3) := by decide +kernel
theorem dX6_total_59 : decode cX6_total 59 = .ok (.ireturn, 1) := by decide +kernel
theorem dX6_total_60 : decode cX6_total 60 = .ok (.aload_n 0, 1) := by decide +kernel
theorem dX6_total_61 : decode cX6_total 61 = .ok (.getfield 10, 3) := by decide +kernel
theorem dX6_total_64 : decode cX6_total 64 = .ok (.iload_n 1, 1) := by decide +kernel
theorem dX6_total_65 : decode cX6_total 65 = .ok (.invokevirtual 204, 3) := by decide +kernel
theorem dX6_total_68 : decode cX6_total 68 = .ok (.ireturn, 1) := by decide +kernel
theorem dX6_lookAtLine_0 : decode cX6_lookAtLine 0 = .ok (.aload_n 0, 1) := by decide +kernel
theorem dX6_lookAtLine_1 : decode cX6_lookAtLine 1 = .ok (.getfield 10, 3) := by decide +kernel
theorem dX6_lookAtLine_4 : decode cX6_lookAtLine 4 = .ok (.iload_n 2, 1) := by decide +kernel
theorem dX6_lookAtLine_5 : decode cX6_lookAtLine 5 = .ok (.invokevirtual 207, 3) := by decide +kernel
theorem dX6_lookAtLine_8 : decode cX6_lookAtLine 8 = .ok (.ifCond .eq 9, 3) := by decide +kernel
theorem dX6_lookAtLine_11 : decode cX6_lookAtLine 11 = .ok (.aload_n 1, 1) := by decide +kernel
theorem dX6_lookAtLine_12 : decode cX6_lookAtLine 12 = .ok (.iload_n 2, 1) := by decide +kernel
theorem dX6_lookAtLine_13 : decode cX6_lookAtLine 13 = .ok (.iaload, 1) := by decide +kernel
theorem dX6_lookAtLine_14 : decode cX6_lookAtLine 14 = .ok (.goto 4, 3) := by decide +kernel
theorem dX6_lookAtLine_17 : decode cX6_lookAtLine 17 = .ok (.iconst (-1), 1) := by decide +kernel
theorem dX6_lookAtLine_18 : decode cX6_lookAtLine 18 = .ok (.ireturn, 1) := by decide +kernel
theorem dX6_loopsLeft_0 : decode cX6_loopsLeft 0 = .ok (.aload_n 0, 1) := by decide +kernel
theorem dX6_loopsLeft_1 : decode cX6_loopsLeft 1 = .ok (.getfield 16, 3) := by decide +kernel
theorem dX6_loopsLeft_4 : decode cX6_loopsLeft 4 = .ok (.aload_n 0, 1) := by decide +kernel
theorem dX6_loopsLeft_5 : decode cX6_loopsLeft 5 = .ok (.getfield 10, 3) := by decide +kernel
theorem dX6_loopsLeft_8 : decode cX6_loopsLeft 8 = .ok (.invokevirtual 131, 3) := by decide +kernel
theorem dX6_loopsLeft_11 : decode cX6_loopsLeft 11 = .ok (.iconst 0, 1) := by decide +kernel
theorem dX6_loopsLeft_12 : decode cX6_loopsLeft 12 = .ok (.istore_n 1, 1) := by decide +kernel
theorem dX6_loopsLeft_13 : decode cX6_loopsLeft 13 = .ok (.iload_n 1, 1) := by decide +kernel
theorem dX6_loopsLeft_14 : decode cX6_loopsLeft 14 = .ok (.sipush 500, 3) := by decide +kernel
theorem dX6_loopsLeft_17 : decode cX6_loopsLeft 17 = .ok (.if_icmp .ge 26, 3) := by decide +kernel
theorem dX6_loopsLeft_20 : decode cX6_loopsLeft 20 = .ok (.aload_n 0, 1) := by decide +kernel
theorem dX6_loopsLeft_21 : decode cX6_loopsLeft 21 = .ok (.getfield 16, 3) := by decide +kernel
theorem dX6_loopsLeft_24 : decode cX6_loopsLeft 24 = .ok (.invokevirtual 210, 3) := by decide +kernel
theorem dX6_loopsLeft_27 : decode cX6_loopsLeft 27 = .ok (.ifCond .ne 16, 3) := by decide +kernel
theorem dX6_loopsLeft_30 : decode cX6_loopsLeft 30 = .ok (.aload_n 0, 1) := by decide +kernel
theorem dX6_loopsLeft_31 : decode cX6_loopsLeft 31 = .ok (.getfield 16, 3) := by decide +kernel
theorem dX6_loopsLeft_34 : decode cX6_loopsLeft 34 = .ok (.invokevirtual 213, 3) := by decide +kernel
theorem dX6_loopsLeft_37 : decode cX6_loopsLeft 37 = .ok (.iinc 1 1, 3) := by decide +kernel
theorem dX6_loopsLeft_40 : decode cX6_loopsLeft 40 = .ok (.goto (-27), 3) := by decide +kernel
theorem dX6_loopsLeft_43 : decode cX6_loopsLeft 43 = .ok (.aload_n 0, 1) := by decide +kernel
theorem dX6_loopsLeft_44 : decode cX6_loopsLeft 44 = .ok (.getfield 16, 3) := by decide +kernel
theorem dX6_loopsLeft_47 : decode cX6_loopsLeft 47 = .ok (.invokevirtual 210, 3) := by decide +kernel
theorem dX6_loopsLeft_50 : decode cX6_loopsLeft 50 = .ok (.ifCond .eq 7, 3) := by decide +kernel
theorem dX6_loopsLeft_53 : decode cX6_loopsLeft 53 = .ok (.iload_n 1, 1) := by decide +kernel
theorem dX6_loopsLeft_54 : decode cX6_loopsLeft 54 = .ok (.goto 5, 3) := by decide +kernel
theorem dX6_loopsLeft_57 : decode cX6_loopsLeft 57 = .ok (.bipush (-6), 2) := by decide +kernel
theorem dX6_loopsLeft_59 : decode cX6_loopsLeft 59 = .ok (.ireturn, 1) := by decide +kernel
theorem dX6_wouldAbort_0 : decode cX6_wouldAbort 0 = .ok (.iload_n 1, 1) := by decide +kernel
theorem dX6_wouldAbort_1 : decode cX6_wouldAbort 1 = .ok (.iconst 1, 1) := by decide +kernel
theorem dX6_wouldAbort_2 : decode cX6_wouldAbort 2 = .ok (.sipush 300, 3) := by decide +kernel
theorem dX6_wouldAbort_5 : decode cX6_wouldAbort 5 = .ok (.invokestatic 137, 3) := by decide +kernel
theorem dX6_wouldAbort_8 : decode cX6_wouldAbort 8 = .ok (.ifCond .ne 6, 3) := by decide +kernel
theorem dX6_wouldAbort_11 : decode cX6_wouldAbort 11 = .ok (.bipush (-2), 2) := by decide +kernel
theorem dX6_wouldAbort_13 : decode cX6_wouldAbort 13 = .ok (.ireturn, 1) := by decide +kernel
theorem dX6_wouldAbort_14 : decode cX6_wouldAbort 14 = .ok (.aload_n 0, 1) := by decide +kernel
theorem dX6_wouldAbort_15 : decode cX6_wouldAbort 15 = .ok (.getfield 10, 3) := by decide +kernel
theorem dX6_wouldAbort_18 : decode cX6_wouldAbort 18 = .ok (.invokevirtual 216, 3) := by decide +kernel
theorem dX6_wouldAbort_21 : decode cX6_wouldAbort 21 = .ok (.ifCond .ne 6, 3) := by decide +kernel
theorem dX6_wouldAbort_24 : decode cX6_wouldAbort 24 = .ok (.bipush (-6), 2) := by decide +kernel
theorem dX6_wouldAbort_26 : decode cX6_wouldAbort 26 = .ok (.ireturn, 1) := by decide +kernel
theorem dX6_wouldAbort_27 : decode cX6_wouldAbort 27 = .ok (.aload_n 0, 1) := by decide +kernel
theorem dX6_wouldAbort_28 : decode cX6_wouldAbort 28 = .ok (.getfield 16, 3) := by decide +kernel
theorem dX6_wouldAbort_31 : decode cX6_wouldAbort 31 = .ok (.aload_n 0, 1) := by decide +kernel
theorem dX6_wouldAbort_32 : decode cX6_wouldAbort 32 = .ok (.getfield 10, 3) := by decide +kernel
theorem dX6_wouldAbort_35 : decode cX6_wouldAbort 35 = .ok (.invokevirtual 131, 3) := by decide +kernel
theorem dX6_wouldAbort_38 : decode cX6_wouldAbort 38 = .ok (.iconst 0, 1) := by decide +kernel
theorem dX6_wouldAbort_39 : decode cX6_wouldAbort 39 = .ok (.istore_n 2, 1) := by decide +kernel
theorem dX6_wouldAbort_40 : decode cX6_wouldAbort 40 = .ok (.iload_n 2, 1) := by decide +kernel
theorem dX6_wouldAbort_41 : decode cX6_wouldAbort 41 = .ok (.iload_n 1, 1) := by decide +kernel
theorem dX6_wouldAbort_42 : decode cX6_wouldAbort 42 = .ok (.if_icmp .ge 26, 3) := by decide +kernel
theorem dX6_wouldAbort_45 : decode cX6_wouldAbort 45 = .ok (.aload_n 0, 1) := by decide +kernel
theorem dX6_wouldAbort_46 : decode cX6_wouldAbort 46 = .ok (.getfield 16, 3) := by decide +kernel
theorem dX6_wouldAbort_49 : decode cX6_wouldAbort 49 = .ok (.invokevirtual 216, 3) := by decide +kernel
theorem dX6_wouldAbort_52 : decode cX6_wouldAbort 52 = .ok (.ifCond .eq 16, 3) := by decide +kernel
theorem dX6_wouldAbort_55 : decode cX6_wouldAbort 55 = .ok (.aload_n 0, 1) := by decide +kernel
theorem dX6_wouldAbort_56 : decode cX6_wouldAbort 56 = .ok (.getfield 16, 3) := by decide +kernel
theorem dX6_wouldAbort_59 : decode cX6_wouldAbort 59 = .ok (.invokevirtual 213, 3) := by decide +kernel
theorem dX6_wouldAbort_62 : decode cX6_wouldAbort 62 = .ok (.iinc 2 1, 3) := by decide +kernel
theorem dX6_wouldAbort_65 : decode cX6_wouldAbort 65 = .ok (.goto (-25), 3) := by decide +kernel
theorem dX6_wouldAbort_68 : decode cX6_wouldAbort 68 = .ok (.aload_n 0, 1) := by decide +kernel
theorem dX6_wouldAbort_69 : decode cX6_wouldAbort 69 = .ok (.getfield 16, 3) := by decide +kernel
theorem dX6_wouldAbort_72 : decode cX6_wouldAbort 72 = .ok (.getfield 219, 3) := by decide +kernel
theorem dX6_wouldAbort_75 : decode cX6_wouldAbort 75 = .ok (.ireturn, 1) := by decide +kernel
theorem dX6_highest_0 : decode cX6_highest 0 = .ok (.aload_n 0, 1) := by decide +kernel
theorem dX6_highest_1 : decode cX6_highest 1 = .ok (.getfield 10, 3) := by decide +kernel
theorem dX6_highest_4 : decode cX6_highest 4 = .ok (.iload_n 1, 1) := by decide +kernel
theorem dX6_highest_5 : decode cX6_highest 5 = .ok (.invokevirtual 61, 3) := by decide +kernel
theorem dX6_highest_8 : decode cX6_highest 8 = .ok (.ifCond .ne 5, 3) := by decide +kernel
theorem dX6_highest_11 : decode cX6_highest 11 = .ok (.iconst (-1), 1) := by decide +kernel
theorem dX6_highest_12 : decode cX6_highest 12 = .ok (.ireturn, 1) := by decide +kernel
theorem dX6_highest_13 : decode cX6_highest 13 = .ok (.iload_n 2, 1) := by decide +kernel
theorem dX6_highest_14 : decode cX6_highest 14 = .ok (.iconst 1, 1) := by decide +kernel
theorem dX6_highest_15 : decode cX6_highest 15 = .ok (.sipush 300, 3) := by decide +kernel
theorem dX6_highest_18 : decode cX6_highest 18 = .ok (.invokestatic 137, 3) := by decide +kernel
theorem dX6_highest_21 : decode cX6_highest 21 = .ok (.ifCond .ne 6, 3) := by decide +kernel
theorem dX6_highest_24 : decode cX6_highest 24 = .ok (.bipush (-2), 2) := by decide +kernel
theorem dX6_highest_26 : decode cX6_highest 26 = .ok (.ireturn, 1) := by decide +kernel
theorem dX6_highest_27 : decode cX6_highest 27 = .ok (.aload_n 0, 1) := by decide +kernel
theorem dX6_highest_28 : decode cX6_highest 28 = .ok (.getfield 16, 3) := by decide +kernel
theorem dX6_highest_31 : decode cX6_highest 31 = .ok (.aload_n 0, 1) := by decide +kernel
theorem dX6_highest_32 : decode cX6_highest 32 = .ok (.getfield 10, 3) := by decide +kernel
theorem dX6_highest_35 : decode cX6_highest 35 = .ok (.invokevirtual 131, 3) := by decide +kernel
theorem dX6_highest_38 : decode cX6_highest 38 = .ok (.bipush (-6), 2) := by decide +kernel
theorem dX6_highest_40 : decode cX6_highest 40 = .ok (.istore_n 3, 1) := by decide +kernel
theorem dX6_highest_41 : decode cX6_highest 41 = .ok (.iconst 0, 1) := by decide +kernel
theorem dX6_highest_42 : decode cX6_highest 42 = .ok (.istore 4, 2) := by decide +kernel
theorem dX6_highest_44 : decode cX6_highest 44 = .ok (.iload 4, 2) := by decide +kernel
theorem dX6_highest_46 : decode cX6_highest 46 = .ok (.iload_n 2, 1) := by decide +kernel
theorem dX6_highest_47 : decode cX6_highest 47 = .ok (.if_icmp .ge 43, 3) := by decide +kernel
theorem dX6_highest_50 : decode cX6_highest 50 = .ok (.aload_n 0, 1) := by decide +kernel
theorem dX6_highest_51 : decode cX6_highest 51 = .ok (.getfield 16, 3) := by decide +kernel
theorem dX6_highest_54 : decode cX6_highest 54 = .ok (.invokevirtual 216, 3) := by decide +kernel
theorem dX6_highest_57 : decode cX6_highest 57 = .ok (.ifCond .eq 33, 3) := by decide +kernel
theorem dX6_highest_60 : decode cX6_highest 60 = .ok (.aload_n 0, 1) := by decide +kernel
theorem dX6_highest_61 : decode cX6_highest 61 = .ok (.getfield 16, 3) := by decide +kernel
theorem dX6_highest_64 : decode cX6_highest 64 = .ok (.invokevirtual 213, 3) := by decide +kernel
theorem dX6_highest_67 : decode cX6_highest 67 = .ok (.iload_n 3, 1) := by decide +kernel
theorem dX6_highest_68 : decode cX6_highest 68 = .ok (.aload_n 0, 1) := by decide +kernel
theorem dX6_highest_69 : decode cX6_highest 69 = .ok (.getfield 16, 3) := by decide +kernel
theorem dX6_highest_72 : decode cX6_highest 72 = .ok (.getfield 65, 3) := by decide +kernel
theorem dX6_highest_75 : decode cX6_highest 75 = .ok (.iload_n 1, 1) := by decide +kernel
theorem dX6_highest_76 : decode cX6_highest 76 = .ok (.aaload, 1) := by decide +kernel
theorem dX6_highest_77 : decode cX6_highest 77 = .ok (.getfield 222, 3) := by decide +kernel
theorem dX6_highest_80 : decode cX6_highest 80 = .ok (.invokestatic 225, 3) := by decide +kernel
theorem dX6_highest_83 : decode cX6_highest 83 = .ok (.istore_n 3, 1) := by decide +kernel
theorem dX6_highest_84 : decode cX6_highest 84 = .ok (.iinc 4 1, 3) := by decide +kernel
theorem dX6_highest_87 : decode cX6_highest 87 = .ok (.goto (-43), 3) := by decide +kernel
theorem dX6_highest_90 : decode cX6_highest 90 = .ok (.iload_n 3, 1) := by decide +kernel
theorem dX6_highest_91 : decode cX6_highest 91 = .ok (.ireturn, 1) := by decide +kernel
theorem dX6_isWithin_0 : decode cX6_isWithin 0 = .ok (.iload_n 0, 1) := by decide +kernel
theorem dX6_isWithin_1 : decode cX6_isWithin 1 = .ok (.iload_n 1, 1) := by decide +kernel
theorem dX6_isWithin_2 : decode cX6_isWithin 2 = .ok (.if_icmp .lt 12, 3) := by decide +kernel
theorem dX6_isWithin_5 : decode cX6_isWithin 5 = .ok (.iload_n 0, 1) := by decide +kernel
theorem dX6_isWithin_6 : decode cX6_isWithin 6 = .ok (.iload_n 2, 1) := by decide +kernel
theorem dX6_isWithin_7 : decode cX6_isWithin 7 = .ok (.if_icmp .gt 7, 3) := by decide +kernel
theorem dX6_isWithin_10 : decode cX6_isWithin 10 = .ok (.iconst 1, 1) := by decide +kernel
theorem dX6_isWithin_11 : decode cX6_isWithin 11 = .ok (.goto 4, 3) := by decide +kernel
theorem dX6_isWithin_14 : decode cX6_isWithin 14 = .ok (.iconst 0, 1) := by decide +kernel
theorem dX6_isWithin_15 : decode cX6_isWithin 15 = .ok (.ireturn, 1) := by decide +kernel
theorem dX6_isFrequency_0 : decode cX6_isFrequency 0 = .ok (.iload_n 0, 1) := by decide +kernel
theorem dX6_isFrequency_1 : decode cX6_isFrequency 1 = .ok (.iconst 1, 1) := by decide +kernel
theorem dX6_isFrequency_2 : decode cX6_isFrequency 2 = .ok (.sipush 2000, 3) := by decide +kernel
theorem dX6_isFrequency_5 : decode cX6_isFrequency 5 = .ok (.invokestatic 137, 3) := by decide +kernel
theorem dX6_isFrequency_8 : decode cX6_isFrequency 8 = .ok (.ireturn, 1) := by decide +kernel
theorem dX6_copyRow_0 : decode cX6_copyRow 0 = .ok (.aload_n 0, 1) := by decide +kernel
theorem dX6_copyRow_1 : decode cX6_copyRow 1 = .ok (.iconst 0, 1) := by decide +kernel
theorem dX6_copyRow_2 : decode cX6_copyRow 2 = .ok (.aload_n 1, 1) := by decide +kernel
theorem dX6_copyRow_3 : decode cX6_copyRow 3 = .ok (.iconst 0, 1) := by decide +kernel
theorem dX6_copyRow_4 : decode cX6_copyRow 4 = .ok (.aload_n 0, 1) := by decide +kernel
theorem dX6_copyRow_5 : decode cX6_copyRow 5 = .ok (.arraylength, 1) := by decide +kernel
theorem dX6_copyRow_6 : decode cX6_copyRow 6 = .ok (.aload_n 1, 1) := by decide +kernel
theorem dX6_copyRow_7 : decode cX6_copyRow 7 = .ok (.arraylength, 1) := by decide +kernel
theorem dX6_copyRow_8 : decode cX6_copyRow 8 = .ok (.invokestatic 230, 3) := by decide +kernel
theorem dX6_copyRow_11 : decode cX6_copyRow 11 = .ok (.invokestatic 233, 3) := by decide +kernel
theorem dX6_copyRow_14 : decode cX6_copyRow 14 = .ok (.return_, 1) := by decide +kernel
theorem dX6_measuredGain_0 : decode cX6_measuredGain 0 = .ok (.iload_n 1, 1) := by decide +kernel
theorem dX6_measuredGain_1 : decode cX6_measuredGain 1 = .ok (.ifCond .le 16, 3) := by decide +kernel
theorem dX6_measuredGain_4 : decode cX6_measuredGain 4 = .ok (.iload_n 0, 1) := by decide +kernel
theorem dX6_measuredGain_5 : decode cX6_measuredGain 5 = .ok (.i2l, 1) := by decide +kernel
theorem dX6_measuredGain_6 : decode cX6_measuredGain 6 = .ok (.ldc2_w 239, 3) := by decide +kernel
theorem dX6_measuredGain_9 : decode cX6_measuredGain 9 = .ok (.lmul, 1) := by decide +kernel
theorem dX6_measuredGain_10 : decode cX6_measuredGain 10 = .ok (.iload_n 1, 1) := by decide +kernel
theorem dX6_measuredGain_11 : decode cX6_measuredGain 11 = .ok (.i2l, 1) := by decide +kernel
theorem dX6_measuredGain_12 : decode cX6_measuredGain 12 = .ok (.ldiv, 1) := by decide +kernel
theorem dX6_measuredGain_13 : decode cX6_measuredGain 13 = .ok (.l2i, 1) := by decide +kernel
theorem dX6_measuredGain_14 : decode cX6_measuredGain 14 = .ok (.goto 4, 3) := by decide +kernel
theorem dX6_measuredGain_17 : decode cX6_measuredGain 17 = .ok (.iconst 0, 1) := by decide +kernel
theorem dX6_measuredGain_18 : decode cX6_measuredGain 18 = .ok (.ireturn, 1) := by decide +kernel
theorem dX6_averagedGain_0 : decode cX6_averagedGain 0 = .ok (.iload_n 0, 1) := by decide +kernel
theorem dX6_averagedGain_1 : decode cX6_averagedGain 1 = .ok (.bipush (-6), 2) := by decide +kernel
theorem dX6_averagedGain_3 : decode cX6_averagedGain 3 = .ok (.if_icmp .eq 7, 3) := by decide +kernel
theorem dX6_averagedGain_6 : decode cX6_averagedGain 6 = .ok (.iload_n 2, 1) := by decide +kernel
theorem dX6_averagedGain_7 : decode cX6_averagedGain 7 = .ok (.ifCond .gt 5, 3) := by decide +kernel
theorem dX6_averagedGain_10 : decode cX6_averagedGain 10 = .ok (.iload_n 1, 1) := by decide +kernel
theorem dX6_averagedGain_11 : decode cX6_averagedGain 11 = .ok (.ireturn, 1) := by decide +kernel
theorem dX6_averagedGain_12 : decode cX6_averagedGain 12 = .ok (.iload_n 0, 1) := by decide +kernel
theorem dX6_averagedGain_13 : decode cX6_averagedGain 13 = .ok (.iload_n 2, 1) := by decide +kernel
theorem dX6_averagedGain_14 : decode cX6_averagedGain 14 = .ok (.iconst 1, 1) := by decide +kernel
theorem dX6_averagedGain_15 : decode cX6_averagedGain 15 = .ok (.isub, 1) := by decide +kernel
theorem dX6_averagedGain_16 : decode cX6_averagedGain 16 = .ok (.imul, 1) := by decide +kernel
theorem dX6_averagedGain_17 : decode cX6_averagedGain 17 = .ok (.iload_n 1, 1) := by decide +kernel
theorem dX6_averagedGain_18 : decode cX6_averagedGain 18 = .ok (.iadd, 1) := by decide +kernel
theorem dX6_averagedGain_19 : decode cX6_averagedGain 19 = .ok (.iload_n 2, 1) := by decide +kernel
theorem dX6_averagedGain_20 : decode cX6_averagedGain 20 = .ok (.idiv, 1) := by decide +kernel
theorem dX6_averagedGain_21 : decode cX6_averagedGain 21 = .ok (.ireturn, 1) := by decide +kernel
