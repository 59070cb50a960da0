theorem dX0_init_0 : decode cX0_init 0 = .ok (.aload_n 0, 1) := by decide +kernel
theorem dX0_init_1 : decode cX0_init 1 = .ok (.invokespecial 3, 3) := by decide +kernel
theorem dX0_init_4 : decode cX0_init 4 = .ok (.aload_n 0, 1) := by decide +kernel
theorem dX0_init_5 : decode cX0_init 5 = .ok (.iconst 3, 1) := by decide +kernel
theorem dX0_init_6 : decode cX0_init 6 = .ok (.newarray .int, 2) := by decide +kernel
theorem dX0_init_8 : decode cX0_init 8 = .ok (.putfield 9, 3) := by decide +kernel
theorem dX0_init_11 : decode cX0_init 11 = .ok (.aload_n 0, 1) := by decide +kernel
theorem dX0_init_12 : decode cX0_init 12 = .ok (.iconst 3, 1) := by decide +kernel
theorem dX0_init_13 : decode cX0_init 13 = .ok (.newarray .int, 2) := by decide +kernel
theorem dX0_init_15 : decode cX0_init 15 = .ok (.putfield 15, 3) := by decide +kernel
theorem dX0_init_18 : decode cX0_init 18 = .ok (.aload_n 0, 1) := by decide +kernel
theorem dX0_init_19 : decode cX0_init 19 = .ok (.iconst 3, 1) := by decide +kernel
theorem dX0_init_20 : decode cX0_init 20 = .ok (.newarray .int, 2) := by decide +kernel
theorem dX0_init_22 : decode cX0_init 22 = .ok (.putfield 18, 3) := by decide +kernel
theorem dX0_init_25 : decode cX0_init 25 = .ok (.aload_n 0, 1) := by decide +kernel
theorem dX0_init_26 : decode cX0_init 26 = .ok (.iconst 4, 1) := by decide +kernel
theorem dX0_init_27 : decode cX0_init 27 = .ok (.newarray .int, 2) := by decide +kernel
theorem dX0_init_29 : decode cX0_init 29 = .ok (.putfield 21, 3) := by decide +kernel
theorem dX0_init_32 : decode cX0_init 32 = .ok (.aload_n 0, 1) := by decide +kernel
theorem dX0_init_33 : decode cX0_init 33 = .ok (.iconst 4, 1) := by decide +kernel
theorem dX0_init_34 : decode cX0_init 34 = .ok (.newarray .int, 2) := by decide +kernel
theorem dX0_init_36 : decode cX0_init 36 = .ok (.putfield 24, 3) := by decide +kernel
theorem dX0_init_39 : decode cX0_init 39 = .ok (.aload_n 0, 1) := by decide +kernel
theorem dX0_init_40 : decode cX0_init 40 = .ok (.iconst 4, 1) := by decide +kernel
theorem dX0_init_41 : decode cX0_init 41 = .ok (.newarray .int, 2) := by decide +kernel
theorem dX0_init_43 : decode cX0_init 43 = .ok (.putfield 27, 3) := by decide +kernel
theorem dX0_init_46 : decode cX0_init 46 = .ok (.aload_n 0, 1) := by decide +kernel
theorem dX0_init_47 : decode cX0_init 47 = .ok (.bipush 100, 2) := by decide +kernel
theorem dX0_init_49 : decode cX0_init 49 = .ok (.newarray .int, 2) := by decide +kernel
theorem dX0_init_51 : decode cX0_init 51 = .ok (.putfield 30, 3) := by decide +kernel
theorem dX0_init_54 : decode cX0_init 54 = .ok (.aload_n 0, 1) := by decide +kernel
theorem dX0_init_55 : decode cX0_init 55 = .ok (.bipush 100, 2) := by decide +kernel
theorem dX0_init_57 : decode cX0_init 57 = .ok (.newarray .int, 2) := by decide +kernel
theorem dX0_init_59 : decode cX0_init 59 = .ok (.putfield 33, 3) := by decide +kernel
theorem dX0_init_62 : decode cX0_init 62 = .ok (.return_, 1) := by decide +kernel
theorem dX0_become_0 : decode cX0_become 0 = .ok (.aload_n 0, 1) := by decide +kernel
theorem dX0_become_1 : decode cX0_become 1 = .ok (.iload_n 1, 1) := by decide +kernel
theorem dX0_become_2 : decode cX0_become 2 = .ok (.putfield 36, 3) := by decide +kernel
theorem dX0_become_5 : decode cX0_become 5 = .ok (.aload_n 0, 1) := by decide +kernel
theorem dX0_become_6 : decode cX0_become 6 = .ok (.iload_n 2, 1) := by decide +kernel
theorem dX0_become_7 : decode cX0_become 7 = .ok (.putfield 40, 3) := by decide +kernel
theorem dX0_become_10 : decode cX0_become 10 = .ok (.aload_n 0, 1) := by decide +kernel
theorem dX0_become_11 : decode cX0_become 11 = .ok (.iload_n 3, 1) := by decide +kernel
theorem dX0_become_12 : decode cX0_become 12 = .ok (.putfield 44, 3) := by decide +kernel
theorem dX0_become_15 : decode cX0_become 15 = .ok (.aload_n 0, 1) := by decide +kernel
theorem dX0_become_16 : decode cX0_become 16 = .ok (.getfield 9, 3) := by decide +kernel
theorem dX0_become_19 : decode cX0_become 19 = .ok (.iconst 1, 1) := by decide +kernel
theorem dX0_become_20 : decode cX0_become 20 = .ok (.invokestatic 47, 3) := by decide +kernel
theorem dX0_become_23 : decode cX0_become 23 = .ok (.aload_n 0, 1) := by decide +kernel
theorem dX0_become_24 : decode cX0_become 24 = .ok (.getfield 15, 3) := by decide +kernel
theorem dX0_become_27 : decode cX0_become 27 = .ok (.iconst 1, 1) := by decide +kernel
theorem dX0_become_28 : decode cX0_become 28 = .ok (.invokestatic 47, 3) := by decide +kernel
theorem dX0_become_31 : decode cX0_become 31 = .ok (.aload_n 0, 1) := by decide +kernel
theorem dX0_become_32 : decode cX0_become 32 = .ok (.getfield 18, 3) := by decide +kernel
theorem dX0_become_35 : decode cX0_become 35 = .ok (.iconst 0, 1) := by decide +kernel
theorem dX0_become_36 : decode cX0_become 36 = .ok (.invokestatic 47, 3) := by decide +kernel
theorem dX0_become_39 : decode cX0_become 39 = .ok (.aload_n 0, 1) := by decide +kernel
theorem dX0_become_40 : decode cX0_become 40 = .ok (.iconst 0, 1) := by decide +kernel
theorem dX0_become_41 : decode cX0_become 41 = .ok (.putfield 53, 3) := by decide +kernel
theorem dX0_become_44 : decode cX0_become 44 = .ok (.aload_n 0, 1) := by decide +kernel
theorem dX0_become_45 : decode cX0_become 45 = .ok (.invokevirtual 56, 3) := by decide +kernel
theorem dX0_become_48 : decode cX0_become 48 = .ok (.aload_n 0, 1) := by decide +kernel
theorem dX0_become_49 : decode cX0_become 49 = .ok (.invokevirtual 59, 3) := by decide +kernel
theorem dX0_become_52 : decode cX0_become 52 = .ok (.return_, 1) := by decide +kernel
theorem dX0_forgetRun_0 : decode cX0_forgetRun 0 = .ok (.aload_n 0, 1) := by decide +kernel
theorem dX0_forgetRun_1 : decode cX0_forgetRun 1 = .ok (.getfield 30, 3) := by decide +kernel
theorem dX0_forgetRun_4 : decode cX0_forgetRun 4 = .ok (.bipush (-6), 2) := by decide +kernel
theorem dX0_forgetRun_6 : decode cX0_forgetRun 6 = .ok (.invokestatic 47, 3) := by decide +kernel
theorem dX0_forgetRun_9 : decode cX0_forgetRun 9 = .ok (.aload_n 0, 1) := by decide +kernel
theorem dX0_forgetRun_10 : decode cX0_forgetRun 10 = .ok (.iconst 0, 1) := by decide +kernel
theorem dX0_forgetRun_11 : decode cX0_forgetRun 11 = .ok (.putfield 62, 3) := by decide +kernel
theorem dX0_forgetRun_14 : decode cX0_forgetRun 14 = .ok (.aload_n 0, 1) := by decide +kernel
theorem dX0_forgetRun_15 : decode cX0_forgetRun 15 = .ok (.iconst 0, 1) := by decide +kernel
theorem dX0_forgetRun_16 : decode cX0_forgetRun 16 = .ok (.putfield 65, 3) := by decide +kernel
theorem dX0_forgetRun_19 : decode cX0_forgetRun 19 = .ok (.aload_n 0, 1) := by decide +kernel
theorem dX0_forgetRun_20 : decode cX0_forgetRun 20 = .ok (.iconst 0, 1) := by decide +kernel
theorem dX0_forgetRun_21 : decode cX0_forgetRun 21 = .ok (.putfield 68, 3) := by decide +kernel
theorem dX0_forgetRun_24 : decode cX0_forgetRun 24 = .ok (.aload_n 0, 1) := by decide +kernel
theorem dX0_forgetRun_25 : decode cX0_forgetRun 25 = .ok (.iconst 0, 1) := by decide +kernel
theorem dX0_forgetRun_26 : decode cX0_forgetRun 26 = .ok (.putfield 71, 3) := by decide +kernel
theorem dX0_forgetRun_29 : decode cX0_forgetRun 29 = .ok (.return_, 1) := by decide +kernel
theorem dX0_forgetGains_0 : decode cX0_forgetGains 0 = .ok (.aload_n 0, 1) := by decide +kernel
theorem dX0_forgetGains_1 : decode cX0_forgetGains 1 = .ok (.getfield 33, 3) := by decide +kernel
theorem dX0_forgetGains_4 : decode cX0_forgetGains 4 = .ok (.bipush (-6), 2) := by decide +kernel
theorem dX0_forgetGains_6 : decode cX0_forgetGains 6 = .ok (.invokestatic 47, 3) := by decide +kernel
theorem dX0_forgetGains_9 : decode cX0_forgetGains 9 = .ok (.return_, 1) := by decide +kernel
theorem dX0_putMode_0 : decode cX0_putMode 0 = .ok (.iload_n 1, 1) := by decide +kernel
theorem dX0_putMode_1 : decode cX0_putMode 1 = .ok (.iconst 0, 1) := by decide +kernel
theorem dX0_putMode_2 : decode cX0_putMode 2 = .ok (.iconst 2, 1) := by decide +kernel
theorem dX0_putMode_3 : decode cX0_putMode 3 = .ok (.invokestatic 74, 3) := by decide +kernel
theorem dX0_putMode_6 : decode cX0_putMode 6 = .ok (.ifCond .ne 5, 3) := by decide +kernel
theorem dX0_putMode_9 : decode cX0_putMode 9 = .ok (.iconst (-1), 1) := by decide +kernel
theorem dX0_putMode_10 : decode cX0_putMode 10 = .ok (.ireturn, 1) := by decide +kernel
theorem dX0_putMode_11 : decode cX0_putMode 11 = .ok (.iload_n 2, 1) := by decide +kernel
theorem dX0_putMode_12 : decode cX0_putMode 12 = .ok (.invokestatic 78, 3) := by decide +kernel
theorem dX0_putMode_15 : decode cX0_putMode 15 = .ok (.ifCond .eq 25, 3) := by decide +kernel
theorem dX0_putMode_18 : decode cX0_putMode 18 = .ok (.iload_n 3, 1) := by decide +kernel
theorem dX0_putMode_19 : decode cX0_putMode 19 = .ok (.iconst 1, 1) := by decide +kernel
theorem dX0_putMode_20 : decode cX0_putMode 20 = .ok (.sipush 500, 3) := by decide +kernel
theorem dX0_putMode_23 : decode cX0_putMode 23 = .ok (.invokestatic 74, 3) := by decide +kernel
theorem dX0_putMode_26 : decode cX0_putMode 26 = .ok (.ifCond .eq 14, 3) := by decide +kernel
theorem dX0_putMode_29 : decode cX0_putMode 29 = .ok (.iload 4, 2) := by decide +kernel
theorem dX0_putMode_31 : decode cX0_putMode 31 = .ok (.iconst 0, 1) := by decide +kernel
theorem dX0_putMode_32 : decode cX0_putMode 32 = .ok (.ldc 82, 2) := by decide +kernel
theorem dX0_putMode_34 : decode cX0_putMode 34 = .ok (.invokestatic 74, 3) := by decide +kernel
theorem dX0_putMode_37 : decode cX0_putMode 37 = .ok (.ifCond .ne 6, 3) := by decide +kernel
theorem dX0_putMode_40 : decode cX0_putMode 40 = .ok (.bipush (-2), 2) := by decide +kernel
theorem dX0_putMode_42 : decode cX0_putMode 42 = .ok (.ireturn, 1) := by decide +kernel
theorem dX0_putMode_43 : decode cX0_putMode 43 = .ok (.aload_n 0, 1) := by decide +kernel
theorem dX0_putMode_44 : decode cX0_putMode 44 = .ok (.getfield 9, 3) := by decide +kernel
theorem dX0_putMode_47 : decode cX0_putMode 47 = .ok (.iload_n 1, 1) := by decide +kernel
theorem dX0_putMode_48 : decode cX0_putMode 48 = .ok (.iload_n 2, 1) := by decide +kernel
theorem dX0_putMode_49 : decode cX0_putMode 49 = .ok (.iastore, 1) := by decide +kernel
theorem dX0_putMode_50 : decode cX0_putMode 50 = .ok (.aload_n 0, 1) := by decide +kernel
theorem dX0_putMode_51 : decode cX0_putMode 51 = .ok (.getfield 15, 3) := by decide +kernel
theorem dX0_putMode_54 : decode cX0_putMode 54 = .ok (.iload_n 1, 1) := by decide +kernel
theorem dX0_putMode_55 : decode cX0_putMode 55 = .ok (.iload_n 3, 1) := by decide +kernel
theorem dX0_putMode_56 : decode cX0_putMode 56 = .ok (.iastore, 1) := by decide +kernel
theorem dX0_putMode_57 : decode cX0_putMode 57 = .ok (.aload_n 0, 1) := by decide +kernel
theorem dX0_putMode_58 : decode cX0_putMode 58 = .ok (.getfield 18, 3) := by decide +kernel
theorem dX0_putMode_61 : decode cX0_putMode 61 = .ok (.iload_n 1, 1) := by decide +kernel
theorem dX0_putMode_62 : decode cX0_putMode 62 = .ok (.iload 4, 2) := by decide +kernel
theorem dX0_putMode_64 : decode cX0_putMode 64 = .ok (.iastore, 1) := by decide +kernel
theorem dX0_putMode_65 : decode cX0_putMode 65 = .ok (.aload_n 0, 1) := by decide +kernel
theorem dX0_putMode_66 : decode cX0_putMode 66 = .ok (.iload_n 2, 1) := by decide +kernel
theorem dX0_putMode_67 : decode cX0_putMode 67 = .ok (.invokevirtual 83, 3) := by decide +kernel
theorem dX0_putMode_70 : decode cX0_putMode 70 = .ok (.ireturn, 1) := by decide +kernel
theorem dX0_putNotch_0 : decode cX0_putNotch 0 = .ok (.iload_n 1, 1) := by decide +kernel
theorem dX0_putNotch_1 : decode cX0_putNotch 1 = .ok (.invokestatic 78, 3) := by decide +kernel
theorem dX0_putNotch_4 : decode cX0_putNotch 4 = .ok (.ifCond .eq 24, 3) := by decide +kernel
theorem dX0_putNotch_7 : decode cX0_putNotch 7 = .ok (.iload_n 2, 1) := by decide +kernel
theorem dX0_putNotch_8 : decode cX0_putNotch 8 = .ok (.iload_n 1, 1) := by decide +kernel
theorem dX0_putNotch_9 : decode cX0_putNotch 9 = .ok (.sipush 2000, 3) := by decide +kernel
theorem dX0_putNotch_12 : decode cX0_putNotch 12 = .ok (.invokestatic 74, 3) := by decide +kernel
theorem dX0_putNotch_15 : decode cX0_putNotch 15 = .ok (.ifCond .eq 13, 3) := by decide +kernel
theorem dX0_putNotch_18 : decode cX0_putNotch 18 = .ok (.iload_n 3, 1) := by decide +kernel
theorem dX0_putNotch_19 : decode cX0_putNotch 19 = .ok (.iconst 1, 1) := by decide +kernel
theorem dX0_putNotch_20 : decode cX0_putNotch 20 = .ok (.ldc 87, 2) := by decide +kernel
theorem dX0_putNotch_22 : decode cX0_putNotch 22 = .ok (.invokestatic 74, 3) := by decide +kernel
theorem dX0_putNotch_25 : decode cX0_putNotch 25 = .ok (.ifCond .ne 6, 3) := by decide +kernel
theorem dX0_putNotch_28 : decode cX0_putNotch 28 = .ok (.bipush (-2), 2) := by decide +kernel
theorem dX0_putNotch_30 : decode cX0_putNotch 30 = .ok (.ireturn, 1) := by decide +kernel
theorem dX0_putNotch_31 : decode cX0_putNotch 31 = .ok (.aload_n 0, 1) := by decide +kernel
theorem dX0_putNotch_32 : decode cX0_putNotch 32 = .ok (.getfield 53, 3) := by decide +kernel
theorem dX0_putNotch_35 : decode cX0_putNotch 35 = .ok (.iconst 4, 1) := by decide +kernel
theorem dX0_putNotch_36 : decode cX0_putNotch 36 = .ok (.if_icmp .lt 6, 3) := by decide +kernel
theorem dX0_putNotch_39 : decode cX0_putNotch 39 = .ok (.bipush (-4), 2) := by decide +kernel
theorem dX0_putNotch_41 : decode cX0_putNotch 41 = .ok (.ireturn, 1) := by decide +kernel
theorem dX0_putNotch_42 : decode cX0_putNotch 42 = .ok (.aload_n 0, 1) := by decide +kernel
theorem dX0_putNotch_43 : decode cX0_putNotch 43 = .ok (.getfield 21, 3) := by decide +kernel
theorem dX0_putNotch_46 : decode cX0_putNotch 46 = .ok (.aload_n 0, 1) := by decide +kernel
theorem dX0_putNotch_47 : decode cX0_putNotch 47 = .ok (.getfield 53, 3) := by decide +kernel
theorem dX0_putNotch_50 : decode cX0_putNotch 50 = .ok (.iload_n 1, 1) := by decide +kernel
theorem dX0_putNotch_51 : decode cX0_putNotch 51 = .ok (.iastore, 1) := by decide +kernel
theorem dX0_putNotch_52 : decode cX0_putNotch 52 = .ok (.aload_n 0, 1) := by decide +kernel
theorem dX0_putNotch_53 : decode cX0_putNotch 53 = .ok (.getfield 24, 3) := by decide +kernel
theorem dX0_putNotch_56 : decode cX0_putNotch 56 = .ok (.aload_n 0, 1) := by decide +kernel
theorem dX0_putNotch_57 : decode cX0_putNotch 57 = .ok (.getfield 53, 3) := by decide +kernel
theorem dX0_putNotch_60 : decode cX0_putNotch 60 = .ok (.iload_n 2, 1) := by decide +kernel
theorem dX0_putNotch_61 : decode cX0_putNotch 61 = .ok (.iastore, 1) := by decide +kernel
theorem dX0_putNotch_62 : decode cX0_putNotch 62 = .ok (.aload_n 0, 1) := by decide +kernel
theorem dX0_putNotch_63 : decode cX0_putNotch 63 = .ok (.getfield 27, 3) := by decide +kernel
theorem dX0_putNotch_66 : decode cX0_putNotch 66 = .ok (.aload_n 0, 1) := by decide +kernel
theorem dX0_putNotch_67 : decode cX0_putNotch 67 = .ok (.getfield 53, 3) := by decide +kernel
theorem dX0_putNotch_70 : decode cX0_putNotch 70 = .ok (.iload_n 3, 1) := by decide +kernel
theorem dX0_putNotch_71 : decode cX0_putNotch 71 = .ok (.iastore, 1) := by decide +kernel
theorem dX0_putNotch_72 : decode cX0_putNotch 72 = .ok (.aload_n 0, 1) := by decide +kernel
theorem dX0_putNotch_73 : decode cX0_putNotch 73 = .ok (.dup, 1) := by decide +kernel
theorem dX0_putNotch_74 : decode cX0_putNotch 74 = .ok (.getfield 53, 3) := by decide +kernel
theorem dX0_putNotch_77 : decode cX0_putNotch 77 = .ok (.iconst 1, 1) := by decide +kernel
theorem dX0_putNotch_78 : decode cX0_putNotch 78 = .ok (.iadd, 1) := by decide +kernel
theorem dX0_putNotch_79 : decode cX0_putNotch 79 = .ok (.putfield 53, 3) := by decide +kernel
theorem dX0_putNotch_82 : decode cX0_putNotch 82 = .ok (.aload_n 0, 1) := by decide +kernel
theorem dX0_putNotch_83 : decode cX0_putNotch 83 = .ok (.getfield 53, 3) := by decide +kernel
theorem dX0_putNotch_86 : decode cX0_putNotch 86 = .ok (.iconst 1, 1) := by decide +kernel
theorem dX0_putNotch_87 : decode cX0_putNotch 87 = .ok (.isub, 1) := by decide +kernel
theorem dX0_putNotch_88 : decode cX0_putNotch 88 = .ok (.ireturn, 1) := by decide +kernel
theorem dX0_gainAt_0 : decode cX0_gainAt 0 = .ok (.aload_n 0, 1) := by decide +kernel
theorem dX0_gainAt_1 : decode cX0_gainAt 1 = .ok (.getfield 40, 3) := by decide +kernel
theorem dX0_gainAt_4 : decode cX0_gainAt 4 = .ok (.i2l, 1) := by decide +kernel
theorem dX0_gainAt_5 : decode cX0_gainAt 5 = .ok (.lstore_n 2, 1) := by decide +kernel
theorem dX0_gainAt_6 : decode cX0_gainAt 6 = .ok (.iconst 0, 1) := by decide +kernel
theorem dX0_gainAt_7 : decode cX0_gainAt 7 = .ok (.istore 4, 2) := by decide +kernel
theorem dX0_gainAt_9 : decode cX0_gainAt 9 = .ok (.iload 4, 2) := by decide +kernel
theorem dX0_gainAt_11 : decode cX0_gainAt 11 = .ok (.iconst 3, 1) := by decide +kernel
theorem dX0_gainAt_12 : decode cX0_gainAt 12 = .ok (.if_icmp .ge 74, 3) := by decide +kernel
theorem dX0_gainAt_15 : decode cX0_gainAt 15 = .ok (.iload_n 1, 1) := by decide +kernel
theorem dX0_gainAt_16 : decode cX0_gainAt 16 = .ok (.aload_n 0, 1) := by decide +kernel
theorem dX0_gainAt_17 : decode cX0_gainAt 17 = .ok (.getfield 9, 3) := by decide +kernel
theorem dX0_gainAt_20 : decode cX0_gainAt 20 = .ok (.iload 4, 2) := by decide +kernel
theorem dX0_gainAt_22 : decode cX0_gainAt 22 = .ok (.iaload, 1) := by decide +kernel
theorem dX0_gainAt_23 : decode cX0_gainAt 23 = .ok (.isub, 1) := by decide +kernel
theorem dX0_gainAt_24 : decode cX0_gainAt 24 = .ok (.i2l, 1) := by decide +kernel
theorem dX0_gainAt_25 : decode cX0_gainAt 25 = .ok (.lstore 5, 2) := by decide +kernel
theorem dX0_gainAt_27 : decode cX0_gainAt 27 = .ok (.aload_n 0, 1) := by decide +kernel
theorem dX0_gainAt_28 : decode cX0_gainAt 28 = .ok (.getfield 15, 3) := by decide +kernel
theorem dX0_gainAt_31 : decode cX0_gainAt 31 = .ok (.iload 4, 2) := by decide +kernel
theorem dX0_gainAt_33 : decode cX0_gainAt 33 = .ok (.iaload, 1) := by decide +kernel
theorem dX0_gainAt_34 : decode cX0_gainAt 34 = .ok (.i2l, 1) := by decide +kernel
theorem dX0_gainAt_35 : decode cX0_gainAt 35 = .ok (.aload_n 0, 1) := by decide +kernel
theorem dX0_gainAt_36 : decode cX0_gainAt 36 = .ok (.getfield 15, 3) := by decide +kernel
theorem dX0_gainAt_39 : decode cX0_gainAt 39 = .ok (.iload 4, 2) := by decide +kernel
theorem dX0_gainAt_41 : decode cX0_gainAt 41 = .ok (.iaload, 1) := by decide +kernel
theorem dX0_gainAt_42 : decode cX0_gainAt 42 = .ok (.i2l, 1) := by decide +kernel
theorem dX0_gainAt_43 : decode cX0_gainAt 43 = .ok (.lmul, 1) := by decide +kernel
theorem dX0_gainAt_44 : decode cX0_gainAt 44 = .ok (.lstore 7, 2) := by decide +kernel
theorem dX0_gainAt_46 : decode cX0_gainAt 46 = .ok (.lload 7, 2) := by decide +kernel
theorem dX0_gainAt_48 : decode cX0_gainAt 48 = .ok (.lload 5, 2) := by decide +kernel
theorem dX0_gainAt_50 : decode cX0_gainAt 50 = .ok (.lload 5, 2) := by decide +kernel
theorem dX0_gainAt_52 : decode cX0_gainAt 52 = .ok (.lmul, 1) := by decide +kernel
theorem dX0_gainAt_53 : decode cX0_gainAt 53 = .ok (.ladd, 1) := by decide +kernel
theorem dX0_gainAt_54 : decode cX0_gainAt 54 = .ok (.lstore 9, 2) := by decide +kernel
theorem dX0_gainAt_56 : decode cX0_gainAt 56 = .ok (.lload 9, 2) := by decide +kernel
theorem dX0_gainAt_58 : decode cX0_gainAt 58 = .ok (.lconst 0, 1) := by decide +kernel
theorem dX0_gainAt_59 : decode cX0_gainAt 59 = .ok (.lcmp, 1) := by decide +kernel
theorem dX0_gainAt_60 : decode cX0_gainAt 60 = .ok (.ifCond .le 20, 3) := by decide +kernel
theorem dX0_gainAt_63 : decode cX0_gainAt 63 = .ok (.lload_n 2, 1) := by decide +kernel
theorem dX0_gainAt_64 : decode cX0_gainAt 64 = .ok (.aload_n 0, 1) := by decide +kernel
theorem dX0_gainAt_65 : decode cX0_gainAt 65 = .ok (.getfield 18, 3) := by decide +kernel
theorem dX0_gainAt_68 : decode cX0_gainAt 68 = .ok (.iload 4, 2) := by decide +kernel
theorem dX0_gainAt_70 : decode cX0_gainAt 70 = .ok (.iaload, 1) := by decide +kernel
theorem dX0_gainAt_71 : decode cX0_gainAt 71 = .ok (.i2l, 1) := by decide +kernel
theorem dX0_gainAt_72 : decode cX0_gainAt 72 = .ok (.lload 7, 2) := by decide +kernel
theorem dX0_gainAt_74 : decode cX0_gainAt 74 = .ok (.lmul, 1) := by decide +kernel
theorem dX0_gainAt_75 : decode cX0_gainAt 75 = .ok (.lload 9, 2) := by decide +kernel
theorem dX0_gainAt_77 : decode cX0_gainAt 77 = .ok (.ldiv, 1) := by decide +kernel
theorem dX0_gainAt_78 : decode cX0_gainAt 78 = .ok (.ladd, 1) := by decide +kernel
theorem dX0_gainAt_79 : decode cX0_gainAt 79 = .ok (.lstore_n 2, 1) := by decide +kernel
theorem dX0_gainAt_80 : decode cX0_gainAt 80 = .ok (.iinc 4 1, 3) := by decide +kernel
theorem dX0_gainAt_83 : decode cX0_gainAt 83 = .ok (.goto (-74), 3) := by decide +kernel
theorem dX0_gainAt_86 : decode cX0_gainAt 86 = .ok (.lload_n 2, 1) := by decide +kernel
theorem dX0_gainAt_87 : decode cX0_gainAt 87 = .ok (.l2i, 1) := by decide +kernel
theorem dX0_gainAt_88 : decode cX0_gainAt 88 = .ok (.ireturn, 1) := by decide +kernel
theorem dX0_limitAt_0 : decode cX0_limitAt 0 = .ok (.bipush (-6), 2) := by decide +kernel
theorem dX0_limitAt_2 : decode cX0_limitAt 2 = .ok (.istore_n 2, 1) := by decide +kernel
theorem dX0_limitAt_3 : decode cX0_limitAt 3 = .ok (.iconst 0, 1) := by decide +kernel
theorem dX0_limitAt_4 : decode cX0_limitAt 4 = .ok (.istore_n 3, 1) := by decide +kernel
theorem dX0_limitAt_5 : decode cX0_limitAt 5 = .ok (.iload_n 3, 1) := by decide +kernel
theorem dX0_limitAt_6 : decode cX0_limitAt 6 = .ok (.aload_n 0, 1) := by decide +kernel
theorem dX0_limitAt_7 : decode cX0_limitAt 7 = .ok (.getfield 53, 3) := by decide +kernel
theorem dX0_limitAt_10 : decode cX0_limitAt 10 = .ok (.if_icmp .ge 64, 3) := by decide +kernel
theorem dX0_limitAt_13 : decode cX0_limitAt 13 = .ok (.aload_n 0, 1) := by decide +kernel
theorem dX0_limitAt_14 : decode cX0_limitAt 14 = .ok (.getfield 21, 3) := by decide +kernel
theorem dX0_limitAt_17 : decode cX0_limitAt 17 = .ok (.iload_n 3, 1) := by decide +kernel
theorem dX0_limitAt_18 : decode cX0_limitAt 18 = .ok (.iaload, 1) := by decide +kernel
theorem dX0_limitAt_19 : decode cX0_limitAt 19 = .ok (.iload_n 1, 1) := by decide +kernel
theorem dX0_limitAt_20 : decode cX0_limitAt 20 = .ok (.if_icmp .gt 17, 3) := by decide +kernel
theorem dX0_limitAt_23 : decode cX0_limitAt 23 = .ok (.iload_n 1, 1) := by decide +kernel
theorem dX0_limitAt_24 : decode cX0_limitAt 24 = .ok (.aload_n 0, 1) := by decide +kernel
theorem dX0_limitAt_25 : decode cX0_limitAt 25 = .ok (.getfield 24, 3) := by decide +kernel
theorem dX0_limitAt_28 : decode cX0_limitAt 28 = .ok (.iload_n 3, 1) := by decide +kernel
theorem dX0_limitAt_29 : decode cX0_limitAt 29 = .ok (.iaload, 1) := by decide +kernel
theorem dX0_limitAt_30 : decode cX0_limitAt 30 = .ok (.if_icmp .gt 7, 3) := by decide +kernel
theorem dX0_limitAt_33 : decode cX0_limitAt 33 = .ok (.iconst 1, 1) := by decide +kernel
theorem dX0_limitAt_34 : decode cX0_limitAt 34 = .ok (.goto 4, 3) := by decide +kernel
theorem dX0_limitAt_37 : decode cX0_limitAt 37 = .ok (.iconst 0, 1) := by decide +kernel
theorem dX0_limitAt_38 : decode cX0_limitAt 38 = .ok (.istore 4, 2) := by decide +kernel
theorem dX0_limitAt_40 : decode cX0_limitAt 40 = .ok (.iload 4, 2) := by decide +kernel
theorem dX0_limitAt_42 : decode cX0_limitAt 42 = .ok (.ifCond .eq 26, 3) := by decide +kernel
theorem dX0_limitAt_45 : decode cX0_limitAt 45 = .ok (.iload_n 2, 1) := by decide +kernel
theorem dX0_limitAt_46 : decode cX0_limitAt 46 = .ok (.bipush (-6), 2) := by decide +kernel
theorem dX0_limitAt_48 : decode cX0_limitAt 48 = .ok (.if_icmp .eq 13, 3) := by decide +kernel
theorem dX0_limitAt_51 : decode cX0_limitAt 51 = .ok (.aload_n 0, 1) := by decide +kernel
theorem dX0_limitAt_52 : decode cX0_limitAt 52 = .ok (.getfield 27, 3) := by decide +kernel
theorem dX0_limitAt_55 : decode cX0_limitAt 55 = .ok (.iload_n 3, 1) := by decide +kernel
theorem dX0_limitAt_56 : decode cX0_limitAt 56 = .ok (.iaload, 1) := by decide +kernel
theorem dX0_limitAt_57 : decode cX0_limitAt 57 = .ok (.iload_n 2, 1) := by decide +kernel
theorem dX0_limitAt_58 : decode cX0_limitAt 58 = .ok (.if_icmp .ge 10, 3) := by decide +kernel
theorem dX0_limitAt_61 : decode cX0_limitAt 61 = .ok (.aload_n 0, 1) := by decide +kernel
theorem dX0_limitAt_62 : decode cX0_limitAt 62 = .ok (.getfield 27, 3) := by decide +kernel
theorem dX0_limitAt_65 : decode cX0_limitAt 65 = .ok (.iload_n 3, 1) := by decide +kernel
theorem dX0_limitAt_66 : decode cX0_limitAt 66 = .ok (.iaload, 1) := by decide +kernel
theorem dX0_limitAt_67 : decode cX0_limitAt 67 = .ok (.istore_n 2, 1) := by decide +kernel
theorem dX0_limitAt_68 : decode cX0_limitAt 68 = .ok (.iinc 3 1, 3) := by decide +kernel
theorem dX0_limitAt_71 : decode cX0_limitAt 71 = .ok (.goto (-66), 3) := by decide +kernel
theorem dX0_limitAt_74 : decode cX0_limitAt 74 = .ok (.iload_n 2, 1) := by decide +kernel
theorem dX0_limitAt_75 : decode cX0_limitAt 75 = .ok (.ireturn, 1) := by decide +kernel
theorem dX0_measure_0 : decode cX0_measure 0 = .ok (.aload_n 0, 1) := by decide +kernel
theorem dX0_measure_1 : decode cX0_measure 1 = .ok (.aload_n 0, 1) := by decide +kernel
theorem dX0_measure_2 : decode cX0_measure 2 = .ok (.iload_n 2, 1) := by decide +kernel
theorem dX0_measure_3 : decode cX0_measure 3 = .ok (.invokevirtual 83, 3) := by decide +kernel
theorem dX0_measure_6 : decode cX0_measure 6 = .ok (.i2l, 1) := by decide +kernel
theorem dX0_measure_7 : decode cX0_measure 7 = .ok (.iload_n 3, 1) := by decide +kernel
theorem dX0_measure_8 : decode cX0_measure 8 = .ok (.i2l, 1) := by decide +kernel
theorem dX0_measure_9 : decode cX0_measure 9 = .ok (.lmul, 1) := by decide +kernel
theorem dX0_measure_10 : decode cX0_measure 10 = .ok (.ldc2_w 88, 3) := by decide +kernel
theorem dX0_measure_13 : decode cX0_measure 13 = .ok (.ldiv, 1) := by decide +kernel
theorem dX0_measure_14 : decode cX0_measure 14 = .ok (.l2i, 1) := by decide +kernel
theorem dX0_measure_15 : decode cX0_measure 15 = .ok (.putfield 90, 3) := by decide +kernel
theorem dX0_measure_18 : decode cX0_measure 18 = .ok (.aload_n 0, 1) := by decide +kernel
theorem dX0_measure_19 : decode cX0_measure 19 = .ok (.aload_n 0, 1) := by decide +kernel
theorem dX0_measure_20 : decode cX0_measure 20 = .ok (.getfield 90, 3) := by decide +kernel
theorem dX0_measure_23 : decode cX0_measure 23 = .ok (.iload_n 3, 1) := by decide +kernel
theorem dX0_measure_24 : decode cX0_measure 24 = .ok (.invokestatic 93, 3) := by decide +kernel
theorem dX0_measure_27 : decode cX0_measure 27 = .ok (.putfield 97, 3) := by decide +kernel
theorem dX0_measure_30 : decode cX0_measure 30 = .ok (.aload_n 0, 1) := by decide +kernel
theorem dX0_measure_31 : decode cX0_measure 31 = .ok (.getfield 30, 3) := by decide +kernel
theorem dX0_measure_34 : decode cX0_measure 34 = .ok (.iload_n 1, 1) := by decide +kernel
theorem dX0_measure_35 : decode cX0_measure 35 = .ok (.aload_n 0, 1) := by decide +kernel
theorem dX0_measure_36 : decode cX0_measure 36 = .ok (.getfield 90, 3) := by decide +kernel
theorem dX0_measure_39 : decode cX0_measure 39 = .ok (.iastore, 1) := by decide +kernel
theorem dX0_measure_40 : decode cX0_measure 40 = .ok (.aload_n 0, 1) := by decide +kernel
theorem dX0_measure_41 : decode cX0_measure 41 = .ok (.getfield 33, 3) := by decide +kernel
theorem dX0_measure_44 : decode cX0_measure 44 = .ok (.iload_n 1, 1) := by decide +kernel
theorem dX0_measure_45 : decode cX0_measure 45 = .ok (.aload_n 0, 1) := by decide +kernel
theorem dX0_measure_46 : decode cX0_measure 46 = .ok (.getfield 33, 3) := by decide +kernel
theorem dX0_measure_49 : decode cX0_measure 49 = .ok (.iload_n 1, 1) := by decide +kernel
theorem dX0_measure_50 : decode cX0_measure 50 = .ok (.iaload, 1) := by decide +kernel
theorem dX0_measure_51 : decode cX0_measure 51 = .ok (.aload_n 0, 1) := by decide +kernel
theorem dX0_measure_52 : decode cX0_measure 52 = .ok (.getfield 97, 3) := by decide +kernel
theorem dX0_measure_55 : decode cX0_measure 55 = .ok (.iload 4, 2) := by decide +kernel
theorem dX0_measure_57 : decode cX0_measure 57 = .ok (.invokestatic 100, 3) := by decide +kernel
theorem dX0_measure_60 : decode cX0_measure 60 = .ok (.iastore, 1) := by decide +kernel
theorem dX0_measure_61 : decode cX0_measure 61 = .ok (.return_, 1) := by decide +kernel
theorem dX0_countLoop_0 : decode cX0_countLoop 0 = .ok (.aload_n 0, 1) := by decide +kernel
theorem dX0_countLoop_1 : decode cX0_countLoop 1 = .ok (.iload_n 1, 1) := by decide +kernel
theorem dX0_countLoop_2 : decode cX0_countLoop 2 = .ok (.invokevirtual 104, 3) := by decide +kernel
theorem dX0_countLoop_5 : decode cX0_countLoop 5 = .ok (.istore_n 2, 1) := by decide +kernel
theorem dX0_countLoop_6 : decode cX0_countLoop 6 = .ok (.iload_n 2, 1) := by decide +kernel
theorem dX0_countLoop_7 : decode cX0_countLoop 7 = .ok (.bipush (-6), 2) := by decide +kernel
theorem dX0_countLoop_9 : decode cX0_countLoop 9 = .ok (.if_icmp .eq 15, 3) := by decide +kernel
theorem dX0_countLoop_12 : decode cX0_countLoop 12 = .ok (.aload_n 0, 1) := by decide +kernel
theorem dX0_countLoop_13 : decode cX0_countLoop 13 = .ok (.getfield 90, 3) := by decide +kernel
theorem dX0_countLoop_16 : decode cX0_countLoop 16 = .ok (.iload_n 2, 1) := by decide +kernel
theorem dX0_countLoop_17 : decode cX0_countLoop 17 = .ok (.if_icmp .le 7, 3) := by decide +kernel
theorem dX0_countLoop_20 : decode cX0_countLoop 20 = .ok (.iconst 1, 1) := by decide +kernel
theorem dX0_countLoop_21 : decode cX0_countLoop 21 = .ok (.goto 4, 3) := by decide +kernel
theorem dX0_countLoop_24 : decode cX0_countLoop 24 = .ok (.iconst 0, 1) := by decide +kernel
theorem dX0_countLoop_25 : decode cX0_countLoop 25 = .ok (.istore_n 3, 1) := by decide +kernel
theorem dX0_countLoop_26 : decode cX0_countLoop 26 = .ok (.aload_n 0, 1) := by decide +kernel
theorem dX0_countLoop_27 : decode cX0_countLoop 27 = .ok (.iload_n 3, 1) := by decide +kernel
theorem dX0_countLoop_28 : decode cX0_countLoop 28 = .ok (.ifCond .eq 12, 3) := by decide +kernel
theorem dX0_countLoop_31 : decode cX0_countLoop 31 = .ok (.aload_n 0, 1) := by decide +kernel
theorem dX0_countLoop_32 : decode cX0_countLoop 32 = .ok (.getfield 62, 3) := by decide +kernel
theorem dX0_countLoop_35 : decode cX0_countLoop 35 = .ok (.iconst 1, 1) := by decide +kernel
theorem dX0_countLoop_36 : decode cX0_countLoop 36 = .ok (.iadd, 1) := by decide +kernel
theorem dX0_countLoop_37 : decode cX0_countLoop 37 = .ok (.goto 4, 3) := by decide +kernel
theorem dX0_countLoop_40 : decode cX0_countLoop 40 = .ok (.iconst 0, 1) := by decide +kernel
theorem dX0_countLoop_41 : decode cX0_countLoop 41 = .ok (.putfield 62, 3) := by decide +kernel
theorem dX0_countLoop_44 : decode cX0_countLoop 44 = .ok (.aload_n 0, 1) := by decide +kernel
theorem dX0_countLoop_45 : decode cX0_countLoop 45 = .ok (.aload_n 0, 1) := by decide +kernel
theorem dX0_countLoop_46 : decode cX0_countLoop 46 = .ok (.getfield 65, 3) := by decide +kernel
theorem dX0_countLoop_49 : decode cX0_countLoop 49 = .ok (.aload_n 0, 1) := by decide +kernel
theorem dX0_countLoop_50 : decode cX0_countLoop 50 = .ok (.getfield 62, 3) := by decide +kernel
theorem dX0_countLoop_53 : decode cX0_countLoop 53 = .ok (.invokestatic 107, 3) := by decide +kernel
theorem dX0_countLoop_56 : decode cX0_countLoop 56 = .ok (.putfield 65, 3) := by decide +kernel
theorem dX0_countLoop_59 : decode cX0_countLoop 59 = .ok (.iload_n 3, 1) := by decide +kernel
theorem dX0_countLoop_60 : decode cX0_countLoop 60 = .ok (.ifCond .eq 20, 3) := by decide +kernel
theorem dX0_countLoop_63 : decode cX0_countLoop 63 = .ok (.aload_n 0, 1) := by decide +kernel
theorem dX0_countLoop_64 : decode cX0_countLoop 64 = .ok (.aload_n 0, 1) := by decide +kernel
theorem dX0_countLoop_65 : decode cX0_countLoop 65 = .ok (.getfield 68, 3) := by decide +kernel
theorem dX0_countLoop_68 : decode cX0_countLoop 68 = .ok (.aload_n 0, 1) := by decide +kernel
theorem dX0_countLoop_69 : decode cX0_countLoop 69 = .ok (.getfield 90, 3) := by decide +kernel
theorem dX0_countLoop_72 : decode cX0_countLoop 72 = .ok (.iload_n 2, 1) := by decide +kernel
theorem dX0_countLoop_73 : decode cX0_countLoop 73 = .ok (.isub, 1) := by decide +kernel
theorem dX0_countLoop_74 : decode cX0_countLoop 74 = .ok (.invokestatic 107, 3) := by decide +kernel
theorem dX0_countLoop_77 : decode cX0_countLoop 77 = .ok (.putfield 68, 3) := by decide +kernel
theorem dX0_countLoop_80 : decode cX0_countLoop 80 = .ok (.aload_n 0, 1) := by decide +kernel
theorem dX0_countLoop_81 : decode cX0_countLoop 81 = .ok (.aload_n 0, 1) := by decide +kernel
theorem dX0_countLoop_82 : decode cX0_countLoop 82 = .ok (.getfield 90, 3) := by decide +kernel
theorem dX0_countLoop_85 : decode cX0_countLoop 85 = .ok (.aload_n 0, 1) := by decide +kernel
theorem dX0_countLoop_86 : decode cX0_countLoop 86 = .ok (.getfield 44, 3) := by decide +kernel
theorem dX0_countLoop_89 : decode cX0_countLoop 89 = .ok (.if_icmp .le 12, 3) := by decide +kernel
theorem dX0_countLoop_92 : decode cX0_countLoop 92 = .ok (.aload_n 0, 1) := by decide +kernel
theorem dX0_countLoop_93 : decode cX0_countLoop 93 = .ok (.getfield 71, 3) := by decide +kernel
theorem dX0_countLoop_96 : decode cX0_countLoop 96 = .ok (.iconst 1, 1) := by decide +kernel
theorem dX0_countLoop_97 : decode cX0_countLoop 97 = .ok (.iadd, 1) := by decide +kernel
theorem dX0_countLoop_98 : decode cX0_countLoop 98 = .ok (.goto 4, 3) := by decide +kernel
theorem dX0_countLoop_101 : decode cX0_countLoop 101 = .ok (.iconst 0, 1) := by decide +kernel
theorem dX0_countLoop_102 : decode cX0_countLoop 102 = .ok (.putfield 71, 3) := by decide +kernel
theorem dX0_countLoop_105 : decode cX0_countLoop 105 = .ok (.return_, 1) := by decide +kernel
theorem dX0_notchedDrive_0 : decode cX0_notchedDrive 0 = .ok (.aload_n 0, 1) := by decide +kernel
theorem dX0_notchedDrive_1 : decode cX0_notchedDrive 1 = .ok (.iload_n 2, 1) := by decide +kernel
theorem dX0_notchedDrive_2 : decode cX0_notchedDrive 2 = .ok (.invokevirtual 104, 3) := by decide +kernel
theorem dX0_notchedDrive_5 : decode cX0_notchedDrive 5 = .ok (.istore_n 3, 1) := by decide +kernel
theorem dX0_notchedDrive_6 : decode cX0_notchedDrive 6 = .ok (.aload_n 0, 1) := by decide +kernel
theorem dX0_notchedDrive_7 : decode cX0_notchedDrive 7 = .ok (.getfield 33, 3) := by decide +kernel
theorem dX0_notchedDrive_10 : decode cX0_notchedDrive 10 = .ok (.iload_n 1, 1) := by decide +kernel
theorem dX0_notchedDrive_11 : decode cX0_notchedDrive 11 = .ok (.iaload, 1) := by decide +kernel
theorem dX0_notchedDrive_12 : decode cX0_notchedDrive 12 = .ok (.bipush (-6), 2) := by decide +kernel
theorem dX0_notchedDrive_14 : decode cX0_notchedDrive 14 = .ok (.if_icmp .eq 12, 3) := by decide +kernel
theorem dX0_notchedDrive_17 : decode cX0_notchedDrive 17 = .ok (.aload_n 0, 1) := by decide +kernel
theorem dX0_notchedDrive_18 : decode cX0_notchedDrive 18 = .ok (.getfield 33, 3) := by decide +kernel
theorem dX0_notchedDrive_21 : decode cX0_notchedDrive 21 = .ok (.iload_n 1, 1) := by decide +kernel
theorem dX0_notchedDrive_22 : decode cX0_notchedDrive 22 = .ok (.iaload, 1) := by decide +kernel
theorem dX0_notchedDrive_23 : decode cX0_notchedDrive 23 = .ok (.goto 7, 3) := by decide +kernel
theorem dX0_notchedDrive_26 : decode cX0_notchedDrive 26 = .ok (.aload_n 0, 1) := by decide +kernel
theorem dX0_notchedDrive_27 : decode cX0_notchedDrive 27 = .ok (.getfield 97, 3) := by decide +kernel
theorem dX0_notchedDrive_30 : decode cX0_notchedDrive 30 = .ok (.istore 4, 2) := by decide +kernel
theorem dX0_notchedDrive_32 : decode cX0_notchedDrive 32 = .ok (.iload_n 3, 1) := by decide +kernel
theorem dX0_notchedDrive_33 : decode cX0_notchedDrive 33 = .ok (.bipush (-6), 2) := by decide +kernel
theorem dX0_notchedDrive_35 : decode cX0_notchedDrive 35 = .ok (.if_icmp .eq 22, 3) := by decide +kernel
theorem dX0_notchedDrive_38 : decode cX0_notchedDrive 38 = .ok (.iload 4, 2) := by decide +kernel
theorem dX0_notchedDrive_40 : decode cX0_notchedDrive 40 = .ok (.ifCond .le 17, 3) := by decide +kernel
theorem dX0_notchedDrive_43 : decode cX0_notchedDrive 43 = .ok (.iload_n 3, 1) := by decide +kernel
theorem dX0_notchedDrive_44 : decode cX0_notchedDrive 44 = .ok (.i2l, 1) := by decide +kernel
theorem dX0_notchedDrive_45 : decode cX0_notchedDrive 45 = .ok (.ldc2_w 88, 3) := by decide +kernel
theorem dX0_notchedDrive_48 : decode cX0_notchedDrive 48 = .ok (.lmul, 1) := by decide +kernel
theorem dX0_notchedDrive_49 : decode cX0_notchedDrive 49 = .ok (.iload 4, 2) := by decide +kernel
theorem dX0_notchedDrive_51 : decode cX0_notchedDrive 51 = .ok (.i2l, 1) := by decide +kernel
theorem dX0_notchedDrive_52 : decode cX0_notchedDrive 52 = .ok (.ldiv, 1) := by decide +kernel
theorem dX0_notchedDrive_53 : decode cX0_notchedDrive 53 = .ok (.l2i, 1) := by decide +kernel
theorem dX0_notchedDrive_54 : decode cX0_notchedDrive 54 = .ok (.goto 5, 3) := by decide +kernel
theorem dX0_notchedDrive_57 : decode cX0_notchedDrive 57 = .ok (.bipush (-6), 2) := by decide +kernel
theorem dX0_notchedDrive_59 : decode cX0_notchedDrive 59 = .ok (.ireturn, 1) := by decide +kernel
theorem dX0_propertyOf_0 : decode cX0_propertyOf 0 = .ok (.iload_n 1, 1) := by decide +kernel
theorem dX0_propertyOf_1 : decode cX0_propertyOf 1 = .ok (.tableswitch 86 0 6 #[43, 56, 61, 66, 71, 76, 81], 43) := by decide +kernel
theorem dX0_propertyOf_44 : decode cX0_propertyOf 44 = .ok (.aload_n 0, 1) := by decide +kernel
theorem dX0_propertyOf_45 : decode cX0_propertyOf 45 = .ok (.getfield 36, 3) := by decide +kernel
theorem dX0_propertyOf_48 : decode cX0_propertyOf 48 = .ok (.ifCond .eq 7, 3) := by decide +kernel
theorem dX0_propertyOf_51 : decode cX0_propertyOf 51 = .ok (.iconst 1, 1) := by decide +kernel
theorem dX0_propertyOf_52 : decode cX0_propertyOf 52 = .ok (.goto 4, 3) := by decide +kernel
theorem dX0_propertyOf_55 : decode cX0_propertyOf 55 = .ok (.iconst 0, 1) := by decide +kernel
theorem dX0_propertyOf_56 : decode cX0_propertyOf 56 = .ok (.ireturn, 1) := by decide +kernel
theorem dX0_propertyOf_57 : decode cX0_propertyOf 57 = .ok (.aload_n 0, 1) := by decide +kernel
theorem dX0_propertyOf_58 : decode cX0_propertyOf 58 = .ok (.getfield 40, 3) := by decide +kernel
theorem dX0_propertyOf_61 : decode cX0_propertyOf 61 = .ok (.ireturn, 1) := by decide +kernel
theorem dX0_propertyOf_62 : decode cX0_propertyOf 62 = .ok (.aload_n 0, 1) := by decide +kernel
theorem dX0_propertyOf_63 : decode cX0_propertyOf 63 = .ok (.getfield 44, 3) := by decide +kernel
theorem dX0_propertyOf_66 : decode cX0_propertyOf 66 = .ok (.ireturn, 1) := by decide +kernel
theorem dX0_propertyOf_67 : decode cX0_propertyOf 67 = .ok (.aload_n 0, 1) := by decide +kernel
theorem dX0_propertyOf_68 : decode cX0_propertyOf 68 = .ok (.getfield 53, 3) := by decide +kernel
theorem dX0_propertyOf_71 : decode cX0_propertyOf 71 = .ok (.ireturn, 1) := by decide +kernel
theorem dX0_propertyOf_72 : decode cX0_propertyOf 72 = .ok (.aload_n 0, 1) := by decide +kernel
theorem dX0_propertyOf_73 : decode cX0_propertyOf 73 = .ok (.getfield 62, 3) := by decide +kernel
theorem dX0_propertyOf_76 : decode cX0_propertyOf 76 = .ok (.ireturn, 1) := by decide +kernel
theorem dX0_propertyOf_77 : decode cX0_propertyOf 77 = .ok (.aload_n 0, 1) := by decide +kernel
theorem dX0_propertyOf_78 : decode cX0_propertyOf 78 = .ok (.getfield 65, 3) := by decide +kernel
theorem dX0_propertyOf_81 : decode cX0_propertyOf 81 = .ok (.ireturn, 1) := by decide +kernel
theorem dX0_propertyOf_82 : decode cX0_propertyOf 82 = .ok (.aload_n 0, 1) := by decide +kernel
theorem dX0_propertyOf_83 : decode cX0_propertyOf 83 = .ok (.getfield 68, 3) := by decide +kernel
theorem dX0_propertyOf_86 : decode cX0_propertyOf 86 = .ok (.ireturn, 1) := by decide +kernel
theorem dX0_propertyOf_87 : decode cX0_propertyOf 87 = .ok (.aload_n 0, 1) := by decide +kernel
theorem dX0_propertyOf_88 : decode cX0_propertyOf 88 = .ok (.getfield 71, 3) := by decide +kernel
theorem dX0_propertyOf_91 : decode cX0_propertyOf 91 = .ok (.ireturn, 1) := by decide +kernel
theorem dX0_resonanceAt_0 : decode cX0_resonanceAt 0 = .ok (.iconst 0, 1) := by decide +kernel
theorem dX0_resonanceAt_1 : decode cX0_resonanceAt 1 = .ok (.istore_n 3, 1) := by decide +kernel
theorem dX0_resonanceAt_2 : decode cX0_resonanceAt 2 = .ok (.iload_n 3, 1) := by decide +kernel
theorem dX0_resonanceAt_3 : decode cX0_resonanceAt 3 = .ok (.iload_n 2, 1) := by decide +kernel
theorem dX0_resonanceAt_4 : decode cX0_resonanceAt 4 = .ok (.if_icmp .ge 30, 3) := by decide +kernel
theorem dX0_resonanceAt_7 : decode cX0_resonanceAt 7 = .ok (.aload_n 0, 1) := by decide +kernel
theorem dX0_resonanceAt_8 : decode cX0_resonanceAt 8 = .ok (.iload_n 3, 1) := by decide +kernel
theorem dX0_resonanceAt_9 : decode cX0_resonanceAt 9 = .ok (.iload_n 2, 1) := by decide +kernel
theorem dX0_resonanceAt_10 : decode cX0_resonanceAt 10 = .ok (.invokevirtual 112, 3) := by decide +kernel
theorem dX0_resonanceAt_13 : decode cX0_resonanceAt 13 = .ok (.ifCond .eq 15, 3) := by decide +kernel
theorem dX0_resonanceAt_16 : decode cX0_resonanceAt 16 = .ok (.aload_n 0, 1) := by decide +kernel
theorem dX0_resonanceAt_17 : decode cX0_resonanceAt 17 = .ok (.iload_n 3, 1) := by decide +kernel
theorem dX0_resonanceAt_18 : decode cX0_resonanceAt 18 = .ok (.iload_n 2, 1) := by decide +kernel
theorem dX0_resonanceAt_19 : decode cX0_resonanceAt 19 = .ok (.invokevirtual 116, 3) := by decide +kernel
theorem dX0_resonanceAt_22 : decode cX0_resonanceAt 22 = .ok (.iload_n 1, 1) := by decide +kernel
theorem dX0_resonanceAt_23 : decode cX0_resonanceAt 23 = .ok (.if_icmp .ne 5, 3) := by decide +kernel
theorem dX0_resonanceAt_26 : decode cX0_resonanceAt 26 = .ok (.iload_n 3, 1) := by decide +kernel
theorem dX0_resonanceAt_27 : decode cX0_resonanceAt 27 = .ok (.ireturn, 1) := by decide +kernel
theorem dX0_resonanceAt_28 : decode cX0_resonanceAt 28 = .ok (.iinc 3 1, 3) := by decide +kernel
theorem dX0_resonanceAt_31 : decode cX0_resonanceAt 31 = .ok (.goto (-29), 3) := by decide +kernel
theorem dX0_resonanceAt_34 : decode cX0_resonanceAt 34 = .ok (.bipush (-6), 2) := by decide +kernel
theorem dX0_resonanceAt_36 : decode cX0_resonanceAt 36 = .ok (.ireturn, 1) := by decide +kernel
theorem dX0_resonancesAhead_0 : decode cX0_resonancesAhead 0 = .ok (.iconst 0, 1) := by decide +kernel
theorem dX0_resonancesAhead_1 : decode cX0_resonancesAhead 1 = .ok (.istore_n 3, 1) := by decide +kernel
theorem dX0_resonancesAhead_2 : decode cX0_resonancesAhead 2 = .ok (.iconst 0, 1) := by decide +kernel
theorem dX0_resonancesAhead_3 : decode cX0_resonancesAhead 3 = .ok (.istore 4, 2) := by decide +kernel
theorem dX0_resonancesAhead_5 : decode cX0_resonancesAhead 5 = .ok (.iload 4, 2) := by decide +kernel
theorem dX0_resonancesAhead_7 : decode cX0_resonancesAhead 7 = .ok (.iload_n 2, 1) := by decide +kernel
theorem dX0_resonancesAhead_8 : decode cX0_resonancesAhead 8 = .ok (.if_icmp .ge 72, 3) := by decide +kernel
theorem dX0_resonancesAhead_11 : decode cX0_resonancesAhead 11 = .ok (.aload_n 0, 1) := by decide +kernel
theorem dX0_resonancesAhead_12 : decode cX0_resonancesAhead 12 = .ok (.getfield 33, 3) := by decide +kernel
theorem dX0_resonancesAhead_15 : decode cX0_resonancesAhead 15 = .ok (.iload 4, 2) := by decide +kernel
theorem dX0_resonancesAhead_17 : decode cX0_resonancesAhead 17 = .ok (.iaload, 1) := by decide +kernel
theorem dX0_resonancesAhead_18 : decode cX0_resonancesAhead 18 = .ok (.aload_n 0, 1) := by decide +kernel
theorem dX0_resonancesAhead_19 : decode cX0_resonancesAhead 19 = .ok (.getfield 33, 3) := by decide +kernel
theorem dX0_resonancesAhead_22 : decode cX0_resonancesAhead 22 = .ok (.iload_n 1, 1) := by decide +kernel
theorem dX0_resonancesAhead_23 : decode cX0_resonancesAhead 23 = .ok (.iaload, 1) := by decide +kernel
theorem dX0_resonancesAhead_24 : decode cX0_resonancesAhead 24 = .ok (.if_icmp .gt 25, 3) := by decide +kernel
theorem dX0_resonancesAhead_27 : decode cX0_resonancesAhead 27 = .ok (.aload_n 0, 1) := by decide +kernel
theorem dX0_resonancesAhead_28 : decode cX0_resonancesAhead 28 = .ok (.getfield 33, 3) := by decide +kernel
theorem dX0_resonancesAhead_31 : decode cX0_resonancesAhead 31 = .ok (.iload 4, 2) := by decide +kernel
theorem dX0_resonancesAhead_33 : decode cX0_resonancesAhead 33 = .ok (.iaload, 1) := by decide +kernel
theorem dX0_resonancesAhead_34 : decode cX0_resonancesAhead 34 = .ok (.aload_n 0, 1) := by decide +kernel
theorem dX0_resonancesAhead_35 : decode cX0_resonancesAhead 35 = .ok (.getfield 33, 3) := by decide +kernel
theorem dX0_resonancesAhead_38 : decode cX0_resonancesAhead 38 = .ok (.iload_n 1, 1) := by decide +kernel
theorem dX0_resonancesAhead_39 : decode cX0_resonancesAhead 39 = .ok (.iaload, 1) := by decide +kernel
theorem dX0_resonancesAhead_40 : decode cX0_resonancesAhead 40 = .ok (.if_icmp .ne 13, 3) := by decide +kernel
theorem dX0_resonancesAhead_43 : decode cX0_resonancesAhead 43 = .ok (.iload 4, 2) := by decide +kernel
theorem dX0_resonancesAhead_45 : decode cX0_resonancesAhead 45 = .ok (.iload_n 1, 1) := by decide +kernel
theorem dX0_resonancesAhead_46 : decode cX0_resonancesAhead 46 = .ok (.if_icmp .ge 7, 3) := by decide +kernel
theorem dX0_resonancesAhead_49 : decode cX0_resonancesAhead 49 = .ok (.iconst 1, 1) := by decide +kernel
theorem dX0_resonancesAhead_50 : decode cX0_resonancesAhead 50 = .ok (.goto 4, 3) := by decide +kernel
theorem dX0_resonancesAhead_53 : decode cX0_resonancesAhead 53 = .ok (.iconst 0, 1) := by decide +kernel
theorem dX0_resonancesAhead_54 : decode cX0_resonancesAhead 54 = .ok (.istore 5, 2) := by decide +kernel
theorem dX0_resonancesAhead_56 : decode cX0_resonancesAhead 56 = .ok (.iload 5, 2) := by decide +kernel
theorem dX0_resonancesAhead_58 : decode cX0_resonancesAhead 58 = .ok (.ifCond .eq 16, 3) := by decide +kernel
theorem dX0_resonancesAhead_61 : decode cX0_resonancesAhead 61 = .ok (.aload_n 0, 1) := by decide +kernel
theorem dX0_resonancesAhead_62 : decode cX0_resonancesAhead 62 = .ok (.iload 4, 2) := by decide +kernel
theorem dX0_resonancesAhead_64 : decode cX0_resonancesAhead 64 = .ok (.iload_n 2, 1) := by decide +kernel
theorem dX0_resonancesAhead_65 : decode cX0_resonancesAhead 65 = .ok (.invokevirtual 112, 3) := by decide +kernel
theorem dX0_resonancesAhead_68 : decode cX0_resonancesAhead 68 = .ok (.ifCond .eq 6, 3) := by decide +kernel
theorem dX0_resonancesAhead_71 : decode cX0_resonancesAhead 71 = .ok (.iinc 3 1, 3) := by decide +kernel
theorem dX0_resonancesAhead_74 : decode cX0_resonancesAhead 74 = .ok (.iinc 4 1, 3) := by decide +kernel
theorem dX0_resonancesAhead_77 : decode cX0_resonancesAhead 77 = .ok (.goto (-72), 3) := by decide +kernel
theorem dX0_resonancesAhead_80 : decode cX0_resonancesAhead 80 = .ok (.iload_n 3, 1) := by decide +kernel
theorem dX0_resonancesAhead_81 : decode cX0_resonancesAhead 81 = .ok (.ireturn, 1) := by decide +kernel
theorem dX0_isResonance_0 : decode cX0_isResonance 0 = .ok (.aload_n 0, 1) := by decide +kernel
theorem dX0_isResonance_1 : decode cX0_isResonance 1 = .ok (.getfield 33, 3) := by decide +kernel
theorem dX0_isResonance_4 : decode cX0_isResonance 4 = .ok (.iload_n 1, 1) := by decide +kernel
theorem dX0_isResonance_5 : decode cX0_isResonance 5 = .ok (.iaload, 1) := by decide +kernel
theorem dX0_isResonance_6 : decode cX0_isResonance 6 = .ok (.istore_n 3, 1) := by decide +kernel
theorem dX0_isResonance_7 : decode cX0_isResonance 7 = .ok (.iload_n 3, 1) := by decide +kernel
theorem dX0_isResonance_8 : decode cX0_isResonance 8 = .ok (.bipush (-6), 2) := by decide +kernel
theorem dX0_isResonance_10 : decode cX0_isResonance 10 = .ok (.if_icmp .eq 31, 3) := by decide +kernel
theorem dX0_isResonance_13 : decode cX0_isResonance 13 = .ok (.iload_n 3, 1) := by decide +kernel
theorem dX0_isResonance_14 : decode cX0_isResonance 14 = .ok (.aload_n 0, 1) := by decide +kernel
theorem dX0_isResonance_15 : decode cX0_isResonance 15 = .ok (.iload_n 1, 1) := by decide +kernel
theorem dX0_isResonance_16 : decode cX0_isResonance 16 = .ok (.iconst 1, 1) := by decide +kernel
theorem dX0_isResonance_17 : decode cX0_isResonance 17 = .ok (.isub, 1) := by decide +kernel
theorem dX0_isResonance_18 : decode cX0_isResonance 18 = .ok (.iload_n 2, 1) := by decide +kernel
theorem dX0_isResonance_19 : decode cX0_isResonance 19 = .ok (.invokevirtual 119, 3) := by decide +kernel
theorem dX0_isResonance_22 : decode cX0_isResonance 22 = .ok (.if_icmp .le 19, 3) := by decide +kernel
theorem dX0_isResonance_25 : decode cX0_isResonance 25 = .ok (.iload_n 3, 1) := by decide +kernel
theorem dX0_isResonance_26 : decode cX0_isResonance 26 = .ok (.aload_n 0, 1) := by decide +kernel
theorem dX0_isResonance_27 : decode cX0_isResonance 27 = .ok (.iload_n 1, 1) := by decide +kernel
theorem dX0_isResonance_28 : decode cX0_isResonance 28 = .ok (.iconst 1, 1) := by decide +kernel
theorem dX0_isResonance_29 : decode cX0_isResonance 29 = .ok (.iadd, 1) := by decide +kernel
theorem dX0_isResonance_30 : decode cX0_isResonance 30 = .ok (.iload_n 2, 1) := by decide +kernel
theorem dX0_isResonance_31 : decode cX0_isResonance 31 = .ok (.invokevirtual 119, 3) := by decide +kernel
theorem dX0_isResonance_34 : decode cX0_isResonance 34 = .ok (.if_icmp .le 7, 3) := by decide +kernel
theorem dX0_isResonance_37 : decode cX0_isResonance 37 = .ok (.iconst 1, 1) := by decide +kernel
theorem dX0_isResonance_38 : decode cX0_isResonance 38 = .ok (.goto 4, 3) := by decide +kernel
theorem dX0_isResonance_41 : decode cX0_isResonance 41 = .ok (.iconst 0, 1) := by decide +kernel
theorem dX0_isResonance_42 : decode cX0_isResonance 42 = .ok (.ireturn, 1) := by decide +kernel
theorem dX0_gainOfLine_0 : decode cX0_gainOfLine 0 = .ok (.iload_n 1, 1) := by decide +kernel
theorem dX0_gainOfLine_1 : decode cX0_gainOfLine 1 = .ok (.iconst 0, 1) := by decide +kernel
theorem dX0_gainOfLine_2 : decode cX0_gainOfLine 2 = .ok (.iload_n 2, 1) := by decide +kernel
theorem dX0_gainOfLine_3 : decode cX0_gainOfLine 3 = .ok (.iconst 1, 1) := by decide +kernel
theorem dX0_gainOfLine_4 : decode cX0_gainOfLine 4 = .ok (.isub, 1) := by decide +kernel
theorem dX0_gainOfLine_5 : decode cX0_gainOfLine 5 = .ok (.invokestatic 74, 3) := by decide +kernel
theorem dX0_gainOfLine_8 : decode cX0_gainOfLine 8 = .ok (.ifCond .eq 12, 3) := by decide +kernel
theorem dX0_gainOfLine_11 : decode cX0_gainOfLine 11 = .ok (.aload_n 0, 1) := by decide +kernel
theorem dX0_gainOfLine_12 : decode cX0_gainOfLine 12 = .ok (.getfield 33, 3) := by decide +kernel
theorem dX0_gainOfLine_15 : decode cX0_gainOfLine 15 = .ok (.iload_n 1, 1) := by decide +kernel
theorem dX0_gainOfLine_16 : decode cX0_gainOfLine 16 = .ok (.iaload, 1) := by decide +kernel
theorem dX0_gainOfLine_17 : decode cX0_gainOfLine 17 = .ok (.goto 5, 3) := by decide +kernel
theorem dX0_gainOfLine_20 : decode cX0_gainOfLine 20 = .ok (.bipush (-6), 2) := by decide +kernel
theorem dX0_gainOfLine_22 : decode cX0_gainOfLine 22 = .ok (.ireturn, 1) := by decide +kernel
theorem dX0_copyFrom_0 : decode cX0_copyFrom 0 = .ok (.aload_n 0, 1) := by decide +kernel
theorem dX0_copyFrom_1 : decode cX0_copyFrom 1 = .ok (.aload_n 1, 1) := by decide +kernel
theorem dX0_copyFrom_2 : decode cX0_copyFrom 2 = .ok (.getfield 36, 3) := by decide +kernel
theorem dX0_copyFrom_5 : decode cX0_copyFrom 5 = .ok (.putfield 36, 3) := by decide +kernel
theorem dX0_copyFrom_8 : decode cX0_copyFrom 8 = .ok (.aload_n 0, 1) := by decide +kernel
theorem dX0_copyFrom_9 : decode cX0_copyFrom 9 = .ok (.aload_n 1, 1) := by decide +kernel
theorem dX0_copyFrom_10 : decode cX0_copyFrom 10 = .ok (.getfield 40, 3) := by decide +kernel
theorem dX0_copyFrom_13 : decode cX0_copyFrom 13 = .ok (.putfield 40, 3) := by decide +kernel
theorem dX0_copyFrom_16 : decode cX0_copyFrom 16 = .ok (.aload_n 0, 1) := by decide +kernel
theorem dX0_copyFrom_17 : decode cX0_copyFrom 17 = .ok (.aload_n 1, 1) := by decide +kernel
theorem dX0_copyFrom_18 : decode cX0_copyFrom 18 = .ok (.getfield 44, 3) := by decide +kernel
theorem dX0_copyFrom_21 : decode cX0_copyFrom 21 = .ok (.putfield 44, 3) := by decide +kernel
theorem dX0_copyFrom_24 : decode cX0_copyFrom 24 = .ok (.aload_n 1, 1) := by decide +kernel
theorem dX0_copyFrom_25 : decode cX0_copyFrom 25 = .ok (.getfield 9, 3) := by decide +kernel
theorem dX0_copyFrom_28 : decode cX0_copyFrom 28 = .ok (.aload_n 0, 1) := by decide +kernel
theorem dX0_copyFrom_29 : decode cX0_copyFrom 29 = .ok (.getfield 9, 3) := by decide +kernel
theorem dX0_copyFrom_32 : decode cX0_copyFrom 32 = .ok (.invokestatic 122, 3) := by decide +kernel
theorem dX0_copyFrom_35 : decode cX0_copyFrom 35 = .ok (.aload_n 1, 1) := by decide +kernel
theorem dX0_copyFrom_36 : decode cX0_copyFrom 36 = .ok (.getfield 15, 3) := by decide +kernel
theorem dX0_copyFrom_39 : decode cX0_copyFrom 39 = .ok (.aload_n 0, 1) := by decide +kernel
theorem dX0_copyFrom_40 : decode cX0_copyFrom 40 = .ok (.getfield 15, 3) := by decide +kernel
theorem dX0_copyFrom_43 : decode cX0_copyFrom 43 = .ok (.invokestatic 122, 3) := by decide +kernel
theorem dX0_copyFrom_46 : decode cX0_copyFrom 46 = .ok (.aload_n 1, 1) := by decide +kernel
theorem dX0_copyFrom_47 : decode cX0_copyFrom 47 = .ok (.getfield 18, 3) := by decide +kernel
theorem dX0_copyFrom_50 : decode cX0_copyFrom 50 = .ok (.aload_n 0, 1) := by decide +kernel
theorem dX0_copyFrom_51 : decode cX0_copyFrom 51 = .ok (.getfield 18, 3) := by decide +kernel
theorem dX0_copyFrom_54 : decode cX0_copyFrom 54 = .ok (.invokestatic 122, 3) := by decide +kernel
theorem dX0_copyFrom_57 : decode cX0_copyFrom 57 = .ok (.aload_n 1, 1) := by decide +kernel
theorem dX0_copyFrom_58 : decode cX0_copyFrom 58 = .ok (.getfield 21, 3) := by decide +kernel
theorem dX0_copyFrom_61 : decode cX0_copyFrom 61 = .ok (.aload_n 0, 1) := by decide +kernel
theorem dX0_copyFrom_62 : decode cX0_copyFrom 62 = .ok (.getfield 21, 3) := by decide +kernel
theorem dX0_copyFrom_65 : decode cX0_copyFrom 65 = .ok (.invokestatic 122, 3) := by decide +kernel
theorem dX0_copyFrom_68 : decode cX0_copyFrom 68 = .ok (.aload_n 1, 1) := by decide +kernel
theorem dX0_copyFrom_69 : decode cX0_copyFrom 69 = .ok (.getfield 24, 3) := by decide +kernel
theorem dX0_copyFrom_72 : decode cX0_copyFrom 72 = .ok (.aload_n 0, 1) := by decide +kernel
theorem dX0_copyFrom_73 : decode cX0_copyFrom 73 = .ok (.getfield 24, 3) := by decide +kernel
theorem dX0_copyFrom_76 : decode cX0_copyFrom 76 = .ok (.invokestatic 122, 3) := by decide +kernel
theorem dX0_copyFrom_79 : decode cX0_copyFrom 79 = .ok (.aload_n 1, 1) := by decide +kernel
theorem dX0_copyFrom_80 : decode cX0_copyFrom 80 = .ok (.getfield 27, 3) := by decide +kernel
theorem dX0_copyFrom_83 : decode cX0_copyFrom 83 = .ok (.aload_n 0, 1) := by decide +kernel
theorem dX0_copyFrom_84 : decode cX0_copyFrom 84 = .ok (.getfield 27, 3) := by decide +kernel
theorem dX0_copyFrom_87 : decode cX0_copyFrom 87 = .ok (.invokestatic 122, 3) := by decide +kernel
theorem dX0_copyFrom_90 : decode cX0_copyFrom 90 = .ok (.aload_n 0, 1) := by decide +kernel
theorem dX0_copyFrom_91 : decode cX0_copyFrom 91 = .ok (.aload_n 1, 1) := by decide +kernel
theorem dX0_copyFrom_92 : decode cX0_copyFrom 92 = .ok (.getfield 53, 3) := by decide +kernel
theorem dX0_copyFrom_95 : decode cX0_copyFrom 95 = .ok (.putfield 53, 3) := by decide +kernel
theorem dX0_copyFrom_98 : decode cX0_copyFrom 98 = .ok (.aload_n 1, 1) := by decide +kernel
theorem dX0_copyFrom_99 : decode cX0_copyFrom 99 = .ok (.getfield 30, 3) := by decide +kernel
theorem dX0_copyFrom_102 : decode cX0_copyFrom 102 = .ok (.aload_n 0, 1) := by decide +kernel
theorem dX0_copyFrom_103 : decode cX0_copyFrom 103 = .ok (.getfield 30, 3) := by decide +kernel
theorem dX0_copyFrom_106 : decode cX0_copyFrom 106 = .ok (.invokestatic 122, 3) := by decide +kernel
theorem dX0_copyFrom_109 : decode cX0_copyFrom 109 = .ok (.aload_n 1, 1) := by decide +kernel
theorem dX0_copyFrom_110 : decode cX0_copyFrom 110 = .ok (.getfield 33, 3) := by decide +kernel
theorem dX0_copyFrom_113 : decode cX0_copyFrom 113 = .ok (.aload_n 0, 1) := by decide +kernel
theorem dX0_copyFrom_114 : decode cX0_copyFrom 114 = .ok (.getfield 33, 3) := by decide +kernel
theorem dX0_copyFrom_117 : decode cX0_copyFrom 117 = .ok (.invokestatic 122, 3) := by decide +kernel
theorem dX0_copyFrom_120 : decode cX0_copyFrom 120 = .ok (.aload_n 0, 1) := by decide +kernel
theorem dX0_copyFrom_121 : decode cX0_copyFrom 121 = .ok (.aload_n 1, 1) := by decide +kernel
theorem dX0_copyFrom_122 : decode cX0_copyFrom 122 = .ok (.getfield 90, 3) := by decide +kernel
theorem dX0_copyFrom_125 : decode cX0_copyFrom 125 = .ok (.putfield 90, 3) := by decide +kernel
theorem dX0_copyFrom_128 : decode cX0_copyFrom 128 = .ok (.aload_n 0, 1) := by decide +kernel
theorem dX0_copyFrom_129 : decode cX0_copyFrom 129 = .ok (.aload_n 1, 1) := by decide +kernel
theorem dX0_copyFrom_130 : decode cX0_copyFrom 130 = .ok (.getfield 97, 3) := by decide +kernel
theorem dX0_copyFrom_133 : decode cX0_copyFrom 133 = .ok (.putfield 97, 3) := by decide +kernel
theorem dX0_copyFrom_136 : decode cX0_copyFrom 136 = .ok (.aload_n 0, 1) := by decide +kernel
theorem dX0_copyFrom_137 : decode cX0_copyFrom 137 = .ok (.aload_n 1, 1) := by decide +kernel
theorem dX0_copyFrom_138 : decode cX0_copyFrom 138 = .ok (.getfield 62, 3) := by decide +kernel
theorem dX0_copyFrom_141 : decode cX0_copyFrom 141 = .ok (.putfield 62, 3) := by decide +kernel
theorem dX0_copyFrom_144 : decode cX0_copyFrom 144 = .ok (.aload_n 0, 1) := by decide +kernel
theorem dX0_copyFrom_145 : decode cX0_copyFrom 145 = .ok (.aload_n 1, 1) := by decide +kernel
theorem dX0_copyFrom_146 : decode cX0_copyFrom 146 = .ok (.getfield 65, 3) := by decide +kernel
theorem dX0_copyFrom_149 : decode cX0_copyFrom 149 = .ok (.putfield 65, 3) := by decide +kernel
theorem dX0_copyFrom_152 : decode cX0_copyFrom 152 = .ok (.aload_n 0, 1) := by decide +kernel
theorem dX0_copyFrom_153 : decode cX0_copyFrom 153 = .ok (.aload_n 1, 1) := by decide +kernel
theorem dX0_copyFrom_154 : decode cX0_copyFrom 154 = .ok (.getfield 68, 3) := by decide +kernel
theorem dX0_copyFrom_157 : decode cX0_copyFrom 157 = .ok (.putfield 68, 3) := by decide +kernel
theorem dX0_copyFrom_160 : decode cX0_copyFrom 160 = .ok (.aload_n 0, 1) := by decide +kernel
theorem dX0_copyFrom_161 : decode cX0_copyFrom 161 = .ok (.aload_n 1, 1) := by decide +kernel
theorem dX0_copyFrom_162 : decode cX0_copyFrom 162 = .ok (.getfield 71, 3) := by decide +kernel
theorem dX0_copyFrom_165 : decode cX0_copyFrom 165 = .ok (.putfield 71, 3) := by decide +kernel
theorem dX0_copyFrom_168 : decode cX0_copyFrom 168 = .ok (.return_, 1) := by decide +kernel
theorem dX1_init_0 : decode cX1_init 0 = .ok (.aload_n 0, 1) := by decide +kernel
theorem dX1_init_1 : decode cX1_init 1 = .ok (.invokespecial 3, 3) := by decide +kernel
theorem dX1_init_4 : decode cX1_init 4 = .ok (.aload_n 0, 1) := by decide +kernel
theorem dX1_init_5 : decode cX1_init 5 = .ok (.bipush 6, 2) := by decide +kernel
theorem dX1_init_7 : decode cX1_init 7 = .ok (.anewarray 11, 3) := by decide +kernel
theorem dX1_init_10 : decode cX1_init 10 = .ok (.putfield 13, 3) := by decide +kernel
theorem dX1_init_13 : decode cX1_init 13 = .ok (.iconst 0, 1) := by decide +kernel
theorem dX1_init_14 : decode cX1_init 14 = .ok (.istore_n 1, 1) := by decide +kernel
theorem dX1_init_15 : decode cX1_init 15 = .ok (.iload_n 1, 1) := by decide +kernel
theorem dX1_init_16 : decode cX1_init 16 = .ok (.bipush 6, 2) := by decide +kernel
theorem dX1_init_18 : decode cX1_init 18 = .ok (.if_icmp .ge 22, 3) := by decide +kernel
theorem dX1_init_21 : decode cX1_init 21 = .ok (.aload_n 0, 1) := by decide +kernel
theorem dX1_init_22 : decode cX1_init 22 = .ok (.getfield 13, 3) := by decide +kernel
theorem dX1_init_25 : decode cX1_init 25 = .ok (.iload_n 1, 1) := by decide +kernel
theorem dX1_init_26 : decode cX1_init 26 = .ok (.new 11, 3) := by decide +kernel
theorem dX1_init_29 : decode cX1_init 29 = .ok (.dup, 1) := by decide +kernel
theorem dX1_init_30 : decode cX1_init 30 = .ok (.invokespecial 17, 3) := by decide +kernel
theorem dX1_init_33 : decode cX1_init 33 = .ok (.aastore, 1) := by decide +kernel
theorem dX1_init_34 : decode cX1_init 34 = .ok (.iinc 1 1, 3) := by decide +kernel
theorem dX1_init_37 : decode cX1_init 37 = .ok (.goto (-22), 3) := by decide +kernel
theorem dX1_init_40 : decode cX1_init 40 = .ok (.return_, 1) := by decide +kernel
theorem dX1_note_0 : decode cX1_note 0 = .ok (.aload_n 0, 1) := by decide +kernel
theorem dX1_note_1 : decode cX1_note 1 = .ok (.getfield 13, 3) := by decide +kernel
theorem dX1_note_4 : decode cX1_note 4 = .ok (.aload_n 0, 1) := by decide +kernel
theorem dX1_note_5 : decode cX1_note 5 = .ok (.getfield 18, 3) := by decide +kernel
theorem dX1_note_8 : decode cX1_note 8 = .ok (.aaload, 1) := by decide +kernel
theorem dX1_note_9 : decode cX1_note 9 = .ok (.aload_n 1, 1) := by decide +kernel
theorem dX1_note_10 : decode cX1_note 10 = .ok (.invokevirtual 22, 3) := by decide +kernel
theorem dX1_note_13 : decode cX1_note 13 = .ok (.return_, 1) := by decide +kernel
theorem dX1_keepNoted_0 : decode cX1_keepNoted 0 = .ok (.aload_n 0, 1) := by decide +kernel
theorem dX1_keepNoted_1 : decode cX1_keepNoted 1 = .ok (.aload_n 0, 1) := by decide +kernel
theorem dX1_keepNoted_2 : decode cX1_keepNoted 2 = .ok (.getfield 18, 3) := by decide +kernel
theorem dX1_keepNoted_5 : decode cX1_keepNoted 5 = .ok (.iconst 1, 1) := by decide +kernel
theorem dX1_keepNoted_6 : decode cX1_keepNoted 6 = .ok (.iadd, 1) := by decide +kernel
theorem dX1_keepNoted_7 : decode cX1_keepNoted 7 = .ok (.bipush 6, 2) := by decide +kernel
theorem dX1_keepNoted_9 : decode cX1_keepNoted 9 = .ok (.irem, 1) := by decide +kernel
theorem dX1_keepNoted_10 : decode cX1_keepNoted 10 = .ok (.putfield 18, 3) := by decide +kernel
theorem dX1_keepNoted_13 : decode cX1_keepNoted 13 = .ok (.aload_n 0, 1) := by decide +kernel
theorem dX1_keepNoted_14 : decode cX1_keepNoted 14 = .ok (.aload_n 0, 1) := by decide +kernel
theorem dX1_keepNoted_15 : decode cX1_keepNoted 15 = .ok (.getfield 26, 3) := by decide +kernel
theorem dX1_keepNoted_18 : decode cX1_keepNoted 18 = .ok (.iconst 1, 1) := by decide +kernel
theorem dX1_keepNoted_19 : decode cX1_keepNoted 19 = .ok (.iadd, 1) := by decide +kernel
theorem dX1_keepNoted_20 : decode cX1_keepNoted 20 = .ok (.iconst 5, 1) := by decide +kernel
theorem dX1_keepNoted_21 : decode cX1_keepNoted 21 = .ok (.invokestatic 29, 3) := by decide +kernel
theorem dX1_keepNoted_24 : decode cX1_keepNoted 24 = .ok (.putfield 26, 3) := by decide +kernel
theorem dX1_keepNoted_27 : decode cX1_keepNoted 27 = .ok (.return_, 1) := by decide +kernel
theorem dX1_takeBack_0 : decode cX1_takeBack 0 = .ok (.aload_n 0, 1) := by decide +kernel
theorem dX1_takeBack_1 : decode cX1_takeBack 1 = .ok (.getfield 26, 3) := by decide +kernel
theorem dX1_takeBack_4 : decode cX1_takeBack 4 = .ok (.ifCond .ne 6, 3) := by decide +kernel
theorem dX1_takeBack_7 : decode cX1_takeBack 7 = .ok (.bipush (-3), 2) := by decide +kernel
theorem dX1_takeBack_9 : decode cX1_takeBack 9 = .ok (.ireturn, 1) := by decide +kernel
theorem dX1_takeBack_10 : decode cX1_takeBack 10 = .ok (.aload_n 0, 1) := by decide +kernel
theorem dX1_takeBack_11 : decode cX1_takeBack 11 = .ok (.aload_n 0, 1) := by decide +kernel
theorem dX1_takeBack_12 : decode cX1_takeBack 12 = .ok (.getfield 18, 3) := by decide +kernel
theorem dX1_takeBack_15 : decode cX1_takeBack 15 = .ok (.bipush 6, 2) := by decide +kernel
theorem dX1_takeBack_17 : decode cX1_takeBack 17 = .ok (.iadd, 1) := by decide +kernel
theorem dX1_takeBack_18 : decode cX1_takeBack 18 = .ok (.iconst 1, 1) := by decide +kernel
theorem dX1_takeBack_19 : decode cX1_takeBack 19 = .ok (.isub, 1) := by decide +kernel
theorem dX1_takeBack_20 : decode cX1_takeBack 20 = .ok (.bipush 6, 2) := by decide +kernel
theorem dX1_takeBack_22 : decode cX1_takeBack 22 = .ok (.irem, 1) := by decide +kernel
theorem dX1_takeBack_23 : decode cX1_takeBack 23 = .ok (.putfield 18, 3) := by decide +kernel
theorem dX1_takeBack_26 : decode cX1_takeBack 26 = .ok (.aload_n 0, 1) := by decide +kernel
theorem dX1_takeBack_27 : decode cX1_takeBack 27 = .ok (.dup, 1) := by decide +kernel
theorem dX1_takeBack_28 : decode cX1_takeBack 28 = .ok (.getfield 26, 3) := by decide +kernel
theorem dX1_takeBack_31 : decode cX1_takeBack 31 = .ok (.iconst 1, 1) := by decide +kernel
theorem dX1_takeBack_32 : decode cX1_takeBack 32 = .ok (.isub, 1) := by decide +kernel
theorem dX1_takeBack_33 : decode cX1_takeBack 33 = .ok (.putfield 26, 3) := by decide +kernel
theorem dX1_takeBack_36 : decode cX1_takeBack 36 = .ok (.aload_n 1, 1) := by decide +kernel
theorem dX1_takeBack_37 : decode cX1_takeBack 37 = .ok (.aload_n 0, 1) := by decide +kernel
theorem dX1_takeBack_38 : decode cX1_takeBack 38 = .ok (.getfield 13, 3) := by decide +kernel
theorem dX1_takeBack_41 : decode cX1_takeBack 41 = .ok (.aload_n 0, 1) := by decide +kernel
theorem dX1_takeBack_42 : decode cX1_takeBack 42 = .ok (.getfield 18, 3) := by decide +kernel
theorem dX1_takeBack_45 : decode cX1_takeBack 45 = .ok (.aaload, 1) := by decide +kernel
theorem dX1_takeBack_46 : decode cX1_takeBack 46 = .ok (.invokevirtual 22, 3) := by decide +kernel
theorem dX1_takeBack_49 : decode cX1_takeBack 49 = .ok (.aload_n 0, 1) := by decide +kernel
theorem dX1_takeBack_50 : decode cX1_takeBack 50 = .ok (.getfield 26, 3) := by decide +kernel
theorem dX1_takeBack_53 : decode cX1_takeBack 53 = .ok (.ireturn, 1) := by decide +kernel
theorem dX2_init_0 : decode cX2_init 0 = .ok (.aload_n 0, 1) := by decide +kernel
theorem dX2_init_1 : decode cX2_init 1 = .ok (.invokespecial 3, 3) := by decide +kernel
theorem dX2_init_4 : decode cX2_init 4 = .ok (.aload_n 0, 1) := by decide +kernel
theorem dX2_init_5 : decode cX2_init 5 = .ok (.bipush 100, 2) := by decide +kernel
theorem dX2_init_7 : decode cX2_init 7 = .ok (.newarray .int, 2) := by decide +kernel
theorem dX2_init_9 : decode cX2_init 9 = .ok (.putfield 9, 3) := by decide +kernel
theorem dX2_init_12 : decode cX2_init 12 = .ok (.return_, 1) := by decide +kernel
theorem dX2_countOf_0 : decode cX2_countOf 0 = .ok (.iconst 0, 1) := by decide +kernel
theorem dX2_countOf_1 : decode cX2_countOf 1 = .ok (.istore_n 3, 1) := by decide +kernel
theorem dX2_countOf_2 : decode cX2_countOf 2 = .ok (.iload_n 0, 1) := by decide +kernel
theorem dX2_countOf_3 : decode cX2_countOf 3 = .ok (.istore 4, 2) := by decide +kernel
theorem dX2_countOf_5 : decode cX2_countOf 5 = .ok (.iload_n 3, 1) := by decide +kernel
theorem dX2_countOf_6 : decode cX2_countOf 6 = .ok (.bipush 100, 2) := by decide +kernel
theorem dX2_countOf_8 : decode cX2_countOf 8 = .ok (.if_icmp .gt 23, 3) := by decide +kernel
theorem dX2_countOf_11 : decode cX2_countOf 11 = .ok (.iload 4, 2) := by decide +kernel
theorem dX2_countOf_13 : decode cX2_countOf 13 = .ok (.iload_n 1, 1) := by decide +kernel
theorem dX2_countOf_14 : decode cX2_countOf 14 = .ok (.if_icmp .gt 17, 3) := by decide +kernel
theorem dX2_countOf_17 : decode cX2_countOf 17 = .ok (.iinc 3 1, 3) := by decide +kernel
theorem dX2_countOf_20 : decode cX2_countOf 20 = .ok (.iload 4, 2) := by decide +kernel
theorem dX2_countOf_22 : decode cX2_countOf 22 = .ok (.iload_n 2, 1) := by decide +kernel
theorem dX2_countOf_23 : decode cX2_countOf 23 = .ok (.invokestatic 15, 3) := by decide +kernel
theorem dX2_countOf_26 : decode cX2_countOf 26 = .ok (.istore 4, 2) := by decide +kernel
theorem dX2_countOf_28 : decode cX2_countOf 28 = .ok (.goto (-23), 3) := by decide +kernel
theorem dX2_countOf_31 : decode cX2_countOf 31 = .ok (.iload_n 3, 1) := by decide +kernel
theorem dX2_countOf_32 : decode cX2_countOf 32 = .ok (.ireturn, 1) := by decide +kernel
theorem dX2_above_0 : decode cX2_above 0 = .ok (.iload_n 0, 1) := by decide +kernel
theorem dX2_above_1 : decode cX2_above 1 = .ok (.iconst 1, 1) := by decide +kernel
theorem dX2_above_2 : decode cX2_above 2 = .ok (.iload_n 0, 1) := by decide +kernel
theorem dX2_above_3 : decode cX2_above 3 = .ok (.iload_n 1, 1) := by decide +kernel
theorem dX2_above_4 : decode cX2_above 4 = .ok (.imul, 1) := by decide +kernel
theorem dX2_above_5 : decode cX2_above 5 = .ok (.sipush 1000, 3) := by decide +kernel
theorem dX2_above_8 : decode cX2_above 8 = .ok (.idiv, 1) := by decide +kernel
theorem dX2_above_9 : decode cX2_above 9 = .ok (.invokestatic 19, 3) := by decide +kernel
theorem dX2_above_12 : decode cX2_above 12 = .ok (.iadd, 1) := by decide +kernel
theorem dX2_above_13 : decode cX2_above 13 = .ok (.ireturn, 1) := by decide +kernel
theorem dX2_lay_0 : decode cX2_lay 0 = .ok (.aload_n 0, 1) := by decide +kernel
theorem dX2_lay_1 : decode cX2_lay 1 = .ok (.iload_n 3, 1) := by decide +kernel
theorem dX2_lay_2 : decode cX2_lay 2 = .ok (.bipush 100, 2) := by decide +kernel
theorem dX2_lay_4 : decode cX2_lay 4 = .ok (.invokestatic 24, 3) := by decide +kernel
theorem dX2_lay_7 : decode cX2_lay 7 = .ok (.putfield 27, 3) := by decide +kernel
theorem dX2_lay_10 : decode cX2_lay 10 = .ok (.iload_n 1, 1) := by decide +kernel
theorem dX2_lay_11 : decode cX2_lay 11 = .ok (.istore 4, 2) := by decide +kernel
theorem dX2_lay_13 : decode cX2_lay 13 = .ok (.iconst 0, 1) := by decide +kernel
theorem dX2_lay_14 : decode cX2_lay 14 = .ok (.istore 5, 2) := by decide +kernel
theorem dX2_lay_16 : decode cX2_lay 16 = .ok (.iload 5, 2) := by decide +kernel
theorem dX2_lay_18 : decode cX2_lay 18 = .ok (.aload_n 0, 1) := by decide +kernel
theorem dX2_lay_19 : decode cX2_lay 19 = .ok (.getfield 27, 3) := by decide +kernel
theorem dX2_lay_22 : decode cX2_lay 22 = .ok (.if_icmp .ge 26, 3) := by decide +kernel
theorem dX2_lay_25 : decode cX2_lay 25 = .ok (.aload_n 0, 1) := by decide +kernel
theorem dX2_lay_26 : decode cX2_lay 26 = .ok (.getfield 9, 3) := by decide +kernel
theorem dX2_lay_29 : decode cX2_lay 29 = .ok (.iload 5, 2) := by decide +kernel
theorem dX2_lay_31 : decode cX2_lay 31 = .ok (.iload 4, 2) := by decide +kernel
theorem dX2_lay_33 : decode cX2_lay 33 = .ok (.iastore, 1) := by decide +kernel
theorem dX2_lay_34 : decode cX2_lay 34 = .ok (.iload 4, 2) := by decide +kernel
theorem dX2_lay_36 : decode cX2_lay 36 = .ok (.iload_n 2, 1) := by decide +kernel
theorem dX2_lay_37 : decode cX2_lay 37 = .ok (.invokestatic 15, 3) := by decide +kernel
theorem dX2_lay_40 : decode cX2_lay 40 = .ok (.istore 4, 2) := by decide +kernel
theorem dX2_lay_42 : decode cX2_lay 42 = .ok (.iinc 5 1, 3) := by decide +kernel
theorem dX2_lay_45 : decode cX2_lay 45 = .ok (.goto (-29), 3) := by decide +kernel
theorem dX2_lay_48 : decode cX2_lay 48 = .ok (.return_, 1) := by decide +kernel
theorem dX2_copyFrom_0 : decode cX2_copyFrom 0 = .ok (.aload_n 1, 1) := by decide +kernel
theorem dX2_copyFrom_1 : decode cX2_copyFrom 1 = .ok (.getfield 9, 3) := by decide +kernel
theorem dX2_copyFrom_4 : decode cX2_copyFrom 4 = .ok (.aload_n 0, 1) := by decide +kernel
theorem dX2_copyFrom_5 : decode cX2_copyFrom 5 = .ok (.getfield 9, 3) := by decide +kernel
theorem dX2_copyFrom_8 : decode cX2_copyFrom 8 = .ok (.invokestatic 31, 3) := by decide +kernel
theorem dX2_copyFrom_11 : decode cX2_copyFrom 11 = .ok (.aload_n 0, 1) := by decide +kernel
theorem dX2_copyFrom_12 : decode cX2_copyFrom 12 = .ok (.aload_n 1, 1) := by decide +kernel
theorem dX2_copyFrom_13 : decode cX2_copyFrom 13 = .ok (.getfield 27, 3) := by decide +kernel
theorem dX2_copyFrom_16 : decode cX2_copyFrom 16 = .ok (.putfield 27, 3) := by decide +kernel
theorem dX2_copyFrom_19 : decode cX2_copyFrom 19 = .ok (.return_, 1) := by decide +kernel
theorem dX3_init_0 : decode cX3_init 0 = .ok (.aload_n 0, 1) := by decide +kernel
theorem dX3_init_1 : decode cX3_init 1 = .ok (.invokespecial 3, 3) := by decide +kernel
theorem dX3_init_4 : decode cX3_init 4 = .ok (.aload_n 0, 1) := by decide +kernel
theorem dX3_init_5 : decode cX3_init 5 = .ok (.bipush 8, 2) := by decide +kernel
theorem dX3_init_7 : decode cX3_init 7 = .ok (.newarray .int, 2) := by decide +kernel
theorem dX3_init_9 : decode cX3_init 9 = .ok (.putfield 9, 3) := by decide +kernel
theorem dX3_init_12 : decode cX3_init 12 = .ok (.aload_n 0, 1) := by decide +kernel
theorem dX3_init_13 : decode cX3_init 13 = .ok (.bipush 8, 2) := by decide +kernel
theorem dX3_init_15 : decode cX3_init 15 = .ok (.newarray .int, 2) := by decide +kernel
theorem dX3_init_17 : decode cX3_init 17 = .ok (.putfield 15, 3) := by decide +kernel
theorem dX3_init_20 : decode cX3_init 20 = .ok (.return_, 1) := by decide +kernel
theorem dX3_put_0 : decode cX3_put 0 = .ok (.aload_n 0, 1) := by decide +kernel
theorem dX3_put_1 : decode cX3_put 1 = .ok (.iload_n 1, 1) := by decide +kernel
theorem dX3_put_2 : decode cX3_put 2 = .ok (.invokevirtual 18, 3) := by decide +kernel
theorem dX3_put_5 : decode cX3_put 5 = .ok (.istore_n 3, 1) := by decide +kernel
theorem dX3_put_6 : decode cX3_put 6 = .ok (.iload_n 3, 1) := by decide +kernel
theorem dX3_put_7 : decode cX3_put 7 = .ok (.aload_n 0, 1) := by decide +kernel
theorem dX3_put_8 : decode cX3_put 8 = .ok (.getfield 22, 3) := by decide +kernel
theorem dX3_put_11 : decode cX3_put 11 = .ok (.if_icmp .ge 25, 3) := by decide +kernel
theorem dX3_put_14 : decode cX3_put 14 = .ok (.aload_n 0, 1) := by decide +kernel
theorem dX3_put_15 : decode cX3_put 15 = .ok (.getfield 9, 3) := by decide +kernel
theorem dX3_put_18 : decode cX3_put 18 = .ok (.iload_n 3, 1) := by decide +kernel
theorem dX3_put_19 : decode cX3_put 19 = .ok (.iaload, 1) := by decide +kernel
theorem dX3_put_20 : decode cX3_put 20 = .ok (.iload_n 1, 1) := by decide +kernel
theorem dX3_put_21 : decode cX3_put 21 = .ok (.if_icmp .ne 15, 3) := by decide +kernel
theorem dX3_put_24 : decode cX3_put 24 = .ok (.aload_n 0, 1) := by decide +kernel
theorem dX3_put_25 : decode cX3_put 25 = .ok (.getfield 15, 3) := by decide +kernel
theorem dX3_put_28 : decode cX3_put 28 = .ok (.iload_n 3, 1) := by decide +kernel
theorem dX3_put_29 : decode cX3_put 29 = .ok (.iload_n 2, 1) := by decide +kernel
theorem dX3_put_30 : decode cX3_put 30 = .ok (.iastore, 1) := by decide +kernel
theorem dX3_put_31 : decode cX3_put 31 = .ok (.aload_n 0, 1) := by decide +kernel
theorem dX3_put_32 : decode cX3_put 32 = .ok (.getfield 22, 3) := by decide +kernel
theorem dX3_put_35 : decode cX3_put 35 = .ok (.ireturn, 1) := by decide +kernel
theorem dX3_put_36 : decode cX3_put 36 = .ok (.aload_n 0, 1) := by decide +kernel
theorem dX3_put_37 : decode cX3_put 37 = .ok (.getfield 22, 3) := by decide +kernel
theorem dX3_put_40 : decode cX3_put 40 = .ok (.bipush 8, 2) := by decide +kernel
theorem dX3_put_42 : decode cX3_put 42 = .ok (.if_icmp .lt 6, 3) := by decide +kernel
theorem dX3_put_45 : decode cX3_put 45 = .ok (.bipush (-4), 2) := by decide +kernel
theorem dX3_put_47 : decode cX3_put 47 = .ok (.ireturn, 1) := by decide +kernel
theorem dX3_put_48 : decode cX3_put 48 = .ok (.aload_n 0, 1) := by decide +kernel
theorem dX3_put_49 : decode cX3_put 49 = .ok (.getfield 22, 3) := by decide +kernel
theorem dX3_put_52 : decode cX3_put 52 = .ok (.istore 4, 2) := by decide +kernel
theorem dX3_put_54 : decode cX3_put 54 = .ok (.iload 4, 2) := by decide +kernel
theorem dX3_put_56 : decode cX3_put 56 = .ok (.iload_n 3, 1) := by decide +kernel
theorem dX3_put_57 : decode cX3_put 57 = .ok (.if_icmp .le 41, 3) := by decide +kernel
theorem dX3_put_60 : decode cX3_put 60 = .ok (.aload_n 0, 1) := by decide +kernel
theorem dX3_put_61 : decode cX3_put 61 = .ok (.getfield 9, 3) := by decide +kernel
theorem dX3_put_64 : decode cX3_put 64 = .ok (.iload 4, 2) := by decide +kernel
theorem dX3_put_66 : decode cX3_put 66 = .ok (.aload_n 0, 1) := by decide +kernel
theorem dX3_put_67 : decode cX3_put 67 = .ok (.getfield 9, 3) := by decide +kernel
theorem dX3_put_70 : decode cX3_put 70 = .ok (.iload 4, 2) := by decide +kernel
theorem dX3_put_72 : decode cX3_put 72 = .ok (.iconst 1, 1) := by decide +kernel
theorem dX3_put_73 : decode cX3_put 73 = .ok (.isub, 1) := by decide +kernel
theorem dX3_put_74 : decode cX3_put 74 = .ok (.iaload, 1) := by decide +kernel
theorem dX3_put_75 : decode cX3_put 75 = .ok (.iastore, 1) := by decide +kernel
theorem dX3_put_76 : decode cX3_put 76 = .ok (.aload_n 0, 1) := by decide +kernel
theorem dX3_put_77 : decode cX3_put 77 = .ok (.getfield 15, 3) := by decide +kernel
theorem dX3_put_80 : decode cX3_put 80 = .ok (.iload 4, 2) := by decide +kernel
theorem dX3_put_82 : decode cX3_put 82 = .ok (.aload_n 0, 1) := by decide +kernel
theorem dX3_put_83 : decode cX3_put 83 = .ok (.getfield 15, 3) := by decide +kernel
theorem dX3_put_86 : decode cX3_put 86 = .ok (.iload 4, 2) := by decide +kernel
theorem dX3_put_88 : decode cX3_put 88 = .ok (.iconst 1, 1) := by decide +kernel
theorem dX3_put_89 : decode cX3_put 89 = .ok (.isub, 1) := by decide +kernel
theorem dX3_put_90 : decode cX3_put 90 = .ok (.iaload, 1) := by decide +kernel
theorem dX3_put_91 : decode cX3_put 91 = .ok (.iastore, 1) := by decide +kernel
theorem dX3_put_92 : decode cX3_put 92 = .ok (.iinc 4 (-1), 3) := by decide +kernel
theorem dX3_put_95 : decode cX3_put 95 = .ok (.goto (-41), 3) := by decide +kernel
theorem dX3_put_98 : decode cX3_put 98 = .ok (.aload_n 0, 1) := by decide +kernel
theorem dX3_put_99 : decode cX3_put 99 = .ok (.getfield 9, 3) := by decide +kernel
theorem dX3_put_102 : decode cX3_put 102 = .ok (.iload_n 3, 1) := by decide +kernel
theorem dX3_put_103 : decode cX3_put 103 = .ok (.iload_n 1, 1) := by decide +kernel
theorem dX3_put_104 : decode cX3_put 104 = .ok (.iastore, 1) := by decide +kernel
theorem dX3_put_105 : decode cX3_put 105 = .ok (.aload_n 0, 1) := by decide +kernel
theorem dX3_put_106 : decode cX3_put 106 = .ok (.getfield 15, 3) := by decide +kernel
theorem dX3_put_109 : decode cX3_put 109 = .ok (.iload_n 3, 1) := by decide +kernel
theorem dX3_put_110 : decode cX3_put 110 = .ok (.iload_n 2, 1) := by decide +kernel
theorem dX3_put_111 : decode cX3_put 111 = .ok (.iastore, 1) := by decide +kernel
theorem dX3_put_112 : decode cX3_put 112 = .ok (.aload_n 0, 1) := by decide +kernel
theorem dX3_put_113 : decode cX3_put 113 = .ok (.dup, 1) := by decide +kernel
theorem dX3_put_114 : decode cX3_put 114 = .ok (.getfield 22, 3) := by decide +kernel
theorem dX3_put_117 : decode cX3_put 117 = .ok (.iconst 1, 1) := by decide +kernel
theorem dX3_put_118 : decode cX3_put 118 = .ok (.iadd, 1) := by decide +kernel
theorem dX3_put_119 : decode cX3_put 119 = .ok (.putfield 22, 3) := by decide +kernel
theorem dX3_put_122 : decode cX3_put 122 = .ok (.aload_n 0, 1) := by decide +kernel
theorem dX3_put_123 : decode cX3_put 123 = .ok (.getfield 22, 3) := by decide +kernel
theorem dX3_put_126 : decode cX3_put 126 = .ok (.ireturn, 1) := by decide +kernel
theorem dX3_placeOf_0 : decode cX3_placeOf 0 = .ok (.iconst 0, 1) := by decide +kernel
theorem dX3_placeOf_1 : decode cX3_placeOf 1 = .ok (.istore_n 2, 1) := by decide +kernel
theorem dX3_placeOf_2 : decode cX3_placeOf 2 = .ok (.iload_n 2, 1) := by decide +kernel
theorem dX3_placeOf_3 : decode cX3_placeOf 3 = .ok (.aload_n 0, 1) := by decide +kernel
theorem dX3_placeOf_4 : decode cX3_placeOf 4 = .ok (.getfield 22, 3) := by decide +kernel
theorem dX3_placeOf_7 : decode cX3_placeOf 7 = .ok (.if_icmp .ge 19, 3) := by decide +kernel
theorem dX3_placeOf_10 : decode cX3_placeOf 10 = .ok (.aload_n 0, 1) := by decide +kernel
theorem dX3_placeOf_11 : decode cX3_placeOf 11 = .ok (.getfield 9, 3) := by decide +kernel
theorem dX3_placeOf_14 : decode cX3_placeOf 14 = .ok (.iload_n 2, 1) := by decide +kernel
theorem dX3_placeOf_15 : decode cX3_placeOf 15 = .ok (.iaload, 1) := by decide +kernel
theorem dX3_placeOf_16 : decode cX3_placeOf 16 = .ok (.iload_n 1, 1) := by decide +kernel
theorem dX3_placeOf_17 : decode cX3_placeOf 17 = .ok (.if_icmp .ge 9, 3) := by decide +kernel
theorem dX3_placeOf_20 : decode cX3_placeOf 20 = .ok (.iinc 2 1, 3) := by decide +kernel
theorem dX3_placeOf_23 : decode cX3_placeOf 23 = .ok (.goto (-21), 3) := by decide +kernel
theorem dX3_placeOf_26 : decode cX3_placeOf 26 = .ok (.iload_n 2, 1) := by decide +kernel
theorem dX3_placeOf_27 : decode cX3_placeOf 27 = .ok (.ireturn, 1) := by decide +kernel
theorem dX3_targetAt_0 : decode cX3_targetAt 0 = .ok (.aload_n 0, 1) := by decide +kernel
theorem dX3_targetAt_1 : decode cX3_targetAt 1 = .ok (.getfield 22, 3) := by decide +kernel
theorem dX3_targetAt_4 : decode cX3_targetAt 4 = .ok (.ifCond .ne 6, 3) := by decide +kernel
theorem dX3_targetAt_7 : decode cX3_targetAt 7 = .ok (.bipush (-6), 2) := by decide +kernel
theorem dX3_targetAt_9 : decode cX3_targetAt 9 = .ok (.ireturn, 1) := by decide +kernel
theorem dX3_targetAt_10 : decode cX3_targetAt 10 = .ok (.aload_n 0, 1) := by decide +kernel
theorem dX3_targetAt_11 : decode cX3_targetAt 11 = .ok (.iload_n 1, 1) := by decide +kernel
theorem dX3_targetAt_12 : decode cX3_targetAt 12 = .ok (.invokevirtual 18, 3) := by decide +kernel
theorem dX3_targetAt_15 : decode cX3_targetAt 15 = .ok (.istore_n 2, 1) := by decide +kernel
theorem dX3_targetAt_16 : decode cX3_targetAt 16 = .ok (.iload_n 2, 1) := by decide +kernel
theorem dX3_targetAt_17 : decode cX3_targetAt 17 = .ok (.aload_n 0, 1) := by decide +kernel
theorem dX3_targetAt_18 : decode cX3_targetAt 18 = .ok (.getfield 22, 3) := by decide +kernel
theorem dX3_targetAt_21 : decode cX3_targetAt 21 = .ok (.if_icmp .ne 15, 3) := by decide +kernel
theorem dX3_targetAt_24 : decode cX3_targetAt 24 = .ok (.aload_n 0, 1) := by decide +kernel
theorem dX3_targetAt_25 : decode cX3_targetAt 25 = .ok (.getfield 15, 3) := by decide +kernel
theorem dX3_targetAt_28 : decode cX3_targetAt 28 = .ok (.aload_n 0, 1) := by decide +kernel
theorem dX3_targetAt_29 : decode cX3_targetAt 29 = .ok (.getfield 22, 3) := by decide +kernel
theorem dX3_targetAt_32 : decode cX3_targetAt 32 = .ok (.iconst 1, 1) := by decide +kernel
theorem dX3_targetAt_33 : decode cX3_targetAt 33 = .ok (.isub, 1) := by decide +kernel
theorem dX3_targetAt_34 : decode cX3_targetAt 34 = .ok (.iaload, 1) := by decide +kernel
theorem dX3_targetAt_35 : decode cX3_targetAt 35 = .ok (.ireturn, 1) := by decide +kernel
theorem dX3_targetAt_36 : decode cX3_targetAt 36 = .ok (.iload_n 2, 1) := by decide +kernel
theorem dX3_targetAt_37 : decode cX3_targetAt 37 = .ok (.ifCond .eq 13, 3) := by decide +kernel
theorem dX3_targetAt_40 : decode cX3_targetAt 40 = .ok (.aload_n 0, 1) := by decide +kernel
theorem dX3_targetAt_41 : decode cX3_targetAt 41 = .ok (.getfield 9, 3) := by decide +kernel
theorem dX3_targetAt_44 : decode cX3_targetAt 44 = .ok (.iload_n 2, 1) := by decide +kernel
theorem dX3_targetAt_45 : decode cX3_targetAt 45 = .ok (.iaload, 1) := by decide +kernel
theorem dX3_targetAt_46 : decode cX3_targetAt 46 = .ok (.iload_n 1, 1) := by decide +kernel
theorem dX3_targetAt_47 : decode cX3_targetAt 47 = .ok (.if_icmp .ne 10, 3) := by decide +kernel
theorem dX3_targetAt_50 : decode cX3_targetAt 50 = .ok (.aload_n 0, 1) := by decide +kernel
theorem dX3_targetAt_51 : decode cX3_targetAt 51 = .ok (.getfield 15, 3) := by decide +kernel
theorem dX3_targetAt_54 : decode cX3_targetAt 54 = .ok (.iload_n 2, 1) := by decide +kernel
theorem dX3_targetAt_55 : decode cX3_targetAt 55 = .ok (.iaload, 1) := by decide +kernel
theorem dX3_targetAt_56 : decode cX3_targetAt 56 = .ok (.ireturn, 1) := by decide +kernel
theorem dX3_targetAt_57 : decode cX3_targetAt 57 = .ok (.aload_n 0, 1) := by decide +kernel
theorem dX3_targetAt_58 : decode cX3_targetAt 58 = .ok (.iload_n 2, 1) := by decide +kernel
theorem dX3_targetAt_59 : decode cX3_targetAt 59 = .ok (.iconst 1, 1) := by decide +kernel
theorem dX3_targetAt_60 : decode cX3_targetAt 60 = .ok (.isub, 1) := by decide +kernel
theorem dX3_targetAt_61 : decode cX3_targetAt 61 = .ok (.iload_n 2, 1) := by decide +kernel
theorem dX3_targetAt_62 : decode cX3_targetAt 62 = .ok (.iload_n 1, 1) := by decide +kernel
theorem dX3_targetAt_63 : decode cX3_targetAt 63 = .ok (.invokevirtual 26, 3) := by decide +kernel
theorem dX3_targetAt_66 : decode cX3_targetAt 66 = .ok (.ireturn, 1) := by decide +kernel
theorem dX3_between_0 : decode cX3_between 0 = .ok (.iload_n 3, 1) := by decide +kernel
theorem dX3_between_1 : decode cX3_between 1 = .ok (.aload_n 0, 1) := by decide +kernel
theorem dX3_between_2 : decode cX3_between 2 = .ok (.getfield 9, 3) := by decide +kernel
theorem dX3_between_5 : decode cX3_between 5 = .ok (.iload_n 1, 1) := by decide +kernel
theorem dX3_between_6 : decode cX3_between 6 = .ok (.iaload, 1) := by decide +kernel
theorem dX3_between_7 : decode cX3_between 7 = .ok (.isub, 1) := by decide +kernel
theorem dX3_between_8 : decode cX3_between 8 = .ok (.istore 4, 2) := by decide +kernel
theorem dX3_between_10 : decode cX3_between 10 = .ok (.aload_n 0, 1) := by decide +kernel
theorem dX3_between_11 : decode cX3_between 11 = .ok (.getfield 9, 3) := by decide +kernel
theorem dX3_between_14 : decode cX3_between 14 = .ok (.iload_n 2, 1) := by decide +kernel
theorem dX3_between_15 : decode cX3_between 15 = .ok (.iaload, 1) := by decide +kernel
theorem dX3_between_16 : decode cX3_between 16 = .ok (.iload_n 3, 1) := by decide +kernel
theorem dX3_between_17 : decode cX3_between 17 = .ok (.isub, 1) := by decide +kernel
theorem dX3_between_18 : decode cX3_between 18 = .ok (.istore 5, 2) := by decide +kernel
theorem dX3_between_20 : decode cX3_between 20 = .ok (.iload 4, 2) := by decide +kernel
theorem dX3_between_22 : decode cX3_between 22 = .ok (.iload 5, 2) := by decide +kernel
theorem dX3_between_24 : decode cX3_between 24 = .ok (.iadd, 1) := by decide +kernel
theorem dX3_between_25 : decode cX3_between 25 = .ok (.istore 6, 2) := by decide +kernel
theorem dX3_between_27 : decode cX3_between 27 = .ok (.iload 6, 2) := by decide +kernel
theorem dX3_between_29 : decode cX3_between 29 = .ok (.ifCond .le 28, 3) := by decide +kernel
theorem dX3_between_32 : decode cX3_between 32 = .ok (.aload_n 0, 1) := by decide +kernel
theorem dX3_between_33 : decode cX3_between 33 = .ok (.getfield 15, 3) := by decide +kernel
theorem dX3_between_36 : decode cX3_between 36 = .ok (.iload_n 1, 1) := by decide +kernel
theorem dX3_between_37 : decode cX3_between 37 = .ok (.iaload, 1) := by decide +kernel
theorem dX3_between_38 : decode cX3_between 38 = .ok (.iload 5, 2) := by decide +kernel
theorem dX3_between_40 : decode cX3_between 40 = .ok (.imul, 1) := by decide +kernel
theorem dX3_between_41 : decode cX3_between 41 = .ok (.aload_n 0, 1) := by decide +kernel
theorem dX3_between_42 : decode cX3_between 42 = .ok (.getfield 15, 3) := by decide +kernel
theorem dX3_between_45 : decode cX3_between 45 = .ok (.iload_n 2, 1) := by decide +kernel
theorem dX3_between_46 : decode cX3_between 46 = .ok (.iaload, 1) := by decide +kernel
theorem dX3_between_47 : decode cX3_between 47 = .ok (.iload 4, 2) := by decide +kernel
theorem dX3_between_49 : decode cX3_between 49 = .ok (.imul, 1) := by decide +kernel
theorem dX3_between_50 : decode cX3_between 50 = .ok (.iadd, 1) := by decide +kernel
theorem dX3_between_51 : decode cX3_between 51 = .ok (.iload 6, 2) := by decide +kernel
theorem dX3_between_53 : decode cX3_between 53 = .ok (.idiv, 1) := by decide +kernel
theorem dX3_between_54 : decode cX3_between 54 = .ok (.goto 5, 3) := by decide +kernel
theorem dX3_between_57 : decode cX3_between 57 = .ok (.bipush (-6), 2) := by decide +kernel
theorem dX3_between_59 : decode cX3_between 59 = .ok (.ireturn, 1) := by decide +kernel
theorem dX3_copyFrom_0 : decode cX3_copyFrom 0 = .ok (.aload_n 1, 1) := by decide +kernel
theorem dX3_copyFrom_1 : decode cX3_copyFrom 1 = .ok (.getfield 9, 3) := by decide +kernel
theorem dX3_copyFrom_4 : decode cX3_copyFrom 4 = .ok (.aload_n 0, 1) := by decide +kernel
theorem dX3_copyFrom_5 : decode cX3_copyFrom 5 = .ok (.getfield 9, 3) := by decide +kernel
theorem dX3_copyFrom_8 : decode cX3_copyFrom 8 = .ok (.invokestatic 30, 3) := by decide +kernel
theorem dX3_copyFrom_11 : decode cX3_copyFrom 11 = .ok (.aload_n 1, 1) := by decide +kernel
theorem dX3_copyFrom_12 : decode cX3_copyFrom 12 = .ok (.getfield 15, 3) := by decide +kernel
theorem dX3_copyFrom_15 : decode cX3_copyFrom 15 = .ok (.aload_n 0, 1) := by decide +kernel
theorem dX3_copyFrom_16 : decode cX3_copyFrom 16 = .ok (.getfield 15, 3) := by decide +kernel
theorem dX3_copyFrom_19 : decode cX3_copyFrom 19 = .ok (.invokestatic 30, 3) := by decide +kernel
theorem dX3_copyFrom_22 : decode cX3_copyFrom 22 = .ok (.aload_n 0, 1) := by decide +kernel
theorem dX3_copyFrom_23 : decode cX3_copyFrom 23 = .ok (.aload_n 1, 1) := by decide +kernel
theorem dX3_copyFrom_24 : decode cX3_copyFrom 24 = .ok (.getfield 22, 3) := by decide +kernel
theorem dX3_copyFrom_27 : decode cX3_copyFrom 27 = .ok (.putfield 22, 3) := by decide +kernel
theorem dX3_copyFrom_30 : decode cX3_copyFrom 30 = .ok (.return_, 1) := by decide +kernel
theorem dX5_init_0 : decode cX5_init 0 = .ok (.aload_n 0, 1) := by decide +kernel
theorem dX5_init_1 : decode cX5_init 1 = .ok (.invokespecial 3, 3) := by decide +kernel
theorem dX5_init_4 : decode cX5_init 4 = .ok (.aload_n 0, 1) := by decide +kernel
theorem dX5_init_5 : decode cX5_init 5 = .ok (.bipush 80, 2) := by decide +kernel
theorem dX5_init_7 : decode cX5_init 7 = .ok (.newarray .int, 2) := by decide +kernel
theorem dX5_init_9 : decode cX5_init 9 = .ok (.putfield 9, 3) := by decide +kernel
theorem dX5_init_12 : decode cX5_init 12 = .ok (.return_, 1) := by decide +kernel
theorem dX5_add_0 : decode cX5_add 0 = .ok (.iload_n 1, 1) := by decide +kernel
theorem dX5_add_1 : decode cX5_add 1 = .ok (.bipush 32, 2) := by decide +kernel
theorem dX5_add_3 : decode cX5_add 3 = .ok (.bipush 126, 2) := by decide +kernel
theorem dX5_add_5 : decode cX5_add 5 = .ok (.invokestatic 15, 3) := by decide +kernel
theorem dX5_add_8 : decode cX5_add 8 = .ok (.ifCond .ne 6, 3) := by decide +kernel
theorem dX5_add_11 : decode cX5_add 11 = .ok (.bipush (-2), 2) := by decide +kernel
theorem dX5_add_13 : decode cX5_add 13 = .ok (.ireturn, 1) := by decide +kernel
theorem dX5_add_14 : decode cX5_add 14 = .ok (.aload_n 0, 1) := by decide +kernel
theorem dX5_add_15 : decode cX5_add 15 = .ok (.getfield 19, 3) := by decide +kernel
theorem dX5_add_18 : decode cX5_add 18 = .ok (.bipush 80, 2) := by decide +kernel
theorem dX5_add_20 : decode cX5_add 20 = .ok (.if_icmp .lt 6, 3) := by decide +kernel
theorem dX5_add_23 : decode cX5_add 23 = .ok (.bipush (-4), 2) := by decide +kernel
theorem dX5_add_25 : decode cX5_add 25 = .ok (.ireturn, 1) := by decide +kernel
theorem dX5_add_26 : decode cX5_add 26 = .ok (.aload_n 0, 1) := by decide +kernel
theorem dX5_add_27 : decode cX5_add 27 = .ok (.getfield 9, 3) := by decide +kernel
theorem dX5_add_30 : decode cX5_add 30 = .ok (.aload_n 0, 1) := by decide +kernel
theorem dX5_add_31 : decode cX5_add 31 = .ok (.getfield 19, 3) := by decide +kernel
theorem dX5_add_34 : decode cX5_add 34 = .ok (.iload_n 1, 1) := by decide +kernel
theorem dX5_add_35 : decode cX5_add 35 = .ok (.iastore, 1) := by decide +kernel
theorem dX5_add_36 : decode cX5_add 36 = .ok (.aload_n 0, 1) := by decide +kernel
theorem dX5_add_37 : decode cX5_add 37 = .ok (.dup, 1) := by decide +kernel
theorem dX5_add_38 : decode cX5_add 38 = .ok (.getfield 19, 3) := by decide +kernel
theorem dX5_add_41 : decode cX5_add 41 = .ok (.iconst 1, 1) := by decide +kernel
theorem dX5_add_42 : decode cX5_add 42 = .ok (.iadd, 1) := by decide +kernel
theorem dX5_add_43 : decode cX5_add 43 = .ok (.putfield 19, 3) := by decide +kernel
theorem dX5_add_46 : decode cX5_add 46 = .ok (.aload_n 0, 1) := by decide +kernel
theorem dX5_add_47 : decode cX5_add 47 = .ok (.getfield 19, 3) := by decide +kernel
theorem dX5_add_50 : decode cX5_add 50 = .ok (.ireturn, 1) := by decide +kernel
theorem dX5_rewind_0 : decode cX5_rewind 0 = .ok (.aload_n 0, 1) := by decide +kernel
theorem dX5_rewind_1 : decode cX5_rewind 1 = .ok (.iconst 0, 1) := by decide +kernel
theorem dX5_rewind_2 : decode cX5_rewind 2 = .ok (.putfield 23, 3) := by decide +kernel
theorem dX5_rewind_5 : decode cX5_rewind 5 = .ok (.return_, 1) := by decide +kernel
theorem dX5_findFault_0 : decode cX5_findFault 0 = .ok (.aload_n 0, 1) := by decide +kernel
theorem dX5_findFault_1 : decode cX5_findFault 1 = .ok (.invokevirtual 26, 3) := by decide +kernel
theorem dX5_findFault_4 : decode cX5_findFault 4 = .ok (.iconst 0, 1) := by decide +kernel
theorem dX5_findFault_5 : decode cX5_findFault 5 = .ok (.istore_n 1, 1) := by decide +kernel
theorem dX5_findFault_6 : decode cX5_findFault 6 = .ok (.iload_n 1, 1) := by decide +kernel
theorem dX5_findFault_7 : decode cX5_findFault 7 = .ok (.bipush 80, 2) := by decide +kernel
theorem dX5_findFault_9 : decode cX5_findFault 9 = .ok (.if_icmp .ge 32, 3) := by decide +kernel
theorem dX5_findFault_12 : decode cX5_findFault 12 = .ok (.aload_n 0, 1) := by decide +kernel
theorem dX5_findFault_13 : decode cX5_findFault 13 = .ok (.getfield 23, 3) := by decide +kernel
theorem dX5_findFault_16 : decode cX5_findFault 16 = .ok (.aload_n 0, 1) := by decide +kernel
theorem dX5_findFault_17 : decode cX5_findFault 17 = .ok (.getfield 19, 3) := by decide +kernel
theorem dX5_findFault_20 : decode cX5_findFault 20 = .ok (.if_icmp .ge 21, 3) := by decide +kernel
theorem dX5_findFault_23 : decode cX5_findFault 23 = .ok (.aload_n 0, 1) := by decide +kernel
theorem dX5_findFault_24 : decode cX5_findFault 24 = .ok (.invokevirtual 29, 3) := by decide +kernel
theorem dX5_findFault_27 : decode cX5_findFault 27 = .ok (.ifCond .ne 8, 3) := by decide +kernel
theorem dX5_findFault_30 : decode cX5_findFault 30 = .ok (.aload_n 0, 1) := by decide +kernel
theorem dX5_findFault_31 : decode cX5_findFault 31 = .ok (.getfield 23, 3) := by decide +kernel
theorem dX5_findFault_34 : decode cX5_findFault 34 = .ok (.ireturn, 1) := by decide +kernel
theorem dX5_findFault_35 : decode cX5_findFault 35 = .ok (.iinc 1 1, 3) := by decide +kernel
theorem dX5_findFault_38 : decode cX5_findFault 38 = .ok (.goto (-32), 3) := by decide +kernel
theorem dX5_findFault_41 : decode cX5_findFault 41 = .ok (.bipush (-6), 2) := by decide +kernel
theorem dX5_findFault_43 : decode cX5_findFault 43 = .ok (.ireturn, 1) := by decide +kernel
theorem dX5_readAct_0 : decode cX5_readAct 0 = .ok (.aload_n 0, 1) := by decide +kernel
theorem dX5_readAct_1 : decode cX5_readAct 1 = .ok (.aload_n 0, 1) := by decide +kernel
theorem dX5_readAct_2 : decode cX5_readAct 2 = .ok (.invokevirtual 33, 3) := by decide +kernel
theorem dX5_readAct_5 : decode cX5_readAct 5 = .ok (.putfield 37, 3) := by decide +kernel
theorem dX5_readAct_8 : decode cX5_readAct 8 = .ok (.aload_n 0, 1) := by decide +kernel
theorem dX5_readAct_9 : decode cX5_readAct 9 = .ok (.getfield 37, 3) := by decide +kernel
theorem dX5_readAct_12 : decode cX5_readAct 12 = .ok (.lookupswitch 201 #[(99, 148), (103, 60), (104, 131), (114, 131), (115, 96), (120, 131)], 60) := by decide +kernel
theorem dX5_readAct_72 : decode cX5_readAct 72 = .ok (.aload_n 0, 1) := by decide +kernel
theorem dX5_readAct_73 : decode cX5_readAct 73 = .ok (.dup, 1) := by decide +kernel
theorem dX5_readAct_74 : decode cX5_readAct 74 = .ok (.getfield 23, 3) := by decide +kernel
theorem dX5_readAct_77 : decode cX5_readAct 77 = .ok (.iconst 1, 1) := by decide +kernel
theorem dX5_readAct_78 : decode cX5_readAct 78 = .ok (.iadd, 1) := by decide +kernel
theorem dX5_readAct_79 : decode cX5_readAct 79 = .ok (.putfield 23, 3) := by decide +kernel
theorem dX5_readAct_82 : decode cX5_readAct 82 = .ok (.aload_n 0, 1) := by decide +kernel
theorem dX5_readAct_83 : decode cX5_readAct 83 = .ok (.iconst 1, 1) := by decide +kernel
theorem dX5_readAct_84 : decode cX5_readAct 84 = .ok (.sipush 999, 3) := by decide +kernel
theorem dX5_readAct_87 : decode cX5_readAct 87 = .ok (.invokevirtual 40, 3) := by decide +kernel
theorem dX5_readAct_90 : decode cX5_readAct 90 = .ok (.ifCond .eq 16, 3) := by decide +kernel
theorem dX5_readAct_93 : decode cX5_readAct 93 = .ok (.aload_n 0, 1) := by decide +kernel
theorem dX5_readAct_94 : decode cX5_readAct 94 = .ok (.bipush 59, 2) := by decide +kernel
theorem dX5_readAct_96 : decode cX5_readAct 96 = .ok (.invokevirtual 44, 3) := by decide +kernel
theorem dX5_readAct_99 : decode cX5_readAct 99 = .ok (.ifCond .eq 7, 3) := by decide +kernel
theorem dX5_readAct_102 : decode cX5_readAct 102 = .ok (.iconst 1, 1) := by decide +kernel
theorem dX5_readAct_103 : decode cX5_readAct 103 = .ok (.goto 4, 3) := by decide +kernel
theorem dX5_readAct_106 : decode cX5_readAct 106 = .ok (.iconst 0, 1) := by decide +kernel
theorem dX5_readAct_107 : decode cX5_readAct 107 = .ok (.ireturn, 1) := by decide +kernel
theorem dX5_readAct_108 : decode cX5_readAct 108 = .ok (.aload_n 0, 1) := by decide +kernel
theorem dX5_readAct_109 : decode cX5_readAct 109 = .ok (.dup, 1) := by decide +kernel
theorem dX5_readAct_110 : decode cX5_readAct 110 = .ok (.getfield 23, 3) := by decide +kernel
theorem dX5_readAct_113 : decode cX5_readAct 113 = .ok (.iconst 1, 1) := by decide +kernel
theorem dX5_readAct_114 : decode cX5_readAct 114 = .ok (.iadd, 1) := by decide +kernel
theorem dX5_readAct_115 : decode cX5_readAct 115 = .ok (.putfield 23, 3) := by decide +kernel
theorem dX5_readAct_118 : decode cX5_readAct 118 = .ok (.aload_n 0, 1) := by decide +kernel
theorem dX5_readAct_119 : decode cX5_readAct 119 = .ok (.iconst 1, 1) := by decide +kernel
theorem dX5_readAct_120 : decode cX5_readAct 120 = .ok (.bipush 50, 2) := by decide +kernel
theorem dX5_readAct_122 : decode cX5_readAct 122 = .ok (.invokevirtual 40, 3) := by decide +kernel
theorem dX5_readAct_125 : decode cX5_readAct 125 = .ok (.ifCond .eq 16, 3) := by decide +kernel
theorem dX5_readAct_128 : decode cX5_readAct 128 = .ok (.aload_n 0, 1) := by decide +kernel
theorem dX5_readAct_129 : decode cX5_readAct 129 = .ok (.bipush 59, 2) := by decide +kernel
theorem dX5_readAct_131 : decode cX5_readAct 131 = .ok (.invokevirtual 44, 3) := by decide +kernel
theorem dX5_readAct_134 : decode cX5_readAct 134 = .ok (.ifCond .eq 7, 3) := by decide +kernel
theorem dX5_readAct_137 : decode cX5_readAct 137 = .ok (.iconst 1, 1) := by decide +kernel
theorem dX5_readAct_138 : decode cX5_readAct 138 = .ok (.goto 4, 3) := by decide +kernel
theorem dX5_readAct_141 : decode cX5_readAct 141 = .ok (.iconst 0, 1) := by decide +kernel
theorem dX5_readAct_142 : decode cX5_readAct 142 = .ok (.ireturn, 1) := by decide +kernel
theorem dX5_readAct_143 : decode cX5_readAct 143 = .ok (.aload_n 0, 1) := by decide +kernel
theorem dX5_readAct_144 : decode cX5_readAct 144 = .ok (.dup, 1) := by decide +kernel
theorem dX5_readAct_145 : decode cX5_readAct 145 = .ok (.getfield 23, 3) := by decide +kernel
theorem dX5_readAct_148 : decode cX5_readAct 148 = .ok (.iconst 1, 1) := by decide +kernel
theorem dX5_readAct_149 : decode cX5_readAct 149 = .ok (.iadd, 1) := by decide +kernel
theorem dX5_readAct_150 : decode cX5_readAct 150 = .ok (.putfield 23, 3) := by decide +kernel
theorem dX5_readAct_153 : decode cX5_readAct 153 = .ok (.aload_n 0, 1) := by decide +kernel
theorem dX5_readAct_154 : decode cX5_readAct 154 = .ok (.bipush 59, 2) := by decide +kernel
theorem dX5_readAct_156 : decode cX5_readAct 156 = .ok (.invokevirtual 44, 3) := by decide +kernel
theorem dX5_readAct_159 : decode cX5_readAct 159 = .ok (.ireturn, 1) := by decide +kernel
theorem dX5_readAct_160 : decode cX5_readAct 160 = .ok (.aload_n 0, 1) := by decide +kernel
theorem dX5_readAct_161 : decode cX5_readAct 161 = .ok (.dup, 1) := by decide +kernel
theorem dX5_readAct_162 : decode cX5_readAct 162 = .ok (.getfield 23, 3) := by decide +kernel
theorem dX5_readAct_165 : decode cX5_readAct 165 = .ok (.iconst 1, 1) := by decide +kernel
theorem dX5_readAct_166 : decode cX5_readAct 166 = .ok (.iadd, 1) := by decide +kernel
theorem dX5_readAct_167 : decode cX5_readAct 167 = .ok (.putfield 23, 3) := by decide +kernel
theorem dX5_readAct_170 : decode cX5_readAct 170 = .ok (.aload_n 0, 1) := by decide +kernel
theorem dX5_readAct_171 : decode cX5_readAct 171 = .ok (.iconst 0, 1) := by decide +kernel
theorem dX5_readAct_172 : decode cX5_readAct 172 = .ok (.iconst 5, 1) := by decide +kernel
theorem dX5_readAct_173 : decode cX5_readAct 173 = .ok (.invokevirtual 40, 3) := by decide +kernel
theorem dX5_readAct_176 : decode cX5_readAct 176 = .ok (.ifCond .eq 35, 3) := by decide +kernel
theorem dX5_readAct_179 : decode cX5_readAct 179 = .ok (.aload_n 0, 1) := by decide +kernel
theorem dX5_readAct_180 : decode cX5_readAct 180 = .ok (.bipush 61, 2) := by decide +kernel
theorem dX5_readAct_182 : decode cX5_readAct 182 = .ok (.invokevirtual 44, 3) := by decide +kernel
theorem dX5_readAct_185 : decode cX5_readAct 185 = .ok (.ifCond .eq 26, 3) := by decide +kernel
theorem dX5_readAct_188 : decode cX5_readAct 188 = .ok (.aload_n 0, 1) := by decide +kernel
theorem dX5_readAct_189 : decode cX5_readAct 189 = .ok (.iconst 0, 1) := by decide +kernel
theorem dX5_readAct_190 : decode cX5_readAct 190 = .ok (.bipush 100, 2) := by decide +kernel
theorem dX5_readAct_192 : decode cX5_readAct 192 = .ok (.invokevirtual 48, 3) := by decide +kernel
theorem dX5_readAct_195 : decode cX5_readAct 195 = .ok (.ifCond .eq 16, 3) := by decide +kernel
theorem dX5_readAct_198 : decode cX5_readAct 198 = .ok (.aload_n 0, 1) := by decide +kernel
theorem dX5_readAct_199 : decode cX5_readAct 199 = .ok (.bipush 59, 2) := by decide +kernel
theorem dX5_readAct_201 : decode cX5_readAct 201 = .ok (.invokevirtual 44, 3) := by decide +kernel
theorem dX5_readAct_204 : decode cX5_readAct 204 = .ok (.ifCond .eq 7, 3) := by decide +kernel
theorem dX5_readAct_207 : decode cX5_readAct 207 = .ok (.iconst 1, 1) := by decide +kernel
theorem dX5_readAct_208 : decode cX5_readAct 208 = .ok (.goto 4, 3) := by decide +kernel
theorem dX5_readAct_211 : decode cX5_readAct 211 = .ok (.iconst 0, 1) := by decide +kernel
theorem dX5_readAct_212 : decode cX5_readAct 212 = .ok (.ireturn, 1) := by decide +kernel
theorem dX5_readAct_213 : decode cX5_readAct 213 = .ok (.iconst 0, 1) := by decide +kernel
theorem dX5_readAct_214 : decode cX5_readAct 214 = .ok (.ireturn, 1) := by decide +kernel
theorem dX5_here_0 : decode cX5_here 0 = .ok (.aload_n 0, 1) := by decide +kernel
theorem dX5_here_1 : decode cX5_here 1 = .ok (.getfield 23, 3) := by decide +kernel
theorem dX5_here_4 : decode cX5_here 4 = .ok (.iconst 0, 1) := by decide +kernel
theorem dX5_here_5 : decode cX5_here 5 = .ok (.aload_n 0, 1) := by decide +kernel
theorem dX5_here_6 : decode cX5_here 6 = .ok (.getfield 19, 3) := by decide +kernel
theorem dX5_here_9 : decode cX5_here 9 = .ok (.iconst 1, 1) := by decide +kernel
theorem dX5_here_10 : decode cX5_here 10 = .ok (.isub, 1) := by decide +kernel
theorem dX5_here_11 : decode cX5_here 11 = .ok (.invokestatic 15, 3) := by decide +kernel
theorem dX5_here_14 : decode cX5_here 14 = .ok (.ifCond .eq 15, 3) := by decide +kernel
theorem dX5_here_17 : decode cX5_here 17 = .ok (.aload_n 0, 1) := by decide +kernel
theorem dX5_here_18 : decode cX5_here 18 = .ok (.getfield 9, 3) := by decide +kernel
theorem dX5_here_21 : decode cX5_here 21 = .ok (.aload_n 0, 1) := by decide +kernel
theorem dX5_here_22 : decode cX5_here 22 = .ok (.getfield 23, 3) := by decide +kernel
theorem dX5_here_25 : decode cX5_here 25 = .ok (.iaload, 1) := by decide +kernel
theorem dX5_here_26 : decode cX5_here 26 = .ok (.goto 5, 3) := by decide +kernel
theorem dX5_here_29 : decode cX5_here 29 = .ok (.bipush (-6), 2) := by decide +kernel
theorem dX5_here_31 : decode cX5_here 31 = .ok (.ireturn, 1) := by decide +kernel
theorem dX5_readSign_0 : decode cX5_readSign 0 = .ok (.aload_n 0, 1) := by decide +kernel
theorem dX5_readSign_1 : decode cX5_readSign 1 = .ok (.invokevirtual 33, 3) := by decide +kernel
theorem dX5_readSign_4 : decode cX5_readSign 4 = .ok (.iload_n 1, 1) := by decide +kernel
theorem dX5_readSign_5 : decode cX5_readSign 5 = .ok (.if_icmp .eq 5, 3) := by decide +kernel
theorem dX5_readSign_8 : decode cX5_readSign 8 = .ok (.iconst 0, 1) := by decide +kernel
theorem dX5_readSign_9 : decode cX5_readSign 9 = .ok (.ireturn, 1) := by decide +kernel
theorem dX5_readSign_10 : decode cX5_readSign 10 = .ok (.aload_n 0, 1) := by decide +kernel
theorem dX5_readSign_11 : decode cX5_readSign 11 = .ok (.dup, 1) := by decide +kernel
theorem dX5_readSign_12 : decode cX5_readSign 12 = .ok (.getfield 23, 3) := by decide +kernel
theorem dX5_readSign_15 : decode cX5_readSign 15 = .ok (.iconst 1, 1) := by decide +kernel
theorem dX5_readSign_16 : decode cX5_readSign 16 = .ok (.iadd, 1) := by decide +kernel
theorem dX5_readSign_17 : decode cX5_readSign 17 = .ok (.putfield 23, 3) := by decide +kernel
theorem dX5_readSign_20 : decode cX5_readSign 20 = .ok (.iconst 1, 1) := by decide +kernel
theorem dX5_readSign_21 : decode cX5_readSign 21 = .ok (.ireturn, 1) := by decide +kernel
theorem dX5_readFirst_0 : decode cX5_readFirst 0 = .ok (.aload_n 0, 1) := by decide +kernel
theorem dX5_readFirst_1 : decode cX5_readFirst 1 = .ok (.iload_n 1, 1) := by decide +kernel
theorem dX5_readFirst_2 : decode cX5_readFirst 2 = .ok (.iload_n 2, 1) := by decide +kernel
theorem dX5_readFirst_3 : decode cX5_readFirst 3 = .ok (.invokevirtual 51, 3) := by decide +kernel
theorem dX5_readFirst_6 : decode cX5_readFirst 6 = .ok (.istore_n 3, 1) := by decide +kernel
theorem dX5_readFirst_7 : decode cX5_readFirst 7 = .ok (.aload_n 0, 1) := by decide +kernel
theorem dX5_readFirst_8 : decode cX5_readFirst 8 = .ok (.aload_n 0, 1) := by decide +kernel
theorem dX5_readFirst_9 : decode cX5_readFirst 9 = .ok (.getfield 54, 3) := by decide +kernel
theorem dX5_readFirst_12 : decode cX5_readFirst 12 = .ok (.putfield 57, 3) := by decide +kernel
theorem dX5_readFirst_15 : decode cX5_readFirst 15 = .ok (.iload_n 3, 1) := by decide +kernel
theorem dX5_readFirst_16 : decode cX5_readFirst 16 = .ok (.ireturn, 1) := by decide +kernel
theorem dX5_readSecond_0 : decode cX5_readSecond 0 = .ok (.aload_n 0, 1) := by decide +kernel
theorem dX5_readSecond_1 : decode cX5_readSecond 1 = .ok (.iload_n 1, 1) := by decide +kernel
theorem dX5_readSecond_2 : decode cX5_readSecond 2 = .ok (.iload_n 2, 1) := by decide +kernel
theorem dX5_readSecond_3 : decode cX5_readSecond 3 = .ok (.invokevirtual 51, 3) := by decide +kernel
theorem dX5_readSecond_6 : decode cX5_readSecond 6 = .ok (.istore_n 3, 1) := by decide +kernel
theorem dX5_readSecond_7 : decode cX5_readSecond 7 = .ok (.aload_n 0, 1) := by decide +kernel
theorem dX5_readSecond_8 : decode cX5_readSecond 8 = .ok (.aload_n 0, 1) := by decide +kernel
theorem dX5_readSecond_9 : decode cX5_readSecond 9 = .ok (.getfield 54, 3) := by decide +kernel
theorem dX5_readSecond_12 : decode cX5_readSecond 12 = .ok (.putfield 60, 3) := by decide +kernel
theorem dX5_readSecond_15 : decode cX5_readSecond 15 = .ok (.iload_n 3, 1) := by decide +kernel
theorem dX5_readSecond_16 : decode cX5_readSecond 16 = .ok (.ireturn, 1) := by decide +kernel
theorem dX5_readNumber_0 : decode cX5_readNumber 0 = .ok (.aload_n 0, 1) := by decide +kernel
theorem dX5_readNumber_1 : decode cX5_readNumber 1 = .ok (.getfield 23, 3) := by decide +kernel
theorem dX5_readNumber_4 : decode cX5_readNumber 4 = .ok (.istore_n 3, 1) := by decide +kernel
theorem dX5_readNumber_5 : decode cX5_readNumber 5 = .ok (.iconst 0, 1) := by decide +kernel
theorem dX5_readNumber_6 : decode cX5_readNumber 6 = .ok (.istore 4, 2) := by decide +kernel
theorem dX5_readNumber_8 : decode cX5_readNumber 8 = .ok (.aload_n 0, 1) := by decide +kernel
theorem dX5_readNumber_9 : decode cX5_readNumber 9 = .ok (.iconst 0, 1) := by decide +kernel
theorem dX5_readNumber_10 : decode cX5_readNumber 10 = .ok (.putfield 54, 3) := by decide +kernel
theorem dX5_readNumber_13 : decode cX5_readNumber 13 = .ok (.iload 4, 2) := by decide +kernel
theorem dX5_readNumber_15 : decode cX5_readNumber 15 = .ok (.iconst 3, 1) := by decide +kernel
theorem dX5_readNumber_16 : decode cX5_readNumber 16 = .ok (.if_icmp .ge 64, 3) := by decide +kernel
theorem dX5_readNumber_19 : decode cX5_readNumber 19 = .ok (.aload_n 0, 1) := by decide +kernel
theorem dX5_readNumber_20 : decode cX5_readNumber 20 = .ok (.invokevirtual 33, 3) := by decide +kernel
theorem dX5_readNumber_23 : decode cX5_readNumber 23 = .ok (.bipush 48, 2) := by decide +kernel
theorem dX5_readNumber_25 : decode cX5_readNumber 25 = .ok (.bipush 57, 2) := by decide +kernel
theorem dX5_readNumber_27 : decode cX5_readNumber 27 = .ok (.invokestatic 15, 3) := by decide +kernel
theorem dX5_readNumber_30 : decode cX5_readNumber 30 = .ok (.ifCond .eq 50, 3) := by decide +kernel
theorem dX5_readNumber_33 : decode cX5_readNumber 33 = .ok (.iload 4, 2) := by decide +kernel
theorem dX5_readNumber_35 : decode cX5_readNumber 35 = .ok (.ifCond .le 10, 3) := by decide +kernel
theorem dX5_readNumber_38 : decode cX5_readNumber 38 = .ok (.aload_n 0, 1) := by decide +kernel
theorem dX5_readNumber_39 : decode cX5_readNumber 39 = .ok (.getfield 54, 3) := by decide +kernel
theorem dX5_readNumber_42 : decode cX5_readNumber 42 = .ok (.ifCond .eq 38, 3) := by decide +kernel
theorem dX5_readNumber_45 : decode cX5_readNumber 45 = .ok (.aload_n 0, 1) := by decide +kernel
theorem dX5_readNumber_46 : decode cX5_readNumber 46 = .ok (.aload_n 0, 1) := by decide +kernel
theorem dX5_readNumber_47 : decode cX5_readNumber 47 = .ok (.getfield 54, 3) := by decide +kernel
theorem dX5_readNumber_50 : decode cX5_readNumber 50 = .ok (.bipush 10, 2) := by decide +kernel
theorem dX5_readNumber_52 : decode cX5_readNumber 52 = .ok (.imul, 1) := by decide +kernel
theorem dX5_readNumber_53 : decode cX5_readNumber 53 = .ok (.aload_n 0, 1) := by decide +kernel
theorem dX5_readNumber_54 : decode cX5_readNumber 54 = .ok (.invokevirtual 33, 3) := by decide +kernel
theorem dX5_readNumber_57 : decode cX5_readNumber 57 = .ok (.iadd, 1) := by decide +kernel
theorem dX5_readNumber_58 : decode cX5_readNumber 58 = .ok (.bipush 48, 2) := by decide +kernel
theorem dX5_readNumber_60 : decode cX5_readNumber 60 = .ok (.isub, 1) := by decide +kernel
theorem dX5_readNumber_61 : decode cX5_readNumber 61 = .ok (.putfield 54, 3) := by decide +kernel
theorem dX5_readNumber_64 : decode cX5_readNumber 64 = .ok (.iinc 4 1, 3) := by decide +kernel
theorem dX5_readNumber_67 : decode cX5_readNumber 67 = .ok (.aload_n 0, 1) := by decide +kernel
theorem dX5_readNumber_68 : decode cX5_readNumber 68 = .ok (.dup, 1) := by decide +kernel
theorem dX5_readNumber_69 : decode cX5_readNumber 69 = .ok (.getfield 23, 3) := by decide +kernel
theorem dX5_readNumber_72 : decode cX5_readNumber 72 = .ok (.iconst 1, 1) := by decide +kernel
theorem dX5_readNumber_73 : decode cX5_readNumber 73 = .ok (.iadd, 1) := by decide +kernel
theorem dX5_readNumber_74 : decode cX5_readNumber 74 = .ok (.putfield 23, 3) := by decide +kernel
theorem dX5_readNumber_77 : decode cX5_readNumber 77 = .ok (.goto (-64), 3) := by decide +kernel
theorem dX5_readNumber_80 : decode cX5_readNumber 80 = .ok (.iload 4, 2) := by decide +kernel
theorem dX5_readNumber_82 : decode cX5_readNumber 82 = .ok (.ifCond .ne 5, 3) := by decide +kernel
theorem dX5_readNumber_85 : decode cX5_readNumber 85 = .ok (.iconst 0, 1) := by decide +kernel
theorem dX5_readNumber_86 : decode cX5_readNumber 86 = .ok (.ireturn, 1) := by decide +kernel
theorem dX5_readNumber_87 : decode cX5_readNumber 87 = .ok (.aload_n 0, 1) := by decide +kernel
theorem dX5_readNumber_88 : decode cX5_readNumber 88 = .ok (.getfield 54, 3) := by decide +kernel
theorem dX5_readNumber_91 : decode cX5_readNumber 91 = .ok (.iload_n 1, 1) := by decide +kernel
theorem dX5_readNumber_92 : decode cX5_readNumber 92 = .ok (.iload_n 2, 1) := by decide +kernel
theorem dX5_readNumber_93 : decode cX5_readNumber 93 = .ok (.invokestatic 15, 3) := by decide +kernel
theorem dX5_readNumber_96 : decode cX5_readNumber 96 = .ok (.ifCond .ne 10, 3) := by decide +kernel
theorem dX5_readNumber_99 : decode cX5_readNumber 99 = .ok (.aload_n 0, 1) := by decide +kernel
theorem dX5_readNumber_100 : decode cX5_readNumber 100 = .ok (.iload_n 3, 1) := by decide +kernel
theorem dX5_readNumber_101 : decode cX5_readNumber 101 = .ok (.putfield 23, 3) := by decide +kernel
theorem dX5_readNumber_104 : decode cX5_readNumber 104 = .ok (.iconst 0, 1) := by decide +kernel
theorem dX5_readNumber_105 : decode cX5_readNumber 105 = .ok (.ireturn, 1) := by decide +kernel
theorem dX5_readNumber_106 : decode cX5_readNumber 106 = .ok (.iconst 1, 1) := by decide +kernel
theorem dX5_readNumber_107 : decode cX5_readNumber 107 = .ok (.ireturn, 1) := by decide +kernel
theorem dJ7_fill_53178_0 : decode cJ7_fill_53178 0 = .ok (.iconst 0, 1) := by decide +kernel
theorem dJ7_fill_53178_1 : decode cJ7_fill_53178 1 = .ok (.istore_n 2, 1) := by decide +kernel
theorem dJ7_fill_53178_2 : decode cJ7_fill_53178 2 = .ok (.aload_n 0, 1) := by decide +kernel
theorem dJ7_fill_53178_3 : decode cJ7_fill_53178 3 = .ok (.arraylength, 1) := by decide +kernel
theorem dJ7_fill_53178_4 : decode cJ7_fill_53178 4 = .ok (.istore_n 3, 1) := by decide +kernel
theorem dJ7_fill_53178_5 : decode cJ7_fill_53178 5 = .ok (.iload_n 2, 1) := by decide +kernel
theorem dJ7_fill_53178_6 : decode cJ7_fill_53178 6 = .ok (.iload_n 3, 1) := by decide +kernel
theorem dJ7_fill_53178_7 : decode cJ7_fill_53178 7 = .ok (.if_icmp .ge 13, 3) := by decide +kernel
theorem dJ7_fill_53178_10 : decode cJ7_fill_53178 10 = .ok (.aload_n 0, 1) := by decide +kernel
theorem dJ7_fill_53178_11 : decode cJ7_fill_53178 11 = .ok (.iload_n 2, 1) := by decide +kernel
theorem dJ7_fill_53178_12 : decode cJ7_fill_53178 12 = .ok (.iload_n 1, 1) := by decide +kernel
theorem dJ7_fill_53178_13 : decode cJ7_fill_53178 13 = .ok (.iastore, 1) := by decide +kernel
theorem dJ7_fill_53178_14 : decode cJ7_fill_53178 14 = .ok (.iinc 2 1, 3) := by decide +kernel
theorem dJ7_fill_53178_17 : decode cJ7_fill_53178 17 = .ok (.goto (-12), 3) := by decide +kernel
theorem dJ7_fill_53178_20 : decode cJ7_fill_53178 20 = .ok (.return_, 1) := by decide +kernel
