theorem dX7_init_0 : decode cX7_init 0 = .ok (.aload_n 0, 1) := by decide +kernel
theorem dX7_init_1 : decode cX7_init 1 = .ok (.invokespecial 1, 3) := by decide +kernel
theorem dX7_init_4 : decode cX7_init 4 = .ok (.aload_n 0, 1) := by decide +kernel
theorem dX7_init_5 : decode cX7_init 5 = .ok (.sipush 16272, 3) := by decide +kernel
theorem dX7_init_8 : decode cX7_init 8 = .ok (.newarray .int, 2) := by decide +kernel
theorem dX7_init_10 : decode cX7_init 10 = .ok (.putfield 7, 3) := by decide +kernel
theorem dX7_init_13 : decode cX7_init 13 = .ok (.aload_n 0, 1) := by decide +kernel
theorem dX7_init_14 : decode cX7_init 14 = .ok (.iconst 2, 1) := by decide +kernel
theorem dX7_init_15 : decode cX7_init 15 = .ok (.newarray .boolean, 2) := by decide +kernel
theorem dX7_init_17 : decode cX7_init 17 = .ok (.putfield 13, 3) := by decide +kernel
theorem dX7_init_20 : decode cX7_init 20 = .ok (.aload_n 0, 1) := by decide +kernel
theorem dX7_init_21 : decode cX7_init 21 = .ok (.bipush 80, 2) := by decide +kernel
theorem dX7_init_23 : decode cX7_init 23 = .ok (.newarray .int, 2) := by decide +kernel
theorem dX7_init_25 : decode cX7_init 25 = .ok (.putfield 17, 3) := by decide +kernel
theorem dX7_init_28 : decode cX7_init 28 = .ok (.aload_n 0, 1) := by decide +kernel
theorem dX7_init_29 : decode cX7_init 29 = .ok (.bipush 6, 2) := by decide +kernel
theorem dX7_init_31 : decode cX7_init 31 = .ok (.newarray .int, 2) := by decide +kernel
theorem dX7_init_33 : decode cX7_init 33 = .ok (.putfield 20, 3) := by decide +kernel
theorem dX7_init_36 : decode cX7_init 36 = .ok (.aload_n 0, 1) := by decide +kernel
theorem dX7_init_37 : decode cX7_init 37 = .ok (.getfield 7, 3) := by decide +kernel
theorem dX7_init_40 : decode cX7_init 40 = .ok (.bipush 13, 2) := by decide +kernel
theorem dX7_init_42 : decode cX7_init 42 = .ok (.iconst 1, 1) := by decide +kernel
theorem dX7_init_43 : decode cX7_init 43 = .ok (.iastore, 1) := by decide +kernel
theorem dX7_init_44 : decode cX7_init 44 = .ok (.aload_n 0, 1) := by decide +kernel
theorem dX7_init_45 : decode cX7_init 45 = .ok (.getfield 7, 3) := by decide +kernel
theorem dX7_init_48 : decode cX7_init 48 = .ok (.bipush 14, 2) := by decide +kernel
theorem dX7_init_50 : decode cX7_init 50 = .ok (.iconst 1, 1) := by decide +kernel
theorem dX7_init_51 : decode cX7_init 51 = .ok (.iastore, 1) := by decide +kernel
theorem dX7_init_52 : decode cX7_init 52 = .ok (.aload_n 0, 1) := by decide +kernel
theorem dX7_init_53 : decode cX7_init 53 = .ok (.getfield 7, 3) := by decide +kernel
theorem dX7_init_56 : decode cX7_init 56 = .ok (.bipush 15, 2) := by decide +kernel
theorem dX7_init_58 : decode cX7_init 58 = .ok (.bipush 25, 2) := by decide +kernel
theorem dX7_init_60 : decode cX7_init 60 = .ok (.iastore, 1) := by decide +kernel
theorem dX7_init_61 : decode cX7_init 61 = .ok (.aload_n 0, 1) := by decide +kernel
theorem dX7_init_62 : decode cX7_init 62 = .ok (.getfield 7, 3) := by decide +kernel
theorem dX7_init_65 : decode cX7_init 65 = .ok (.bipush 16, 2) := by decide +kernel
theorem dX7_init_67 : decode cX7_init 67 = .ok (.bipush 50, 2) := by decide +kernel
theorem dX7_init_69 : decode cX7_init 69 = .ok (.iastore, 1) := by decide +kernel
theorem dX7_init_70 : decode cX7_init 70 = .ok (.aload_n 0, 1) := by decide +kernel
theorem dX7_init_71 : decode cX7_init 71 = .ok (.getfield 7, 3) := by decide +kernel
theorem dX7_init_74 : decode cX7_init 74 = .ok (.bipush 17, 2) := by decide +kernel
theorem dX7_init_76 : decode cX7_init 76 = .ok (.iconst 1, 1) := by decide +kernel
theorem dX7_init_77 : decode cX7_init 77 = .ok (.iastore, 1) := by decide +kernel
theorem dX7_init_78 : decode cX7_init 78 = .ok (.aload_n 0, 1) := by decide +kernel
theorem dX7_init_79 : decode cX7_init 79 = .ok (.invokevirtual 23, 3) := by decide +kernel
theorem dX7_init_82 : decode cX7_init 82 = .ok (.aload_n 0, 1) := by decide +kernel
theorem dX7_init_83 : decode cX7_init 83 = .ok (.invokevirtual 26, 3) := by decide +kernel
theorem dX7_init_86 : decode cX7_init 86 = .ok (.return_, 1) := by decide +kernel
theorem dX7_in_0 : decode cX7_in 0 = .ok (.iload_n 0, 1) := by decide +kernel
theorem dX7_in_1 : decode cX7_in 1 = .ok (.iload_n 1, 1) := by decide +kernel
theorem dX7_in_2 : decode cX7_in 2 = .ok (.if_icmp .lt 12, 3) := by decide +kernel
theorem dX7_in_5 : decode cX7_in 5 = .ok (.iload_n 0, 1) := by decide +kernel
theorem dX7_in_6 : decode cX7_in 6 = .ok (.iload_n 2, 1) := by decide +kernel
theorem dX7_in_7 : decode cX7_in 7 = .ok (.if_icmp .gt 7, 3) := by decide +kernel
theorem dX7_in_10 : decode cX7_in 10 = .ok (.iconst 1, 1) := by decide +kernel
theorem dX7_in_11 : decode cX7_in 11 = .ok (.goto 4, 3) := by decide +kernel
theorem dX7_in_14 : decode cX7_in 14 = .ok (.iconst 0, 1) := by decide +kernel
theorem dX7_in_15 : decode cX7_in 15 = .ok (.ireturn, 1) := by decide +kernel
theorem dX7_copies_0 : decode cX7_copies 0 = .ok (.iconst 0, 1) := by decide +kernel
theorem dX7_copies_1 : decode cX7_copies 1 = .ok (.istore_n 3, 1) := by decide +kernel
theorem dX7_copies_2 : decode cX7_copies 2 = .ok (.iload_n 3, 1) := by decide +kernel
theorem dX7_copies_3 : decode cX7_copies 3 = .ok (.sipush 1808, 3) := by decide +kernel
theorem dX7_copies_6 : decode cX7_copies 6 = .ok (.if_icmp .ge 25, 3) := by decide +kernel
theorem dX7_copies_9 : decode cX7_copies 9 = .ok (.aload_n 0, 1) := by decide +kernel
theorem dX7_copies_10 : decode cX7_copies 10 = .ok (.getfield 7, 3) := by decide +kernel
theorem dX7_copies_13 : decode cX7_copies 13 = .ok (.iload_n 2, 1) := by decide +kernel
theorem dX7_copies_14 : decode cX7_copies 14 = .ok (.iload_n 3, 1) := by decide +kernel
theorem dX7_copies_15 : decode cX7_copies 15 = .ok (.iadd, 1) := by decide +kernel
theorem dX7_copies_16 : decode cX7_copies 16 = .ok (.aload_n 0, 1) := by decide +kernel
theorem dX7_copies_17 : decode cX7_copies 17 = .ok (.getfield 7, 3) := by decide +kernel
theorem dX7_copies_20 : decode cX7_copies 20 = .ok (.iload_n 1, 1) := by decide +kernel
theorem dX7_copies_21 : decode cX7_copies 21 = .ok (.iload_n 3, 1) := by decide +kernel
theorem dX7_copies_22 : decode cX7_copies 22 = .ok (.iadd, 1) := by decide +kernel
theorem dX7_copies_23 : decode cX7_copies 23 = .ok (.iaload, 1) := by decide +kernel
theorem dX7_copies_24 : decode cX7_copies 24 = .ok (.iastore, 1) := by decide +kernel
theorem dX7_copies_25 : decode cX7_copies 25 = .ok (.iinc 3 1, 3) := by decide +kernel
theorem dX7_copies_28 : decode cX7_copies 28 = .ok (.goto (-26), 3) := by decide +kernel
theorem dX7_copies_31 : decode cX7_copies 31 = .ok (.return_, 1) := by decide +kernel
theorem dX7_records_0 : decode cX7_records 0 = .ok (.aload_n 0, 1) := by decide +kernel
theorem dX7_records_1 : decode cX7_records 1 = .ok (.getfield 29, 3) := by decide +kernel
theorem dX7_records_4 : decode cX7_records 4 = .ok (.iconst 5, 1) := by decide +kernel
theorem dX7_records_5 : decode cX7_records 5 = .ok (.if_icmp .ne 42, 3) := by decide +kernel
theorem dX7_records_8 : decode cX7_records 8 = .ok (.iconst 1, 1) := by decide +kernel
theorem dX7_records_9 : decode cX7_records 9 = .ok (.istore_n 1, 1) := by decide +kernel
theorem dX7_records_10 : decode cX7_records 10 = .ok (.iload_n 1, 1) := by decide +kernel
theorem dX7_records_11 : decode cX7_records 11 = .ok (.iconst 5, 1) := by decide +kernel
theorem dX7_records_12 : decode cX7_records 12 = .ok (.if_icmp .ge 25, 3) := by decide +kernel
theorem dX7_records_15 : decode cX7_records 15 = .ok (.aload_n 0, 1) := by decide +kernel
theorem dX7_records_16 : decode cX7_records 16 = .ok (.sipush 1808, 3) := by decide +kernel
theorem dX7_records_19 : decode cX7_records 19 = .ok (.iload_n 1, 1) := by decide +kernel
theorem dX7_records_20 : decode cX7_records 20 = .ok (.iconst 1, 1) := by decide +kernel
theorem dX7_records_21 : decode cX7_records 21 = .ok (.iadd, 1) := by decide +kernel
theorem dX7_records_22 : decode cX7_records 22 = .ok (.imul, 1) := by decide +kernel
theorem dX7_records_23 : decode cX7_records 23 = .ok (.sipush 1808, 3) := by decide +kernel
theorem dX7_records_26 : decode cX7_records 26 = .ok (.iload_n 1, 1) := by decide +kernel
theorem dX7_records_27 : decode cX7_records 27 = .ok (.imul, 1) := by decide +kernel
theorem dX7_records_28 : decode cX7_records 28 = .ok (.invokevirtual 33, 3) := by decide +kernel
theorem dX7_records_31 : decode cX7_records 31 = .ok (.iinc 1 1, 3) := by decide +kernel
theorem dX7_records_34 : decode cX7_records 34 = .ok (.goto (-24), 3) := by decide +kernel
theorem dX7_records_37 : decode cX7_records 37 = .ok (.aload_n 0, 1) := by decide +kernel
theorem dX7_records_38 : decode cX7_records 38 = .ok (.dup, 1) := by decide +kernel
theorem dX7_records_39 : decode cX7_records 39 = .ok (.getfield 29, 3) := by decide +kernel
theorem dX7_records_42 : decode cX7_records 42 = .ok (.iconst 1, 1) := by decide +kernel
theorem dX7_records_43 : decode cX7_records 43 = .ok (.isub, 1) := by decide +kernel
theorem dX7_records_44 : decode cX7_records 44 = .ok (.putfield 29, 3) := by decide +kernel
theorem dX7_records_47 : decode cX7_records 47 = .ok (.aload_n 0, 1) := by decide +kernel
theorem dX7_records_48 : decode cX7_records 48 = .ok (.dup, 1) := by decide +kernel
theorem dX7_records_49 : decode cX7_records 49 = .ok (.getfield 29, 3) := by decide +kernel
theorem dX7_records_52 : decode cX7_records 52 = .ok (.iconst 1, 1) := by decide +kernel
theorem dX7_records_53 : decode cX7_records 53 = .ok (.iadd, 1) := by decide +kernel
theorem dX7_records_54 : decode cX7_records 54 = .ok (.putfield 29, 3) := by decide +kernel
theorem dX7_records_57 : decode cX7_records 57 = .ok (.aload_n 0, 1) := by decide +kernel
theorem dX7_records_58 : decode cX7_records 58 = .ok (.iconst 0, 1) := by decide +kernel
theorem dX7_records_59 : decode cX7_records 59 = .ok (.sipush 1808, 3) := by decide +kernel
theorem dX7_records_62 : decode cX7_records 62 = .ok (.aload_n 0, 1) := by decide +kernel
theorem dX7_records_63 : decode cX7_records 63 = .ok (.getfield 29, 3) := by decide +kernel
theorem dX7_records_66 : decode cX7_records 66 = .ok (.imul, 1) := by decide +kernel
theorem dX7_records_67 : decode cX7_records 67 = .ok (.invokevirtual 33, 3) := by decide +kernel
theorem dX7_records_70 : decode cX7_records 70 = .ok (.return_, 1) := by decide +kernel
theorem dX7_forgets_0 : decode cX7_forgets 0 = .ok (.sipush 308, 3) := by decide +kernel
theorem dX7_forgets_3 : decode cX7_forgets 3 = .ok (.istore_n 1, 1) := by decide +kernel
theorem dX7_forgets_4 : decode cX7_forgets 4 = .ok (.iload_n 1, 1) := by decide +kernel
theorem dX7_forgets_5 : decode cX7_forgets 5 = .ok (.sipush 908, 3) := by decide +kernel
theorem dX7_forgets_8 : decode cX7_forgets 8 = .ok (.if_icmp .ge 17, 3) := by decide +kernel
theorem dX7_forgets_11 : decode cX7_forgets 11 = .ok (.aload_n 0, 1) := by decide +kernel
theorem dX7_forgets_12 : decode cX7_forgets 12 = .ok (.getfield 7, 3) := by decide +kernel
theorem dX7_forgets_15 : decode cX7_forgets 15 = .ok (.iload_n 1, 1) := by decide +kernel
theorem dX7_forgets_16 : decode cX7_forgets 16 = .ok (.bipush (-6), 2) := by decide +kernel
theorem dX7_forgets_18 : decode cX7_forgets 18 = .ok (.iastore, 1) := by decide +kernel
theorem dX7_forgets_19 : decode cX7_forgets 19 = .ok (.iinc 1 1, 3) := by decide +kernel
theorem dX7_forgets_22 : decode cX7_forgets 22 = .ok (.goto (-18), 3) := by decide +kernel
theorem dX7_forgets_25 : decode cX7_forgets 25 = .ok (.sipush 1608, 3) := by decide +kernel
theorem dX7_forgets_28 : decode cX7_forgets 28 = .ok (.istore_n 1, 1) := by decide +kernel
theorem dX7_forgets_29 : decode cX7_forgets 29 = .ok (.iload_n 1, 1) := by decide +kernel
theorem dX7_forgets_30 : decode cX7_forgets 30 = .ok (.sipush 1808, 3) := by decide +kernel
theorem dX7_forgets_33 : decode cX7_forgets 33 = .ok (.if_icmp .ge 17, 3) := by decide +kernel
theorem dX7_forgets_36 : decode cX7_forgets 36 = .ok (.aload_n 0, 1) := by decide +kernel
theorem dX7_forgets_37 : decode cX7_forgets 37 = .ok (.getfield 7, 3) := by decide +kernel
theorem dX7_forgets_40 : decode cX7_forgets 40 = .ok (.iload_n 1, 1) := by decide +kernel
theorem dX7_forgets_41 : decode cX7_forgets 41 = .ok (.bipush (-6), 2) := by decide +kernel
theorem dX7_forgets_43 : decode cX7_forgets 43 = .ok (.iastore, 1) := by decide +kernel
theorem dX7_forgets_44 : decode cX7_forgets 44 = .ok (.iinc 1 1, 3) := by decide +kernel
theorem dX7_forgets_47 : decode cX7_forgets 47 = .ok (.goto (-18), 3) := by decide +kernel
theorem dX7_forgets_50 : decode cX7_forgets 50 = .ok (.iconst 0, 1) := by decide +kernel
theorem dX7_forgets_51 : decode cX7_forgets 51 = .ok (.istore_n 1, 1) := by decide +kernel
theorem dX7_forgets_52 : decode cX7_forgets 52 = .ok (.iload_n 1, 1) := by decide +kernel
theorem dX7_forgets_53 : decode cX7_forgets 53 = .ok (.bipush 6, 2) := by decide +kernel
theorem dX7_forgets_55 : decode cX7_forgets 55 = .ok (.if_icmp .ge 31, 3) := by decide +kernel
theorem dX7_forgets_58 : decode cX7_forgets 58 = .ok (.bipush 25, 2) := by decide +kernel
theorem dX7_forgets_60 : decode cX7_forgets 60 = .ok (.istore_n 2, 1) := by decide +kernel
theorem dX7_forgets_61 : decode cX7_forgets 61 = .ok (.iload_n 2, 1) := by decide +kernel
theorem dX7_forgets_62 : decode cX7_forgets 62 = .ok (.bipush 29, 2) := by decide +kernel
theorem dX7_forgets_64 : decode cX7_forgets 64 = .ok (.if_icmp .ge 16, 3) := by decide +kernel
theorem dX7_forgets_67 : decode cX7_forgets 67 = .ok (.aload_n 0, 1) := by decide +kernel
theorem dX7_forgets_68 : decode cX7_forgets 68 = .ok (.iload_n 1, 1) := by decide +kernel
theorem dX7_forgets_69 : decode cX7_forgets 69 = .ok (.iload_n 2, 1) := by decide +kernel
theorem dX7_forgets_70 : decode cX7_forgets 70 = .ok (.iconst 0, 1) := by decide +kernel
theorem dX7_forgets_71 : decode cX7_forgets 71 = .ok (.invokevirtual 37, 3) := by decide +kernel
theorem dX7_forgets_74 : decode cX7_forgets 74 = .ok (.iinc 2 1, 3) := by decide +kernel
theorem dX7_forgets_77 : decode cX7_forgets 77 = .ok (.goto (-16), 3) := by decide +kernel
theorem dX7_forgets_80 : decode cX7_forgets 80 = .ok (.iinc 1 1, 3) := by decide +kernel
theorem dX7_forgets_83 : decode cX7_forgets 83 = .ok (.goto (-31), 3) := by decide +kernel
theorem dX7_forgets_86 : decode cX7_forgets 86 = .ok (.aload_n 0, 1) := by decide +kernel
theorem dX7_forgets_87 : decode cX7_forgets 87 = .ok (.getfield 7, 3) := by decide +kernel
theorem dX7_forgets_90 : decode cX7_forgets 90 = .ok (.bipush 6, 2) := by decide +kernel
theorem dX7_forgets_92 : decode cX7_forgets 92 = .ok (.iconst 0, 1) := by decide +kernel
theorem dX7_forgets_93 : decode cX7_forgets 93 = .ok (.iastore, 1) := by decide +kernel
theorem dX7_forgets_94 : decode cX7_forgets 94 = .ok (.aload_n 0, 1) := by decide +kernel
theorem dX7_forgets_95 : decode cX7_forgets 95 = .ok (.getfield 7, 3) := by decide +kernel
theorem dX7_forgets_98 : decode cX7_forgets 98 = .ok (.bipush 7, 2) := by decide +kernel
theorem dX7_forgets_100 : decode cX7_forgets 100 = .ok (.iconst 1, 1) := by decide +kernel
theorem dX7_forgets_101 : decode cX7_forgets 101 = .ok (.iastore, 1) := by decide +kernel
theorem dX7_forgets_102 : decode cX7_forgets 102 = .ok (.aload_n 0, 1) := by decide +kernel
theorem dX7_forgets_103 : decode cX7_forgets 103 = .ok (.getfield 7, 3) := by decide +kernel
theorem dX7_forgets_106 : decode cX7_forgets 106 = .ok (.bipush 8, 2) := by decide +kernel
theorem dX7_forgets_108 : decode cX7_forgets 108 = .ok (.iconst 0, 1) := by decide +kernel
theorem dX7_forgets_109 : decode cX7_forgets 109 = .ok (.iastore, 1) := by decide +kernel
theorem dX7_forgets_110 : decode cX7_forgets 110 = .ok (.aload_n 0, 1) := by decide +kernel
theorem dX7_forgets_111 : decode cX7_forgets 111 = .ok (.getfield 7, 3) := by decide +kernel
theorem dX7_forgets_114 : decode cX7_forgets 114 = .ok (.bipush 9, 2) := by decide +kernel
theorem dX7_forgets_116 : decode cX7_forgets 116 = .ok (.bipush (-6), 2) := by decide +kernel
theorem dX7_forgets_118 : decode cX7_forgets 118 = .ok (.iastore, 1) := by decide +kernel
theorem dX7_forgets_119 : decode cX7_forgets 119 = .ok (.aload_n 0, 1) := by decide +kernel
theorem dX7_forgets_120 : decode cX7_forgets 120 = .ok (.getfield 7, 3) := by decide +kernel
theorem dX7_forgets_123 : decode cX7_forgets 123 = .ok (.bipush 10, 2) := by decide +kernel
theorem dX7_forgets_125 : decode cX7_forgets 125 = .ok (.bipush (-6), 2) := by decide +kernel
theorem dX7_forgets_127 : decode cX7_forgets 127 = .ok (.iastore, 1) := by decide +kernel
theorem dX7_forgets_128 : decode cX7_forgets 128 = .ok (.return_, 1) := by decide +kernel
theorem dX7_forgetsGains_0 : decode cX7_forgetsGains 0 = .ok (.sipush 908, 3) := by decide +kernel
theorem dX7_forgetsGains_3 : decode cX7_forgetsGains 3 = .ok (.istore_n 1, 1) := by decide +kernel
theorem dX7_forgetsGains_4 : decode cX7_forgetsGains 4 = .ok (.iload_n 1, 1) := by decide +kernel
theorem dX7_forgetsGains_5 : decode cX7_forgetsGains 5 = .ok (.sipush 1608, 3) := by decide +kernel
theorem dX7_forgetsGains_8 : decode cX7_forgetsGains 8 = .ok (.if_icmp .ge 17, 3) := by decide +kernel
theorem dX7_forgetsGains_11 : decode cX7_forgetsGains 11 = .ok (.aload_n 0, 1) := by decide +kernel
theorem dX7_forgetsGains_12 : decode cX7_forgetsGains 12 = .ok (.getfield 7, 3) := by decide +kernel
theorem dX7_forgetsGains_15 : decode cX7_forgetsGains 15 = .ok (.iload_n 1, 1) := by decide +kernel
theorem dX7_forgetsGains_16 : decode cX7_forgetsGains 16 = .ok (.bipush (-6), 2) := by decide +kernel
theorem dX7_forgetsGains_18 : decode cX7_forgetsGains 18 = .ok (.iastore, 1) := by decide +kernel
theorem dX7_forgetsGains_19 : decode cX7_forgetsGains 19 = .ok (.iinc 1 1, 3) := by decide +kernel
theorem dX7_forgetsGains_22 : decode cX7_forgetsGains 22 = .ok (.goto (-18), 3) := by decide +kernel
theorem dX7_forgetsGains_25 : decode cX7_forgetsGains 25 = .ok (.return_, 1) := by decide +kernel
theorem dX7_ofChannel_0 : decode cX7_ofChannel 0 = .ok (.aload_n 0, 1) := by decide +kernel
theorem dX7_ofChannel_1 : decode cX7_ofChannel 1 = .ok (.getfield 7, 3) := by decide +kernel
theorem dX7_ofChannel_4 : decode cX7_ofChannel 4 = .ok (.bipush 34, 2) := by decide +kernel
theorem dX7_ofChannel_6 : decode cX7_ofChannel 6 = .ok (.bipush 29, 2) := by decide +kernel
theorem dX7_ofChannel_8 : decode cX7_ofChannel 8 = .ok (.iload_n 1, 1) := by decide +kernel
theorem dX7_ofChannel_9 : decode cX7_ofChannel 9 = .ok (.imul, 1) := by decide +kernel
theorem dX7_ofChannel_10 : decode cX7_ofChannel 10 = .ok (.iadd, 1) := by decide +kernel
theorem dX7_ofChannel_11 : decode cX7_ofChannel 11 = .ok (.iload_n 2, 1) := by decide +kernel
theorem dX7_ofChannel_12 : decode cX7_ofChannel 12 = .ok (.iadd, 1) := by decide +kernel
theorem dX7_ofChannel_13 : decode cX7_ofChannel 13 = .ok (.iaload, 1) := by decide +kernel
theorem dX7_ofChannel_14 : decode cX7_ofChannel 14 = .ok (.ireturn, 1) := by decide +kernel
theorem dX7_setChannel_0 : decode cX7_setChannel 0 = .ok (.aload_n 0, 1) := by decide +kernel
theorem dX7_setChannel_1 : decode cX7_setChannel 1 = .ok (.getfield 7, 3) := by decide +kernel
theorem dX7_setChannel_4 : decode cX7_setChannel 4 = .ok (.bipush 34, 2) := by decide +kernel
theorem dX7_setChannel_6 : decode cX7_setChannel 6 = .ok (.bipush 29, 2) := by decide +kernel
theorem dX7_setChannel_8 : decode cX7_setChannel 8 = .ok (.iload_n 1, 1) := by decide +kernel
theorem dX7_setChannel_9 : decode cX7_setChannel 9 = .ok (.imul, 1) := by decide +kernel
theorem dX7_setChannel_10 : decode cX7_setChannel 10 = .ok (.iadd, 1) := by decide +kernel
theorem dX7_setChannel_11 : decode cX7_setChannel 11 = .ok (.iload_n 2, 1) := by decide +kernel
theorem dX7_setChannel_12 : decode cX7_setChannel 12 = .ok (.iadd, 1) := by decide +kernel
theorem dX7_setChannel_13 : decode cX7_setChannel 13 = .ok (.iload_n 3, 1) := by decide +kernel
theorem dX7_setChannel_14 : decode cX7_setChannel 14 = .ok (.iastore, 1) := by decide +kernel
theorem dX7_setChannel_15 : decode cX7_setChannel 15 = .ok (.return_, 1) := by decide +kernel
theorem dX7_isLine_0 : decode cX7_isLine 0 = .ok (.iload_n 1, 1) := by decide +kernel
theorem dX7_isLine_1 : decode cX7_isLine 1 = .ok (.iconst 0, 1) := by decide +kernel
theorem dX7_isLine_2 : decode cX7_isLine 2 = .ok (.aload_n 0, 1) := by decide +kernel
theorem dX7_isLine_3 : decode cX7_isLine 3 = .ok (.getfield 7, 3) := by decide +kernel
theorem dX7_isLine_6 : decode cX7_isLine 6 = .ok (.iconst 0, 1) := by decide +kernel
theorem dX7_isLine_7 : decode cX7_isLine 7 = .ok (.iaload, 1) := by decide +kernel
theorem dX7_isLine_8 : decode cX7_isLine 8 = .ok (.iconst 1, 1) := by decide +kernel
theorem dX7_isLine_9 : decode cX7_isLine 9 = .ok (.isub, 1) := by decide +kernel
theorem dX7_isLine_10 : decode cX7_isLine 10 = .ok (.invokestatic 41, 3) := by decide +kernel
theorem dX7_isLine_13 : decode cX7_isLine 13 = .ok (.ireturn, 1) := by decide +kernel
theorem dX7_isChannel_0 : decode cX7_isChannel 0 = .ok (.iload_n 1, 1) := by decide +kernel
theorem dX7_isChannel_1 : decode cX7_isChannel 1 = .ok (.iconst 0, 1) := by decide +kernel
theorem dX7_isChannel_2 : decode cX7_isChannel 2 = .ok (.aload_n 0, 1) := by decide +kernel
theorem dX7_isChannel_3 : decode cX7_isChannel 3 = .ok (.getfield 7, 3) := by decide +kernel
theorem dX7_isChannel_6 : decode cX7_isChannel 6 = .ok (.iconst 5, 1) := by decide +kernel
theorem dX7_isChannel_7 : decode cX7_isChannel 7 = .ok (.iaload, 1) := by decide +kernel
theorem dX7_isChannel_8 : decode cX7_isChannel 8 = .ok (.iconst 1, 1) := by decide +kernel
theorem dX7_isChannel_9 : decode cX7_isChannel 9 = .ok (.isub, 1) := by decide +kernel
theorem dX7_isChannel_10 : decode cX7_isChannel 10 = .ok (.invokestatic 41, 3) := by decide +kernel
theorem dX7_isChannel_13 : decode cX7_isChannel 13 = .ok (.ireturn, 1) := by decide +kernel
theorem dX7_rests_0 : decode cX7_rests 0 = .ok (.aload_n 0, 1) := by decide +kernel
theorem dX7_rests_1 : decode cX7_rests 1 = .ok (.getfield 7, 3) := by decide +kernel
theorem dX7_rests_4 : decode cX7_rests 4 = .ok (.iconst 1, 1) := by decide +kernel
theorem dX7_rests_5 : decode cX7_rests 5 = .ok (.iaload, 1) := by decide +kernel
theorem dX7_rests_6 : decode cX7_rests 6 = .ok (.ifCond .eq 13, 3) := by decide +kernel
theorem dX7_rests_9 : decode cX7_rests 9 = .ok (.aload_n 0, 1) := by decide +kernel
theorem dX7_rests_10 : decode cX7_rests 10 = .ok (.getfield 7, 3) := by decide +kernel
theorem dX7_rests_13 : decode cX7_rests 13 = .ok (.iconst 1, 1) := by decide +kernel
theorem dX7_rests_14 : decode cX7_rests 14 = .ok (.iaload, 1) := by decide +kernel
theorem dX7_rests_15 : decode cX7_rests 15 = .ok (.iconst 4, 1) := by decide +kernel
theorem dX7_rests_16 : decode cX7_rests 16 = .ok (.if_icmp .lt 7, 3) := by decide +kernel
theorem dX7_rests_19 : decode cX7_rests 19 = .ok (.iconst 1, 1) := by decide +kernel
theorem dX7_rests_20 : decode cX7_rests 20 = .ok (.goto 4, 3) := by decide +kernel
theorem dX7_rests_23 : decode cX7_rests 23 = .ok (.iconst 0, 1) := by decide +kernel
theorem dX7_rests_24 : decode cX7_rests 24 = .ok (.ireturn, 1) := by decide +kernel
theorem dX7_setting_0 : decode cX7_setting 0 = .ok (.aload_n 0, 1) := by decide +kernel
theorem dX7_setting_1 : decode cX7_setting 1 = .ok (.getfield 7, 3) := by decide +kernel
theorem dX7_setting_4 : decode cX7_setting 4 = .ok (.bipush 12, 2) := by decide +kernel
theorem dX7_setting_6 : decode cX7_setting 6 = .ok (.iload_n 1, 1) := by decide +kernel
theorem dX7_setting_7 : decode cX7_setting 7 = .ok (.iadd, 1) := by decide +kernel
theorem dX7_setting_8 : decode cX7_setting 8 = .ok (.iaload, 1) := by decide +kernel
theorem dX7_setting_9 : decode cX7_setting 9 = .ok (.ireturn, 1) := by decide +kernel
theorem dX7_setLines_0 : decode cX7_setLines 0 = .ok (.iload_n 1, 1) := by decide +kernel
theorem dX7_setLines_1 : decode cX7_setLines 1 = .ok (.iconst 5, 1) := by decide +kernel
theorem dX7_setLines_2 : decode cX7_setLines 2 = .ok (.sipush 1000, 3) := by decide +kernel
theorem dX7_setLines_5 : decode cX7_setLines 5 = .ok (.invokestatic 41, 3) := by decide +kernel
theorem dX7_setLines_8 : decode cX7_setLines 8 = .ok (.ifCond .eq 26, 3) := by decide +kernel
theorem dX7_setLines_11 : decode cX7_setLines 11 = .ok (.iload_n 2, 1) := by decide +kernel
theorem dX7_setLines_12 : decode cX7_setLines 12 = .ok (.iload_n 1, 1) := by decide +kernel
theorem dX7_setLines_13 : decode cX7_setLines 13 = .ok (.sipush 2000, 3) := by decide +kernel
theorem dX7_setLines_16 : decode cX7_setLines 16 = .ok (.invokestatic 41, 3) := by decide +kernel
theorem dX7_setLines_19 : decode cX7_setLines 19 = .ok (.ifCond .eq 15, 3) := by decide +kernel
theorem dX7_setLines_22 : decode cX7_setLines 22 = .ok (.iload_n 3, 1) := by decide +kernel
theorem dX7_setLines_23 : decode cX7_setLines 23 = .ok (.bipush 10, 2) := by decide +kernel
theorem dX7_setLines_25 : decode cX7_setLines 25 = .ok (.sipush 1000, 3) := by decide +kernel
theorem dX7_setLines_28 : decode cX7_setLines 28 = .ok (.invokestatic 41, 3) := by decide +kernel
theorem dX7_setLines_31 : decode cX7_setLines 31 = .ok (.ifCond .ne 6, 3) := by decide +kernel
theorem dX7_setLines_34 : decode cX7_setLines 34 = .ok (.bipush (-2), 2) := by decide +kernel
theorem dX7_setLines_36 : decode cX7_setLines 36 = .ok (.ireturn, 1) := by decide +kernel
theorem dX7_setLines_37 : decode cX7_setLines 37 = .ok (.aload_n 0, 1) := by decide +kernel
theorem dX7_setLines_38 : decode cX7_setLines 38 = .ok (.invokevirtual 45, 3) := by decide +kernel
theorem dX7_setLines_41 : decode cX7_setLines 41 = .ok (.ifCond .ne 6, 3) := by decide +kernel
theorem dX7_setLines_44 : decode cX7_setLines 44 = .ok (.bipush (-3), 2) := by decide +kernel
theorem dX7_setLines_46 : decode cX7_setLines 46 = .ok (.ireturn, 1) := by decide +kernel
theorem dX7_setLines_47 : decode cX7_setLines 47 = .ok (.iconst 0, 1) := by decide +kernel
theorem dX7_setLines_48 : decode cX7_setLines 48 = .ok (.istore 4, 2) := by decide +kernel
theorem dX7_setLines_50 : decode cX7_setLines 50 = .ok (.iload_n 1, 1) := by decide +kernel
theorem dX7_setLines_51 : decode cX7_setLines 51 = .ok (.istore 5, 2) := by decide +kernel
theorem dX7_setLines_53 : decode cX7_setLines 53 = .ok (.iload 5, 2) := by decide +kernel
theorem dX7_setLines_55 : decode cX7_setLines 55 = .ok (.iload_n 2, 1) := by decide +kernel
theorem dX7_setLines_56 : decode cX7_setLines 56 = .ok (.if_icmp .gt 20, 3) := by decide +kernel
theorem dX7_setLines_59 : decode cX7_setLines 59 = .ok (.iinc 4 1, 3) := by decide +kernel
theorem dX7_setLines_62 : decode cX7_setLines 62 = .ok (.iload 5, 2) := by decide +kernel
theorem dX7_setLines_64 : decode cX7_setLines 64 = .ok (.iload 5, 2) := by decide +kernel
theorem dX7_setLines_66 : decode cX7_setLines 66 = .ok (.iload_n 3, 1) := by decide +kernel
theorem dX7_setLines_67 : decode cX7_setLines 67 = .ok (.invokestatic 49, 3) := by decide +kernel
theorem dX7_setLines_70 : decode cX7_setLines 70 = .ok (.iadd, 1) := by decide +kernel
theorem dX7_setLines_71 : decode cX7_setLines 71 = .ok (.istore 5, 2) := by decide +kernel
theorem dX7_setLines_73 : decode cX7_setLines 73 = .ok (.goto (-20), 3) := by decide +kernel
theorem dX7_setLines_76 : decode cX7_setLines 76 = .ok (.iload 4, 2) := by decide +kernel
theorem dX7_setLines_78 : decode cX7_setLines 78 = .ok (.bipush 100, 2) := by decide +kernel
theorem dX7_setLines_80 : decode cX7_setLines 80 = .ok (.if_icmp .le 6, 3) := by decide +kernel
theorem dX7_setLines_83 : decode cX7_setLines 83 = .ok (.bipush (-4), 2) := by decide +kernel
theorem dX7_setLines_85 : decode cX7_setLines 85 = .ok (.ireturn, 1) := by decide +kernel
theorem dX7_setLines_86 : decode cX7_setLines 86 = .ok (.aload_n 0, 1) := by decide +kernel
theorem dX7_setLines_87 : decode cX7_setLines 87 = .ok (.invokevirtual 53, 3) := by decide +kernel
theorem dX7_setLines_90 : decode cX7_setLines 90 = .ok (.iload_n 1, 1) := by decide +kernel
theorem dX7_setLines_91 : decode cX7_setLines 91 = .ok (.istore 5, 2) := by decide +kernel
theorem dX7_setLines_93 : decode cX7_setLines 93 = .ok (.iconst 0, 1) := by decide +kernel
theorem dX7_setLines_94 : decode cX7_setLines 94 = .ok (.istore 6, 2) := by decide +kernel
theorem dX7_setLines_96 : decode cX7_setLines 96 = .ok (.iload 6, 2) := by decide +kernel
theorem dX7_setLines_98 : decode cX7_setLines 98 = .ok (.iload 4, 2) := by decide +kernel
theorem dX7_setLines_100 : decode cX7_setLines 100 = .ok (.if_icmp .ge 33, 3) := by decide +kernel
theorem dX7_setLines_103 : decode cX7_setLines 103 = .ok (.aload_n 0, 1) := by decide +kernel
theorem dX7_setLines_104 : decode cX7_setLines 104 = .ok (.getfield 7, 3) := by decide +kernel
theorem dX7_setLines_107 : decode cX7_setLines 107 = .ok (.sipush 208, 3) := by decide +kernel
theorem dX7_setLines_110 : decode cX7_setLines 110 = .ok (.iload 6, 2) := by decide +kernel
theorem dX7_setLines_112 : decode cX7_setLines 112 = .ok (.iadd, 1) := by decide +kernel
theorem dX7_setLines_113 : decode cX7_setLines 113 = .ok (.iload 5, 2) := by decide +kernel
theorem dX7_setLines_115 : decode cX7_setLines 115 = .ok (.iastore, 1) := by decide +kernel
theorem dX7_setLines_116 : decode cX7_setLines 116 = .ok (.iload 5, 2) := by decide +kernel
theorem dX7_setLines_118 : decode cX7_setLines 118 = .ok (.iload 5, 2) := by decide +kernel
theorem dX7_setLines_120 : decode cX7_setLines 120 = .ok (.iload_n 3, 1) := by decide +kernel
theorem dX7_setLines_121 : decode cX7_setLines 121 = .ok (.invokestatic 49, 3) := by decide +kernel
theorem dX7_setLines_124 : decode cX7_setLines 124 = .ok (.iadd, 1) := by decide +kernel
theorem dX7_setLines_125 : decode cX7_setLines 125 = .ok (.istore 5, 2) := by decide +kernel
theorem dX7_setLines_127 : decode cX7_setLines 127 = .ok (.iinc 6 1, 3) := by decide +kernel
theorem dX7_setLines_130 : decode cX7_setLines 130 = .ok (.goto (-34), 3) := by decide +kernel
theorem dX7_setLines_133 : decode cX7_setLines 133 = .ok (.aload_n 0, 1) := by decide +kernel
theorem dX7_setLines_134 : decode cX7_setLines 134 = .ok (.getfield 7, 3) := by decide +kernel
theorem dX7_setLines_137 : decode cX7_setLines 137 = .ok (.iconst 0, 1) := by decide +kernel
theorem dX7_setLines_138 : decode cX7_setLines 138 = .ok (.iload 4, 2) := by decide +kernel
theorem dX7_setLines_140 : decode cX7_setLines 140 = .ok (.iastore, 1) := by decide +kernel
theorem dX7_setLines_141 : decode cX7_setLines 141 = .ok (.aload_n 0, 1) := by decide +kernel
theorem dX7_setLines_142 : decode cX7_setLines 142 = .ok (.getfield 7, 3) := by decide +kernel
theorem dX7_setLines_145 : decode cX7_setLines 145 = .ok (.iconst 1, 1) := by decide +kernel
theorem dX7_setLines_146 : decode cX7_setLines 146 = .ok (.iconst 0, 1) := by decide +kernel
theorem dX7_setLines_147 : decode cX7_setLines 147 = .ok (.iastore, 1) := by decide +kernel
theorem dX7_setLines_148 : decode cX7_setLines 148 = .ok (.aload_n 0, 1) := by decide +kernel
theorem dX7_setLines_149 : decode cX7_setLines 149 = .ok (.getfield 7, 3) := by decide +kernel
theorem dX7_setLines_152 : decode cX7_setLines 152 = .ok (.iconst 2, 1) := by decide +kernel
theorem dX7_setLines_153 : decode cX7_setLines 153 = .ok (.iconst 0, 1) := by decide +kernel
theorem dX7_setLines_154 : decode cX7_setLines 154 = .ok (.iastore, 1) := by decide +kernel
theorem dX7_setLines_155 : decode cX7_setLines 155 = .ok (.aload_n 0, 1) := by decide +kernel
theorem dX7_setLines_156 : decode cX7_setLines 156 = .ok (.getfield 7, 3) := by decide +kernel
theorem dX7_setLines_159 : decode cX7_setLines 159 = .ok (.iconst 3, 1) := by decide +kernel
theorem dX7_setLines_160 : decode cX7_setLines 160 = .ok (.iconst 0, 1) := by decide +kernel
theorem dX7_setLines_161 : decode cX7_setLines 161 = .ok (.iastore, 1) := by decide +kernel
theorem dX7_setLines_162 : decode cX7_setLines 162 = .ok (.aload_n 0, 1) := by decide +kernel
theorem dX7_setLines_163 : decode cX7_setLines 163 = .ok (.invokevirtual 23, 3) := by decide +kernel
theorem dX7_setLines_166 : decode cX7_setLines 166 = .ok (.aload_n 0, 1) := by decide +kernel
theorem dX7_setLines_167 : decode cX7_setLines 167 = .ok (.invokevirtual 26, 3) := by decide +kernel
theorem dX7_setLines_170 : decode cX7_setLines 170 = .ok (.iload 4, 2) := by decide +kernel
theorem dX7_setLines_172 : decode cX7_setLines 172 = .ok (.ireturn, 1) := by decide +kernel
theorem dX7_next_0 : decode cX7_next 0 = .ok (.iload_n 0, 1) := by decide +kernel
theorem dX7_next_1 : decode cX7_next 1 = .ok (.iload_n 1, 1) := by decide +kernel
theorem dX7_next_2 : decode cX7_next 2 = .ok (.imul, 1) := by decide +kernel
theorem dX7_next_3 : decode cX7_next 3 = .ok (.sipush 1000, 3) := by decide +kernel
theorem dX7_next_6 : decode cX7_next 6 = .ok (.idiv, 1) := by decide +kernel
theorem dX7_next_7 : decode cX7_next 7 = .ok (.istore_n 2, 1) := by decide +kernel
theorem dX7_next_8 : decode cX7_next 8 = .ok (.iload_n 2, 1) := by decide +kernel
theorem dX7_next_9 : decode cX7_next 9 = .ok (.iconst 1, 1) := by decide +kernel
theorem dX7_next_10 : decode cX7_next 10 = .ok (.if_icmp .ge 7, 3) := by decide +kernel
theorem dX7_next_13 : decode cX7_next 13 = .ok (.iconst 1, 1) := by decide +kernel
theorem dX7_next_14 : decode cX7_next 14 = .ok (.goto 4, 3) := by decide +kernel
theorem dX7_next_17 : decode cX7_next 17 = .ok (.iload_n 2, 1) := by decide +kernel
theorem dX7_next_18 : decode cX7_next 18 = .ok (.ireturn, 1) := by decide +kernel
theorem dX7_setPoint_0 : decode cX7_setPoint 0 = .ok (.iload_n 1, 1) := by decide +kernel
theorem dX7_setPoint_1 : decode cX7_setPoint 1 = .ok (.iconst 1, 1) := by decide +kernel
theorem dX7_setPoint_2 : decode cX7_setPoint 2 = .ok (.sipush 2000, 3) := by decide +kernel
theorem dX7_setPoint_5 : decode cX7_setPoint 5 = .ok (.invokestatic 41, 3) := by decide +kernel
theorem dX7_setPoint_8 : decode cX7_setPoint 8 = .ok (.ifCond .eq 13, 3) := by decide +kernel
theorem dX7_setPoint_11 : decode cX7_setPoint 11 = .ok (.iload_n 2, 1) := by decide +kernel
theorem dX7_setPoint_12 : decode cX7_setPoint 12 = .ok (.iconst 1, 1) := by decide +kernel
theorem dX7_setPoint_13 : decode cX7_setPoint 13 = .ok (.ldc 56, 2) := by decide +kernel
theorem dX7_setPoint_15 : decode cX7_setPoint 15 = .ok (.invokestatic 41, 3) := by decide +kernel
theorem dX7_setPoint_18 : decode cX7_setPoint 18 = .ok (.ifCond .ne 6, 3) := by decide +kernel
theorem dX7_setPoint_21 : decode cX7_setPoint 21 = .ok (.bipush (-2), 2) := by decide +kernel
theorem dX7_setPoint_23 : decode cX7_setPoint 23 = .ok (.ireturn, 1) := by decide +kernel
theorem dX7_setPoint_24 : decode cX7_setPoint 24 = .ok (.aload_n 0, 1) := by decide +kernel
theorem dX7_setPoint_25 : decode cX7_setPoint 25 = .ok (.invokevirtual 45, 3) := by decide +kernel
theorem dX7_setPoint_28 : decode cX7_setPoint 28 = .ok (.ifCond .ne 6, 3) := by decide +kernel
theorem dX7_setPoint_31 : decode cX7_setPoint 31 = .ok (.bipush (-3), 2) := by decide +kernel
theorem dX7_setPoint_33 : decode cX7_setPoint 33 = .ok (.ireturn, 1) := by decide +kernel
theorem dX7_setPoint_34 : decode cX7_setPoint 34 = .ok (.iconst 0, 1) := by decide +kernel
theorem dX7_setPoint_35 : decode cX7_setPoint 35 = .ok (.istore_n 3, 1) := by decide +kernel
theorem dX7_setPoint_36 : decode cX7_setPoint 36 = .ok (.iload_n 3, 1) := by decide +kernel
theorem dX7_setPoint_37 : decode cX7_setPoint 37 = .ok (.aload_n 0, 1) := by decide +kernel
theorem dX7_setPoint_38 : decode cX7_setPoint 38 = .ok (.getfield 7, 3) := by decide +kernel
theorem dX7_setPoint_41 : decode cX7_setPoint 41 = .ok (.iconst 4, 1) := by decide +kernel
theorem dX7_setPoint_42 : decode cX7_setPoint 42 = .ok (.iaload, 1) := by decide +kernel
theorem dX7_setPoint_43 : decode cX7_setPoint 43 = .ok (.if_icmp .ge 24, 3) := by decide +kernel
theorem dX7_setPoint_46 : decode cX7_setPoint 46 = .ok (.aload_n 0, 1) := by decide +kernel
theorem dX7_setPoint_47 : decode cX7_setPoint 47 = .ok (.getfield 7, 3) := by decide +kernel
theorem dX7_setPoint_50 : decode cX7_setPoint 50 = .ok (.bipush 18, 2) := by decide +kernel
theorem dX7_setPoint_52 : decode cX7_setPoint 52 = .ok (.iconst 2, 1) := by decide +kernel
theorem dX7_setPoint_53 : decode cX7_setPoint 53 = .ok (.iload_n 3, 1) := by decide +kernel
theorem dX7_setPoint_54 : decode cX7_setPoint 54 = .ok (.imul, 1) := by decide +kernel
theorem dX7_setPoint_55 : decode cX7_setPoint 55 = .ok (.iadd, 1) := by decide +kernel
theorem dX7_setPoint_56 : decode cX7_setPoint 56 = .ok (.iaload, 1) := by decide +kernel
theorem dX7_setPoint_57 : decode cX7_setPoint 57 = .ok (.iload_n 1, 1) := by decide +kernel
theorem dX7_setPoint_58 : decode cX7_setPoint 58 = .ok (.if_icmp .eq 9, 3) := by decide +kernel
theorem dX7_setPoint_61 : decode cX7_setPoint 61 = .ok (.iinc 3 1, 3) := by decide +kernel
theorem dX7_setPoint_64 : decode cX7_setPoint 64 = .ok (.goto (-28), 3) := by decide +kernel
theorem dX7_setPoint_67 : decode cX7_setPoint 67 = .ok (.iload_n 3, 1) := by decide +kernel
theorem dX7_setPoint_68 : decode cX7_setPoint 68 = .ok (.bipush 8, 2) := by decide +kernel
theorem dX7_setPoint_70 : decode cX7_setPoint 70 = .ok (.if_icmp .ne 6, 3) := by decide +kernel
theorem dX7_setPoint_73 : decode cX7_setPoint 73 = .ok (.bipush (-4), 2) := by decide +kernel
theorem dX7_setPoint_75 : decode cX7_setPoint 75 = .ok (.ireturn, 1) := by decide +kernel
theorem dX7_setPoint_76 : decode cX7_setPoint 76 = .ok (.aload_n 0, 1) := by decide +kernel
theorem dX7_setPoint_77 : decode cX7_setPoint 77 = .ok (.invokevirtual 53, 3) := by decide +kernel
theorem dX7_setPoint_80 : decode cX7_setPoint 80 = .ok (.aload_n 0, 1) := by decide +kernel
theorem dX7_setPoint_81 : decode cX7_setPoint 81 = .ok (.getfield 7, 3) := by decide +kernel
theorem dX7_setPoint_84 : decode cX7_setPoint 84 = .ok (.bipush 18, 2) := by decide +kernel
theorem dX7_setPoint_86 : decode cX7_setPoint 86 = .ok (.iconst 2, 1) := by decide +kernel
theorem dX7_setPoint_87 : decode cX7_setPoint 87 = .ok (.iload_n 3, 1) := by decide +kernel
theorem dX7_setPoint_88 : decode cX7_setPoint 88 = .ok (.imul, 1) := by decide +kernel
theorem dX7_setPoint_89 : decode cX7_setPoint 89 = .ok (.iadd, 1) := by decide +kernel
theorem dX7_setPoint_90 : decode cX7_setPoint 90 = .ok (.iload_n 1, 1) := by decide +kernel
theorem dX7_setPoint_91 : decode cX7_setPoint 91 = .ok (.iastore, 1) := by decide +kernel
theorem dX7_setPoint_92 : decode cX7_setPoint 92 = .ok (.aload_n 0, 1) := by decide +kernel
theorem dX7_setPoint_93 : decode cX7_setPoint 93 = .ok (.getfield 7, 3) := by decide +kernel
theorem dX7_setPoint_96 : decode cX7_setPoint 96 = .ok (.bipush 18, 2) := by decide +kernel
theorem dX7_setPoint_98 : decode cX7_setPoint 98 = .ok (.iconst 2, 1) := by decide +kernel
theorem dX7_setPoint_99 : decode cX7_setPoint 99 = .ok (.iload_n 3, 1) := by decide +kernel
theorem dX7_setPoint_100 : decode cX7_setPoint 100 = .ok (.imul, 1) := by decide +kernel
theorem dX7_setPoint_101 : decode cX7_setPoint 101 = .ok (.iadd, 1) := by decide +kernel
theorem dX7_setPoint_102 : decode cX7_setPoint 102 = .ok (.iconst 1, 1) := by decide +kernel
theorem dX7_setPoint_103 : decode cX7_setPoint 103 = .ok (.iadd, 1) := by decide +kernel
theorem dX7_setPoint_104 : decode cX7_setPoint 104 = .ok (.iload_n 2, 1) := by decide +kernel
theorem dX7_setPoint_105 : decode cX7_setPoint 105 = .ok (.iastore, 1) := by decide +kernel
theorem dX7_setPoint_106 : decode cX7_setPoint 106 = .ok (.aload_n 0, 1) := by decide +kernel
theorem dX7_setPoint_107 : decode cX7_setPoint 107 = .ok (.getfield 7, 3) := by decide +kernel
theorem dX7_setPoint_110 : decode cX7_setPoint 110 = .ok (.iconst 4, 1) := by decide +kernel
theorem dX7_setPoint_111 : decode cX7_setPoint 111 = .ok (.dup2, 1) := by decide +kernel
theorem dX7_setPoint_112 : decode cX7_setPoint 112 = .ok (.iaload, 1) := by decide +kernel
theorem dX7_setPoint_113 : decode cX7_setPoint 113 = .ok (.iload_n 3, 1) := by decide +kernel
theorem dX7_setPoint_114 : decode cX7_setPoint 114 = .ok (.aload_n 0, 1) := by decide +kernel
theorem dX7_setPoint_115 : decode cX7_setPoint 115 = .ok (.getfield 7, 3) := by decide +kernel
theorem dX7_setPoint_118 : decode cX7_setPoint 118 = .ok (.iconst 4, 1) := by decide +kernel
theorem dX7_setPoint_119 : decode cX7_setPoint 119 = .ok (.iaload, 1) := by decide +kernel
theorem dX7_setPoint_120 : decode cX7_setPoint 120 = .ok (.if_icmp .ne 7, 3) := by decide +kernel
theorem dX7_setPoint_123 : decode cX7_setPoint 123 = .ok (.iconst 1, 1) := by decide +kernel
theorem dX7_setPoint_124 : decode cX7_setPoint 124 = .ok (.goto 4, 3) := by decide +kernel
theorem dX7_setPoint_127 : decode cX7_setPoint 127 = .ok (.iconst 0, 1) := by decide +kernel
theorem dX7_setPoint_128 : decode cX7_setPoint 128 = .ok (.iadd, 1) := by decide +kernel
theorem dX7_setPoint_129 : decode cX7_setPoint 129 = .ok (.iastore, 1) := by decide +kernel
theorem dX7_setPoint_130 : decode cX7_setPoint 130 = .ok (.aload_n 0, 1) := by decide +kernel
theorem dX7_setPoint_131 : decode cX7_setPoint 131 = .ok (.getfield 7, 3) := by decide +kernel
theorem dX7_setPoint_134 : decode cX7_setPoint 134 = .ok (.iconst 4, 1) := by decide +kernel
theorem dX7_setPoint_135 : decode cX7_setPoint 135 = .ok (.iaload, 1) := by decide +kernel
theorem dX7_setPoint_136 : decode cX7_setPoint 136 = .ok (.ireturn, 1) := by decide +kernel
theorem dX7_addChannel_0 : decode cX7_addChannel 0 = .ok (.iload_n 2, 1) := by decide +kernel
theorem dX7_addChannel_1 : decode cX7_addChannel 1 = .ok (.iconst 0, 1) := by decide +kernel
theorem dX7_addChannel_2 : decode cX7_addChannel 2 = .ok (.sipush 5000, 3) := by decide +kernel
theorem dX7_addChannel_5 : decode cX7_addChannel 5 = .ok (.invokestatic 41, 3) := by decide +kernel
theorem dX7_addChannel_8 : decode cX7_addChannel 8 = .ok (.ifCond .eq 13, 3) := by decide +kernel
theorem dX7_addChannel_11 : decode cX7_addChannel 11 = .ok (.iload_n 3, 1) := by decide +kernel
theorem dX7_addChannel_12 : decode cX7_addChannel 12 = .ok (.iconst 1, 1) := by decide +kernel
theorem dX7_addChannel_13 : decode cX7_addChannel 13 = .ok (.ldc 57, 2) := by decide +kernel
theorem dX7_addChannel_15 : decode cX7_addChannel 15 = .ok (.invokestatic 41, 3) := by decide +kernel
theorem dX7_addChannel_18 : decode cX7_addChannel 18 = .ok (.ifCond .ne 6, 3) := by decide +kernel
theorem dX7_addChannel_21 : decode cX7_addChannel 21 = .ok (.bipush (-2), 2) := by decide +kernel
theorem dX7_addChannel_23 : decode cX7_addChannel 23 = .ok (.ireturn, 1) := by decide +kernel
theorem dX7_addChannel_24 : decode cX7_addChannel 24 = .ok (.aload_n 0, 1) := by decide +kernel
theorem dX7_addChannel_25 : decode cX7_addChannel 25 = .ok (.invokevirtual 45, 3) := by decide +kernel
theorem dX7_addChannel_28 : decode cX7_addChannel 28 = .ok (.ifCond .ne 6, 3) := by decide +kernel
theorem dX7_addChannel_31 : decode cX7_addChannel 31 = .ok (.bipush (-3), 2) := by decide +kernel
theorem dX7_addChannel_33 : decode cX7_addChannel 33 = .ok (.ireturn, 1) := by decide +kernel
theorem dX7_addChannel_34 : decode cX7_addChannel 34 = .ok (.aload_n 0, 1) := by decide +kernel
theorem dX7_addChannel_35 : decode cX7_addChannel 35 = .ok (.getfield 7, 3) := by decide +kernel
theorem dX7_addChannel_38 : decode cX7_addChannel 38 = .ok (.iconst 5, 1) := by decide +kernel
theorem dX7_addChannel_39 : decode cX7_addChannel 39 = .ok (.iaload, 1) := by decide +kernel
theorem dX7_addChannel_40 : decode cX7_addChannel 40 = .ok (.bipush 6, 2) := by decide +kernel
theorem dX7_addChannel_42 : decode cX7_addChannel 42 = .ok (.if_icmp .ne 6, 3) := by decide +kernel
theorem dX7_addChannel_45 : decode cX7_addChannel 45 = .ok (.bipush (-4), 2) := by decide +kernel
theorem dX7_addChannel_47 : decode cX7_addChannel 47 = .ok (.ireturn, 1) := by decide +kernel
theorem dX7_addChannel_48 : decode cX7_addChannel 48 = .ok (.aload_n 0, 1) := by decide +kernel
theorem dX7_addChannel_49 : decode cX7_addChannel 49 = .ok (.invokevirtual 53, 3) := by decide +kernel
theorem dX7_addChannel_52 : decode cX7_addChannel 52 = .ok (.aload_n 0, 1) := by decide +kernel
theorem dX7_addChannel_53 : decode cX7_addChannel 53 = .ok (.getfield 7, 3) := by decide +kernel
theorem dX7_addChannel_56 : decode cX7_addChannel 56 = .ok (.iconst 5, 1) := by decide +kernel
theorem dX7_addChannel_57 : decode cX7_addChannel 57 = .ok (.iaload, 1) := by decide +kernel
theorem dX7_addChannel_58 : decode cX7_addChannel 58 = .ok (.istore 4, 2) := by decide +kernel
theorem dX7_addChannel_60 : decode cX7_addChannel 60 = .ok (.aload_n 0, 1) := by decide +kernel
theorem dX7_addChannel_61 : decode cX7_addChannel 61 = .ok (.getfield 7, 3) := by decide +kernel
theorem dX7_addChannel_64 : decode cX7_addChannel 64 = .ok (.iconst 5, 1) := by decide +kernel
theorem dX7_addChannel_65 : decode cX7_addChannel 65 = .ok (.dup2, 1) := by decide +kernel
theorem dX7_addChannel_66 : decode cX7_addChannel 66 = .ok (.iaload, 1) := by decide +kernel
theorem dX7_addChannel_67 : decode cX7_addChannel 67 = .ok (.iconst 1, 1) := by decide +kernel
theorem dX7_addChannel_68 : decode cX7_addChannel 68 = .ok (.iadd, 1) := by decide +kernel
theorem dX7_addChannel_69 : decode cX7_addChannel 69 = .ok (.iastore, 1) := by decide +kernel
theorem dX7_addChannel_70 : decode cX7_addChannel 70 = .ok (.aload_n 0, 1) := by decide +kernel
theorem dX7_addChannel_71 : decode cX7_addChannel 71 = .ok (.iload 4, 2) := by decide +kernel
theorem dX7_addChannel_73 : decode cX7_addChannel 73 = .ok (.iconst 0, 1) := by decide +kernel
theorem dX7_addChannel_74 : decode cX7_addChannel 74 = .ok (.iload_n 1, 1) := by decide +kernel
theorem dX7_addChannel_75 : decode cX7_addChannel 75 = .ok (.ifCond .eq 7, 3) := by decide +kernel
theorem dX7_addChannel_78 : decode cX7_addChannel 78 = .ok (.iconst 1, 1) := by decide +kernel
theorem dX7_addChannel_79 : decode cX7_addChannel 79 = .ok (.goto 4, 3) := by decide +kernel
theorem dX7_addChannel_82 : decode cX7_addChannel 82 = .ok (.iconst 0, 1) := by decide +kernel
theorem dX7_addChannel_83 : decode cX7_addChannel 83 = .ok (.invokevirtual 37, 3) := by decide +kernel
theorem dX7_addChannel_86 : decode cX7_addChannel 86 = .ok (.aload_n 0, 1) := by decide +kernel
theorem dX7_addChannel_87 : decode cX7_addChannel 87 = .ok (.iload 4, 2) := by decide +kernel
theorem dX7_addChannel_89 : decode cX7_addChannel 89 = .ok (.iconst 1, 1) := by decide +kernel
theorem dX7_addChannel_90 : decode cX7_addChannel 90 = .ok (.iload_n 2, 1) := by decide +kernel
theorem dX7_addChannel_91 : decode cX7_addChannel 91 = .ok (.invokevirtual 37, 3) := by decide +kernel
theorem dX7_addChannel_94 : decode cX7_addChannel 94 = .ok (.aload_n 0, 1) := by decide +kernel
theorem dX7_addChannel_95 : decode cX7_addChannel 95 = .ok (.iload 4, 2) := by decide +kernel
theorem dX7_addChannel_97 : decode cX7_addChannel 97 = .ok (.iconst 2, 1) := by decide +kernel
theorem dX7_addChannel_98 : decode cX7_addChannel 98 = .ok (.iload_n 3, 1) := by decide +kernel
theorem dX7_addChannel_99 : decode cX7_addChannel 99 = .ok (.invokevirtual 37, 3) := by decide +kernel
theorem dX7_addChannel_102 : decode cX7_addChannel 102 = .ok (.iconst 0, 1) := by decide +kernel
theorem dX7_addChannel_103 : decode cX7_addChannel 103 = .ok (.istore 5, 2) := by decide +kernel
theorem dX7_addChannel_105 : decode cX7_addChannel 105 = .ok (.iload 5, 2) := by decide +kernel
theorem dX7_addChannel_107 : decode cX7_addChannel 107 = .ok (.iconst 3, 1) := by decide +kernel
theorem dX7_addChannel_108 : decode cX7_addChannel 108 = .ok (.if_icmp .ge 37, 3) := by decide +kernel
theorem dX7_addChannel_111 : decode cX7_addChannel 111 = .ok (.aload_n 0, 1) := by decide +kernel
theorem dX7_addChannel_112 : decode cX7_addChannel 112 = .ok (.iload 4, 2) := by decide +kernel
theorem dX7_addChannel_114 : decode cX7_addChannel 114 = .ok (.iconst 3, 1) := by decide +kernel
theorem dX7_addChannel_115 : decode cX7_addChannel 115 = .ok (.iconst 3, 1) := by decide +kernel
theorem dX7_addChannel_116 : decode cX7_addChannel 116 = .ok (.iload 5, 2) := by decide +kernel
theorem dX7_addChannel_118 : decode cX7_addChannel 118 = .ok (.imul, 1) := by decide +kernel
theorem dX7_addChannel_119 : decode cX7_addChannel 119 = .ok (.iadd, 1) := by decide +kernel
theorem dX7_addChannel_120 : decode cX7_addChannel 120 = .ok (.iconst 1, 1) := by decide +kernel
theorem dX7_addChannel_121 : decode cX7_addChannel 121 = .ok (.invokevirtual 37, 3) := by decide +kernel
theorem dX7_addChannel_124 : decode cX7_addChannel 124 = .ok (.aload_n 0, 1) := by decide +kernel
theorem dX7_addChannel_125 : decode cX7_addChannel 125 = .ok (.iload 4, 2) := by decide +kernel
theorem dX7_addChannel_127 : decode cX7_addChannel 127 = .ok (.iconst 3, 1) := by decide +kernel
theorem dX7_addChannel_128 : decode cX7_addChannel 128 = .ok (.iconst 3, 1) := by decide +kernel
theorem dX7_addChannel_129 : decode cX7_addChannel 129 = .ok (.iload 5, 2) := by decide +kernel
theorem dX7_addChannel_131 : decode cX7_addChannel 131 = .ok (.imul, 1) := by decide +kernel
theorem dX7_addChannel_132 : decode cX7_addChannel 132 = .ok (.iadd, 1) := by decide +kernel
theorem dX7_addChannel_133 : decode cX7_addChannel 133 = .ok (.iconst 1, 1) := by decide +kernel
theorem dX7_addChannel_134 : decode cX7_addChannel 134 = .ok (.iadd, 1) := by decide +kernel
theorem dX7_addChannel_135 : decode cX7_addChannel 135 = .ok (.iconst 1, 1) := by decide +kernel
theorem dX7_addChannel_136 : decode cX7_addChannel 136 = .ok (.invokevirtual 37, 3) := by decide +kernel
theorem dX7_addChannel_139 : decode cX7_addChannel 139 = .ok (.iinc 5 1, 3) := by decide +kernel
theorem dX7_addChannel_142 : decode cX7_addChannel 142 = .ok (.goto (-37), 3) := by decide +kernel
theorem dX7_addChannel_145 : decode cX7_addChannel 145 = .ok (.iload 4, 2) := by decide +kernel
theorem dX7_addChannel_147 : decode cX7_addChannel 147 = .ok (.ireturn, 1) := by decide +kernel
theorem dX7_setMode_0 : decode cX7_setMode 0 = .ok (.aload_n 0, 1) := by decide +kernel
theorem dX7_setMode_1 : decode cX7_setMode 1 = .ok (.iload_n 1, 1) := by decide +kernel
theorem dX7_setMode_2 : decode cX7_setMode 2 = .ok (.invokevirtual 58, 3) := by decide +kernel
theorem dX7_setMode_5 : decode cX7_setMode 5 = .ok (.ifCond .eq 12, 3) := by decide +kernel
theorem dX7_setMode_8 : decode cX7_setMode 8 = .ok (.iload_n 2, 1) := by decide +kernel
theorem dX7_setMode_9 : decode cX7_setMode 9 = .ok (.iconst 0, 1) := by decide +kernel
theorem dX7_setMode_10 : decode cX7_setMode 10 = .ok (.iconst 2, 1) := by decide +kernel
theorem dX7_setMode_11 : decode cX7_setMode 11 = .ok (.invokestatic 41, 3) := by decide +kernel
theorem dX7_setMode_14 : decode cX7_setMode 14 = .ok (.ifCond .ne 5, 3) := by decide +kernel
theorem dX7_setMode_17 : decode cX7_setMode 17 = .ok (.iconst (-1), 1) := by decide +kernel
theorem dX7_setMode_18 : decode cX7_setMode 18 = .ok (.ireturn, 1) := by decide +kernel
theorem dX7_setMode_19 : decode cX7_setMode 19 = .ok (.iload_n 3, 1) := by decide +kernel
theorem dX7_setMode_20 : decode cX7_setMode 20 = .ok (.iconst 1, 1) := by decide +kernel
theorem dX7_setMode_21 : decode cX7_setMode 21 = .ok (.sipush 2000, 3) := by decide +kernel
theorem dX7_setMode_24 : decode cX7_setMode 24 = .ok (.invokestatic 41, 3) := by decide +kernel
theorem dX7_setMode_27 : decode cX7_setMode 27 = .ok (.ifCond .eq 26, 3) := by decide +kernel
theorem dX7_setMode_30 : decode cX7_setMode 30 = .ok (.iload 4, 2) := by decide +kernel
theorem dX7_setMode_32 : decode cX7_setMode 32 = .ok (.iconst 1, 1) := by decide +kernel
theorem dX7_setMode_33 : decode cX7_setMode 33 = .ok (.sipush 500, 3) := by decide +kernel
theorem dX7_setMode_36 : decode cX7_setMode 36 = .ok (.invokestatic 41, 3) := by decide +kernel
theorem dX7_setMode_39 : decode cX7_setMode 39 = .ok (.ifCond .eq 14, 3) := by decide +kernel
theorem dX7_setMode_42 : decode cX7_setMode 42 = .ok (.iload 5, 2) := by decide +kernel
theorem dX7_setMode_44 : decode cX7_setMode 44 = .ok (.iconst 0, 1) := by decide +kernel
theorem dX7_setMode_45 : decode cX7_setMode 45 = .ok (.ldc 56, 2) := by decide +kernel
theorem dX7_setMode_47 : decode cX7_setMode 47 = .ok (.invokestatic 41, 3) := by decide +kernel
theorem dX7_setMode_50 : decode cX7_setMode 50 = .ok (.ifCond .ne 6, 3) := by decide +kernel
theorem dX7_setMode_53 : decode cX7_setMode 53 = .ok (.bipush (-2), 2) := by decide +kernel
theorem dX7_setMode_55 : decode cX7_setMode 55 = .ok (.ireturn, 1) := by decide +kernel
theorem dX7_setMode_56 : decode cX7_setMode 56 = .ok (.aload_n 0, 1) := by decide +kernel
theorem dX7_setMode_57 : decode cX7_setMode 57 = .ok (.invokevirtual 53, 3) := by decide +kernel
theorem dX7_setMode_60 : decode cX7_setMode 60 = .ok (.aload_n 0, 1) := by decide +kernel
theorem dX7_setMode_61 : decode cX7_setMode 61 = .ok (.iload_n 1, 1) := by decide +kernel
theorem dX7_setMode_62 : decode cX7_setMode 62 = .ok (.iconst 3, 1) := by decide +kernel
theorem dX7_setMode_63 : decode cX7_setMode 63 = .ok (.iconst 3, 1) := by decide +kernel
theorem dX7_setMode_64 : decode cX7_setMode 64 = .ok (.iload_n 2, 1) := by decide +kernel
theorem dX7_setMode_65 : decode cX7_setMode 65 = .ok (.imul, 1) := by decide +kernel
theorem dX7_setMode_66 : decode cX7_setMode 66 = .ok (.iadd, 1) := by decide +kernel
theorem dX7_setMode_67 : decode cX7_setMode 67 = .ok (.iload_n 3, 1) := by decide +kernel
theorem dX7_setMode_68 : decode cX7_setMode 68 = .ok (.invokevirtual 37, 3) := by decide +kernel
theorem dX7_setMode_71 : decode cX7_setMode 71 = .ok (.aload_n 0, 1) := by decide +kernel
theorem dX7_setMode_72 : decode cX7_setMode 72 = .ok (.iload_n 1, 1) := by decide +kernel
theorem dX7_setMode_73 : decode cX7_setMode 73 = .ok (.iconst 3, 1) := by decide +kernel
theorem dX7_setMode_74 : decode cX7_setMode 74 = .ok (.iconst 3, 1) := by decide +kernel
theorem dX7_setMode_75 : decode cX7_setMode 75 = .ok (.iload_n 2, 1) := by decide +kernel
theorem dX7_setMode_76 : decode cX7_setMode 76 = .ok (.imul, 1) := by decide +kernel
theorem dX7_setMode_77 : decode cX7_setMode 77 = .ok (.iadd, 1) := by decide +kernel
theorem dX7_setMode_78 : decode cX7_setMode 78 = .ok (.iconst 1, 1) := by decide +kernel
theorem dX7_setMode_79 : decode cX7_setMode 79 = .ok (.iadd, 1) := by decide +kernel
theorem dX7_setMode_80 : decode cX7_setMode 80 = .ok (.iload 4, 2) := by decide +kernel
theorem dX7_setMode_82 : decode cX7_setMode 82 = .ok (.invokevirtual 37, 3) := by decide +kernel
theorem dX7_setMode_85 : decode cX7_setMode 85 = .ok (.aload_n 0, 1) := by decide +kernel
theorem dX7_setMode_86 : decode cX7_setMode 86 = .ok (.iload_n 1, 1) := by decide +kernel
theorem dX7_setMode_87 : decode cX7_setMode 87 = .ok (.iconst 3, 1) := by decide +kernel
theorem dX7_setMode_88 : decode cX7_setMode 88 = .ok (.iconst 3, 1) := by decide +kernel
theorem dX7_setMode_89 : decode cX7_setMode 89 = .ok (.iload_n 2, 1) := by decide +kernel
theorem dX7_setMode_90 : decode cX7_setMode 90 = .ok (.imul, 1) := by decide +kernel
theorem dX7_setMode_91 : decode cX7_setMode 91 = .ok (.iadd, 1) := by decide +kernel
theorem dX7_setMode_92 : decode cX7_setMode 92 = .ok (.iconst 2, 1) := by decide +kernel
theorem dX7_setMode_93 : decode cX7_setMode 93 = .ok (.iadd, 1) := by decide +kernel
theorem dX7_setMode_94 : decode cX7_setMode 94 = .ok (.iload 5, 2) := by decide +kernel
theorem dX7_setMode_96 : decode cX7_setMode 96 = .ok (.invokevirtual 37, 3) := by decide +kernel
theorem dX7_setMode_99 : decode cX7_setMode 99 = .ok (.aload_n 0, 1) := by decide +kernel
theorem dX7_setMode_100 : decode cX7_setMode 100 = .ok (.iload_n 1, 1) := by decide +kernel
theorem dX7_setMode_101 : decode cX7_setMode 101 = .ok (.iload_n 3, 1) := by decide +kernel
theorem dX7_setMode_102 : decode cX7_setMode 102 = .ok (.invokevirtual 62, 3) := by decide +kernel
theorem dX7_setMode_105 : decode cX7_setMode 105 = .ok (.ireturn, 1) := by decide +kernel
theorem dX7_addNotch_0 : decode cX7_addNotch 0 = .ok (.aload_n 0, 1) := by decide +kernel
theorem dX7_addNotch_1 : decode cX7_addNotch 1 = .ok (.iload_n 1, 1) := by decide +kernel
theorem dX7_addNotch_2 : decode cX7_addNotch 2 = .ok (.invokevirtual 58, 3) := by decide +kernel
theorem dX7_addNotch_5 : decode cX7_addNotch 5 = .ok (.ifCond .ne 5, 3) := by decide +kernel
theorem dX7_addNotch_8 : decode cX7_addNotch 8 = .ok (.iconst (-1), 1) := by decide +kernel
theorem dX7_addNotch_9 : decode cX7_addNotch 9 = .ok (.ireturn, 1) := by decide +kernel
theorem dX7_addNotch_10 : decode cX7_addNotch 10 = .ok (.iload_n 2, 1) := by decide +kernel
theorem dX7_addNotch_11 : decode cX7_addNotch 11 = .ok (.iconst 1, 1) := by decide +kernel
theorem dX7_addNotch_12 : decode cX7_addNotch 12 = .ok (.sipush 2000, 3) := by decide +kernel
theorem dX7_addNotch_15 : decode cX7_addNotch 15 = .ok (.invokestatic 41, 3) := by decide +kernel
theorem dX7_addNotch_18 : decode cX7_addNotch 18 = .ok (.ifCond .eq 25, 3) := by decide +kernel
theorem dX7_addNotch_21 : decode cX7_addNotch 21 = .ok (.iload_n 3, 1) := by decide +kernel
theorem dX7_addNotch_22 : decode cX7_addNotch 22 = .ok (.iload_n 2, 1) := by decide +kernel
theorem dX7_addNotch_23 : decode cX7_addNotch 23 = .ok (.sipush 2000, 3) := by decide +kernel
theorem dX7_addNotch_26 : decode cX7_addNotch 26 = .ok (.invokestatic 41, 3) := by decide +kernel
theorem dX7_addNotch_29 : decode cX7_addNotch 29 = .ok (.ifCond .eq 14, 3) := by decide +kernel
theorem dX7_addNotch_32 : decode cX7_addNotch 32 = .ok (.iload 4, 2) := by decide +kernel
theorem dX7_addNotch_34 : decode cX7_addNotch 34 = .ok (.iconst 1, 1) := by decide +kernel
theorem dX7_addNotch_35 : decode cX7_addNotch 35 = .ok (.ldc 57, 2) := by decide +kernel
theorem dX7_addNotch_37 : decode cX7_addNotch 37 = .ok (.invokestatic 41, 3) := by decide +kernel
theorem dX7_addNotch_40 : decode cX7_addNotch 40 = .ok (.ifCond .ne 6, 3) := by decide +kernel
theorem dX7_addNotch_43 : decode cX7_addNotch 43 = .ok (.bipush (-2), 2) := by decide +kernel
theorem dX7_addNotch_45 : decode cX7_addNotch 45 = .ok (.ireturn, 1) := by decide +kernel
theorem dX7_addNotch_46 : decode cX7_addNotch 46 = .ok (.aload_n 0, 1) := by decide +kernel
theorem dX7_addNotch_47 : decode cX7_addNotch 47 = .ok (.iload_n 1, 1) := by decide +kernel
theorem dX7_addNotch_48 : decode cX7_addNotch 48 = .ok (.bipush 12, 2) := by decide +kernel
theorem dX7_addNotch_50 : decode cX7_addNotch 50 = .ok (.invokevirtual 65, 3) := by decide +kernel
theorem dX7_addNotch_53 : decode cX7_addNotch 53 = .ok (.istore 5, 2) := by decide +kernel
theorem dX7_addNotch_55 : decode cX7_addNotch 55 = .ok (.iload 5, 2) := by decide +kernel
theorem dX7_addNotch_57 : decode cX7_addNotch 57 = .ok (.iconst 4, 1) := by decide +kernel
theorem dX7_addNotch_58 : decode cX7_addNotch 58 = .ok (.if_icmp .ne 6, 3) := by decide +kernel
theorem dX7_addNotch_61 : decode cX7_addNotch 61 = .ok (.bipush (-4), 2) := by decide +kernel
theorem dX7_addNotch_63 : decode cX7_addNotch 63 = .ok (.ireturn, 1) := by decide +kernel
theorem dX7_addNotch_64 : decode cX7_addNotch 64 = .ok (.aload_n 0, 1) := by decide +kernel
theorem dX7_addNotch_65 : decode cX7_addNotch 65 = .ok (.invokevirtual 53, 3) := by decide +kernel
theorem dX7_addNotch_68 : decode cX7_addNotch 68 = .ok (.aload_n 0, 1) := by decide +kernel
theorem dX7_addNotch_69 : decode cX7_addNotch 69 = .ok (.iload_n 1, 1) := by decide +kernel
theorem dX7_addNotch_70 : decode cX7_addNotch 70 = .ok (.bipush 13, 2) := by decide +kernel
theorem dX7_addNotch_72 : decode cX7_addNotch 72 = .ok (.iconst 3, 1) := by decide +kernel
theorem dX7_addNotch_73 : decode cX7_addNotch 73 = .ok (.iload 5, 2) := by decide +kernel
theorem dX7_addNotch_75 : decode cX7_addNotch 75 = .ok (.imul, 1) := by decide +kernel
theorem dX7_addNotch_76 : decode cX7_addNotch 76 = .ok (.iadd, 1) := by decide +kernel
theorem dX7_addNotch_77 : decode cX7_addNotch 77 = .ok (.iload_n 2, 1) := by decide +kernel
theorem dX7_addNotch_78 : decode cX7_addNotch 78 = .ok (.invokevirtual 37, 3) := by decide +kernel
theorem dX7_addNotch_81 : decode cX7_addNotch 81 = .ok (.aload_n 0, 1) := by decide +kernel
theorem dX7_addNotch_82 : decode cX7_addNotch 82 = .ok (.iload_n 1, 1) := by decide +kernel
theorem dX7_addNotch_83 : decode cX7_addNotch 83 = .ok (.bipush 13, 2) := by decide +kernel
theorem dX7_addNotch_85 : decode cX7_addNotch 85 = .ok (.iconst 3, 1) := by decide +kernel
theorem dX7_addNotch_86 : decode cX7_addNotch 86 = .ok (.iload 5, 2) := by decide +kernel
theorem dX7_addNotch_88 : decode cX7_addNotch 88 = .ok (.imul, 1) := by decide +kernel
theorem dX7_addNotch_89 : decode cX7_addNotch 89 = .ok (.iadd, 1) := by decide +kernel
theorem dX7_addNotch_90 : decode cX7_addNotch 90 = .ok (.iconst 1, 1) := by decide +kernel
theorem dX7_addNotch_91 : decode cX7_addNotch 91 = .ok (.iadd, 1) := by decide +kernel
theorem dX7_addNotch_92 : decode cX7_addNotch 92 = .ok (.iload_n 3, 1) := by decide +kernel
theorem dX7_addNotch_93 : decode cX7_addNotch 93 = .ok (.invokevirtual 37, 3) := by decide +kernel
theorem dX7_addNotch_96 : decode cX7_addNotch 96 = .ok (.aload_n 0, 1) := by decide +kernel
theorem dX7_addNotch_97 : decode cX7_addNotch 97 = .ok (.iload_n 1, 1) := by decide +kernel
theorem dX7_addNotch_98 : decode cX7_addNotch 98 = .ok (.bipush 13, 2) := by decide +kernel
theorem dX7_addNotch_100 : decode cX7_addNotch 100 = .ok (.iconst 3, 1) := by decide +kernel
theorem dX7_addNotch_101 : decode cX7_addNotch 101 = .ok (.iload 5, 2) := by decide +kernel
theorem dX7_addNotch_103 : decode cX7_addNotch 103 = .ok (.imul, 1) := by decide +kernel
theorem dX7_addNotch_104 : decode cX7_addNotch 104 = .ok (.iadd, 1) := by decide +kernel
theorem dX7_addNotch_105 : decode cX7_addNotch 105 = .ok (.iconst 2, 1) := by decide +kernel
theorem dX7_addNotch_106 : decode cX7_addNotch 106 = .ok (.iadd, 1) := by decide +kernel
theorem dX7_addNotch_107 : decode cX7_addNotch 107 = .ok (.iload 4, 2) := by decide +kernel
theorem dX7_addNotch_109 : decode cX7_addNotch 109 = .ok (.invokevirtual 37, 3) := by decide +kernel
theorem dX7_addNotch_112 : decode cX7_addNotch 112 = .ok (.aload_n 0, 1) := by decide +kernel
theorem dX7_addNotch_113 : decode cX7_addNotch 113 = .ok (.iload_n 1, 1) := by decide +kernel
theorem dX7_addNotch_114 : decode cX7_addNotch 114 = .ok (.bipush 12, 2) := by decide +kernel
theorem dX7_addNotch_116 : decode cX7_addNotch 116 = .ok (.iload 5, 2) := by decide +kernel
theorem dX7_addNotch_118 : decode cX7_addNotch 118 = .ok (.iconst 1, 1) := by decide +kernel
theorem dX7_addNotch_119 : decode cX7_addNotch 119 = .ok (.iadd, 1) := by decide +kernel
theorem dX7_addNotch_120 : decode cX7_addNotch 120 = .ok (.invokevirtual 37, 3) := by decide +kernel
theorem dX7_addNotch_123 : decode cX7_addNotch 123 = .ok (.iload 5, 2) := by decide +kernel
theorem dX7_addNotch_125 : decode cX7_addNotch 125 = .ok (.ireturn, 1) := by decide +kernel
theorem dX7_least_0 : decode cX7_least 0 = .ok (.iload_n 0, 1) := by decide +kernel
theorem dX7_least_1 : decode cX7_least 1 = .ok (.ifCond .ne 7, 3) := by decide +kernel
theorem dX7_least_4 : decode cX7_least 4 = .ok (.iconst 0, 1) := by decide +kernel
theorem dX7_least_5 : decode cX7_least 5 = .ok (.goto 14, 3) := by decide +kernel
theorem dX7_least_8 : decode cX7_least 8 = .ok (.iload_n 0, 1) := by decide +kernel
theorem dX7_least_9 : decode cX7_least 9 = .ok (.iconst 4, 1) := by decide +kernel
theorem dX7_least_10 : decode cX7_least 10 = .ok (.if_icmp .ne 8, 3) := by decide +kernel
theorem dX7_least_13 : decode cX7_least 13 = .ok (.bipush 10, 2) := by decide +kernel
theorem dX7_least_15 : decode cX7_least 15 = .ok (.goto 4, 3) := by decide +kernel
theorem dX7_least_18 : decode cX7_least 18 = .ok (.iconst 1, 1) := by decide +kernel
theorem dX7_least_19 : decode cX7_least 19 = .ok (.ireturn, 1) := by decide +kernel
theorem dX7_most_0 : decode cX7_most 0 = .ok (.iload_n 0, 1) := by decide +kernel
theorem dX7_most_1 : decode cX7_most 1 = .ok (.tableswitch 48 0 4 #[35, 37, 40, 42, 45], 35) := by decide +kernel
theorem dX7_most_36 : decode cX7_most 36 = .ok (.iconst 2, 1) := by decide +kernel
theorem dX7_most_37 : decode cX7_most 37 = .ok (.ireturn, 1) := by decide +kernel
theorem dX7_most_38 : decode cX7_most 38 = .ok (.bipush 8, 2) := by decide +kernel
theorem dX7_most_40 : decode cX7_most 40 = .ok (.ireturn, 1) := by decide +kernel
theorem dX7_most_41 : decode cX7_most 41 = .ok (.iconst 5, 1) := by decide +kernel
theorem dX7_most_42 : decode cX7_most 42 = .ok (.ireturn, 1) := by decide +kernel
theorem dX7_most_43 : decode cX7_most 43 = .ok (.bipush 100, 2) := by decide +kernel
theorem dX7_most_45 : decode cX7_most 45 = .ok (.ireturn, 1) := by decide +kernel
theorem dX7_most_46 : decode cX7_most 46 = .ok (.bipush 90, 2) := by decide +kernel
theorem dX7_most_48 : decode cX7_most 48 = .ok (.ireturn, 1) := by decide +kernel
theorem dX7_most_49 : decode cX7_most 49 = .ok (.bipush 9, 2) := by decide +kernel
theorem dX7_most_51 : decode cX7_most 51 = .ok (.ireturn, 1) := by decide +kernel
theorem dX7_whyNotSet_0 : decode cX7_whyNotSet 0 = .ok (.iload_n 1, 1) := by decide +kernel
theorem dX7_whyNotSet_1 : decode cX7_whyNotSet 1 = .ok (.iconst 0, 1) := by decide +kernel
theorem dX7_whyNotSet_2 : decode cX7_whyNotSet 2 = .ok (.iconst 5, 1) := by decide +kernel
theorem dX7_whyNotSet_3 : decode cX7_whyNotSet 3 = .ok (.invokestatic 41, 3) := by decide +kernel
theorem dX7_whyNotSet_6 : decode cX7_whyNotSet 6 = .ok (.ifCond .ne 7, 3) := by decide +kernel
theorem dX7_whyNotSet_9 : decode cX7_whyNotSet 9 = .ok (.iconst (-1), 1) := by decide +kernel
theorem dX7_whyNotSet_10 : decode cX7_whyNotSet 10 = .ok (.goto 24, 3) := by decide +kernel
theorem dX7_whyNotSet_13 : decode cX7_whyNotSet 13 = .ok (.iload_n 2, 1) := by decide +kernel
theorem dX7_whyNotSet_14 : decode cX7_whyNotSet 14 = .ok (.iload_n 1, 1) := by decide +kernel
theorem dX7_whyNotSet_15 : decode cX7_whyNotSet 15 = .ok (.invokestatic 68, 3) := by decide +kernel
theorem dX7_whyNotSet_18 : decode cX7_whyNotSet 18 = .ok (.iload_n 1, 1) := by decide +kernel
theorem dX7_whyNotSet_19 : decode cX7_whyNotSet 19 = .ok (.invokestatic 72, 3) := by decide +kernel
theorem dX7_whyNotSet_22 : decode cX7_whyNotSet 22 = .ok (.invokestatic 41, 3) := by decide +kernel
theorem dX7_whyNotSet_25 : decode cX7_whyNotSet 25 = .ok (.ifCond .eq 7, 3) := by decide +kernel
theorem dX7_whyNotSet_28 : decode cX7_whyNotSet 28 = .ok (.iconst 0, 1) := by decide +kernel
theorem dX7_whyNotSet_29 : decode cX7_whyNotSet 29 = .ok (.goto 5, 3) := by decide +kernel
theorem dX7_whyNotSet_32 : decode cX7_whyNotSet 32 = .ok (.bipush (-2), 2) := by decide +kernel
theorem dX7_whyNotSet_34 : decode cX7_whyNotSet 34 = .ok (.ireturn, 1) := by decide +kernel
theorem dX7_set_0 : decode cX7_set 0 = .ok (.aload_n 0, 1) := by decide +kernel
theorem dX7_set_1 : decode cX7_set 1 = .ok (.iload_n 1, 1) := by decide +kernel
theorem dX7_set_2 : decode cX7_set 2 = .ok (.iload_n 2, 1) := by decide +kernel
theorem dX7_set_3 : decode cX7_set 3 = .ok (.invokevirtual 75, 3) := by decide +kernel
theorem dX7_set_6 : decode cX7_set 6 = .ok (.istore_n 3, 1) := by decide +kernel
theorem dX7_set_7 : decode cX7_set 7 = .ok (.iload_n 3, 1) := by decide +kernel
theorem dX7_set_8 : decode cX7_set 8 = .ok (.ifCond .eq 5, 3) := by decide +kernel
theorem dX7_set_11 : decode cX7_set 11 = .ok (.iload_n 3, 1) := by decide +kernel
theorem dX7_set_12 : decode cX7_set 12 = .ok (.ireturn, 1) := by decide +kernel
theorem dX7_set_13 : decode cX7_set 13 = .ok (.aload_n 0, 1) := by decide +kernel
theorem dX7_set_14 : decode cX7_set 14 = .ok (.invokevirtual 53, 3) := by decide +kernel
theorem dX7_set_17 : decode cX7_set 17 = .ok (.aload_n 0, 1) := by decide +kernel
theorem dX7_set_18 : decode cX7_set 18 = .ok (.iload_n 1, 1) := by decide +kernel
theorem dX7_set_19 : decode cX7_set 19 = .ok (.invokevirtual 78, 3) := by decide +kernel
theorem dX7_set_22 : decode cX7_set 22 = .ok (.istore 4, 2) := by decide +kernel
theorem dX7_set_24 : decode cX7_set 24 = .ok (.aload_n 0, 1) := by decide +kernel
theorem dX7_set_25 : decode cX7_set 25 = .ok (.getfield 7, 3) := by decide +kernel
theorem dX7_set_28 : decode cX7_set 28 = .ok (.bipush 12, 2) := by decide +kernel
theorem dX7_set_30 : decode cX7_set 30 = .ok (.iload_n 1, 1) := by decide +kernel
theorem dX7_set_31 : decode cX7_set 31 = .ok (.iadd, 1) := by decide +kernel
theorem dX7_set_32 : decode cX7_set 32 = .ok (.iload_n 2, 1) := by decide +kernel
theorem dX7_set_33 : decode cX7_set 33 = .ok (.iastore, 1) := by decide +kernel
theorem dX7_set_34 : decode cX7_set 34 = .ok (.iload 4, 2) := by decide +kernel
theorem dX7_set_36 : decode cX7_set 36 = .ok (.ireturn, 1) := by decide +kernel
theorem dX7_targetOf_0 : decode cX7_targetOf 0 = .ok (.bipush (-6), 2) := by decide +kernel
theorem dX7_targetOf_2 : decode cX7_targetOf 2 = .ok (.istore_n 2, 1) := by decide +kernel
theorem dX7_targetOf_3 : decode cX7_targetOf 3 = .ok (.bipush (-6), 2) := by decide +kernel
theorem dX7_targetOf_5 : decode cX7_targetOf 5 = .ok (.istore_n 3, 1) := by decide +kernel
theorem dX7_targetOf_6 : decode cX7_targetOf 6 = .ok (.iconst 0, 1) := by decide +kernel
theorem dX7_targetOf_7 : decode cX7_targetOf 7 = .ok (.istore 4, 2) := by decide +kernel
theorem dX7_targetOf_9 : decode cX7_targetOf 9 = .ok (.iload 4, 2) := by decide +kernel
theorem dX7_targetOf_11 : decode cX7_targetOf 11 = .ok (.aload_n 0, 1) := by decide +kernel
theorem dX7_targetOf_12 : decode cX7_targetOf 12 = .ok (.getfield 7, 3) := by decide +kernel
theorem dX7_targetOf_15 : decode cX7_targetOf 15 = .ok (.iconst 4, 1) := by decide +kernel
theorem dX7_targetOf_16 : decode cX7_targetOf 16 = .ok (.iaload, 1) := by decide +kernel
theorem dX7_targetOf_17 : decode cX7_targetOf 17 = .ok (.if_icmp .ge 93, 3) := by decide +kernel
theorem dX7_targetOf_20 : decode cX7_targetOf 20 = .ok (.aload_n 0, 1) := by decide +kernel
theorem dX7_targetOf_21 : decode cX7_targetOf 21 = .ok (.getfield 7, 3) := by decide +kernel
theorem dX7_targetOf_24 : decode cX7_targetOf 24 = .ok (.bipush 18, 2) := by decide +kernel
theorem dX7_targetOf_26 : decode cX7_targetOf 26 = .ok (.iconst 2, 1) := by decide +kernel
theorem dX7_targetOf_27 : decode cX7_targetOf 27 = .ok (.iload 4, 2) := by decide +kernel
theorem dX7_targetOf_29 : decode cX7_targetOf 29 = .ok (.imul, 1) := by decide +kernel
theorem dX7_targetOf_30 : decode cX7_targetOf 30 = .ok (.iadd, 1) := by decide +kernel
theorem dX7_targetOf_31 : decode cX7_targetOf 31 = .ok (.iaload, 1) := by decide +kernel
theorem dX7_targetOf_32 : decode cX7_targetOf 32 = .ok (.istore 5, 2) := by decide +kernel
theorem dX7_targetOf_34 : decode cX7_targetOf 34 = .ok (.iload 5, 2) := by decide +kernel
theorem dX7_targetOf_36 : decode cX7_targetOf 36 = .ok (.iload_n 1, 1) := by decide +kernel
theorem dX7_targetOf_37 : decode cX7_targetOf 37 = .ok (.if_icmp .gt 30, 3) := by decide +kernel
theorem dX7_targetOf_40 : decode cX7_targetOf 40 = .ok (.iload_n 2, 1) := by decide +kernel
theorem dX7_targetOf_41 : decode cX7_targetOf 41 = .ok (.bipush (-6), 2) := by decide +kernel
theorem dX7_targetOf_43 : decode cX7_targetOf 43 = .ok (.if_icmp .eq 19, 3) := by decide +kernel
theorem dX7_targetOf_46 : decode cX7_targetOf 46 = .ok (.iload 5, 2) := by decide +kernel
theorem dX7_targetOf_48 : decode cX7_targetOf 48 = .ok (.aload_n 0, 1) := by decide +kernel
theorem dX7_targetOf_49 : decode cX7_targetOf 49 = .ok (.getfield 7, 3) := by decide +kernel
theorem dX7_targetOf_52 : decode cX7_targetOf 52 = .ok (.bipush 18, 2) := by decide +kernel
theorem dX7_targetOf_54 : decode cX7_targetOf 54 = .ok (.iconst 2, 1) := by decide +kernel
theorem dX7_targetOf_55 : decode cX7_targetOf 55 = .ok (.iload_n 2, 1) := by decide +kernel
theorem dX7_targetOf_56 : decode cX7_targetOf 56 = .ok (.imul, 1) := by decide +kernel
theorem dX7_targetOf_57 : decode cX7_targetOf 57 = .ok (.iadd, 1) := by decide +kernel
theorem dX7_targetOf_58 : decode cX7_targetOf 58 = .ok (.iaload, 1) := by decide +kernel
theorem dX7_targetOf_59 : decode cX7_targetOf 59 = .ok (.if_icmp .le 8, 3) := by decide +kernel
theorem dX7_targetOf_62 : decode cX7_targetOf 62 = .ok (.iload 4, 2) := by decide +kernel
theorem dX7_targetOf_64 : decode cX7_targetOf 64 = .ok (.goto 4, 3) := by decide +kernel
theorem dX7_targetOf_67 : decode cX7_targetOf 67 = .ok (.iload_n 2, 1) := by decide +kernel
theorem dX7_targetOf_68 : decode cX7_targetOf 68 = .ok (.istore_n 2, 1) := by decide +kernel
theorem dX7_targetOf_69 : decode cX7_targetOf 69 = .ok (.iload 5, 2) := by decide +kernel
theorem dX7_targetOf_71 : decode cX7_targetOf 71 = .ok (.iload_n 1, 1) := by decide +kernel
theorem dX7_targetOf_72 : decode cX7_targetOf 72 = .ok (.if_icmp .lt 30, 3) := by decide +kernel
theorem dX7_targetOf_75 : decode cX7_targetOf 75 = .ok (.iload_n 3, 1) := by decide +kernel
theorem dX7_targetOf_76 : decode cX7_targetOf 76 = .ok (.bipush (-6), 2) := by decide +kernel
theorem dX7_targetOf_78 : decode cX7_targetOf 78 = .ok (.if_icmp .eq 19, 3) := by decide +kernel
theorem dX7_targetOf_81 : decode cX7_targetOf 81 = .ok (.iload 5, 2) := by decide +kernel
theorem dX7_targetOf_83 : decode cX7_targetOf 83 = .ok (.aload_n 0, 1) := by decide +kernel
theorem dX7_targetOf_84 : decode cX7_targetOf 84 = .ok (.getfield 7, 3) := by decide +kernel
theorem dX7_targetOf_87 : decode cX7_targetOf 87 = .ok (.bipush 18, 2) := by decide +kernel
theorem dX7_targetOf_89 : decode cX7_targetOf 89 = .ok (.iconst 2, 1) := by decide +kernel
theorem dX7_targetOf_90 : decode cX7_targetOf 90 = .ok (.iload_n 3, 1) := by decide +kernel
theorem dX7_targetOf_91 : decode cX7_targetOf 91 = .ok (.imul, 1) := by decide +kernel
theorem dX7_targetOf_92 : decode cX7_targetOf 92 = .ok (.iadd, 1) := by decide +kernel
theorem dX7_targetOf_93 : decode cX7_targetOf 93 = .ok (.iaload, 1) := by decide +kernel
theorem dX7_targetOf_94 : decode cX7_targetOf 94 = .ok (.if_icmp .ge 8, 3) := by decide +kernel
theorem dX7_targetOf_97 : decode cX7_targetOf 97 = .ok (.iload 4, 2) := by decide +kernel
theorem dX7_targetOf_99 : decode cX7_targetOf 99 = .ok (.goto 4, 3) := by decide +kernel
theorem dX7_targetOf_102 : decode cX7_targetOf 102 = .ok (.iload_n 3, 1) := by decide +kernel
theorem dX7_targetOf_103 : decode cX7_targetOf 103 = .ok (.istore_n 3, 1) := by decide +kernel
theorem dX7_targetOf_104 : decode cX7_targetOf 104 = .ok (.iinc 4 1, 3) := by decide +kernel
theorem dX7_targetOf_107 : decode cX7_targetOf 107 = .ok (.goto (-98), 3) := by decide +kernel
theorem dX7_targetOf_110 : decode cX7_targetOf 110 = .ok (.iload_n 2, 1) := by decide +kernel
theorem dX7_targetOf_111 : decode cX7_targetOf 111 = .ok (.bipush (-6), 2) := by decide +kernel
theorem dX7_targetOf_113 : decode cX7_targetOf 113 = .ok (.if_icmp .eq 9, 3) := by decide +kernel
theorem dX7_targetOf_116 : decode cX7_targetOf 116 = .ok (.iload_n 3, 1) := by decide +kernel
theorem dX7_targetOf_117 : decode cX7_targetOf 117 = .ok (.bipush (-6), 2) := by decide +kernel
theorem dX7_targetOf_119 : decode cX7_targetOf 119 = .ok (.if_icmp .ne 27, 3) := by decide +kernel
theorem dX7_targetOf_122 : decode cX7_targetOf 122 = .ok (.aload_n 0, 1) := by decide +kernel
theorem dX7_targetOf_123 : decode cX7_targetOf 123 = .ok (.getfield 7, 3) := by decide +kernel
theorem dX7_targetOf_126 : decode cX7_targetOf 126 = .ok (.bipush 18, 2) := by decide +kernel
theorem dX7_targetOf_128 : decode cX7_targetOf 128 = .ok (.iconst 2, 1) := by decide +kernel
theorem dX7_targetOf_129 : decode cX7_targetOf 129 = .ok (.iload_n 2, 1) := by decide +kernel
theorem dX7_targetOf_130 : decode cX7_targetOf 130 = .ok (.bipush (-6), 2) := by decide +kernel
theorem dX7_targetOf_132 : decode cX7_targetOf 132 = .ok (.if_icmp .ne 7, 3) := by decide +kernel
theorem dX7_targetOf_135 : decode cX7_targetOf 135 = .ok (.iload_n 3, 1) := by decide +kernel
theorem dX7_targetOf_136 : decode cX7_targetOf 136 = .ok (.goto 4, 3) := by decide +kernel
theorem dX7_targetOf_139 : decode cX7_targetOf 139 = .ok (.iload_n 2, 1) := by decide +kernel
theorem dX7_targetOf_140 : decode cX7_targetOf 140 = .ok (.imul, 1) := by decide +kernel
theorem dX7_targetOf_141 : decode cX7_targetOf 141 = .ok (.iadd, 1) := by decide +kernel
theorem dX7_targetOf_142 : decode cX7_targetOf 142 = .ok (.iconst 1, 1) := by decide +kernel
theorem dX7_targetOf_143 : decode cX7_targetOf 143 = .ok (.iadd, 1) := by decide +kernel
theorem dX7_targetOf_144 : decode cX7_targetOf 144 = .ok (.iaload, 1) := by decide +kernel
theorem dX7_targetOf_145 : decode cX7_targetOf 145 = .ok (.ireturn, 1) := by decide +kernel
theorem dX7_targetOf_146 : decode cX7_targetOf 146 = .ok (.aload_n 0, 1) := by decide +kernel
theorem dX7_targetOf_147 : decode cX7_targetOf 147 = .ok (.getfield 7, 3) := by decide +kernel
theorem dX7_targetOf_150 : decode cX7_targetOf 150 = .ok (.bipush 18, 2) := by decide +kernel
theorem dX7_targetOf_152 : decode cX7_targetOf 152 = .ok (.iconst 2, 1) := by decide +kernel
theorem dX7_targetOf_153 : decode cX7_targetOf 153 = .ok (.iload_n 2, 1) := by decide +kernel
theorem dX7_targetOf_154 : decode cX7_targetOf 154 = .ok (.imul, 1) := by decide +kernel
theorem dX7_targetOf_155 : decode cX7_targetOf 155 = .ok (.iadd, 1) := by decide +kernel
theorem dX7_targetOf_156 : decode cX7_targetOf 156 = .ok (.iaload, 1) := by decide +kernel
theorem dX7_targetOf_157 : decode cX7_targetOf 157 = .ok (.istore 4, 2) := by decide +kernel
theorem dX7_targetOf_159 : decode cX7_targetOf 159 = .ok (.aload_n 0, 1) := by decide +kernel
theorem dX7_targetOf_160 : decode cX7_targetOf 160 = .ok (.getfield 7, 3) := by decide +kernel
theorem dX7_targetOf_163 : decode cX7_targetOf 163 = .ok (.bipush 18, 2) := by decide +kernel
theorem dX7_targetOf_165 : decode cX7_targetOf 165 = .ok (.iconst 2, 1) := by decide +kernel
theorem dX7_targetOf_166 : decode cX7_targetOf 166 = .ok (.iload_n 3, 1) := by decide +kernel
theorem dX7_targetOf_167 : decode cX7_targetOf 167 = .ok (.imul, 1) := by decide +kernel
theorem dX7_targetOf_168 : decode cX7_targetOf 168 = .ok (.iadd, 1) := by decide +kernel
theorem dX7_targetOf_169 : decode cX7_targetOf 169 = .ok (.iaload, 1) := by decide +kernel
theorem dX7_targetOf_170 : decode cX7_targetOf 170 = .ok (.istore 5, 2) := by decide +kernel
theorem dX7_targetOf_172 : decode cX7_targetOf 172 = .ok (.aload_n 0, 1) := by decide +kernel
theorem dX7_targetOf_173 : decode cX7_targetOf 173 = .ok (.getfield 7, 3) := by decide +kernel
theorem dX7_targetOf_176 : decode cX7_targetOf 176 = .ok (.bipush 18, 2) := by decide +kernel
theorem dX7_targetOf_178 : decode cX7_targetOf 178 = .ok (.iconst 2, 1) := by decide +kernel
theorem dX7_targetOf_179 : decode cX7_targetOf 179 = .ok (.iload_n 2, 1) := by decide +kernel
theorem dX7_targetOf_180 : decode cX7_targetOf 180 = .ok (.imul, 1) := by decide +kernel
theorem dX7_targetOf_181 : decode cX7_targetOf 181 = .ok (.iadd, 1) := by decide +kernel
theorem dX7_targetOf_182 : decode cX7_targetOf 182 = .ok (.iconst 1, 1) := by decide +kernel
theorem dX7_targetOf_183 : decode cX7_targetOf 183 = .ok (.iadd, 1) := by decide +kernel
theorem dX7_targetOf_184 : decode cX7_targetOf 184 = .ok (.iaload, 1) := by decide +kernel
theorem dX7_targetOf_185 : decode cX7_targetOf 185 = .ok (.istore 6, 2) := by decide +kernel
theorem dX7_targetOf_187 : decode cX7_targetOf 187 = .ok (.aload_n 0, 1) := by decide +kernel
theorem dX7_targetOf_188 : decode cX7_targetOf 188 = .ok (.getfield 7, 3) := by decide +kernel
theorem dX7_targetOf_191 : decode cX7_targetOf 191 = .ok (.bipush 18, 2) := by decide +kernel
theorem dX7_targetOf_193 : decode cX7_targetOf 193 = .ok (.iconst 2, 1) := by decide +kernel
theorem dX7_targetOf_194 : decode cX7_targetOf 194 = .ok (.iload_n 3, 1) := by decide +kernel
theorem dX7_targetOf_195 : decode cX7_targetOf 195 = .ok (.imul, 1) := by decide +kernel
theorem dX7_targetOf_196 : decode cX7_targetOf 196 = .ok (.iadd, 1) := by decide +kernel
theorem dX7_targetOf_197 : decode cX7_targetOf 197 = .ok (.iconst 1, 1) := by decide +kernel
theorem dX7_targetOf_198 : decode cX7_targetOf 198 = .ok (.iadd, 1) := by decide +kernel
theorem dX7_targetOf_199 : decode cX7_targetOf 199 = .ok (.iaload, 1) := by decide +kernel
theorem dX7_targetOf_200 : decode cX7_targetOf 200 = .ok (.istore 7, 2) := by decide +kernel
theorem dX7_targetOf_202 : decode cX7_targetOf 202 = .ok (.iload 4, 2) := by decide +kernel
theorem dX7_targetOf_204 : decode cX7_targetOf 204 = .ok (.iload 5, 2) := by decide +kernel
theorem dX7_targetOf_206 : decode cX7_targetOf 206 = .ok (.if_icmp .ne 8, 3) := by decide +kernel
theorem dX7_targetOf_209 : decode cX7_targetOf 209 = .ok (.iload 6, 2) := by decide +kernel
theorem dX7_targetOf_211 : decode cX7_targetOf 211 = .ok (.goto 24, 3) := by decide +kernel
theorem dX7_targetOf_214 : decode cX7_targetOf 214 = .ok (.iload 6, 2) := by decide +kernel
theorem dX7_targetOf_216 : decode cX7_targetOf 216 = .ok (.iload 5, 2) := by decide +kernel
theorem dX7_targetOf_218 : decode cX7_targetOf 218 = .ok (.iload_n 1, 1) := by decide +kernel
theorem dX7_targetOf_219 : decode cX7_targetOf 219 = .ok (.isub, 1) := by decide +kernel
theorem dX7_targetOf_220 : decode cX7_targetOf 220 = .ok (.imul, 1) := by decide +kernel
theorem dX7_targetOf_221 : decode cX7_targetOf 221 = .ok (.iload 7, 2) := by decide +kernel
theorem dX7_targetOf_223 : decode cX7_targetOf 223 = .ok (.iload_n 1, 1) := by decide +kernel
theorem dX7_targetOf_224 : decode cX7_targetOf 224 = .ok (.iload 4, 2) := by decide +kernel
theorem dX7_targetOf_226 : decode cX7_targetOf 226 = .ok (.isub, 1) := by decide +kernel
theorem dX7_targetOf_227 : decode cX7_targetOf 227 = .ok (.imul, 1) := by decide +kernel
theorem dX7_targetOf_228 : decode cX7_targetOf 228 = .ok (.iadd, 1) := by decide +kernel
theorem dX7_targetOf_229 : decode cX7_targetOf 229 = .ok (.iload 5, 2) := by decide +kernel
theorem dX7_targetOf_231 : decode cX7_targetOf 231 = .ok (.iload 4, 2) := by decide +kernel
theorem dX7_targetOf_233 : decode cX7_targetOf 233 = .ok (.isub, 1) := by decide +kernel
theorem dX7_targetOf_234 : decode cX7_targetOf 234 = .ok (.idiv, 1) := by decide +kernel
theorem dX7_targetOf_235 : decode cX7_targetOf 235 = .ok (.ireturn, 1) := by decide +kernel
theorem dX7_gainOf_0 : decode cX7_gainOf 0 = .ok (.aload_n 0, 1) := by decide +kernel
theorem dX7_gainOf_1 : decode cX7_gainOf 1 = .ok (.iload_n 1, 1) := by decide +kernel
theorem dX7_gainOf_2 : decode cX7_gainOf 2 = .ok (.iconst 1, 1) := by decide +kernel
theorem dX7_gainOf_3 : decode cX7_gainOf 3 = .ok (.invokevirtual 65, 3) := by decide +kernel
theorem dX7_gainOf_6 : decode cX7_gainOf 6 = .ok (.istore_n 3, 1) := by decide +kernel
theorem dX7_gainOf_7 : decode cX7_gainOf 7 = .ok (.iconst 0, 1) := by decide +kernel
theorem dX7_gainOf_8 : decode cX7_gainOf 8 = .ok (.istore 4, 2) := by decide +kernel
theorem dX7_gainOf_10 : decode cX7_gainOf 10 = .ok (.iload 4, 2) := by decide +kernel
theorem dX7_gainOf_12 : decode cX7_gainOf 12 = .ok (.iconst 3, 1) := by decide +kernel
theorem dX7_gainOf_13 : decode cX7_gainOf 13 = .ok (.if_icmp .ge 81, 3) := by decide +kernel
theorem dX7_gainOf_16 : decode cX7_gainOf 16 = .ok (.iload_n 2, 1) := by decide +kernel
theorem dX7_gainOf_17 : decode cX7_gainOf 17 = .ok (.aload_n 0, 1) := by decide +kernel
theorem dX7_gainOf_18 : decode cX7_gainOf 18 = .ok (.iload_n 1, 1) := by decide +kernel
theorem dX7_gainOf_19 : decode cX7_gainOf 19 = .ok (.iconst 3, 1) := by decide +kernel
theorem dX7_gainOf_20 : decode cX7_gainOf 20 = .ok (.iconst 3, 1) := by decide +kernel
theorem dX7_gainOf_21 : decode cX7_gainOf 21 = .ok (.iload 4, 2) := by decide +kernel
theorem dX7_gainOf_23 : decode cX7_gainOf 23 = .ok (.imul, 1) := by decide +kernel
theorem dX7_gainOf_24 : decode cX7_gainOf 24 = .ok (.iadd, 1) := by decide +kernel
theorem dX7_gainOf_25 : decode cX7_gainOf 25 = .ok (.invokevirtual 65, 3) := by decide +kernel
theorem dX7_gainOf_28 : decode cX7_gainOf 28 = .ok (.isub, 1) := by decide +kernel
theorem dX7_gainOf_29 : decode cX7_gainOf 29 = .ok (.i2l, 1) := by decide +kernel
theorem dX7_gainOf_30 : decode cX7_gainOf 30 = .ok (.lstore 5, 2) := by decide +kernel
theorem dX7_gainOf_32 : decode cX7_gainOf 32 = .ok (.aload_n 0, 1) := by decide +kernel
theorem dX7_gainOf_33 : decode cX7_gainOf 33 = .ok (.iload_n 1, 1) := by decide +kernel
theorem dX7_gainOf_34 : decode cX7_gainOf 34 = .ok (.iconst 3, 1) := by decide +kernel
theorem dX7_gainOf_35 : decode cX7_gainOf 35 = .ok (.iconst 3, 1) := by decide +kernel
theorem dX7_gainOf_36 : decode cX7_gainOf 36 = .ok (.iload 4, 2) := by decide +kernel
theorem dX7_gainOf_38 : decode cX7_gainOf 38 = .ok (.imul, 1) := by decide +kernel
theorem dX7_gainOf_39 : decode cX7_gainOf 39 = .ok (.iadd, 1) := by decide +kernel
theorem dX7_gainOf_40 : decode cX7_gainOf 40 = .ok (.iconst 1, 1) := by decide +kernel
theorem dX7_gainOf_41 : decode cX7_gainOf 41 = .ok (.iadd, 1) := by decide +kernel
theorem dX7_gainOf_42 : decode cX7_gainOf 42 = .ok (.invokevirtual 65, 3) := by decide +kernel
theorem dX7_gainOf_45 : decode cX7_gainOf 45 = .ok (.i2l, 1) := by decide +kernel
theorem dX7_gainOf_46 : decode cX7_gainOf 46 = .ok (.lstore 7, 2) := by decide +kernel
theorem dX7_gainOf_48 : decode cX7_gainOf 48 = .ok (.aload_n 0, 1) := by decide +kernel
theorem dX7_gainOf_49 : decode cX7_gainOf 49 = .ok (.iload_n 1, 1) := by decide +kernel
theorem dX7_gainOf_50 : decode cX7_gainOf 50 = .ok (.iconst 3, 1) := by decide +kernel
theorem dX7_gainOf_51 : decode cX7_gainOf 51 = .ok (.iconst 3, 1) := by decide +kernel
theorem dX7_gainOf_52 : decode cX7_gainOf 52 = .ok (.iload 4, 2) := by decide +kernel
theorem dX7_gainOf_54 : decode cX7_gainOf 54 = .ok (.imul, 1) := by decide +kernel
theorem dX7_gainOf_55 : decode cX7_gainOf 55 = .ok (.iadd, 1) := by decide +kernel
theorem dX7_gainOf_56 : decode cX7_gainOf 56 = .ok (.iconst 2, 1) := by decide +kernel
theorem dX7_gainOf_57 : decode cX7_gainOf 57 = .ok (.iadd, 1) := by decide +kernel
theorem dX7_gainOf_58 : decode cX7_gainOf 58 = .ok (.invokevirtual 65, 3) := by decide +kernel
theorem dX7_gainOf_61 : decode cX7_gainOf 61 = .ok (.i2l, 1) := by decide +kernel
theorem dX7_gainOf_62 : decode cX7_gainOf 62 = .ok (.lstore 9, 2) := by decide +kernel
theorem dX7_gainOf_64 : decode cX7_gainOf 64 = .ok (.iload_n 3, 1) := by decide +kernel
theorem dX7_gainOf_65 : decode cX7_gainOf 65 = .ok (.lload 9, 2) := by decide +kernel
theorem dX7_gainOf_67 : decode cX7_gainOf 67 = .ok (.lload 7, 2) := by decide +kernel
theorem dX7_gainOf_69 : decode cX7_gainOf 69 = .ok (.lmul, 1) := by decide +kernel
theorem dX7_gainOf_70 : decode cX7_gainOf 70 = .ok (.lload 7, 2) := by decide +kernel
theorem dX7_gainOf_72 : decode cX7_gainOf 72 = .ok (.lmul, 1) := by decide +kernel
theorem dX7_gainOf_73 : decode cX7_gainOf 73 = .ok (.lload 7, 2) := by decide +kernel
theorem dX7_gainOf_75 : decode cX7_gainOf 75 = .ok (.lload 7, 2) := by decide +kernel
theorem dX7_gainOf_77 : decode cX7_gainOf 77 = .ok (.lmul, 1) := by decide +kernel
theorem dX7_gainOf_78 : decode cX7_gainOf 78 = .ok (.lload 5, 2) := by decide +kernel
theorem dX7_gainOf_80 : decode cX7_gainOf 80 = .ok (.lload 5, 2) := by decide +kernel
theorem dX7_gainOf_82 : decode cX7_gainOf 82 = .ok (.lmul, 1) := by decide +kernel
theorem dX7_gainOf_83 : decode cX7_gainOf 83 = .ok (.ladd, 1) := by decide +kernel
theorem dX7_gainOf_84 : decode cX7_gainOf 84 = .ok (.ldiv, 1) := by decide +kernel
theorem dX7_gainOf_85 : decode cX7_gainOf 85 = .ok (.l2i, 1) := by decide +kernel
theorem dX7_gainOf_86 : decode cX7_gainOf 86 = .ok (.iadd, 1) := by decide +kernel
theorem dX7_gainOf_87 : decode cX7_gainOf 87 = .ok (.istore_n 3, 1) := by decide +kernel
theorem dX7_gainOf_88 : decode cX7_gainOf 88 = .ok (.iinc 4 1, 3) := by decide +kernel
theorem dX7_gainOf_91 : decode cX7_gainOf 91 = .ok (.goto (-81), 3) := by decide +kernel
theorem dX7_gainOf_94 : decode cX7_gainOf 94 = .ok (.iload_n 3, 1) := by decide +kernel
theorem dX7_gainOf_95 : decode cX7_gainOf 95 = .ok (.ireturn, 1) := by decide +kernel
theorem dX7_limitOf_0 : decode cX7_limitOf 0 = .ok (.bipush (-6), 2) := by decide +kernel
theorem dX7_limitOf_2 : decode cX7_limitOf 2 = .ok (.istore_n 3, 1) := by decide +kernel
theorem dX7_limitOf_3 : decode cX7_limitOf 3 = .ok (.iconst 0, 1) := by decide +kernel
theorem dX7_limitOf_4 : decode cX7_limitOf 4 = .ok (.istore 4, 2) := by decide +kernel
theorem dX7_limitOf_6 : decode cX7_limitOf 6 = .ok (.iload 4, 2) := by decide +kernel
theorem dX7_limitOf_8 : decode cX7_limitOf 8 = .ok (.aload_n 0, 1) := by decide +kernel
theorem dX7_limitOf_9 : decode cX7_limitOf 9 = .ok (.iload_n 1, 1) := by decide +kernel
theorem dX7_limitOf_10 : decode cX7_limitOf 10 = .ok (.bipush 12, 2) := by decide +kernel
theorem dX7_limitOf_12 : decode cX7_limitOf 12 = .ok (.invokevirtual 65, 3) := by decide +kernel
theorem dX7_limitOf_15 : decode cX7_limitOf 15 = .ok (.if_icmp .ge 81, 3) := by decide +kernel
theorem dX7_limitOf_18 : decode cX7_limitOf 18 = .ok (.iload_n 2, 1) := by decide +kernel
theorem dX7_limitOf_19 : decode cX7_limitOf 19 = .ok (.aload_n 0, 1) := by decide +kernel
theorem dX7_limitOf_20 : decode cX7_limitOf 20 = .ok (.iload_n 1, 1) := by decide +kernel
theorem dX7_limitOf_21 : decode cX7_limitOf 21 = .ok (.bipush 13, 2) := by decide +kernel
theorem dX7_limitOf_23 : decode cX7_limitOf 23 = .ok (.iconst 3, 1) := by decide +kernel
theorem dX7_limitOf_24 : decode cX7_limitOf 24 = .ok (.iload 4, 2) := by decide +kernel
theorem dX7_limitOf_26 : decode cX7_limitOf 26 = .ok (.imul, 1) := by decide +kernel
theorem dX7_limitOf_27 : decode cX7_limitOf 27 = .ok (.iadd, 1) := by decide +kernel
theorem dX7_limitOf_28 : decode cX7_limitOf 28 = .ok (.invokevirtual 65, 3) := by decide +kernel
theorem dX7_limitOf_31 : decode cX7_limitOf 31 = .ok (.aload_n 0, 1) := by decide +kernel
theorem dX7_limitOf_32 : decode cX7_limitOf 32 = .ok (.iload_n 1, 1) := by decide +kernel
theorem dX7_limitOf_33 : decode cX7_limitOf 33 = .ok (.bipush 13, 2) := by decide +kernel
theorem dX7_limitOf_35 : decode cX7_limitOf 35 = .ok (.iconst 3, 1) := by decide +kernel
theorem dX7_limitOf_36 : decode cX7_limitOf 36 = .ok (.iload 4, 2) := by decide +kernel
theorem dX7_limitOf_38 : decode cX7_limitOf 38 = .ok (.imul, 1) := by decide +kernel
theorem dX7_limitOf_39 : decode cX7_limitOf 39 = .ok (.iadd, 1) := by decide +kernel
theorem dX7_limitOf_40 : decode cX7_limitOf 40 = .ok (.iconst 1, 1) := by decide +kernel
theorem dX7_limitOf_41 : decode cX7_limitOf 41 = .ok (.iadd, 1) := by decide +kernel
theorem dX7_limitOf_42 : decode cX7_limitOf 42 = .ok (.invokevirtual 65, 3) := by decide +kernel
theorem dX7_limitOf_45 : decode cX7_limitOf 45 = .ok (.invokestatic 41, 3) := by decide +kernel
theorem dX7_limitOf_48 : decode cX7_limitOf 48 = .ok (.istore 5, 2) := by decide +kernel
theorem dX7_limitOf_50 : decode cX7_limitOf 50 = .ok (.aload_n 0, 1) := by decide +kernel
theorem dX7_limitOf_51 : decode cX7_limitOf 51 = .ok (.iload_n 1, 1) := by decide +kernel
theorem dX7_limitOf_52 : decode cX7_limitOf 52 = .ok (.bipush 13, 2) := by decide +kernel
theorem dX7_limitOf_54 : decode cX7_limitOf 54 = .ok (.iconst 3, 1) := by decide +kernel
