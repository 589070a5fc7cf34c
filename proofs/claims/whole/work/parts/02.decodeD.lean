theorem dX0_init_0 : decode cX0_init 0 = .ok (.aload_n 0, 1) := by decide +kernel
theorem dX0_init_1 : decode cX0_init 1 = .ok (.invokespecial 3, 3) := by decide +kernel
theorem dX0_init_4 : decode cX0_init 4 = .ok (.aload_n 0, 1) := by decide +kernel
theorem dX0_init_5 : decode cX0_init 5 = .ok (.iconst 4, 1) := by decide +kernel
theorem dX0_init_6 : decode cX0_init 6 = .ok (.newarray .int, 2) := by decide +kernel
theorem dX0_init_8 : decode cX0_init 8 = .ok (.putfield 9, 3) := by decide +kernel
theorem dX0_init_11 : decode cX0_init 11 = .ok (.aload_n 0, 1) := by decide +kernel
theorem dX0_init_12 : decode cX0_init 12 = .ok (.iconst 4, 1) := by decide +kernel
theorem dX0_init_13 : decode cX0_init 13 = .ok (.newarray .int, 2) := by decide +kernel
theorem dX0_init_15 : decode cX0_init 15 = .ok (.putfield 15, 3) := by decide +kernel
theorem dX0_init_18 : decode cX0_init 18 = .ok (.aload_n 0, 1) := by decide +kernel
theorem dX0_init_19 : decode cX0_init 19 = .ok (.iconst 4, 1) := by decide +kernel
theorem dX0_init_20 : decode cX0_init 20 = .ok (.newarray .int, 2) := by decide +kernel
theorem dX0_init_22 : decode cX0_init 22 = .ok (.putfield 18, 3) := by decide +kernel
theorem dX0_init_25 : decode cX0_init 25 = .ok (.aload_n 0, 1) := by decide +kernel
theorem dX0_init_26 : decode cX0_init 26 = .ok (.iconst 4, 1) := by decide +kernel
theorem dX0_init_27 : decode cX0_init 27 = .ok (.newarray .int, 2) := by decide +kernel
theorem dX0_init_29 : decode cX0_init 29 = .ok (.putfield 21, 3) := by decide +kernel
theorem dX0_init_32 : decode cX0_init 32 = .ok (.aload_n 0, 1) := by decide +kernel
theorem dX0_init_33 : decode cX0_init 33 = .ok (.iconst 4, 1) := by decide +kernel
theorem dX0_init_34 : decode cX0_init 34 = .ok (.newarray .int, 2) := by decide +kernel
theorem dX0_init_36 : decode cX0_init 36 = .ok (.putfield 24, 3) := by decide +kernel
theorem dX0_init_39 : decode cX0_init 39 = .ok (.aload_n 0, 1) := by decide +kernel
theorem dX0_init_40 : decode cX0_init 40 = .ok (.iconst 4, 1) := by decide +kernel
theorem dX0_init_41 : decode cX0_init 41 = .ok (.newarray .int, 2) := by decide +kernel
theorem dX0_init_43 : decode cX0_init 43 = .ok (.putfield 27, 3) := by decide +kernel
theorem dX0_init_46 : decode cX0_init 46 = .ok (.return_, 1) := by decide +kernel
theorem dX0_run_0 : decode cX0_run 0 = .ok (.iconst 0, 1) := by decide +kernel
theorem dX0_run_1 : decode cX0_run 1 = .ok (.istore_n 2, 1) := by decide +kernel
theorem dX0_run_2 : decode cX0_run 2 = .ok (.iload_n 2, 1) := by decide +kernel
theorem dX0_run_3 : decode cX0_run 3 = .ok (.aload_n 1, 1) := by decide +kernel
theorem dX0_run_4 : decode cX0_run 4 = .ok (.getfield 30, 3) := by decide +kernel
theorem dX0_run_7 : decode cX0_run 7 = .ok (.if_icmp .ge 17, 3) := by decide +kernel
theorem dX0_run_10 : decode cX0_run 10 = .ok (.aload_n 0, 1) := by decide +kernel
theorem dX0_run_11 : decode cX0_run 11 = .ok (.aload_n 1, 1) := by decide +kernel
theorem dX0_run_12 : decode cX0_run 12 = .ok (.iload_n 2, 1) := by decide +kernel
theorem dX0_run_13 : decode cX0_run 13 = .ok (.bipush 24, 2) := by decide +kernel
theorem dX0_run_15 : decode cX0_run 15 = .ok (.invokevirtual 36, 3) := by decide +kernel
theorem dX0_run_18 : decode cX0_run 18 = .ok (.iinc 2 1, 3) := by decide +kernel
theorem dX0_run_21 : decode cX0_run 21 = .ok (.goto (-19), 3) := by decide +kernel
theorem dX0_run_24 : decode cX0_run 24 = .ok (.return_, 1) := by decide +kernel
theorem dX0_sail_0 : decode cX0_sail 0 = .ok (.iconst 0, 1) := by decide +kernel
theorem dX0_sail_1 : decode cX0_sail 1 = .ok (.istore_n 2, 1) := by decide +kernel
theorem dX0_sail_2 : decode cX0_sail 2 = .ok (.iload_n 2, 1) := by decide +kernel
theorem dX0_sail_3 : decode cX0_sail 3 = .ok (.aload_n 1, 1) := by decide +kernel
theorem dX0_sail_4 : decode cX0_sail 4 = .ok (.getfield 30, 3) := by decide +kernel
theorem dX0_sail_7 : decode cX0_sail 7 = .ok (.if_icmp .ge 17, 3) := by decide +kernel
theorem dX0_sail_10 : decode cX0_sail 10 = .ok (.aload_n 0, 1) := by decide +kernel
theorem dX0_sail_11 : decode cX0_sail 11 = .ok (.aload_n 1, 1) := by decide +kernel
theorem dX0_sail_12 : decode cX0_sail 12 = .ok (.iload_n 2, 1) := by decide +kernel
theorem dX0_sail_13 : decode cX0_sail 13 = .ok (.bipush 24, 2) := by decide +kernel
theorem dX0_sail_15 : decode cX0_sail 15 = .ok (.invokevirtual 40, 3) := by decide +kernel
theorem dX0_sail_18 : decode cX0_sail 18 = .ok (.iinc 2 1, 3) := by decide +kernel
theorem dX0_sail_21 : decode cX0_sail 21 = .ok (.goto (-19), 3) := by decide +kernel
theorem dX0_sail_24 : decode cX0_sail 24 = .ok (.return_, 1) := by decide +kernel
theorem dX0_meet_0 : decode cX0_meet 0 = .ok (.iconst 0, 1) := by decide +kernel
theorem dX0_meet_1 : decode cX0_meet 1 = .ok (.istore_n 2, 1) := by decide +kernel
theorem dX0_meet_2 : decode cX0_meet 2 = .ok (.iload_n 2, 1) := by decide +kernel
theorem dX0_meet_3 : decode cX0_meet 3 = .ok (.aload_n 1, 1) := by decide +kernel
theorem dX0_meet_4 : decode cX0_meet 4 = .ok (.getfield 30, 3) := by decide +kernel
theorem dX0_meet_7 : decode cX0_meet 7 = .ok (.if_icmp .ge 17, 3) := by decide +kernel
theorem dX0_meet_10 : decode cX0_meet 10 = .ok (.aload_n 0, 1) := by decide +kernel
theorem dX0_meet_11 : decode cX0_meet 11 = .ok (.aload_n 1, 1) := by decide +kernel
theorem dX0_meet_12 : decode cX0_meet 12 = .ok (.iload_n 2, 1) := by decide +kernel
theorem dX0_meet_13 : decode cX0_meet 13 = .ok (.bipush 24, 2) := by decide +kernel
theorem dX0_meet_15 : decode cX0_meet 15 = .ok (.invokevirtual 43, 3) := by decide +kernel
theorem dX0_meet_18 : decode cX0_meet 18 = .ok (.iinc 2 1, 3) := by decide +kernel
theorem dX0_meet_21 : decode cX0_meet 21 = .ok (.goto (-19), 3) := by decide +kernel
theorem dX0_meet_24 : decode cX0_meet 24 = .ok (.return_, 1) := by decide +kernel
theorem dX0_runTub_0 : decode cX0_runTub 0 = .ok (.aload_n 0, 1) := by decide +kernel
theorem dX0_runTub_1 : decode cX0_runTub 1 = .ok (.aload_n 1, 1) := by decide +kernel
theorem dX0_runTub_2 : decode cX0_runTub 2 = .ok (.iload_n 2, 1) := by decide +kernel
theorem dX0_runTub_3 : decode cX0_runTub 3 = .ok (.iload_n 3, 1) := by decide +kernel
theorem dX0_runTub_4 : decode cX0_runTub 4 = .ok (.invokevirtual 40, 3) := by decide +kernel
theorem dX0_runTub_7 : decode cX0_runTub 7 = .ok (.aload_n 0, 1) := by decide +kernel
theorem dX0_runTub_8 : decode cX0_runTub 8 = .ok (.aload_n 1, 1) := by decide +kernel
theorem dX0_runTub_9 : decode cX0_runTub 9 = .ok (.iload_n 2, 1) := by decide +kernel
theorem dX0_runTub_10 : decode cX0_runTub 10 = .ok (.iload_n 3, 1) := by decide +kernel
theorem dX0_runTub_11 : decode cX0_runTub 11 = .ok (.invokevirtual 43, 3) := by decide +kernel
theorem dX0_runTub_14 : decode cX0_runTub 14 = .ok (.return_, 1) := by decide +kernel
theorem dX0_sailTub_0 : decode cX0_sailTub 0 = .ok (.aload_n 0, 1) := by decide +kernel
theorem dX0_sailTub_1 : decode cX0_sailTub 1 = .ok (.getfield 9, 3) := by decide +kernel
theorem dX0_sailTub_4 : decode cX0_sailTub 4 = .ok (.iload_n 2, 1) := by decide +kernel
theorem dX0_sailTub_5 : decode cX0_sailTub 5 = .ok (.aload_n 1, 1) := by decide +kernel
theorem dX0_sailTub_6 : decode cX0_sailTub 6 = .ok (.iload_n 2, 1) := by decide +kernel
theorem dX0_sailTub_7 : decode cX0_sailTub 7 = .ok (.iconst 1, 1) := by decide +kernel
theorem dX0_sailTub_8 : decode cX0_sailTub 8 = .ok (.invokevirtual 46, 3) := by decide +kernel
theorem dX0_sailTub_11 : decode cX0_sailTub 11 = .ok (.iastore, 1) := by decide +kernel
theorem dX0_sailTub_12 : decode cX0_sailTub 12 = .ok (.aload_n 0, 1) := by decide +kernel
theorem dX0_sailTub_13 : decode cX0_sailTub 13 = .ok (.getfield 15, 3) := by decide +kernel
theorem dX0_sailTub_16 : decode cX0_sailTub 16 = .ok (.iload_n 2, 1) := by decide +kernel
theorem dX0_sailTub_17 : decode cX0_sailTub 17 = .ok (.aload_n 1, 1) := by decide +kernel
theorem dX0_sailTub_18 : decode cX0_sailTub 18 = .ok (.iload_n 2, 1) := by decide +kernel
theorem dX0_sailTub_19 : decode cX0_sailTub 19 = .ok (.iconst 2, 1) := by decide +kernel
theorem dX0_sailTub_20 : decode cX0_sailTub 20 = .ok (.invokevirtual 46, 3) := by decide +kernel
theorem dX0_sailTub_23 : decode cX0_sailTub 23 = .ok (.iastore, 1) := by decide +kernel
theorem dX0_sailTub_24 : decode cX0_sailTub 24 = .ok (.aload_n 0, 1) := by decide +kernel
theorem dX0_sailTub_25 : decode cX0_sailTub 25 = .ok (.getfield 18, 3) := by decide +kernel
theorem dX0_sailTub_28 : decode cX0_sailTub 28 = .ok (.iload_n 2, 1) := by decide +kernel
theorem dX0_sailTub_29 : decode cX0_sailTub 29 = .ok (.iconst 0, 1) := by decide +kernel
theorem dX0_sailTub_30 : decode cX0_sailTub 30 = .ok (.iastore, 1) := by decide +kernel
theorem dX0_sailTub_31 : decode cX0_sailTub 31 = .ok (.aload_n 0, 1) := by decide +kernel
theorem dX0_sailTub_32 : decode cX0_sailTub 32 = .ok (.getfield 21, 3) := by decide +kernel
theorem dX0_sailTub_35 : decode cX0_sailTub 35 = .ok (.iload_n 2, 1) := by decide +kernel
theorem dX0_sailTub_36 : decode cX0_sailTub 36 = .ok (.bipush (-4), 2) := by decide +kernel
theorem dX0_sailTub_38 : decode cX0_sailTub 38 = .ok (.iastore, 1) := by decide +kernel
theorem dX0_sailTub_39 : decode cX0_sailTub 39 = .ok (.aload_n 1, 1) := by decide +kernel
theorem dX0_sailTub_40 : decode cX0_sailTub 40 = .ok (.iload_n 2, 1) := by decide +kernel
theorem dX0_sailTub_41 : decode cX0_sailTub 41 = .ok (.iconst 3, 1) := by decide +kernel
theorem dX0_sailTub_42 : decode cX0_sailTub 42 = .ok (.invokevirtual 46, 3) := by decide +kernel
theorem dX0_sailTub_45 : decode cX0_sailTub 45 = .ok (.istore 4, 2) := by decide +kernel
theorem dX0_sailTub_47 : decode cX0_sailTub 47 = .ok (.iload 4, 2) := by decide +kernel
theorem dX0_sailTub_49 : decode cX0_sailTub 49 = .ok (.iload_n 3, 1) := by decide +kernel
theorem dX0_sailTub_50 : decode cX0_sailTub 50 = .ok (.if_icmp .ge 26, 3) := by decide +kernel
theorem dX0_sailTub_53 : decode cX0_sailTub 53 = .ok (.aload_n 0, 1) := by decide +kernel
theorem dX0_sailTub_54 : decode cX0_sailTub 54 = .ok (.getfield 18, 3) := by decide +kernel
theorem dX0_sailTub_57 : decode cX0_sailTub 57 = .ok (.iload_n 2, 1) := by decide +kernel
theorem dX0_sailTub_58 : decode cX0_sailTub 58 = .ok (.iaload, 1) := by decide +kernel
theorem dX0_sailTub_59 : decode cX0_sailTub 59 = .ok (.ifCond .ne 17, 3) := by decide +kernel
theorem dX0_sailTub_62 : decode cX0_sailTub 62 = .ok (.aload_n 0, 1) := by decide +kernel
theorem dX0_sailTub_63 : decode cX0_sailTub 63 = .ok (.aload_n 1, 1) := by decide +kernel
theorem dX0_sailTub_64 : decode cX0_sailTub 64 = .ok (.iload_n 2, 1) := by decide +kernel
theorem dX0_sailTub_65 : decode cX0_sailTub 65 = .ok (.iload 4, 2) := by decide +kernel
theorem dX0_sailTub_67 : decode cX0_sailTub 67 = .ok (.invokevirtual 50, 3) := by decide +kernel
theorem dX0_sailTub_70 : decode cX0_sailTub 70 = .ok (.iinc 4 1, 3) := by decide +kernel
theorem dX0_sailTub_73 : decode cX0_sailTub 73 = .ok (.goto (-26), 3) := by decide +kernel
theorem dX0_sailTub_76 : decode cX0_sailTub 76 = .ok (.return_, 1) := by decide +kernel
theorem dX0_sailHour_0 : decode cX0_sailHour 0 = .ok (.aload_n 1, 1) := by decide +kernel
theorem dX0_sailHour_1 : decode cX0_sailHour 1 = .ok (.getfield 53, 3) := by decide +kernel
theorem dX0_sailHour_4 : decode cX0_sailHour 4 = .ok (.iload_n 3, 1) := by decide +kernel
theorem dX0_sailHour_5 : decode cX0_sailHour 5 = .ok (.iaload, 1) := by decide +kernel
theorem dX0_sailHour_6 : decode cX0_sailHour 6 = .ok (.istore 4, 2) := by decide +kernel
theorem dX0_sailHour_8 : decode cX0_sailHour 8 = .ok (.getstatic 56, 3) := by decide +kernel
theorem dX0_sailHour_11 : decode cX0_sailHour 11 = .ok (.aload_n 1, 1) := by decide +kernel
theorem dX0_sailHour_12 : decode cX0_sailHour 12 = .ok (.iload_n 2, 1) := by decide +kernel
theorem dX0_sailHour_13 : decode cX0_sailHour 13 = .ok (.iconst 0, 1) := by decide +kernel
theorem dX0_sailHour_14 : decode cX0_sailHour 14 = .ok (.invokevirtual 46, 3) := by decide +kernel
theorem dX0_sailHour_17 : decode cX0_sailHour 17 = .ok (.iaload, 1) := by decide +kernel
theorem dX0_sailHour_18 : decode cX0_sailHour 18 = .ok (.istore 5, 2) := by decide +kernel
theorem dX0_sailHour_20 : decode cX0_sailHour 20 = .ok (.aload_n 0, 1) := by decide +kernel
theorem dX0_sailHour_21 : decode cX0_sailHour 21 = .ok (.getfield 9, 3) := by decide +kernel
theorem dX0_sailHour_24 : decode cX0_sailHour 24 = .ok (.iload_n 2, 1) := by decide +kernel
theorem dX0_sailHour_25 : decode cX0_sailHour 25 = .ok (.iaload, 1) := by decide +kernel
theorem dX0_sailHour_26 : decode cX0_sailHour 26 = .ok (.aload_n 1, 1) := by decide +kernel
theorem dX0_sailHour_27 : decode cX0_sailHour 27 = .ok (.getfield 59, 3) := by decide +kernel
theorem dX0_sailHour_30 : decode cX0_sailHour 30 = .ok (.aload_n 0, 1) := by decide +kernel
theorem dX0_sailHour_31 : decode cX0_sailHour 31 = .ok (.getfield 15, 3) := by decide +kernel
theorem dX0_sailHour_34 : decode cX0_sailHour 34 = .ok (.iload_n 2, 1) := by decide +kernel
theorem dX0_sailHour_35 : decode cX0_sailHour 35 = .ok (.iaload, 1) := by decide +kernel
theorem dX0_sailHour_36 : decode cX0_sailHour 36 = .ok (.iaload, 1) := by decide +kernel
theorem dX0_sailHour_37 : decode cX0_sailHour 37 = .ok (.iadd, 1) := by decide +kernel
theorem dX0_sailHour_38 : decode cX0_sailHour 38 = .ok (.iconst 2, 1) := by decide +kernel
theorem dX0_sailHour_39 : decode cX0_sailHour 39 = .ok (.isub, 1) := by decide +kernel
theorem dX0_sailHour_40 : decode cX0_sailHour 40 = .ok (.getstatic 62, 3) := by decide +kernel
theorem dX0_sailHour_43 : decode cX0_sailHour 43 = .ok (.iload 4, 2) := by decide +kernel
theorem dX0_sailHour_45 : decode cX0_sailHour 45 = .ok (.iaload, 1) := by decide +kernel
theorem dX0_sailHour_46 : decode cX0_sailHour 46 = .ok (.iload 5, 2) := by decide +kernel
theorem dX0_sailHour_48 : decode cX0_sailHour 48 = .ok (.imul, 1) := by decide +kernel
theorem dX0_sailHour_49 : decode cX0_sailHour 49 = .ok (.iadd, 1) := by decide +kernel
theorem dX0_sailHour_50 : decode cX0_sailHour 50 = .ok (.istore 6, 2) := by decide +kernel
theorem dX0_sailHour_52 : decode cX0_sailHour 52 = .ok (.aload_n 0, 1) := by decide +kernel
theorem dX0_sailHour_53 : decode cX0_sailHour 53 = .ok (.getfield 15, 3) := by decide +kernel
theorem dX0_sailHour_56 : decode cX0_sailHour 56 = .ok (.iload_n 2, 1) := by decide +kernel
theorem dX0_sailHour_57 : decode cX0_sailHour 57 = .ok (.iaload, 1) := by decide +kernel
theorem dX0_sailHour_58 : decode cX0_sailHour 58 = .ok (.aload_n 1, 1) := by decide +kernel
theorem dX0_sailHour_59 : decode cX0_sailHour 59 = .ok (.iload_n 3, 1) := by decide +kernel
theorem dX0_sailHour_60 : decode cX0_sailHour 60 = .ok (.invokevirtual 65, 3) := by decide +kernel
theorem dX0_sailHour_63 : decode cX0_sailHour 63 = .ok (.iadd, 1) := by decide +kernel
theorem dX0_sailHour_64 : decode cX0_sailHour 64 = .ok (.getstatic 69, 3) := by decide +kernel
theorem dX0_sailHour_67 : decode cX0_sailHour 67 = .ok (.iload 4, 2) := by decide +kernel
theorem dX0_sailHour_69 : decode cX0_sailHour 69 = .ok (.iaload, 1) := by decide +kernel
theorem dX0_sailHour_70 : decode cX0_sailHour 70 = .ok (.iload 5, 2) := by decide +kernel
theorem dX0_sailHour_72 : decode cX0_sailHour 72 = .ok (.imul, 1) := by decide +kernel
theorem dX0_sailHour_73 : decode cX0_sailHour 73 = .ok (.iadd, 1) := by decide +kernel
theorem dX0_sailHour_74 : decode cX0_sailHour 74 = .ok (.istore 7, 2) := by decide +kernel
theorem dX0_sailHour_76 : decode cX0_sailHour 76 = .ok (.iload 7, 2) := by decide +kernel
theorem dX0_sailHour_78 : decode cX0_sailHour 78 = .ok (.ifCond .gt 32, 3) := by decide +kernel
theorem dX0_sailHour_81 : decode cX0_sailHour 81 = .ok (.aload_n 0, 1) := by decide +kernel
theorem dX0_sailHour_82 : decode cX0_sailHour 82 = .ok (.getfield 18, 3) := by decide +kernel
theorem dX0_sailHour_85 : decode cX0_sailHour 85 = .ok (.iload_n 2, 1) := by decide +kernel
theorem dX0_sailHour_86 : decode cX0_sailHour 86 = .ok (.iconst 2, 1) := by decide +kernel
theorem dX0_sailHour_87 : decode cX0_sailHour 87 = .ok (.iastore, 1) := by decide +kernel
theorem dX0_sailHour_88 : decode cX0_sailHour 88 = .ok (.iconst 0, 1) := by decide +kernel
theorem dX0_sailHour_89 : decode cX0_sailHour 89 = .ok (.getstatic 72, 3) := by decide +kernel
theorem dX0_sailHour_92 : decode cX0_sailHour 92 = .ok (.iconst 1, 1) := by decide +kernel
theorem dX0_sailHour_93 : decode cX0_sailHour 93 = .ok (.iaload, 1) := by decide +kernel
theorem dX0_sailHour_94 : decode cX0_sailHour 94 = .ok (.iload 6, 2) := by decide +kernel
theorem dX0_sailHour_96 : decode cX0_sailHour 96 = .ok (.invokestatic 75, 3) := by decide +kernel
theorem dX0_sailHour_99 : decode cX0_sailHour 99 = .ok (.invokestatic 80, 3) := by decide +kernel
theorem dX0_sailHour_102 : decode cX0_sailHour 102 = .ok (.istore 6, 2) := by decide +kernel
theorem dX0_sailHour_104 : decode cX0_sailHour 104 = .ok (.iconst 0, 1) := by decide +kernel
theorem dX0_sailHour_105 : decode cX0_sailHour 105 = .ok (.istore 7, 2) := by decide +kernel
theorem dX0_sailHour_107 : decode cX0_sailHour 107 = .ok (.goto 35, 3) := by decide +kernel
theorem dX0_sailHour_110 : decode cX0_sailHour 110 = .ok (.iload 7, 2) := by decide +kernel
theorem dX0_sailHour_112 : decode cX0_sailHour 112 = .ok (.getstatic 72, 3) := by decide +kernel
theorem dX0_sailHour_115 : decode cX0_sailHour 115 = .ok (.iconst 2, 1) := by decide +kernel
theorem dX0_sailHour_116 : decode cX0_sailHour 116 = .ok (.iaload, 1) := by decide +kernel
theorem dX0_sailHour_117 : decode cX0_sailHour 117 = .ok (.if_icmp .gt 18, 3) := by decide +kernel
theorem dX0_sailHour_120 : decode cX0_sailHour 120 = .ok (.iload 6, 2) := by decide +kernel
theorem dX0_sailHour_122 : decode cX0_sailHour 122 = .ok (.ifCond .lt 13, 3) := by decide +kernel
theorem dX0_sailHour_125 : decode cX0_sailHour 125 = .ok (.iload 6, 2) := by decide +kernel
theorem dX0_sailHour_127 : decode cX0_sailHour 127 = .ok (.getstatic 72, 3) := by decide +kernel
theorem dX0_sailHour_130 : decode cX0_sailHour 130 = .ok (.iconst 1, 1) := by decide +kernel
theorem dX0_sailHour_131 : decode cX0_sailHour 131 = .ok (.iaload, 1) := by decide +kernel
theorem dX0_sailHour_132 : decode cX0_sailHour 132 = .ok (.if_icmp .le 10, 3) := by decide +kernel
theorem dX0_sailHour_135 : decode cX0_sailHour 135 = .ok (.aload_n 0, 1) := by decide +kernel
theorem dX0_sailHour_136 : decode cX0_sailHour 136 = .ok (.getfield 18, 3) := by decide +kernel
theorem dX0_sailHour_139 : decode cX0_sailHour 139 = .ok (.iload_n 2, 1) := by decide +kernel
theorem dX0_sailHour_140 : decode cX0_sailHour 140 = .ok (.iconst 3, 1) := by decide +kernel
theorem dX0_sailHour_141 : decode cX0_sailHour 141 = .ok (.iastore, 1) := by decide +kernel
theorem dX0_sailHour_142 : decode cX0_sailHour 142 = .ok (.aload_n 0, 1) := by decide +kernel
theorem dX0_sailHour_143 : decode cX0_sailHour 143 = .ok (.getfield 18, 3) := by decide +kernel
theorem dX0_sailHour_146 : decode cX0_sailHour 146 = .ok (.iload_n 2, 1) := by decide +kernel
theorem dX0_sailHour_147 : decode cX0_sailHour 147 = .ok (.iaload, 1) := by decide +kernel
theorem dX0_sailHour_148 : decode cX0_sailHour 148 = .ok (.ifCond .eq 10, 3) := by decide +kernel
theorem dX0_sailHour_151 : decode cX0_sailHour 151 = .ok (.aload_n 0, 1) := by decide +kernel
theorem dX0_sailHour_152 : decode cX0_sailHour 152 = .ok (.getfield 21, 3) := by decide +kernel
theorem dX0_sailHour_155 : decode cX0_sailHour 155 = .ok (.iload_n 2, 1) := by decide +kernel
theorem dX0_sailHour_156 : decode cX0_sailHour 156 = .ok (.iload_n 3, 1) := by decide +kernel
theorem dX0_sailHour_157 : decode cX0_sailHour 157 = .ok (.iastore, 1) := by decide +kernel
theorem dX0_sailHour_158 : decode cX0_sailHour 158 = .ok (.aload_n 0, 1) := by decide +kernel
theorem dX0_sailHour_159 : decode cX0_sailHour 159 = .ok (.getfield 9, 3) := by decide +kernel
theorem dX0_sailHour_162 : decode cX0_sailHour 162 = .ok (.iload_n 2, 1) := by decide +kernel
theorem dX0_sailHour_163 : decode cX0_sailHour 163 = .ok (.iload 6, 2) := by decide +kernel
theorem dX0_sailHour_165 : decode cX0_sailHour 165 = .ok (.iastore, 1) := by decide +kernel
theorem dX0_sailHour_166 : decode cX0_sailHour 166 = .ok (.aload_n 0, 1) := by decide +kernel
theorem dX0_sailHour_167 : decode cX0_sailHour 167 = .ok (.getfield 15, 3) := by decide +kernel
theorem dX0_sailHour_170 : decode cX0_sailHour 170 = .ok (.iload_n 2, 1) := by decide +kernel
theorem dX0_sailHour_171 : decode cX0_sailHour 171 = .ok (.iload 7, 2) := by decide +kernel
theorem dX0_sailHour_173 : decode cX0_sailHour 173 = .ok (.iastore, 1) := by decide +kernel
theorem dX0_sailHour_174 : decode cX0_sailHour 174 = .ok (.return_, 1) := by decide +kernel
theorem dX0_meetTub_0 : decode cX0_meetTub 0 = .ok (.aload_n 0, 1) := by decide +kernel
theorem dX0_meetTub_1 : decode cX0_meetTub 1 = .ok (.getfield 24, 3) := by decide +kernel
theorem dX0_meetTub_4 : decode cX0_meetTub 4 = .ok (.iload_n 2, 1) := by decide +kernel
theorem dX0_meetTub_5 : decode cX0_meetTub 5 = .ok (.bipush (-4), 2) := by decide +kernel
theorem dX0_meetTub_7 : decode cX0_meetTub 7 = .ok (.iastore, 1) := by decide +kernel
theorem dX0_meetTub_8 : decode cX0_meetTub 8 = .ok (.aload_n 0, 1) := by decide +kernel
theorem dX0_meetTub_9 : decode cX0_meetTub 9 = .ok (.getfield 27, 3) := by decide +kernel
theorem dX0_meetTub_12 : decode cX0_meetTub 12 = .ok (.iload_n 2, 1) := by decide +kernel
theorem dX0_meetTub_13 : decode cX0_meetTub 13 = .ok (.bipush (-4), 2) := by decide +kernel
theorem dX0_meetTub_15 : decode cX0_meetTub 15 = .ok (.iastore, 1) := by decide +kernel
theorem dX0_meetTub_16 : decode cX0_meetTub 16 = .ok (.aload_n 0, 1) := by decide +kernel
theorem dX0_meetTub_17 : decode cX0_meetTub 17 = .ok (.getfield 18, 3) := by decide +kernel
theorem dX0_meetTub_20 : decode cX0_meetTub 20 = .ok (.iload_n 2, 1) := by decide +kernel
theorem dX0_meetTub_21 : decode cX0_meetTub 21 = .ok (.iaload, 1) := by decide +kernel
theorem dX0_meetTub_22 : decode cX0_meetTub 22 = .ok (.iconst 2, 1) := by decide +kernel
theorem dX0_meetTub_23 : decode cX0_meetTub 23 = .ok (.if_icmp .eq 4, 3) := by decide +kernel
theorem dX0_meetTub_26 : decode cX0_meetTub 26 = .ok (.return_, 1) := by decide +kernel
theorem dX0_meetTub_27 : decode cX0_meetTub 27 = .ok (.iconst 0, 1) := by decide +kernel
theorem dX0_meetTub_28 : decode cX0_meetTub 28 = .ok (.istore 4, 2) := by decide +kernel
theorem dX0_meetTub_30 : decode cX0_meetTub 30 = .ok (.iconst 0, 1) := by decide +kernel
theorem dX0_meetTub_31 : decode cX0_meetTub 31 = .ok (.istore 5, 2) := by decide +kernel
theorem dX0_meetTub_33 : decode cX0_meetTub 33 = .ok (.iload 5, 2) := by decide +kernel
theorem dX0_meetTub_35 : decode cX0_meetTub 35 = .ok (.aload_n 1, 1) := by decide +kernel
theorem dX0_meetTub_36 : decode cX0_meetTub 36 = .ok (.getfield 83, 3) := by decide +kernel
theorem dX0_meetTub_39 : decode cX0_meetTub 39 = .ok (.if_icmp .ge 154, 3) := by decide +kernel
theorem dX0_meetTub_42 : decode cX0_meetTub 42 = .ok (.aload_n 0, 1) := by decide +kernel
theorem dX0_meetTub_43 : decode cX0_meetTub 43 = .ok (.getfield 9, 3) := by decide +kernel
theorem dX0_meetTub_46 : decode cX0_meetTub 46 = .ok (.iload_n 2, 1) := by decide +kernel
theorem dX0_meetTub_47 : decode cX0_meetTub 47 = .ok (.iaload, 1) := by decide +kernel
theorem dX0_meetTub_48 : decode cX0_meetTub 48 = .ok (.aload_n 1, 1) := by decide +kernel
theorem dX0_meetTub_49 : decode cX0_meetTub 49 = .ok (.iload 5, 2) := by decide +kernel
theorem dX0_meetTub_51 : decode cX0_meetTub 51 = .ok (.iconst 0, 1) := by decide +kernel
theorem dX0_meetTub_52 : decode cX0_meetTub 52 = .ok (.invokevirtual 86, 3) := by decide +kernel
theorem dX0_meetTub_55 : decode cX0_meetTub 55 = .ok (.isub, 1) := by decide +kernel
theorem dX0_meetTub_56 : decode cX0_meetTub 56 = .ok (.invokestatic 89, 3) := by decide +kernel
theorem dX0_meetTub_59 : decode cX0_meetTub 59 = .ok (.istore 6, 2) := by decide +kernel
theorem dX0_meetTub_61 : decode cX0_meetTub 61 = .ok (.aload_n 0, 1) := by decide +kernel
theorem dX0_meetTub_62 : decode cX0_meetTub 62 = .ok (.getfield 21, 3) := by decide +kernel
theorem dX0_meetTub_65 : decode cX0_meetTub 65 = .ok (.iload_n 2, 1) := by decide +kernel
theorem dX0_meetTub_66 : decode cX0_meetTub 66 = .ok (.iaload, 1) := by decide +kernel
theorem dX0_meetTub_67 : decode cX0_meetTub 67 = .ok (.aload_n 1, 1) := by decide +kernel
theorem dX0_meetTub_68 : decode cX0_meetTub 68 = .ok (.iload 5, 2) := by decide +kernel
theorem dX0_meetTub_70 : decode cX0_meetTub 70 = .ok (.iconst 1, 1) := by decide +kernel
theorem dX0_meetTub_71 : decode cX0_meetTub 71 = .ok (.invokevirtual 86, 3) := by decide +kernel
theorem dX0_meetTub_74 : decode cX0_meetTub 74 = .ok (.invokestatic 80, 3) := by decide +kernel
theorem dX0_meetTub_77 : decode cX0_meetTub 77 = .ok (.istore 7, 2) := by decide +kernel
theorem dX0_meetTub_79 : decode cX0_meetTub 79 = .ok (.iload 6, 2) := by decide +kernel
theorem dX0_meetTub_81 : decode cX0_meetTub 81 = .ok (.aload_n 1, 1) := by decide +kernel
theorem dX0_meetTub_82 : decode cX0_meetTub 82 = .ok (.iload 5, 2) := by decide +kernel
theorem dX0_meetTub_84 : decode cX0_meetTub 84 = .ok (.iconst 3, 1) := by decide +kernel
theorem dX0_meetTub_85 : decode cX0_meetTub 85 = .ok (.invokevirtual 86, 3) := by decide +kernel
theorem dX0_meetTub_88 : decode cX0_meetTub 88 = .ok (.if_icmp .gt 99, 3) := by decide +kernel
theorem dX0_meetTub_91 : decode cX0_meetTub 91 = .ok (.iload 7, 2) := by decide +kernel
theorem dX0_meetTub_93 : decode cX0_meetTub 93 = .ok (.aload_n 1, 1) := by decide +kernel
theorem dX0_meetTub_94 : decode cX0_meetTub 94 = .ok (.iload 5, 2) := by decide +kernel
theorem dX0_meetTub_96 : decode cX0_meetTub 96 = .ok (.iconst 2, 1) := by decide +kernel
theorem dX0_meetTub_97 : decode cX0_meetTub 97 = .ok (.invokevirtual 86, 3) := by decide +kernel
theorem dX0_meetTub_100 : decode cX0_meetTub 100 = .ok (.if_icmp .gt 87, 3) := by decide +kernel
theorem dX0_meetTub_103 : decode cX0_meetTub 103 = .ok (.iload 7, 2) := by decide +kernel
theorem dX0_meetTub_105 : decode cX0_meetTub 105 = .ok (.iload_n 3, 1) := by decide +kernel
theorem dX0_meetTub_106 : decode cX0_meetTub 106 = .ok (.if_icmp .lt 6, 3) := by decide +kernel
theorem dX0_meetTub_109 : decode cX0_meetTub 109 = .ok (.goto 78, 3) := by decide +kernel
theorem dX0_meetTub_112 : decode cX0_meetTub 112 = .ok (.aload_n 0, 1) := by decide +kernel
theorem dX0_meetTub_113 : decode cX0_meetTub 113 = .ok (.getfield 24, 3) := by decide +kernel
theorem dX0_meetTub_116 : decode cX0_meetTub 116 = .ok (.iload_n 2, 1) := by decide +kernel
theorem dX0_meetTub_117 : decode cX0_meetTub 117 = .ok (.iaload, 1) := by decide +kernel
theorem dX0_meetTub_118 : decode cX0_meetTub 118 = .ok (.bipush (-4), 2) := by decide +kernel
theorem dX0_meetTub_120 : decode cX0_meetTub 120 = .ok (.if_icmp .eq 14, 3) := by decide +kernel
theorem dX0_meetTub_123 : decode cX0_meetTub 123 = .ok (.iload 7, 2) := by decide +kernel
theorem dX0_meetTub_125 : decode cX0_meetTub 125 = .ok (.aload_n 0, 1) := by decide +kernel
theorem dX0_meetTub_126 : decode cX0_meetTub 126 = .ok (.getfield 27, 3) := by decide +kernel
theorem dX0_meetTub_129 : decode cX0_meetTub 129 = .ok (.iload_n 2, 1) := by decide +kernel
theorem dX0_meetTub_130 : decode cX0_meetTub 130 = .ok (.iaload, 1) := by decide +kernel
theorem dX0_meetTub_131 : decode cX0_meetTub 131 = .ok (.if_icmp .ge 7, 3) := by decide +kernel
theorem dX0_meetTub_134 : decode cX0_meetTub 134 = .ok (.iconst 1, 1) := by decide +kernel
theorem dX0_meetTub_135 : decode cX0_meetTub 135 = .ok (.goto 4, 3) := by decide +kernel
theorem dX0_meetTub_138 : decode cX0_meetTub 138 = .ok (.iconst 0, 1) := by decide +kernel
theorem dX0_meetTub_139 : decode cX0_meetTub 139 = .ok (.istore 8, 2) := by decide +kernel
theorem dX0_meetTub_141 : decode cX0_meetTub 141 = .ok (.iload 8, 2) := by decide +kernel
theorem dX0_meetTub_143 : decode cX0_meetTub 143 = .ok (.ifCond .ne 24, 3) := by decide +kernel
theorem dX0_meetTub_146 : decode cX0_meetTub 146 = .ok (.iload 7, 2) := by decide +kernel
theorem dX0_meetTub_148 : decode cX0_meetTub 148 = .ok (.aload_n 0, 1) := by decide +kernel
theorem dX0_meetTub_149 : decode cX0_meetTub 149 = .ok (.getfield 27, 3) := by decide +kernel
theorem dX0_meetTub_152 : decode cX0_meetTub 152 = .ok (.iload_n 2, 1) := by decide +kernel
theorem dX0_meetTub_153 : decode cX0_meetTub 153 = .ok (.iaload, 1) := by decide +kernel
theorem dX0_meetTub_154 : decode cX0_meetTub 154 = .ok (.if_icmp .gt 33, 3) := by decide +kernel
theorem dX0_meetTub_157 : decode cX0_meetTub 157 = .ok (.iload 6, 2) := by decide +kernel
theorem dX0_meetTub_159 : decode cX0_meetTub 159 = .ok (.iload 4, 2) := by decide +kernel
theorem dX0_meetTub_161 : decode cX0_meetTub 161 = .ok (.if_icmp .lt 6, 3) := by decide +kernel
theorem dX0_meetTub_164 : decode cX0_meetTub 164 = .ok (.goto 23, 3) := by decide +kernel
theorem dX0_meetTub_167 : decode cX0_meetTub 167 = .ok (.aload_n 0, 1) := by decide +kernel
theorem dX0_meetTub_168 : decode cX0_meetTub 168 = .ok (.getfield 24, 3) := by decide +kernel
theorem dX0_meetTub_171 : decode cX0_meetTub 171 = .ok (.iload_n 2, 1) := by decide +kernel
theorem dX0_meetTub_172 : decode cX0_meetTub 172 = .ok (.iload 5, 2) := by decide +kernel
theorem dX0_meetTub_174 : decode cX0_meetTub 174 = .ok (.iastore, 1) := by decide +kernel
theorem dX0_meetTub_175 : decode cX0_meetTub 175 = .ok (.aload_n 0, 1) := by decide +kernel
theorem dX0_meetTub_176 : decode cX0_meetTub 176 = .ok (.getfield 27, 3) := by decide +kernel
theorem dX0_meetTub_179 : decode cX0_meetTub 179 = .ok (.iload_n 2, 1) := by decide +kernel
theorem dX0_meetTub_180 : decode cX0_meetTub 180 = .ok (.iload 7, 2) := by decide +kernel
theorem dX0_meetTub_182 : decode cX0_meetTub 182 = .ok (.iastore, 1) := by decide +kernel
theorem dX0_meetTub_183 : decode cX0_meetTub 183 = .ok (.iload 6, 2) := by decide +kernel
theorem dX0_meetTub_185 : decode cX0_meetTub 185 = .ok (.istore 4, 2) := by decide +kernel
theorem dX0_meetTub_187 : decode cX0_meetTub 187 = .ok (.iinc 5 1, 3) := by decide +kernel
theorem dX0_meetTub_190 : decode cX0_meetTub 190 = .ok (.goto (-157), 3) := by decide +kernel
theorem dX0_meetTub_193 : decode cX0_meetTub 193 = .ok (.return_, 1) := by decide +kernel
theorem dX0_gives_0 : decode cX0_gives 0 = .ok (.aload_n 0, 1) := by decide +kernel
theorem dX0_gives_1 : decode cX0_gives 1 = .ok (.aload_n 1, 1) := by decide +kernel
theorem dX0_gives_2 : decode cX0_gives 2 = .ok (.iload_n 2, 1) := by decide +kernel
theorem dX0_gives_3 : decode cX0_gives 3 = .ok (.bipush 24, 2) := by decide +kernel
theorem dX0_gives_5 : decode cX0_gives 5 = .ok (.invokevirtual 36, 3) := by decide +kernel
theorem dX0_gives_8 : decode cX0_gives 8 = .ok (.aload_n 0, 1) := by decide +kernel
theorem dX0_gives_9 : decode cX0_gives 9 = .ok (.getfield 24, 3) := by decide +kernel
theorem dX0_gives_12 : decode cX0_gives 12 = .ok (.iload_n 2, 1) := by decide +kernel
theorem dX0_gives_13 : decode cX0_gives 13 = .ok (.iaload, 1) := by decide +kernel
theorem dX0_gives_14 : decode cX0_gives 14 = .ok (.iload_n 3, 1) := by decide +kernel
theorem dX0_gives_15 : decode cX0_gives 15 = .ok (.if_icmp .ne 7, 3) := by decide +kernel
theorem dX0_gives_18 : decode cX0_gives 18 = .ok (.iconst 1, 1) := by decide +kernel
theorem dX0_gives_19 : decode cX0_gives 19 = .ok (.goto 4, 3) := by decide +kernel
theorem dX0_gives_22 : decode cX0_gives 22 = .ok (.iconst 0, 1) := by decide +kernel
theorem dX0_gives_23 : decode cX0_gives 23 = .ok (.ireturn, 1) := by decide +kernel
theorem dX0_wayOf_0 : decode cX0_wayOf 0 = .ok (.aload_n 0, 1) := by decide +kernel
theorem dX0_wayOf_1 : decode cX0_wayOf 1 = .ok (.getfield 24, 3) := by decide +kernel
theorem dX0_wayOf_4 : decode cX0_wayOf 4 = .ok (.iload_n 1, 1) := by decide +kernel
theorem dX0_wayOf_5 : decode cX0_wayOf 5 = .ok (.iaload, 1) := by decide +kernel
theorem dX0_wayOf_6 : decode cX0_wayOf 6 = .ok (.bipush (-4), 2) := by decide +kernel
theorem dX0_wayOf_8 : decode cX0_wayOf 8 = .ok (.if_icmp .ne 12, 3) := by decide +kernel
theorem dX0_wayOf_11 : decode cX0_wayOf 11 = .ok (.aload_n 0, 1) := by decide +kernel
theorem dX0_wayOf_12 : decode cX0_wayOf 12 = .ok (.getfield 18, 3) := by decide +kernel
theorem dX0_wayOf_15 : decode cX0_wayOf 15 = .ok (.iload_n 1, 1) := by decide +kernel
theorem dX0_wayOf_16 : decode cX0_wayOf 16 = .ok (.iaload, 1) := by decide +kernel
theorem dX0_wayOf_17 : decode cX0_wayOf 17 = .ok (.goto 4, 3) := by decide +kernel
theorem dX0_wayOf_20 : decode cX0_wayOf 20 = .ok (.iconst 1, 1) := by decide +kernel
theorem dX0_wayOf_21 : decode cX0_wayOf 21 = .ok (.ireturn, 1) := by decide +kernel
theorem dX0_eastOf_0 : decode cX0_eastOf 0 = .ok (.aload_n 0, 1) := by decide +kernel
theorem dX0_eastOf_1 : decode cX0_eastOf 1 = .ok (.getfield 9, 3) := by decide +kernel
theorem dX0_eastOf_4 : decode cX0_eastOf 4 = .ok (.iload_n 1, 1) := by decide +kernel
theorem dX0_eastOf_5 : decode cX0_eastOf 5 = .ok (.iaload, 1) := by decide +kernel
theorem dX0_eastOf_6 : decode cX0_eastOf 6 = .ok (.bipush 10, 2) := by decide +kernel
theorem dX0_eastOf_8 : decode cX0_eastOf 8 = .ok (.iadd, 1) := by decide +kernel
theorem dX0_eastOf_9 : decode cX0_eastOf 9 = .ok (.ireturn, 1) := by decide +kernel
theorem dX0_estatesOf_0 : decode cX0_estatesOf 0 = .ok (.iconst 0, 1) := by decide +kernel
theorem dX0_estatesOf_1 : decode cX0_estatesOf 1 = .ok (.istore_n 3, 1) := by decide +kernel
theorem dX0_estatesOf_2 : decode cX0_estatesOf 2 = .ok (.iconst 0, 1) := by decide +kernel
theorem dX0_estatesOf_3 : decode cX0_estatesOf 3 = .ok (.istore 4, 2) := by decide +kernel
theorem dX0_estatesOf_5 : decode cX0_estatesOf 5 = .ok (.iload 4, 2) := by decide +kernel
theorem dX0_estatesOf_7 : decode cX0_estatesOf 7 = .ok (.aload_n 1, 1) := by decide +kernel
theorem dX0_estatesOf_8 : decode cX0_estatesOf 8 = .ok (.getfield 30, 3) := by decide +kernel
theorem dX0_estatesOf_11 : decode cX0_estatesOf 11 = .ok (.if_icmp .ge 30, 3) := by decide +kernel
theorem dX0_estatesOf_14 : decode cX0_estatesOf 14 = .ok (.aload_n 0, 1) := by decide +kernel
theorem dX0_estatesOf_15 : decode cX0_estatesOf 15 = .ok (.getfield 24, 3) := by decide +kernel
theorem dX0_estatesOf_18 : decode cX0_estatesOf 18 = .ok (.iload 4, 2) := by decide +kernel
theorem dX0_estatesOf_20 : decode cX0_estatesOf 20 = .ok (.iaload, 1) := by decide +kernel
theorem dX0_estatesOf_21 : decode cX0_estatesOf 21 = .ok (.iload_n 2, 1) := by decide +kernel
theorem dX0_estatesOf_22 : decode cX0_estatesOf 22 = .ok (.if_icmp .ne 13, 3) := by decide +kernel
theorem dX0_estatesOf_25 : decode cX0_estatesOf 25 = .ok (.iload_n 3, 1) := by decide +kernel
theorem dX0_estatesOf_26 : decode cX0_estatesOf 26 = .ok (.aload_n 1, 1) := by decide +kernel
theorem dX0_estatesOf_27 : decode cX0_estatesOf 27 = .ok (.iload 4, 2) := by decide +kernel
theorem dX0_estatesOf_29 : decode cX0_estatesOf 29 = .ok (.iconst 4, 1) := by decide +kernel
theorem dX0_estatesOf_30 : decode cX0_estatesOf 30 = .ok (.invokevirtual 46, 3) := by decide +kernel
theorem dX0_estatesOf_33 : decode cX0_estatesOf 33 = .ok (.iadd, 1) := by decide +kernel
theorem dX0_estatesOf_34 : decode cX0_estatesOf 34 = .ok (.istore_n 3, 1) := by decide +kernel
theorem dX0_estatesOf_35 : decode cX0_estatesOf 35 = .ok (.iinc 4 1, 3) := by decide +kernel
theorem dX0_estatesOf_38 : decode cX0_estatesOf 38 = .ok (.goto (-33), 3) := by decide +kernel
theorem dX0_estatesOf_41 : decode cX0_estatesOf 41 = .ok (.iload_n 3, 1) := by decide +kernel
theorem dX0_estatesOf_42 : decode cX0_estatesOf 42 = .ok (.ireturn, 1) := by decide +kernel
theorem dX0_tubsOf_0 : decode cX0_tubsOf 0 = .ok (.iconst 0, 1) := by decide +kernel
theorem dX0_tubsOf_1 : decode cX0_tubsOf 1 = .ok (.istore_n 3, 1) := by decide +kernel
theorem dX0_tubsOf_2 : decode cX0_tubsOf 2 = .ok (.iconst 0, 1) := by decide +kernel
theorem dX0_tubsOf_3 : decode cX0_tubsOf 3 = .ok (.istore 4, 2) := by decide +kernel
theorem dX0_tubsOf_5 : decode cX0_tubsOf 5 = .ok (.iload 4, 2) := by decide +kernel
theorem dX0_tubsOf_7 : decode cX0_tubsOf 7 = .ok (.aload_n 1, 1) := by decide +kernel
theorem dX0_tubsOf_8 : decode cX0_tubsOf 8 = .ok (.getfield 30, 3) := by decide +kernel
theorem dX0_tubsOf_11 : decode cX0_tubsOf 11 = .ok (.if_icmp .ge 27, 3) := by decide +kernel
theorem dX0_tubsOf_14 : decode cX0_tubsOf 14 = .ok (.aload_n 0, 1) := by decide +kernel
theorem dX0_tubsOf_15 : decode cX0_tubsOf 15 = .ok (.getfield 24, 3) := by decide +kernel
theorem dX0_tubsOf_18 : decode cX0_tubsOf 18 = .ok (.iload 4, 2) := by decide +kernel
theorem dX0_tubsOf_20 : decode cX0_tubsOf 20 = .ok (.iaload, 1) := by decide +kernel
theorem dX0_tubsOf_21 : decode cX0_tubsOf 21 = .ok (.iload_n 2, 1) := by decide +kernel
theorem dX0_tubsOf_22 : decode cX0_tubsOf 22 = .ok (.if_icmp .ne 10, 3) := by decide +kernel
theorem dX0_tubsOf_25 : decode cX0_tubsOf 25 = .ok (.iload_n 3, 1) := by decide +kernel
theorem dX0_tubsOf_26 : decode cX0_tubsOf 26 = .ok (.iconst 1, 1) := by decide +kernel
theorem dX0_tubsOf_27 : decode cX0_tubsOf 27 = .ok (.iload 4, 2) := by decide +kernel
theorem dX0_tubsOf_29 : decode cX0_tubsOf 29 = .ok (.ishl, 1) := by decide +kernel
theorem dX0_tubsOf_30 : decode cX0_tubsOf 30 = .ok (.ior, 1) := by decide +kernel
theorem dX0_tubsOf_31 : decode cX0_tubsOf 31 = .ok (.istore_n 3, 1) := by decide +kernel
theorem dX0_tubsOf_32 : decode cX0_tubsOf 32 = .ok (.iinc 4 1, 3) := by decide +kernel
theorem dX0_tubsOf_35 : decode cX0_tubsOf 35 = .ok (.goto (-30), 3) := by decide +kernel
theorem dX0_tubsOf_38 : decode cX0_tubsOf 38 = .ok (.iload_n 3, 1) := by decide +kernel
theorem dX0_tubsOf_39 : decode cX0_tubsOf 39 = .ok (.ireturn, 1) := by decide +kernel
theorem dX0_estatesHooked_0 : decode cX0_estatesHooked 0 = .ok (.iconst 0, 1) := by decide +kernel
theorem dX0_estatesHooked_1 : decode cX0_estatesHooked 1 = .ok (.istore_n 2, 1) := by decide +kernel
theorem dX0_estatesHooked_2 : decode cX0_estatesHooked 2 = .ok (.iconst 0, 1) := by decide +kernel
theorem dX0_estatesHooked_3 : decode cX0_estatesHooked 3 = .ok (.istore_n 3, 1) := by decide +kernel
theorem dX0_estatesHooked_4 : decode cX0_estatesHooked 4 = .ok (.iload_n 3, 1) := by decide +kernel
theorem dX0_estatesHooked_5 : decode cX0_estatesHooked 5 = .ok (.aload_n 1, 1) := by decide +kernel
theorem dX0_estatesHooked_6 : decode cX0_estatesHooked 6 = .ok (.getfield 30, 3) := by decide +kernel
theorem dX0_estatesHooked_9 : decode cX0_estatesHooked 9 = .ok (.if_icmp .ge 29, 3) := by decide +kernel
theorem dX0_estatesHooked_12 : decode cX0_estatesHooked 12 = .ok (.aload_n 0, 1) := by decide +kernel
theorem dX0_estatesHooked_13 : decode cX0_estatesHooked 13 = .ok (.getfield 24, 3) := by decide +kernel
theorem dX0_estatesHooked_16 : decode cX0_estatesHooked 16 = .ok (.iload_n 3, 1) := by decide +kernel
theorem dX0_estatesHooked_17 : decode cX0_estatesHooked 17 = .ok (.iaload, 1) := by decide +kernel
theorem dX0_estatesHooked_18 : decode cX0_estatesHooked 18 = .ok (.bipush (-4), 2) := by decide +kernel
theorem dX0_estatesHooked_20 : decode cX0_estatesHooked 20 = .ok (.if_icmp .eq 12, 3) := by decide +kernel
theorem dX0_estatesHooked_23 : decode cX0_estatesHooked 23 = .ok (.iload_n 2, 1) := by decide +kernel
theorem dX0_estatesHooked_24 : decode cX0_estatesHooked 24 = .ok (.aload_n 1, 1) := by decide +kernel
theorem dX0_estatesHooked_25 : decode cX0_estatesHooked 25 = .ok (.iload_n 3, 1) := by decide +kernel
theorem dX0_estatesHooked_26 : decode cX0_estatesHooked 26 = .ok (.iconst 4, 1) := by decide +kernel
theorem dX0_estatesHooked_27 : decode cX0_estatesHooked 27 = .ok (.invokevirtual 46, 3) := by decide +kernel
theorem dX0_estatesHooked_30 : decode cX0_estatesHooked 30 = .ok (.iadd, 1) := by decide +kernel
theorem dX0_estatesHooked_31 : decode cX0_estatesHooked 31 = .ok (.istore_n 2, 1) := by decide +kernel
theorem dX0_estatesHooked_32 : decode cX0_estatesHooked 32 = .ok (.iinc 3 1, 3) := by decide +kernel
theorem dX0_estatesHooked_35 : decode cX0_estatesHooked 35 = .ok (.goto (-31), 3) := by decide +kernel
theorem dX0_estatesHooked_38 : decode cX0_estatesHooked 38 = .ok (.iload_n 2, 1) := by decide +kernel
theorem dX0_estatesHooked_39 : decode cX0_estatesHooked 39 = .ok (.ireturn, 1) := by decide +kernel
theorem dX0_tubsOfWay_0 : decode cX0_tubsOfWay 0 = .ok (.iconst 0, 1) := by decide +kernel
theorem dX0_tubsOfWay_1 : decode cX0_tubsOfWay 1 = .ok (.istore_n 3, 1) := by decide +kernel
theorem dX0_tubsOfWay_2 : decode cX0_tubsOfWay 2 = .ok (.iconst 0, 1) := by decide +kernel
theorem dX0_tubsOfWay_3 : decode cX0_tubsOfWay 3 = .ok (.istore 4, 2) := by decide +kernel
theorem dX0_tubsOfWay_5 : decode cX0_tubsOfWay 5 = .ok (.iload 4, 2) := by decide +kernel
theorem dX0_tubsOfWay_7 : decode cX0_tubsOfWay 7 = .ok (.aload_n 1, 1) := by decide +kernel
theorem dX0_tubsOfWay_8 : decode cX0_tubsOfWay 8 = .ok (.getfield 30, 3) := by decide +kernel
theorem dX0_tubsOfWay_11 : decode cX0_tubsOfWay 11 = .ok (.if_icmp .ge 26, 3) := by decide +kernel
theorem dX0_tubsOfWay_14 : decode cX0_tubsOfWay 14 = .ok (.aload_n 0, 1) := by decide +kernel
theorem dX0_tubsOfWay_15 : decode cX0_tubsOfWay 15 = .ok (.iload 4, 2) := by decide +kernel
theorem dX0_tubsOfWay_17 : decode cX0_tubsOfWay 17 = .ok (.invokevirtual 92, 3) := by decide +kernel
theorem dX0_tubsOfWay_20 : decode cX0_tubsOfWay 20 = .ok (.iload_n 2, 1) := by decide +kernel
theorem dX0_tubsOfWay_21 : decode cX0_tubsOfWay 21 = .ok (.if_icmp .ne 10, 3) := by decide +kernel
theorem dX0_tubsOfWay_24 : decode cX0_tubsOfWay 24 = .ok (.iload_n 3, 1) := by decide +kernel
theorem dX0_tubsOfWay_25 : decode cX0_tubsOfWay 25 = .ok (.iconst 1, 1) := by decide +kernel
theorem dX0_tubsOfWay_26 : decode cX0_tubsOfWay 26 = .ok (.iload 4, 2) := by decide +kernel
theorem dX0_tubsOfWay_28 : decode cX0_tubsOfWay 28 = .ok (.ishl, 1) := by decide +kernel
theorem dX0_tubsOfWay_29 : decode cX0_tubsOfWay 29 = .ok (.ior, 1) := by decide +kernel
theorem dX0_tubsOfWay_30 : decode cX0_tubsOfWay 30 = .ok (.istore_n 3, 1) := by decide +kernel
theorem dX0_tubsOfWay_31 : decode cX0_tubsOfWay 31 = .ok (.iinc 4 1, 3) := by decide +kernel
theorem dX0_tubsOfWay_34 : decode cX0_tubsOfWay 34 = .ok (.goto (-29), 3) := by decide +kernel
theorem dX0_tubsOfWay_37 : decode cX0_tubsOfWay 37 = .ok (.iload_n 3, 1) := by decide +kernel
theorem dX0_tubsOfWay_38 : decode cX0_tubsOfWay 38 = .ok (.ireturn, 1) := by decide +kernel
theorem dX1_init_0 : decode cX1_init 0 = .ok (.aload_n 0, 1) := by decide +kernel
theorem dX1_init_1 : decode cX1_init 1 = .ok (.invokespecial 3, 3) := by decide +kernel
theorem dX1_init_4 : decode cX1_init 4 = .ok (.aload_n 0, 1) := by decide +kernel
theorem dX1_init_5 : decode cX1_init 5 = .ok (.new 9, 3) := by decide +kernel
theorem dX1_init_8 : decode cX1_init 8 = .ok (.dup, 1) := by decide +kernel
theorem dX1_init_9 : decode cX1_init 9 = .ok (.invokespecial 11, 3) := by decide +kernel
theorem dX1_init_12 : decode cX1_init 12 = .ok (.putfield 12, 3) := by decide +kernel
theorem dX1_init_15 : decode cX1_init 15 = .ok (.aload_n 0, 1) := by decide +kernel
theorem dX1_init_16 : decode cX1_init 16 = .ok (.new 18, 3) := by decide +kernel
theorem dX1_init_19 : decode cX1_init 19 = .ok (.dup, 1) := by decide +kernel
theorem dX1_init_20 : decode cX1_init 20 = .ok (.invokespecial 20, 3) := by decide +kernel
theorem dX1_init_23 : decode cX1_init 23 = .ok (.putfield 21, 3) := by decide +kernel
theorem dX1_init_26 : decode cX1_init 26 = .ok (.return_, 1) := by decide +kernel
theorem dX1_readAll_0 : decode cX1_readAll 0 = .ok (.aload_n 0, 1) := by decide +kernel
theorem dX1_readAll_1 : decode cX1_readAll 1 = .ok (.getfield 21, 3) := by decide +kernel
theorem dX1_readAll_4 : decode cX1_readAll 4 = .ok (.invokevirtual 25, 3) := by decide +kernel
theorem dX1_readAll_7 : decode cX1_readAll 7 = .ok (.aload_n 0, 1) := by decide +kernel
theorem dX1_readAll_8 : decode cX1_readAll 8 = .ok (.getfield 12, 3) := by decide +kernel
theorem dX1_readAll_11 : decode cX1_readAll 11 = .ok (.invokevirtual 28, 3) := by decide +kernel
theorem dX1_readAll_14 : decode cX1_readAll 14 = .ok (.aload_n 0, 1) := by decide +kernel
theorem dX1_readAll_15 : decode cX1_readAll 15 = .ok (.iconst 0, 1) := by decide +kernel
theorem dX1_readAll_16 : decode cX1_readAll 16 = .ok (.putfield 31, 3) := by decide +kernel
theorem dX1_readAll_19 : decode cX1_readAll 19 = .ok (.aload_n 0, 1) := by decide +kernel
theorem dX1_readAll_20 : decode cX1_readAll 20 = .ok (.iconst 0, 1) := by decide +kernel
theorem dX1_readAll_21 : decode cX1_readAll 21 = .ok (.putfield 35, 3) := by decide +kernel
theorem dX1_readAll_24 : decode cX1_readAll 24 = .ok (.aload_n 0, 1) := by decide +kernel
theorem dX1_readAll_25 : decode cX1_readAll 25 = .ok (.iconst 0, 1) := by decide +kernel
theorem dX1_readAll_26 : decode cX1_readAll 26 = .ok (.putfield 38, 3) := by decide +kernel
theorem dX1_readAll_29 : decode cX1_readAll 29 = .ok (.aload_n 0, 1) := by decide +kernel
theorem dX1_readAll_30 : decode cX1_readAll 30 = .ok (.iconst 0, 1) := by decide +kernel
theorem dX1_readAll_31 : decode cX1_readAll 31 = .ok (.putfield 41, 3) := by decide +kernel
theorem dX1_readAll_34 : decode cX1_readAll 34 = .ok (.iconst 0, 1) := by decide +kernel
theorem dX1_readAll_35 : decode cX1_readAll 35 = .ok (.istore_n 1, 1) := by decide +kernel
theorem dX1_readAll_36 : decode cX1_readAll 36 = .ok (.iload_n 1, 1) := by decide +kernel
theorem dX1_readAll_37 : decode cX1_readAll 37 = .ok (.sipush 160, 3) := by decide +kernel
theorem dX1_readAll_40 : decode cX1_readAll 40 = .ok (.if_icmp .gt 43, 3) := by decide +kernel
theorem dX1_readAll_43 : decode cX1_readAll 43 = .ok (.aload_n 0, 1) := by decide +kernel
theorem dX1_readAll_44 : decode cX1_readAll 44 = .ok (.getfield 12, 3) := by decide +kernel
theorem dX1_readAll_47 : decode cX1_readAll 47 = .ok (.invokevirtual 45, 3) := by decide +kernel
theorem dX1_readAll_50 : decode cX1_readAll 50 = .ok (.aload_n 0, 1) := by decide +kernel
theorem dX1_readAll_51 : decode cX1_readAll 51 = .ok (.getfield 12, 3) := by decide +kernel
theorem dX1_readAll_54 : decode cX1_readAll 54 = .ok (.getfield 48, 3) := by decide +kernel
theorem dX1_readAll_57 : decode cX1_readAll 57 = .ok (.ifCond .ne 6, 3) := by decide +kernel
theorem dX1_readAll_60 : decode cX1_readAll 60 = .ok (.goto 23, 3) := by decide +kernel
theorem dX1_readAll_63 : decode cX1_readAll 63 = .ok (.aload_n 0, 1) := by decide +kernel
theorem dX1_readAll_64 : decode cX1_readAll 64 = .ok (.invokevirtual 51, 3) := by decide +kernel
theorem dX1_readAll_67 : decode cX1_readAll 67 = .ok (.aload_n 0, 1) := by decide +kernel
theorem dX1_readAll_68 : decode cX1_readAll 68 = .ok (.getfield 31, 3) := by decide +kernel
theorem dX1_readAll_71 : decode cX1_readAll 71 = .ok (.ifCond .eq 6, 3) := by decide +kernel
theorem dX1_readAll_74 : decode cX1_readAll 74 = .ok (.goto 9, 3) := by decide +kernel
theorem dX1_readAll_77 : decode cX1_readAll 77 = .ok (.iinc 1 1, 3) := by decide +kernel
theorem dX1_readAll_80 : decode cX1_readAll 80 = .ok (.goto (-44), 3) := by decide +kernel
theorem dX1_readAll_83 : decode cX1_readAll 83 = .ok (.iload_n 1, 1) := by decide +kernel
theorem dX1_readAll_84 : decode cX1_readAll 84 = .ok (.ireturn, 1) := by decide +kernel
theorem dX1_readLine_0 : decode cX1_readLine 0 = .ok (.aload_n 0, 1) := by decide +kernel
theorem dX1_readLine_1 : decode cX1_readLine 1 = .ok (.getfield 12, 3) := by decide +kernel
theorem dX1_readLine_4 : decode cX1_readLine 4 = .ok (.ldc 54, 2) := by decide +kernel
theorem dX1_readLine_6 : decode cX1_readLine 6 = .ok (.invokevirtual 56, 3) := by decide +kernel
theorem dX1_readLine_9 : decode cX1_readLine 9 = .ok (.ifCond .eq 11, 3) := by decide +kernel
theorem dX1_readLine_12 : decode cX1_readLine 12 = .ok (.aload_n 0, 1) := by decide +kernel
theorem dX1_readLine_13 : decode cX1_readLine 13 = .ok (.iconst 0, 1) := by decide +kernel
theorem dX1_readLine_14 : decode cX1_readLine 14 = .ok (.invokevirtual 60, 3) := by decide +kernel
theorem dX1_readLine_17 : decode cX1_readLine 17 = .ok (.goto 143, 3) := by decide +kernel
theorem dX1_readLine_20 : decode cX1_readLine 20 = .ok (.aload_n 0, 1) := by decide +kernel
theorem dX1_readLine_21 : decode cX1_readLine 21 = .ok (.getfield 12, 3) := by decide +kernel
theorem dX1_readLine_24 : decode cX1_readLine 24 = .ok (.ldc 64, 2) := by decide +kernel
theorem dX1_readLine_26 : decode cX1_readLine 26 = .ok (.invokevirtual 56, 3) := by decide +kernel
theorem dX1_readLine_29 : decode cX1_readLine 29 = .ok (.ifCond .eq 11, 3) := by decide +kernel
theorem dX1_readLine_32 : decode cX1_readLine 32 = .ok (.aload_n 0, 1) := by decide +kernel
theorem dX1_readLine_33 : decode cX1_readLine 33 = .ok (.iconst 1, 1) := by decide +kernel
theorem dX1_readLine_34 : decode cX1_readLine 34 = .ok (.invokevirtual 60, 3) := by decide +kernel
theorem dX1_readLine_37 : decode cX1_readLine 37 = .ok (.goto 123, 3) := by decide +kernel
theorem dX1_readLine_40 : decode cX1_readLine 40 = .ok (.aload_n 0, 1) := by decide +kernel
theorem dX1_readLine_41 : decode cX1_readLine 41 = .ok (.getfield 12, 3) := by decide +kernel
theorem dX1_readLine_44 : decode cX1_readLine 44 = .ok (.ldc 66, 2) := by decide +kernel
theorem dX1_readLine_46 : decode cX1_readLine 46 = .ok (.invokevirtual 56, 3) := by decide +kernel
theorem dX1_readLine_49 : decode cX1_readLine 49 = .ok (.ifCond .eq 11, 3) := by decide +kernel
theorem dX1_readLine_52 : decode cX1_readLine 52 = .ok (.aload_n 0, 1) := by decide +kernel
theorem dX1_readLine_53 : decode cX1_readLine 53 = .ok (.iconst 2, 1) := by decide +kernel
theorem dX1_readLine_54 : decode cX1_readLine 54 = .ok (.invokevirtual 60, 3) := by decide +kernel
theorem dX1_readLine_57 : decode cX1_readLine 57 = .ok (.goto 103, 3) := by decide +kernel
theorem dX1_readLine_60 : decode cX1_readLine 60 = .ok (.aload_n 0, 1) := by decide +kernel
theorem dX1_readLine_61 : decode cX1_readLine 61 = .ok (.getfield 12, 3) := by decide +kernel
theorem dX1_readLine_64 : decode cX1_readLine 64 = .ok (.ldc 68, 2) := by decide +kernel
theorem dX1_readLine_66 : decode cX1_readLine 66 = .ok (.invokevirtual 56, 3) := by decide +kernel
theorem dX1_readLine_69 : decode cX1_readLine 69 = .ok (.ifCond .eq 11, 3) := by decide +kernel
theorem dX1_readLine_72 : decode cX1_readLine 72 = .ok (.aload_n 0, 1) := by decide +kernel
theorem dX1_readLine_73 : decode cX1_readLine 73 = .ok (.iconst 3, 1) := by decide +kernel
theorem dX1_readLine_74 : decode cX1_readLine 74 = .ok (.invokevirtual 60, 3) := by decide +kernel
theorem dX1_readLine_77 : decode cX1_readLine 77 = .ok (.goto 83, 3) := by decide +kernel
theorem dX1_readLine_80 : decode cX1_readLine 80 = .ok (.aload_n 0, 1) := by decide +kernel
theorem dX1_readLine_81 : decode cX1_readLine 81 = .ok (.getfield 12, 3) := by decide +kernel
theorem dX1_readLine_84 : decode cX1_readLine 84 = .ok (.ldc 70, 2) := by decide +kernel
theorem dX1_readLine_86 : decode cX1_readLine 86 = .ok (.invokevirtual 56, 3) := by decide +kernel
theorem dX1_readLine_89 : decode cX1_readLine 89 = .ok (.ifCond .eq 10, 3) := by decide +kernel
theorem dX1_readLine_92 : decode cX1_readLine 92 = .ok (.aload_n 0, 1) := by decide +kernel
theorem dX1_readLine_93 : decode cX1_readLine 93 = .ok (.invokevirtual 72, 3) := by decide +kernel
theorem dX1_readLine_96 : decode cX1_readLine 96 = .ok (.goto 64, 3) := by decide +kernel
theorem dX1_readLine_99 : decode cX1_readLine 99 = .ok (.aload_n 0, 1) := by decide +kernel
theorem dX1_readLine_100 : decode cX1_readLine 100 = .ok (.getfield 12, 3) := by decide +kernel
theorem dX1_readLine_103 : decode cX1_readLine 103 = .ok (.ldc 75, 2) := by decide +kernel
theorem dX1_readLine_105 : decode cX1_readLine 105 = .ok (.invokevirtual 56, 3) := by decide +kernel
theorem dX1_readLine_108 : decode cX1_readLine 108 = .ok (.ifCond .eq 10, 3) := by decide +kernel
theorem dX1_readLine_111 : decode cX1_readLine 111 = .ok (.aload_n 0, 1) := by decide +kernel
theorem dX1_readLine_112 : decode cX1_readLine 112 = .ok (.invokevirtual 77, 3) := by decide +kernel
theorem dX1_readLine_115 : decode cX1_readLine 115 = .ok (.goto 45, 3) := by decide +kernel
theorem dX1_readLine_118 : decode cX1_readLine 118 = .ok (.aload_n 0, 1) := by decide +kernel
theorem dX1_readLine_119 : decode cX1_readLine 119 = .ok (.getfield 12, 3) := by decide +kernel
theorem dX1_readLine_122 : decode cX1_readLine 122 = .ok (.ldc 80, 2) := by decide +kernel
theorem dX1_readLine_124 : decode cX1_readLine 124 = .ok (.invokevirtual 56, 3) := by decide +kernel
theorem dX1_readLine_127 : decode cX1_readLine 127 = .ok (.ifCond .eq 10, 3) := by decide +kernel
theorem dX1_readLine_130 : decode cX1_readLine 130 = .ok (.aload_n 0, 1) := by decide +kernel
theorem dX1_readLine_131 : decode cX1_readLine 131 = .ok (.invokevirtual 82, 3) := by decide +kernel
theorem dX1_readLine_134 : decode cX1_readLine 134 = .ok (.goto 26, 3) := by decide +kernel
theorem dX1_readLine_137 : decode cX1_readLine 137 = .ok (.aload_n 0, 1) := by decide +kernel
theorem dX1_readLine_138 : decode cX1_readLine 138 = .ok (.getfield 12, 3) := by decide +kernel
theorem dX1_readLine_141 : decode cX1_readLine 141 = .ok (.ldc 85, 2) := by decide +kernel
theorem dX1_readLine_143 : decode cX1_readLine 143 = .ok (.invokevirtual 56, 3) := by decide +kernel
theorem dX1_readLine_146 : decode cX1_readLine 146 = .ok (.ifCond .eq 10, 3) := by decide +kernel
theorem dX1_readLine_149 : decode cX1_readLine 149 = .ok (.aload_n 0, 1) := by decide +kernel
theorem dX1_readLine_150 : decode cX1_readLine 150 = .ok (.invokevirtual 87, 3) := by decide +kernel
theorem dX1_readLine_153 : decode cX1_readLine 153 = .ok (.goto 7, 3) := by decide +kernel
theorem dX1_readLine_156 : decode cX1_readLine 156 = .ok (.aload_n 0, 1) := by decide +kernel
theorem dX1_readLine_157 : decode cX1_readLine 157 = .ok (.invokevirtual 90, 3) := by decide +kernel
theorem dX1_readLine_160 : decode cX1_readLine 160 = .ok (.aload_n 0, 1) := by decide +kernel
theorem dX1_readLine_161 : decode cX1_readLine 161 = .ok (.getfield 31, 3) := by decide +kernel
theorem dX1_readLine_164 : decode cX1_readLine 164 = .ok (.ifCond .eq 4, 3) := by decide +kernel
theorem dX1_readLine_167 : decode cX1_readLine 167 = .ok (.return_, 1) := by decide +kernel
theorem dX1_readLine_168 : decode cX1_readLine 168 = .ok (.aload_n 0, 1) := by decide +kernel
theorem dX1_readLine_169 : decode cX1_readLine 169 = .ok (.getfield 12, 3) := by decide +kernel
theorem dX1_readLine_172 : decode cX1_readLine 172 = .ok (.invokevirtual 45, 3) := by decide +kernel
theorem dX1_readLine_175 : decode cX1_readLine 175 = .ok (.aload_n 0, 1) := by decide +kernel
theorem dX1_readLine_176 : decode cX1_readLine 176 = .ok (.getfield 12, 3) := by decide +kernel
theorem dX1_readLine_179 : decode cX1_readLine 179 = .ok (.getfield 48, 3) := by decide +kernel
theorem dX1_readLine_182 : decode cX1_readLine 182 = .ok (.iconst 3, 1) := by decide +kernel
theorem dX1_readLine_183 : decode cX1_readLine 183 = .ok (.if_icmp .eq 7, 3) := by decide +kernel
theorem dX1_readLine_186 : decode cX1_readLine 186 = .ok (.aload_n 0, 1) := by decide +kernel
theorem dX1_readLine_187 : decode cX1_readLine 187 = .ok (.invokevirtual 90, 3) := by decide +kernel
theorem dX1_readLine_190 : decode cX1_readLine 190 = .ok (.return_, 1) := by decide +kernel
theorem dX1_readTub_0 : decode cX1_readTub 0 = .ok (.aload_n 0, 1) := by decide +kernel
theorem dX1_readTub_1 : decode cX1_readTub 1 = .ok (.getfield 21, 3) := by decide +kernel
theorem dX1_readTub_4 : decode cX1_readTub 4 = .ok (.getfield 93, 3) := by decide +kernel
theorem dX1_readTub_7 : decode cX1_readTub 7 = .ok (.istore_n 2, 1) := by decide +kernel
theorem dX1_readTub_8 : decode cX1_readTub 8 = .ok (.iload_n 2, 1) := by decide +kernel
theorem dX1_readTub_9 : decode cX1_readTub 9 = .ok (.iconst 4, 1) := by decide +kernel
theorem dX1_readTub_10 : decode cX1_readTub 10 = .ok (.if_icmp .lt 9, 3) := by decide +kernel
theorem dX1_readTub_13 : decode cX1_readTub 13 = .ok (.aload_n 0, 1) := by decide +kernel
theorem dX1_readTub_14 : decode cX1_readTub 14 = .ok (.iconst 5, 1) := by decide +kernel
theorem dX1_readTub_15 : decode cX1_readTub 15 = .ok (.invokevirtual 96, 3) := by decide +kernel
theorem dX1_readTub_18 : decode cX1_readTub 18 = .ok (.return_, 1) := by decide +kernel
theorem dX1_readTub_19 : decode cX1_readTub 19 = .ok (.aload_n 0, 1) := by decide +kernel
theorem dX1_readTub_20 : decode cX1_readTub 20 = .ok (.getfield 21, 3) := by decide +kernel
theorem dX1_readTub_23 : decode cX1_readTub 23 = .ok (.dup, 1) := by decide +kernel
theorem dX1_readTub_24 : decode cX1_readTub 24 = .ok (.getfield 93, 3) := by decide +kernel
theorem dX1_readTub_27 : decode cX1_readTub 27 = .ok (.iconst 1, 1) := by decide +kernel
theorem dX1_readTub_28 : decode cX1_readTub 28 = .ok (.iadd, 1) := by decide +kernel
theorem dX1_readTub_29 : decode cX1_readTub 29 = .ok (.putfield 93, 3) := by decide +kernel
theorem dX1_readTub_32 : decode cX1_readTub 32 = .ok (.aload_n 0, 1) := by decide +kernel
theorem dX1_readTub_33 : decode cX1_readTub 33 = .ok (.getfield 21, 3) := by decide +kernel
theorem dX1_readTub_36 : decode cX1_readTub 36 = .ok (.iload_n 2, 1) := by decide +kernel
theorem dX1_readTub_37 : decode cX1_readTub 37 = .ok (.iconst 0, 1) := by decide +kernel
theorem dX1_readTub_38 : decode cX1_readTub 38 = .ok (.iload_n 1, 1) := by decide +kernel
theorem dX1_readTub_39 : decode cX1_readTub 39 = .ok (.invokevirtual 99, 3) := by decide +kernel
theorem dX1_readTub_42 : decode cX1_readTub 42 = .ok (.iconst 1, 1) := by decide +kernel
theorem dX1_readTub_43 : decode cX1_readTub 43 = .ok (.istore_n 3, 1) := by decide +kernel
theorem dX1_readTub_44 : decode cX1_readTub 44 = .ok (.iload_n 3, 1) := by decide +kernel
theorem dX1_readTub_45 : decode cX1_readTub 45 = .ok (.iconst 4, 1) := by decide +kernel
theorem dX1_readTub_46 : decode cX1_readTub 46 = .ok (.if_icmp .gt 32, 3) := by decide +kernel
theorem dX1_readTub_49 : decode cX1_readTub 49 = .ok (.aload_n 0, 1) := by decide +kernel
theorem dX1_readTub_50 : decode cX1_readTub 50 = .ok (.getfield 21, 3) := by decide +kernel
theorem dX1_readTub_53 : decode cX1_readTub 53 = .ok (.iload_n 2, 1) := by decide +kernel
theorem dX1_readTub_54 : decode cX1_readTub 54 = .ok (.iload_n 3, 1) := by decide +kernel
theorem dX1_readTub_55 : decode cX1_readTub 55 = .ok (.aload_n 0, 1) := by decide +kernel
theorem dX1_readTub_56 : decode cX1_readTub 56 = .ok (.getstatic 103, 3) := by decide +kernel
theorem dX1_readTub_59 : decode cX1_readTub 59 = .ok (.iload_n 3, 1) := by decide +kernel
theorem dX1_readTub_60 : decode cX1_readTub 60 = .ok (.iaload, 1) := by decide +kernel
theorem dX1_readTub_61 : decode cX1_readTub 61 = .ok (.getstatic 107, 3) := by decide +kernel
theorem dX1_readTub_64 : decode cX1_readTub 64 = .ok (.iload_n 3, 1) := by decide +kernel
theorem dX1_readTub_65 : decode cX1_readTub 65 = .ok (.iaload, 1) := by decide +kernel
theorem dX1_readTub_66 : decode cX1_readTub 66 = .ok (.invokevirtual 110, 3) := by decide +kernel
theorem dX1_readTub_69 : decode cX1_readTub 69 = .ok (.invokevirtual 99, 3) := by decide +kernel
theorem dX1_readTub_72 : decode cX1_readTub 72 = .ok (.iinc 3 1, 3) := by decide +kernel
theorem dX1_readTub_75 : decode cX1_readTub 75 = .ok (.goto (-31), 3) := by decide +kernel
theorem dX1_readTub_78 : decode cX1_readTub 78 = .ok (.return_, 1) := by decide +kernel
theorem dX1_readHeir_0 : decode cX1_readHeir 0 = .ok (.aload_n 0, 1) := by decide +kernel
theorem dX1_readHeir_1 : decode cX1_readHeir 1 = .ok (.getfield 21, 3) := by decide +kernel
theorem dX1_readHeir_4 : decode cX1_readHeir 4 = .ok (.getfield 114, 3) := by decide +kernel
theorem dX1_readHeir_7 : decode cX1_readHeir 7 = .ok (.istore_n 1, 1) := by decide +kernel
theorem dX1_readHeir_8 : decode cX1_readHeir 8 = .ok (.iload_n 1, 1) := by decide +kernel
theorem dX1_readHeir_9 : decode cX1_readHeir 9 = .ok (.iconst 4, 1) := by decide +kernel
theorem dX1_readHeir_10 : decode cX1_readHeir 10 = .ok (.if_icmp .lt 9, 3) := by decide +kernel
theorem dX1_readHeir_13 : decode cX1_readHeir 13 = .ok (.aload_n 0, 1) := by decide +kernel
theorem dX1_readHeir_14 : decode cX1_readHeir 14 = .ok (.iconst 5, 1) := by decide +kernel
theorem dX1_readHeir_15 : decode cX1_readHeir 15 = .ok (.invokevirtual 96, 3) := by decide +kernel
theorem dX1_readHeir_18 : decode cX1_readHeir 18 = .ok (.return_, 1) := by decide +kernel
theorem dX1_readHeir_19 : decode cX1_readHeir 19 = .ok (.aload_n 0, 1) := by decide +kernel
theorem dX1_readHeir_20 : decode cX1_readHeir 20 = .ok (.getfield 21, 3) := by decide +kernel
theorem dX1_readHeir_23 : decode cX1_readHeir 23 = .ok (.dup, 1) := by decide +kernel
theorem dX1_readHeir_24 : decode cX1_readHeir 24 = .ok (.getfield 114, 3) := by decide +kernel
theorem dX1_readHeir_27 : decode cX1_readHeir 27 = .ok (.iconst 1, 1) := by decide +kernel
theorem dX1_readHeir_28 : decode cX1_readHeir 28 = .ok (.iadd, 1) := by decide +kernel
theorem dX1_readHeir_29 : decode cX1_readHeir 29 = .ok (.putfield 114, 3) := by decide +kernel
theorem dX1_readHeir_32 : decode cX1_readHeir 32 = .ok (.iconst 0, 1) := by decide +kernel
theorem dX1_readHeir_33 : decode cX1_readHeir 33 = .ok (.istore_n 2, 1) := by decide +kernel
theorem dX1_readHeir_34 : decode cX1_readHeir 34 = .ok (.iload_n 2, 1) := by decide +kernel
theorem dX1_readHeir_35 : decode cX1_readHeir 35 = .ok (.iconst 3, 1) := by decide +kernel
theorem dX1_readHeir_36 : decode cX1_readHeir 36 = .ok (.if_icmp .gt 47, 3) := by decide +kernel
theorem dX1_readHeir_39 : decode cX1_readHeir 39 = .ok (.iload_n 2, 1) := by decide +kernel
theorem dX1_readHeir_40 : decode cX1_readHeir 40 = .ok (.iconst 2, 1) := by decide +kernel
theorem dX1_readHeir_41 : decode cX1_readHeir 41 = .ok (.if_icmp .ne 15, 3) := by decide +kernel
theorem dX1_readHeir_44 : decode cX1_readHeir 44 = .ok (.aload_n 0, 1) := by decide +kernel
theorem dX1_readHeir_45 : decode cX1_readHeir 45 = .ok (.getfield 21, 3) := by decide +kernel
theorem dX1_readHeir_48 : decode cX1_readHeir 48 = .ok (.iload_n 1, 1) := by decide +kernel
theorem dX1_readHeir_49 : decode cX1_readHeir 49 = .ok (.iconst 1, 1) := by decide +kernel
theorem dX1_readHeir_50 : decode cX1_readHeir 50 = .ok (.invokevirtual 117, 3) := by decide +kernel
theorem dX1_readHeir_53 : decode cX1_readHeir 53 = .ok (.goto 4, 3) := by decide +kernel
theorem dX1_readHeir_56 : decode cX1_readHeir 56 = .ok (.iconst 0, 1) := by decide +kernel
theorem dX1_readHeir_57 : decode cX1_readHeir 57 = .ok (.istore_n 3, 1) := by decide +kernel
theorem dX1_readHeir_58 : decode cX1_readHeir 58 = .ok (.aload_n 0, 1) := by decide +kernel
theorem dX1_readHeir_59 : decode cX1_readHeir 59 = .ok (.getfield 21, 3) := by decide +kernel
theorem dX1_readHeir_62 : decode cX1_readHeir 62 = .ok (.iload_n 1, 1) := by decide +kernel
theorem dX1_readHeir_63 : decode cX1_readHeir 63 = .ok (.iload_n 2, 1) := by decide +kernel
theorem dX1_readHeir_64 : decode cX1_readHeir 64 = .ok (.aload_n 0, 1) := by decide +kernel
theorem dX1_readHeir_65 : decode cX1_readHeir 65 = .ok (.iload_n 3, 1) := by decide +kernel
theorem dX1_readHeir_66 : decode cX1_readHeir 66 = .ok (.getstatic 120, 3) := by decide +kernel
theorem dX1_readHeir_69 : decode cX1_readHeir 69 = .ok (.iload_n 2, 1) := by decide +kernel
theorem dX1_readHeir_70 : decode cX1_readHeir 70 = .ok (.iaload, 1) := by decide +kernel
theorem dX1_readHeir_71 : decode cX1_readHeir 71 = .ok (.invokevirtual 110, 3) := by decide +kernel
theorem dX1_readHeir_74 : decode cX1_readHeir 74 = .ok (.invokevirtual 123, 3) := by decide +kernel
theorem dX1_readHeir_77 : decode cX1_readHeir 77 = .ok (.iinc 2 1, 3) := by decide +kernel
theorem dX1_readHeir_80 : decode cX1_readHeir 80 = .ok (.goto (-46), 3) := by decide +kernel
theorem dX1_readHeir_83 : decode cX1_readHeir 83 = .ok (.return_, 1) := by decide +kernel
theorem dX1_readCurrent_0 : decode cX1_readCurrent 0 = .ok (.aload_n 0, 1) := by decide +kernel
theorem dX1_readCurrent_1 : decode cX1_readCurrent 1 = .ok (.iconst 0, 1) := by decide +kernel
theorem dX1_readCurrent_2 : decode cX1_readCurrent 2 = .ok (.bipush 9, 2) := by decide +kernel
theorem dX1_readCurrent_4 : decode cX1_readCurrent 4 = .ok (.invokevirtual 110, 3) := by decide +kernel
theorem dX1_readCurrent_7 : decode cX1_readCurrent 7 = .ok (.istore_n 1, 1) := by decide +kernel
theorem dX1_readCurrent_8 : decode cX1_readCurrent 8 = .ok (.aload_n 0, 1) := by decide +kernel
theorem dX1_readCurrent_9 : decode cX1_readCurrent 9 = .ok (.getfield 31, 3) := by decide +kernel
theorem dX1_readCurrent_12 : decode cX1_readCurrent 12 = .ok (.ifCond .ne 20, 3) := by decide +kernel
theorem dX1_readCurrent_15 : decode cX1_readCurrent 15 = .ok (.aload_n 0, 1) := by decide +kernel
theorem dX1_readCurrent_16 : decode cX1_readCurrent 16 = .ok (.getfield 35, 3) := by decide +kernel
theorem dX1_readCurrent_19 : decode cX1_readCurrent 19 = .ok (.iload_n 1, 1) := by decide +kernel
theorem dX1_readCurrent_20 : decode cX1_readCurrent 20 = .ok (.ishr, 1) := by decide +kernel
theorem dX1_readCurrent_21 : decode cX1_readCurrent 21 = .ok (.iconst 1, 1) := by decide +kernel
theorem dX1_readCurrent_22 : decode cX1_readCurrent 22 = .ok (.iand, 1) := by decide +kernel
theorem dX1_readCurrent_23 : decode cX1_readCurrent 23 = .ok (.iconst 1, 1) := by decide +kernel
theorem dX1_readCurrent_24 : decode cX1_readCurrent 24 = .ok (.if_icmp .ne 8, 3) := by decide +kernel
theorem dX1_readCurrent_27 : decode cX1_readCurrent 27 = .ok (.aload_n 0, 1) := by decide +kernel
theorem dX1_readCurrent_28 : decode cX1_readCurrent 28 = .ok (.iconst 4, 1) := by decide +kernel
theorem dX1_readCurrent_29 : decode cX1_readCurrent 29 = .ok (.invokevirtual 96, 3) := by decide +kernel
theorem dX1_readCurrent_32 : decode cX1_readCurrent 32 = .ok (.aload_n 0, 1) := by decide +kernel
theorem dX1_readCurrent_33 : decode cX1_readCurrent 33 = .ok (.iconst 0, 1) := by decide +kernel
theorem dX1_readCurrent_34 : decode cX1_readCurrent 34 = .ok (.iconst 4, 1) := by decide +kernel
theorem dX1_readCurrent_35 : decode cX1_readCurrent 35 = .ok (.invokevirtual 110, 3) := by decide +kernel
theorem dX1_readCurrent_38 : decode cX1_readCurrent 38 = .ok (.istore_n 2, 1) := by decide +kernel
theorem dX1_readCurrent_39 : decode cX1_readCurrent 39 = .ok (.aload_n 0, 1) := by decide +kernel
theorem dX1_readCurrent_40 : decode cX1_readCurrent 40 = .ok (.getfield 31, 3) := by decide +kernel
theorem dX1_readCurrent_43 : decode cX1_readCurrent 43 = .ok (.ifCond .eq 4, 3) := by decide +kernel
theorem dX1_readCurrent_46 : decode cX1_readCurrent 46 = .ok (.return_, 1) := by decide +kernel
theorem dX1_readCurrent_47 : decode cX1_readCurrent 47 = .ok (.aload_n 0, 1) := by decide +kernel
theorem dX1_readCurrent_48 : decode cX1_readCurrent 48 = .ok (.dup, 1) := by decide +kernel
theorem dX1_readCurrent_49 : decode cX1_readCurrent 49 = .ok (.getfield 35, 3) := by decide +kernel
theorem dX1_readCurrent_52 : decode cX1_readCurrent 52 = .ok (.iconst 1, 1) := by decide +kernel
theorem dX1_readCurrent_53 : decode cX1_readCurrent 53 = .ok (.iload_n 1, 1) := by decide +kernel
theorem dX1_readCurrent_54 : decode cX1_readCurrent 54 = .ok (.ishl, 1) := by decide +kernel
theorem dX1_readCurrent_55 : decode cX1_readCurrent 55 = .ok (.ior, 1) := by decide +kernel
theorem dX1_readCurrent_56 : decode cX1_readCurrent 56 = .ok (.putfield 35, 3) := by decide +kernel
theorem dX1_readCurrent_59 : decode cX1_readCurrent 59 = .ok (.aload_n 0, 1) := by decide +kernel
theorem dX1_readCurrent_60 : decode cX1_readCurrent 60 = .ok (.getfield 21, 3) := by decide +kernel
theorem dX1_readCurrent_63 : decode cX1_readCurrent 63 = .ok (.getfield 126, 3) := by decide +kernel
theorem dX1_readCurrent_66 : decode cX1_readCurrent 66 = .ok (.iload_n 1, 1) := by decide +kernel
theorem dX1_readCurrent_67 : decode cX1_readCurrent 67 = .ok (.iload_n 2, 1) := by decide +kernel
theorem dX1_readCurrent_68 : decode cX1_readCurrent 68 = .ok (.iastore, 1) := by decide +kernel
theorem dX1_readCurrent_69 : decode cX1_readCurrent 69 = .ok (.return_, 1) := by decide +kernel
theorem dX1_readWind_0 : decode cX1_readWind 0 = .ok (.aload_n 0, 1) := by decide +kernel
theorem dX1_readWind_1 : decode cX1_readWind 1 = .ok (.iconst 0, 1) := by decide +kernel
theorem dX1_readWind_2 : decode cX1_readWind 2 = .ok (.bipush 23, 2) := by decide +kernel
theorem dX1_readWind_4 : decode cX1_readWind 4 = .ok (.invokevirtual 110, 3) := by decide +kernel
theorem dX1_readWind_7 : decode cX1_readWind 7 = .ok (.istore_n 1, 1) := by decide +kernel
theorem dX1_readWind_8 : decode cX1_readWind 8 = .ok (.aload_n 0, 1) := by decide +kernel
theorem dX1_readWind_9 : decode cX1_readWind 9 = .ok (.getfield 31, 3) := by decide +kernel
theorem dX1_readWind_12 : decode cX1_readWind 12 = .ok (.ifCond .ne 20, 3) := by decide +kernel
theorem dX1_readWind_15 : decode cX1_readWind 15 = .ok (.aload_n 0, 1) := by decide +kernel
theorem dX1_readWind_16 : decode cX1_readWind 16 = .ok (.getfield 38, 3) := by decide +kernel
theorem dX1_readWind_19 : decode cX1_readWind 19 = .ok (.iload_n 1, 1) := by decide +kernel
theorem dX1_readWind_20 : decode cX1_readWind 20 = .ok (.ishr, 1) := by decide +kernel
theorem dX1_readWind_21 : decode cX1_readWind 21 = .ok (.iconst 1, 1) := by decide +kernel
theorem dX1_readWind_22 : decode cX1_readWind 22 = .ok (.iand, 1) := by decide +kernel
theorem dX1_readWind_23 : decode cX1_readWind 23 = .ok (.iconst 1, 1) := by decide +kernel
theorem dX1_readWind_24 : decode cX1_readWind 24 = .ok (.if_icmp .ne 8, 3) := by decide +kernel
theorem dX1_readWind_27 : decode cX1_readWind 27 = .ok (.aload_n 0, 1) := by decide +kernel
theorem dX1_readWind_28 : decode cX1_readWind 28 = .ok (.iconst 4, 1) := by decide +kernel
theorem dX1_readWind_29 : decode cX1_readWind 29 = .ok (.invokevirtual 96, 3) := by decide +kernel
theorem dX1_readWind_32 : decode cX1_readWind 32 = .ok (.aload_n 0, 1) := by decide +kernel
theorem dX1_readWind_33 : decode cX1_readWind 33 = .ok (.iconst 0, 1) := by decide +kernel
theorem dX1_readWind_34 : decode cX1_readWind 34 = .ok (.iconst 4, 1) := by decide +kernel
theorem dX1_readWind_35 : decode cX1_readWind 35 = .ok (.invokevirtual 110, 3) := by decide +kernel
theorem dX1_readWind_38 : decode cX1_readWind 38 = .ok (.istore_n 2, 1) := by decide +kernel
theorem dX1_readWind_39 : decode cX1_readWind 39 = .ok (.aload_n 0, 1) := by decide +kernel
theorem dX1_readWind_40 : decode cX1_readWind 40 = .ok (.getfield 31, 3) := by decide +kernel
theorem dX1_readWind_43 : decode cX1_readWind 43 = .ok (.ifCond .eq 4, 3) := by decide +kernel
theorem dX1_readWind_46 : decode cX1_readWind 46 = .ok (.return_, 1) := by decide +kernel
theorem dX1_readWind_47 : decode cX1_readWind 47 = .ok (.aload_n 0, 1) := by decide +kernel
theorem dX1_readWind_48 : decode cX1_readWind 48 = .ok (.dup, 1) := by decide +kernel
theorem dX1_readWind_49 : decode cX1_readWind 49 = .ok (.getfield 38, 3) := by decide +kernel
theorem dX1_readWind_52 : decode cX1_readWind 52 = .ok (.iconst 1, 1) := by decide +kernel
theorem dX1_readWind_53 : decode cX1_readWind 53 = .ok (.iload_n 1, 1) := by decide +kernel
theorem dX1_readWind_54 : decode cX1_readWind 54 = .ok (.ishl, 1) := by decide +kernel
theorem dX1_readWind_55 : decode cX1_readWind 55 = .ok (.ior, 1) := by decide +kernel
theorem dX1_readWind_56 : decode cX1_readWind 56 = .ok (.putfield 38, 3) := by decide +kernel
theorem dX1_readWind_59 : decode cX1_readWind 59 = .ok (.aload_n 0, 1) := by decide +kernel
theorem dX1_readWind_60 : decode cX1_readWind 60 = .ok (.getfield 21, 3) := by decide +kernel
theorem dX1_readWind_63 : decode cX1_readWind 63 = .ok (.getfield 129, 3) := by decide +kernel
theorem dX1_readWind_66 : decode cX1_readWind 66 = .ok (.iload_n 1, 1) := by decide +kernel
theorem dX1_readWind_67 : decode cX1_readWind 67 = .ok (.iload_n 2, 1) := by decide +kernel
theorem dX1_readWind_68 : decode cX1_readWind 68 = .ok (.iastore, 1) := by decide +kernel
theorem dX1_readWind_69 : decode cX1_readWind 69 = .ok (.return_, 1) := by decide +kernel
theorem dX1_readPhase_0 : decode cX1_readPhase 0 = .ok (.aload_n 0, 1) := by decide +kernel
theorem dX1_readPhase_1 : decode cX1_readPhase 1 = .ok (.getfield 41, 3) := by decide +kernel
theorem dX1_readPhase_4 : decode cX1_readPhase 4 = .ok (.ifCond .eq 9, 3) := by decide +kernel
theorem dX1_readPhase_7 : decode cX1_readPhase 7 = .ok (.aload_n 0, 1) := by decide +kernel
theorem dX1_readPhase_8 : decode cX1_readPhase 8 = .ok (.iconst 4, 1) := by decide +kernel
theorem dX1_readPhase_9 : decode cX1_readPhase 9 = .ok (.invokevirtual 96, 3) := by decide +kernel
theorem dX1_readPhase_12 : decode cX1_readPhase 12 = .ok (.return_, 1) := by decide +kernel
theorem dX1_readPhase_13 : decode cX1_readPhase 13 = .ok (.aload_n 0, 1) := by decide +kernel
theorem dX1_readPhase_14 : decode cX1_readPhase 14 = .ok (.iconst 1, 1) := by decide +kernel
theorem dX1_readPhase_15 : decode cX1_readPhase 15 = .ok (.putfield 41, 3) := by decide +kernel
theorem dX1_readPhase_18 : decode cX1_readPhase 18 = .ok (.aload_n 0, 1) := by decide +kernel
theorem dX1_readPhase_19 : decode cX1_readPhase 19 = .ok (.getfield 21, 3) := by decide +kernel
theorem dX1_readPhase_22 : decode cX1_readPhase 22 = .ok (.aload_n 0, 1) := by decide +kernel
theorem dX1_readPhase_23 : decode cX1_readPhase 23 = .ok (.iconst 0, 1) := by decide +kernel
theorem dX1_readPhase_24 : decode cX1_readPhase 24 = .ok (.iconst 5, 1) := by decide +kernel
theorem dX1_readPhase_25 : decode cX1_readPhase 25 = .ok (.invokevirtual 110, 3) := by decide +kernel
theorem dX1_readPhase_28 : decode cX1_readPhase 28 = .ok (.putfield 132, 3) := by decide +kernel
theorem dX1_readPhase_31 : decode cX1_readPhase 31 = .ok (.return_, 1) := by decide +kernel
theorem dX1_readNumber_0 : decode cX1_readNumber 0 = .ok (.aload_n 0, 1) := by decide +kernel
theorem dX1_readNumber_1 : decode cX1_readNumber 1 = .ok (.getfield 31, 3) := by decide +kernel
theorem dX1_readNumber_4 : decode cX1_readNumber 4 = .ok (.ifCond .eq 5, 3) := by decide +kernel
theorem dX1_readNumber_7 : decode cX1_readNumber 7 = .ok (.iload_n 1, 1) := by decide +kernel
theorem dX1_readNumber_8 : decode cX1_readNumber 8 = .ok (.ireturn, 1) := by decide +kernel
theorem dX1_readNumber_9 : decode cX1_readNumber 9 = .ok (.aload_n 0, 1) := by decide +kernel
theorem dX1_readNumber_10 : decode cX1_readNumber 10 = .ok (.getfield 12, 3) := by decide +kernel
theorem dX1_readNumber_13 : decode cX1_readNumber 13 = .ok (.invokevirtual 45, 3) := by decide +kernel
theorem dX1_readNumber_16 : decode cX1_readNumber 16 = .ok (.aload_n 0, 1) := by decide +kernel
theorem dX1_readNumber_17 : decode cX1_readNumber 17 = .ok (.getfield 12, 3) := by decide +kernel
theorem dX1_readNumber_20 : decode cX1_readNumber 20 = .ok (.getfield 48, 3) := by decide +kernel
theorem dX1_readNumber_23 : decode cX1_readNumber 23 = .ok (.iconst 2, 1) := by decide +kernel
theorem dX1_readNumber_24 : decode cX1_readNumber 24 = .ok (.if_icmp .eq 10, 3) := by decide +kernel
theorem dX1_readNumber_27 : decode cX1_readNumber 27 = .ok (.aload_n 0, 1) := by decide +kernel
theorem dX1_readNumber_28 : decode cX1_readNumber 28 = .ok (.invokevirtual 90, 3) := by decide +kernel
theorem dX1_readNumber_31 : decode cX1_readNumber 31 = .ok (.goto 23, 3) := by decide +kernel
theorem dX1_readNumber_34 : decode cX1_readNumber 34 = .ok (.aload_n 0, 1) := by decide +kernel
theorem dX1_readNumber_35 : decode cX1_readNumber 35 = .ok (.getfield 12, 3) := by decide +kernel
theorem dX1_readNumber_38 : decode cX1_readNumber 38 = .ok (.getfield 134, 3) := by decide +kernel
theorem dX1_readNumber_41 : decode cX1_readNumber 41 = .ok (.iload_n 1, 1) := by decide +kernel
theorem dX1_readNumber_42 : decode cX1_readNumber 42 = .ok (.iload_n 2, 1) := by decide +kernel
theorem dX1_readNumber_43 : decode cX1_readNumber 43 = .ok (.invokestatic 137, 3) := by decide +kernel
theorem dX1_readNumber_46 : decode cX1_readNumber 46 = .ok (.ifCond .ne 8, 3) := by decide +kernel
theorem dX1_readNumber_49 : decode cX1_readNumber 49 = .ok (.aload_n 0, 1) := by decide +kernel
theorem dX1_readNumber_50 : decode cX1_readNumber 50 = .ok (.iconst 3, 1) := by decide +kernel
theorem dX1_readNumber_51 : decode cX1_readNumber 51 = .ok (.invokevirtual 96, 3) := by decide +kernel
theorem dX1_readNumber_54 : decode cX1_readNumber 54 = .ok (.aload_n 0, 1) := by decide +kernel
theorem dX1_readNumber_55 : decode cX1_readNumber 55 = .ok (.getfield 31, 3) := by decide +kernel
theorem dX1_readNumber_58 : decode cX1_readNumber 58 = .ok (.ifCond .ne 13, 3) := by decide +kernel
theorem dX1_readNumber_61 : decode cX1_readNumber 61 = .ok (.aload_n 0, 1) := by decide +kernel
theorem dX1_readNumber_62 : decode cX1_readNumber 62 = .ok (.getfield 12, 3) := by decide +kernel
theorem dX1_readNumber_65 : decode cX1_readNumber 65 = .ok (.getfield 134, 3) := by decide +kernel
theorem dX1_readNumber_68 : decode cX1_readNumber 68 = .ok (.goto 4, 3) := by decide +kernel
theorem dX1_readNumber_71 : decode cX1_readNumber 71 = .ok (.iload_n 1, 1) := by decide +kernel
theorem dX1_readNumber_72 : decode cX1_readNumber 72 = .ok (.ireturn, 1) := by decide +kernel
theorem dX1_failToken_0 : decode cX1_failToken 0 = .ok (.aload_n 0, 1) := by decide +kernel
theorem dX1_failToken_1 : decode cX1_failToken 1 = .ok (.aload_n 0, 1) := by decide +kernel
theorem dX1_failToken_2 : decode cX1_failToken 2 = .ok (.getfield 12, 3) := by decide +kernel
theorem dX1_failToken_5 : decode cX1_failToken 5 = .ok (.getfield 48, 3) := by decide +kernel
theorem dX1_failToken_8 : decode cX1_failToken 8 = .ok (.iconst 4, 1) := by decide +kernel
theorem dX1_failToken_9 : decode cX1_failToken 9 = .ok (.if_icmp .ne 7, 3) := by decide +kernel
theorem dX1_failToken_12 : decode cX1_failToken 12 = .ok (.iconst 1, 1) := by decide +kernel
theorem dX1_failToken_13 : decode cX1_failToken 13 = .ok (.goto 4, 3) := by decide +kernel
theorem dX1_failToken_16 : decode cX1_failToken 16 = .ok (.iconst 2, 1) := by decide +kernel
theorem dX1_failToken_17 : decode cX1_failToken 17 = .ok (.invokevirtual 96, 3) := by decide +kernel
theorem dX1_failToken_20 : decode cX1_failToken 20 = .ok (.return_, 1) := by decide +kernel
theorem dX1_fail_0 : decode cX1_fail 0 = .ok (.aload_n 0, 1) := by decide +kernel
theorem dX1_fail_1 : decode cX1_fail 1 = .ok (.iload_n 1, 1) := by decide +kernel
theorem dX1_fail_2 : decode cX1_fail 2 = .ok (.putfield 31, 3) := by decide +kernel
theorem dX1_fail_5 : decode cX1_fail 5 = .ok (.aload_n 0, 1) := by decide +kernel
theorem dX1_fail_6 : decode cX1_fail 6 = .ok (.aload_n 0, 1) := by decide +kernel
theorem dX1_fail_7 : decode cX1_fail 7 = .ok (.getfield 12, 3) := by decide +kernel
theorem dX1_fail_10 : decode cX1_fail 10 = .ok (.getfield 141, 3) := by decide +kernel
theorem dX1_fail_13 : decode cX1_fail 13 = .ok (.putfield 144, 3) := by decide +kernel
theorem dX1_fail_16 : decode cX1_fail 16 = .ok (.return_, 1) := by decide +kernel
theorem dX2_init_0 : decode cX2_init 0 = .ok (.aload_n 0, 1) := by decide +kernel
theorem dX2_init_1 : decode cX2_init 1 = .ok (.invokespecial 3, 3) := by decide +kernel
theorem dX2_init_4 : decode cX2_init 4 = .ok (.aload_n 0, 1) := by decide +kernel
theorem dX2_init_5 : decode cX2_init 5 = .ok (.bipush 20, 2) := by decide +kernel
theorem dX2_init_7 : decode cX2_init 7 = .ok (.newarray .int, 2) := by decide +kernel
theorem dX2_init_9 : decode cX2_init 9 = .ok (.putfield 9, 3) := by decide +kernel
theorem dX2_init_12 : decode cX2_init 12 = .ok (.aload_n 0, 1) := by decide +kernel
theorem dX2_init_13 : decode cX2_init 13 = .ok (.bipush 16, 2) := by decide +kernel
theorem dX2_init_15 : decode cX2_init 15 = .ok (.newarray .int, 2) := by decide +kernel
theorem dX2_init_17 : decode cX2_init 17 = .ok (.putfield 15, 3) := by decide +kernel
theorem dX2_init_20 : decode cX2_init 20 = .ok (.aload_n 0, 1) := by decide +kernel
theorem dX2_init_21 : decode cX2_init 21 = .ok (.bipush 10, 2) := by decide +kernel
theorem dX2_init_23 : decode cX2_init 23 = .ok (.newarray .int, 2) := by decide +kernel
theorem dX2_init_25 : decode cX2_init 25 = .ok (.putfield 18, 3) := by decide +kernel
theorem dX2_init_28 : decode cX2_init 28 = .ok (.aload_n 0, 1) := by decide +kernel
theorem dX2_init_29 : decode cX2_init 29 = .ok (.bipush 24, 2) := by decide +kernel
theorem dX2_init_31 : decode cX2_init 31 = .ok (.newarray .int, 2) := by decide +kernel
theorem dX2_init_33 : decode cX2_init 33 = .ok (.putfield 21, 3) := by decide +kernel
theorem dX2_init_36 : decode cX2_init 36 = .ok (.aload_n 0, 1) := by decide +kernel
theorem dX2_init_37 : decode cX2_init 37 = .ok (.invokevirtual 24, 3) := by decide +kernel
theorem dX2_init_40 : decode cX2_init 40 = .ok (.return_, 1) := by decide +kernel
theorem dX2_empty_0 : decode cX2_empty 0 = .ok (.aload_n 0, 1) := by decide +kernel
theorem dX2_empty_1 : decode cX2_empty 1 = .ok (.iconst 0, 1) := by decide +kernel
theorem dX2_empty_2 : decode cX2_empty 2 = .ok (.putfield 27, 3) := by decide +kernel
theorem dX2_empty_5 : decode cX2_empty 5 = .ok (.aload_n 0, 1) := by decide +kernel
theorem dX2_empty_6 : decode cX2_empty 6 = .ok (.iconst 0, 1) := by decide +kernel
theorem dX2_empty_7 : decode cX2_empty 7 = .ok (.putfield 31, 3) := by decide +kernel
theorem dX2_empty_10 : decode cX2_empty 10 = .ok (.aload_n 0, 1) := by decide +kernel
theorem dX2_empty_11 : decode cX2_empty 11 = .ok (.iconst 0, 1) := by decide +kernel
theorem dX2_empty_12 : decode cX2_empty 12 = .ok (.putfield 34, 3) := by decide +kernel
theorem dX2_empty_15 : decode cX2_empty 15 = .ok (.iconst 0, 1) := by decide +kernel
theorem dX2_empty_16 : decode cX2_empty 16 = .ok (.istore_n 1, 1) := by decide +kernel
theorem dX2_empty_17 : decode cX2_empty 17 = .ok (.iload_n 1, 1) := by decide +kernel
theorem dX2_empty_18 : decode cX2_empty 18 = .ok (.bipush 10, 2) := by decide +kernel
theorem dX2_empty_20 : decode cX2_empty 20 = .ok (.if_icmp .ge 16, 3) := by decide +kernel
theorem dX2_empty_23 : decode cX2_empty 23 = .ok (.aload_n 0, 1) := by decide +kernel
theorem dX2_empty_24 : decode cX2_empty 24 = .ok (.getfield 18, 3) := by decide +kernel
theorem dX2_empty_27 : decode cX2_empty 27 = .ok (.iload_n 1, 1) := by decide +kernel
theorem dX2_empty_28 : decode cX2_empty 28 = .ok (.iconst 2, 1) := by decide +kernel
theorem dX2_empty_29 : decode cX2_empty 29 = .ok (.iastore, 1) := by decide +kernel
theorem dX2_empty_30 : decode cX2_empty 30 = .ok (.iinc 1 1, 3) := by decide +kernel
theorem dX2_empty_33 : decode cX2_empty 33 = .ok (.goto (-16), 3) := by decide +kernel
theorem dX2_empty_36 : decode cX2_empty 36 = .ok (.iconst 0, 1) := by decide +kernel
theorem dX2_empty_37 : decode cX2_empty 37 = .ok (.istore_n 1, 1) := by decide +kernel
theorem dX2_empty_38 : decode cX2_empty 38 = .ok (.iload_n 1, 1) := by decide +kernel
theorem dX2_empty_39 : decode cX2_empty 39 = .ok (.bipush 24, 2) := by decide +kernel
theorem dX2_empty_41 : decode cX2_empty 41 = .ok (.if_icmp .ge 16, 3) := by decide +kernel
theorem dX2_empty_44 : decode cX2_empty 44 = .ok (.aload_n 0, 1) := by decide +kernel
theorem dX2_empty_45 : decode cX2_empty 45 = .ok (.getfield 21, 3) := by decide +kernel
theorem dX2_empty_48 : decode cX2_empty 48 = .ok (.iload_n 1, 1) := by decide +kernel
theorem dX2_empty_49 : decode cX2_empty 49 = .ok (.iconst 0, 1) := by decide +kernel
theorem dX2_empty_50 : decode cX2_empty 50 = .ok (.iastore, 1) := by decide +kernel
theorem dX2_empty_51 : decode cX2_empty 51 = .ok (.iinc 1 1, 3) := by decide +kernel
theorem dX2_empty_54 : decode cX2_empty 54 = .ok (.goto (-16), 3) := by decide +kernel
theorem dX2_empty_57 : decode cX2_empty 57 = .ok (.return_, 1) := by decide +kernel
theorem dX2_become_0 : decode cX2_become 0 = .ok (.aload_n 0, 1) := by decide +kernel
theorem dX2_become_1 : decode cX2_become 1 = .ok (.aload_n 1, 1) := by decide +kernel
theorem dX2_become_2 : decode cX2_become 2 = .ok (.getfield 27, 3) := by decide +kernel
theorem dX2_become_5 : decode cX2_become 5 = .ok (.putfield 27, 3) := by decide +kernel
theorem dX2_become_8 : decode cX2_become 8 = .ok (.aload_n 0, 1) := by decide +kernel
theorem dX2_become_9 : decode cX2_become 9 = .ok (.aload_n 1, 1) := by decide +kernel
theorem dX2_become_10 : decode cX2_become 10 = .ok (.getfield 31, 3) := by decide +kernel
theorem dX2_become_13 : decode cX2_become 13 = .ok (.putfield 31, 3) := by decide +kernel
theorem dX2_become_16 : decode cX2_become 16 = .ok (.aload_n 0, 1) := by decide +kernel
theorem dX2_become_17 : decode cX2_become 17 = .ok (.aload_n 1, 1) := by decide +kernel
theorem dX2_become_18 : decode cX2_become 18 = .ok (.getfield 34, 3) := by decide +kernel
theorem dX2_become_21 : decode cX2_become 21 = .ok (.putfield 34, 3) := by decide +kernel
theorem dX2_become_24 : decode cX2_become 24 = .ok (.aload_n 1, 1) := by decide +kernel
theorem dX2_become_25 : decode cX2_become 25 = .ok (.getfield 9, 3) := by decide +kernel
theorem dX2_become_28 : decode cX2_become 28 = .ok (.iconst 0, 1) := by decide +kernel
theorem dX2_become_29 : decode cX2_become 29 = .ok (.aload_n 0, 1) := by decide +kernel
theorem dX2_become_30 : decode cX2_become 30 = .ok (.getfield 9, 3) := by decide +kernel
theorem dX2_become_33 : decode cX2_become 33 = .ok (.iconst 0, 1) := by decide +kernel
theorem dX2_become_34 : decode cX2_become 34 = .ok (.bipush 20, 2) := by decide +kernel
theorem dX2_become_36 : decode cX2_become 36 = .ok (.invokestatic 37, 3) := by decide +kernel
theorem dX2_become_39 : decode cX2_become 39 = .ok (.aload_n 1, 1) := by decide +kernel
theorem dX2_become_40 : decode cX2_become 40 = .ok (.getfield 15, 3) := by decide +kernel
theorem dX2_become_43 : decode cX2_become 43 = .ok (.iconst 0, 1) := by decide +kernel
theorem dX2_become_44 : decode cX2_become 44 = .ok (.aload_n 0, 1) := by decide +kernel
theorem dX2_become_45 : decode cX2_become 45 = .ok (.getfield 15, 3) := by decide +kernel
theorem dX2_become_48 : decode cX2_become 48 = .ok (.iconst 0, 1) := by decide +kernel
theorem dX2_become_49 : decode cX2_become 49 = .ok (.bipush 16, 2) := by decide +kernel
theorem dX2_become_51 : decode cX2_become 51 = .ok (.invokestatic 37, 3) := by decide +kernel
theorem dX2_become_54 : decode cX2_become 54 = .ok (.aload_n 1, 1) := by decide +kernel
theorem dX2_become_55 : decode cX2_become 55 = .ok (.getfield 18, 3) := by decide +kernel
theorem dX2_become_58 : decode cX2_become 58 = .ok (.iconst 0, 1) := by decide +kernel
theorem dX2_become_59 : decode cX2_become 59 = .ok (.aload_n 0, 1) := by decide +kernel
theorem dX2_become_60 : decode cX2_become 60 = .ok (.getfield 18, 3) := by decide +kernel
theorem dX2_become_63 : decode cX2_become 63 = .ok (.iconst 0, 1) := by decide +kernel
theorem dX2_become_64 : decode cX2_become 64 = .ok (.bipush 10, 2) := by decide +kernel
theorem dX2_become_66 : decode cX2_become 66 = .ok (.invokestatic 37, 3) := by decide +kernel
theorem dX2_become_69 : decode cX2_become 69 = .ok (.aload_n 1, 1) := by decide +kernel
theorem dX2_become_70 : decode cX2_become 70 = .ok (.getfield 21, 3) := by decide +kernel
theorem dX2_become_73 : decode cX2_become 73 = .ok (.iconst 0, 1) := by decide +kernel
theorem dX2_become_74 : decode cX2_become 74 = .ok (.aload_n 0, 1) := by decide +kernel
theorem dX2_become_75 : decode cX2_become 75 = .ok (.getfield 21, 3) := by decide +kernel
theorem dX2_become_78 : decode cX2_become 78 = .ok (.iconst 0, 1) := by decide +kernel
theorem dX2_become_79 : decode cX2_become 79 = .ok (.bipush 24, 2) := by decide +kernel
theorem dX2_become_81 : decode cX2_become 81 = .ok (.invokestatic 37, 3) := by decide +kernel
theorem dX2_become_84 : decode cX2_become 84 = .ok (.return_, 1) := by decide +kernel
theorem dX2_isTub_0 : decode cX2_isTub 0 = .ok (.iload_n 1, 1) := by decide +kernel
theorem dX2_isTub_1 : decode cX2_isTub 1 = .ok (.ifCond .lt 15, 3) := by decide +kernel
theorem dX2_isTub_4 : decode cX2_isTub 4 = .ok (.iload_n 1, 1) := by decide +kernel
theorem dX2_isTub_5 : decode cX2_isTub 5 = .ok (.aload_n 0, 1) := by decide +kernel
theorem dX2_isTub_6 : decode cX2_isTub 6 = .ok (.getfield 27, 3) := by decide +kernel
theorem dX2_isTub_9 : decode cX2_isTub 9 = .ok (.if_icmp .ge 7, 3) := by decide +kernel
theorem dX2_isTub_12 : decode cX2_isTub 12 = .ok (.iconst 1, 1) := by decide +kernel
theorem dX2_isTub_13 : decode cX2_isTub 13 = .ok (.goto 4, 3) := by decide +kernel
theorem dX2_isTub_16 : decode cX2_isTub 16 = .ok (.iconst 0, 1) := by decide +kernel
theorem dX2_isTub_17 : decode cX2_isTub 17 = .ok (.ireturn, 1) := by decide +kernel
theorem dX2_isHeir_0 : decode cX2_isHeir 0 = .ok (.iload_n 1, 1) := by decide +kernel
theorem dX2_isHeir_1 : decode cX2_isHeir 1 = .ok (.ifCond .lt 15, 3) := by decide +kernel
theorem dX2_isHeir_4 : decode cX2_isHeir 4 = .ok (.iload_n 1, 1) := by decide +kernel
theorem dX2_isHeir_5 : decode cX2_isHeir 5 = .ok (.aload_n 0, 1) := by decide +kernel
theorem dX2_isHeir_6 : decode cX2_isHeir 6 = .ok (.getfield 31, 3) := by decide +kernel
theorem dX2_isHeir_9 : decode cX2_isHeir 9 = .ok (.if_icmp .ge 7, 3) := by decide +kernel
theorem dX2_isHeir_12 : decode cX2_isHeir 12 = .ok (.iconst 1, 1) := by decide +kernel
theorem dX2_isHeir_13 : decode cX2_isHeir 13 = .ok (.goto 4, 3) := by decide +kernel
theorem dX2_isHeir_16 : decode cX2_isHeir 16 = .ok (.iconst 0, 1) := by decide +kernel
theorem dX2_isHeir_17 : decode cX2_isHeir 17 = .ok (.ireturn, 1) := by decide +kernel
theorem dX2_ofTub_0 : decode cX2_ofTub 0 = .ok (.aload_n 0, 1) := by decide +kernel
theorem dX2_ofTub_1 : decode cX2_ofTub 1 = .ok (.getfield 9, 3) := by decide +kernel
theorem dX2_ofTub_4 : decode cX2_ofTub 4 = .ok (.iconst 5, 1) := by decide +kernel
theorem dX2_ofTub_5 : decode cX2_ofTub 5 = .ok (.iload_n 1, 1) := by decide +kernel
theorem dX2_ofTub_6 : decode cX2_ofTub 6 = .ok (.imul, 1) := by decide +kernel
theorem dX2_ofTub_7 : decode cX2_ofTub 7 = .ok (.iload_n 2, 1) := by decide +kernel
theorem dX2_ofTub_8 : decode cX2_ofTub 8 = .ok (.iadd, 1) := by decide +kernel
theorem dX2_ofTub_9 : decode cX2_ofTub 9 = .ok (.iaload, 1) := by decide +kernel
theorem dX2_ofTub_10 : decode cX2_ofTub 10 = .ok (.ireturn, 1) := by decide +kernel
theorem dX2_putTub_0 : decode cX2_putTub 0 = .ok (.aload_n 0, 1) := by decide +kernel
theorem dX2_putTub_1 : decode cX2_putTub 1 = .ok (.getfield 9, 3) := by decide +kernel
theorem dX2_putTub_4 : decode cX2_putTub 4 = .ok (.iconst 5, 1) := by decide +kernel
theorem dX2_putTub_5 : decode cX2_putTub 5 = .ok (.iload_n 1, 1) := by decide +kernel
theorem dX2_putTub_6 : decode cX2_putTub 6 = .ok (.imul, 1) := by decide +kernel
theorem dX2_putTub_7 : decode cX2_putTub 7 = .ok (.iload_n 2, 1) := by decide +kernel
theorem dX2_putTub_8 : decode cX2_putTub 8 = .ok (.iadd, 1) := by decide +kernel
theorem dX2_putTub_9 : decode cX2_putTub 9 = .ok (.iload_n 3, 1) := by decide +kernel
theorem dX2_putTub_10 : decode cX2_putTub 10 = .ok (.iastore, 1) := by decide +kernel
theorem dX2_putTub_11 : decode cX2_putTub 11 = .ok (.return_, 1) := by decide +kernel
theorem dX2_moveTub_0 : decode cX2_moveTub 0 = .ok (.aload_n 0, 1) := by decide +kernel
theorem dX2_moveTub_1 : decode cX2_moveTub 1 = .ok (.iload_n 1, 1) := by decide +kernel
theorem dX2_moveTub_2 : decode cX2_moveTub 2 = .ok (.iconst 1, 1) := by decide +kernel
theorem dX2_moveTub_3 : decode cX2_moveTub 3 = .ok (.iload_n 2, 1) := by decide +kernel
theorem dX2_moveTub_4 : decode cX2_moveTub 4 = .ok (.invokevirtual 43, 3) := by decide +kernel
theorem dX2_moveTub_7 : decode cX2_moveTub 7 = .ok (.aload_n 0, 1) := by decide +kernel
theorem dX2_moveTub_8 : decode cX2_moveTub 8 = .ok (.iload_n 1, 1) := by decide +kernel
theorem dX2_moveTub_9 : decode cX2_moveTub 9 = .ok (.iconst 2, 1) := by decide +kernel
theorem dX2_moveTub_10 : decode cX2_moveTub 10 = .ok (.iload_n 3, 1) := by decide +kernel
theorem dX2_moveTub_11 : decode cX2_moveTub 11 = .ok (.invokevirtual 43, 3) := by decide +kernel
theorem dX2_moveTub_14 : decode cX2_moveTub 14 = .ok (.return_, 1) := by decide +kernel
theorem dX2_ofHeir_0 : decode cX2_ofHeir 0 = .ok (.aload_n 0, 1) := by decide +kernel
theorem dX2_ofHeir_1 : decode cX2_ofHeir 1 = .ok (.getfield 15, 3) := by decide +kernel
theorem dX2_ofHeir_4 : decode cX2_ofHeir 4 = .ok (.iconst 4, 1) := by decide +kernel
theorem dX2_ofHeir_5 : decode cX2_ofHeir 5 = .ok (.iload_n 1, 1) := by decide +kernel
theorem dX2_ofHeir_6 : decode cX2_ofHeir 6 = .ok (.imul, 1) := by decide +kernel
theorem dX2_ofHeir_7 : decode cX2_ofHeir 7 = .ok (.iload_n 2, 1) := by decide +kernel
theorem dX2_ofHeir_8 : decode cX2_ofHeir 8 = .ok (.iadd, 1) := by decide +kernel
theorem dX2_ofHeir_9 : decode cX2_ofHeir 9 = .ok (.iaload, 1) := by decide +kernel
theorem dX2_ofHeir_10 : decode cX2_ofHeir 10 = .ok (.ireturn, 1) := by decide +kernel
theorem dX2_putHeir_0 : decode cX2_putHeir 0 = .ok (.aload_n 0, 1) := by decide +kernel
theorem dX2_putHeir_1 : decode cX2_putHeir 1 = .ok (.getfield 15, 3) := by decide +kernel
theorem dX2_putHeir_4 : decode cX2_putHeir 4 = .ok (.iconst 4, 1) := by decide +kernel
theorem dX2_putHeir_5 : decode cX2_putHeir 5 = .ok (.iload_n 1, 1) := by decide +kernel
theorem dX2_putHeir_6 : decode cX2_putHeir 6 = .ok (.imul, 1) := by decide +kernel
theorem dX2_putHeir_7 : decode cX2_putHeir 7 = .ok (.iload_n 2, 1) := by decide +kernel
theorem dX2_putHeir_8 : decode cX2_putHeir 8 = .ok (.iadd, 1) := by decide +kernel
theorem dX2_putHeir_9 : decode cX2_putHeir 9 = .ok (.iload_n 3, 1) := by decide +kernel
theorem dX2_putHeir_10 : decode cX2_putHeir 10 = .ok (.iastore, 1) := by decide +kernel
theorem dX2_putHeir_11 : decode cX2_putHeir 11 = .ok (.return_, 1) := by decide +kernel
theorem dX2_estates_0 : decode cX2_estates 0 = .ok (.iconst 0, 1) := by decide +kernel
theorem dX2_estates_1 : decode cX2_estates 1 = .ok (.istore_n 1, 1) := by decide +kernel
theorem dX2_estates_2 : decode cX2_estates 2 = .ok (.iconst 0, 1) := by decide +kernel
theorem dX2_estates_3 : decode cX2_estates 3 = .ok (.istore_n 2, 1) := by decide +kernel
theorem dX2_estates_4 : decode cX2_estates 4 = .ok (.iload_n 2, 1) := by decide +kernel
theorem dX2_estates_5 : decode cX2_estates 5 = .ok (.aload_n 0, 1) := by decide +kernel
theorem dX2_estates_6 : decode cX2_estates 6 = .ok (.getfield 27, 3) := by decide +kernel
theorem dX2_estates_9 : decode cX2_estates 9 = .ok (.if_icmp .ge 18, 3) := by decide +kernel
theorem dX2_estates_12 : decode cX2_estates 12 = .ok (.iload_n 1, 1) := by decide +kernel
theorem dX2_estates_13 : decode cX2_estates 13 = .ok (.aload_n 0, 1) := by decide +kernel
theorem dX2_estates_14 : decode cX2_estates 14 = .ok (.iload_n 2, 1) := by decide +kernel
theorem dX2_estates_15 : decode cX2_estates 15 = .ok (.iconst 4, 1) := by decide +kernel
theorem dX2_estates_16 : decode cX2_estates 16 = .ok (.invokevirtual 47, 3) := by decide +kernel
theorem dX2_estates_19 : decode cX2_estates 19 = .ok (.iadd, 1) := by decide +kernel
theorem dX2_estates_20 : decode cX2_estates 20 = .ok (.istore_n 1, 1) := by decide +kernel
theorem dX2_estates_21 : decode cX2_estates 21 = .ok (.iinc 2 1, 3) := by decide +kernel
theorem dX2_estates_24 : decode cX2_estates 24 = .ok (.goto (-20), 3) := by decide +kernel
theorem dX2_estates_27 : decode cX2_estates 27 = .ok (.iload_n 1, 1) := by decide +kernel
theorem dX2_estates_28 : decode cX2_estates 28 = .ok (.ireturn, 1) := by decide +kernel
theorem dX2_hooks_0 : decode cX2_hooks 0 = .ok (.iconst 0, 1) := by decide +kernel
theorem dX2_hooks_1 : decode cX2_hooks 1 = .ok (.istore_n 1, 1) := by decide +kernel
theorem dX2_hooks_2 : decode cX2_hooks 2 = .ok (.iconst 0, 1) := by decide +kernel
theorem dX2_hooks_3 : decode cX2_hooks 3 = .ok (.istore_n 2, 1) := by decide +kernel
theorem dX2_hooks_4 : decode cX2_hooks 4 = .ok (.iload_n 2, 1) := by decide +kernel
theorem dX2_hooks_5 : decode cX2_hooks 5 = .ok (.aload_n 0, 1) := by decide +kernel
theorem dX2_hooks_6 : decode cX2_hooks 6 = .ok (.getfield 31, 3) := by decide +kernel
theorem dX2_hooks_9 : decode cX2_hooks 9 = .ok (.if_icmp .ge 18, 3) := by decide +kernel
theorem dX2_hooks_12 : decode cX2_hooks 12 = .ok (.iload_n 1, 1) := by decide +kernel
theorem dX2_hooks_13 : decode cX2_hooks 13 = .ok (.aload_n 0, 1) := by decide +kernel
theorem dX2_hooks_14 : decode cX2_hooks 14 = .ok (.iload_n 2, 1) := by decide +kernel
theorem dX2_hooks_15 : decode cX2_hooks 15 = .ok (.iconst 3, 1) := by decide +kernel
theorem dX2_hooks_16 : decode cX2_hooks 16 = .ok (.invokevirtual 51, 3) := by decide +kernel
theorem dX2_hooks_19 : decode cX2_hooks 19 = .ok (.iadd, 1) := by decide +kernel
theorem dX2_hooks_20 : decode cX2_hooks 20 = .ok (.istore_n 1, 1) := by decide +kernel
theorem dX2_hooks_21 : decode cX2_hooks 21 = .ok (.iinc 2 1, 3) := by decide +kernel
theorem dX2_hooks_24 : decode cX2_hooks 24 = .ok (.goto (-20), 3) := by decide +kernel
theorem dX2_hooks_27 : decode cX2_hooks 27 = .ok (.iload_n 1, 1) := by decide +kernel
theorem dX2_hooks_28 : decode cX2_hooks 28 = .ok (.ireturn, 1) := by decide +kernel
theorem dX2_moving_0 : decode cX2_moving 0 = .ok (.iconst 0, 1) := by decide +kernel
theorem dX2_moving_1 : decode cX2_moving 1 = .ok (.istore_n 1, 1) := by decide +kernel
theorem dX2_moving_2 : decode cX2_moving 2 = .ok (.iconst 0, 1) := by decide +kernel
theorem dX2_moving_3 : decode cX2_moving 3 = .ok (.istore_n 2, 1) := by decide +kernel
theorem dX2_moving_4 : decode cX2_moving 4 = .ok (.iload_n 2, 1) := by decide +kernel
theorem dX2_moving_5 : decode cX2_moving 5 = .ok (.bipush 10, 2) := by decide +kernel
theorem dX2_moving_7 : decode cX2_moving 7 = .ok (.if_icmp .ge 22, 3) := by decide +kernel
theorem dX2_moving_10 : decode cX2_moving 10 = .ok (.aload_n 0, 1) := by decide +kernel
theorem dX2_moving_11 : decode cX2_moving 11 = .ok (.getfield 18, 3) := by decide +kernel
theorem dX2_moving_14 : decode cX2_moving 14 = .ok (.iload_n 2, 1) := by decide +kernel
theorem dX2_moving_15 : decode cX2_moving 15 = .ok (.iaload, 1) := by decide +kernel
theorem dX2_moving_16 : decode cX2_moving 16 = .ok (.iconst 2, 1) := by decide +kernel
theorem dX2_moving_17 : decode cX2_moving 17 = .ok (.if_icmp .eq 6, 3) := by decide +kernel
theorem dX2_moving_20 : decode cX2_moving 20 = .ok (.iinc 1 1, 3) := by decide +kernel
theorem dX2_moving_23 : decode cX2_moving 23 = .ok (.iinc 2 1, 3) := by decide +kernel
theorem dX2_moving_26 : decode cX2_moving 26 = .ok (.goto (-22), 3) := by decide +kernel
theorem dX2_moving_29 : decode cX2_moving 29 = .ok (.iload_n 1, 1) := by decide +kernel
theorem dX2_moving_30 : decode cX2_moving 30 = .ok (.ireturn, 1) := by decide +kernel
theorem dX2_tideAt_0 : decode cX2_tideAt 0 = .ok (.iload_n 1, 1) := by decide +kernel
theorem dX2_tideAt_1 : decode cX2_tideAt 1 = .ok (.aload_n 0, 1) := by decide +kernel
theorem dX2_tideAt_2 : decode cX2_tideAt 2 = .ok (.getfield 34, 3) := by decide +kernel
theorem dX2_tideAt_5 : decode cX2_tideAt 5 = .ok (.iadd, 1) := by decide +kernel
theorem dX2_tideAt_6 : decode cX2_tideAt 6 = .ok (.iconst 3, 1) := by decide +kernel
theorem dX2_tideAt_7 : decode cX2_tideAt 7 = .ok (.idiv, 1) := by decide +kernel
theorem dX2_tideAt_8 : decode cX2_tideAt 8 = .ok (.iconst 2, 1) := by decide +kernel
theorem dX2_tideAt_9 : decode cX2_tideAt 9 = .ok (.irem, 1) := by decide +kernel
theorem dX2_tideAt_10 : decode cX2_tideAt 10 = .ok (.ifCond .ne 7, 3) := by decide +kernel
theorem dX2_tideAt_13 : decode cX2_tideAt 13 = .ok (.iconst 1, 1) := by decide +kernel
theorem dX2_tideAt_14 : decode cX2_tideAt 14 = .ok (.goto 4, 3) := by decide +kernel
theorem dX2_tideAt_17 : decode cX2_tideAt 17 = .ok (.iconst (-1), 1) := by decide +kernel
theorem dX2_tideAt_18 : decode cX2_tideAt 18 = .ok (.ireturn, 1) := by decide +kernel
theorem dX3_init_0 : decode cX3_init 0 = .ok (.aload_n 0, 1) := by decide +kernel
theorem dX3_init_1 : decode cX3_init 1 = .ok (.invokespecial 3, 3) := by decide +kernel
theorem dX3_init_4 : decode cX3_init 4 = .ok (.aload_n 0, 1) := by decide +kernel
theorem dX3_init_5 : decode cX3_init 5 = .ok (.bipush 40, 2) := by decide +kernel
theorem dX3_init_7 : decode cX3_init 7 = .ok (.newarray .int, 2) := by decide +kernel
theorem dX3_init_9 : decode cX3_init 9 = .ok (.putfield 9, 3) := by decide +kernel
theorem dX3_init_12 : decode cX3_init 12 = .ok (.aload_n 0, 1) := by decide +kernel
theorem dX3_init_13 : decode cX3_init 13 = .ok (.bipush (-4), 2) := by decide +kernel
theorem dX3_init_15 : decode cX3_init 15 = .ok (.putfield 15, 3) := by decide +kernel
theorem dX3_init_18 : decode cX3_init 18 = .ok (.return_, 1) := by decide +kernel
theorem dX3_renew_0 : decode cX3_renew 0 = .ok (.aload_n 0, 1) := by decide +kernel
theorem dX3_renew_1 : decode cX3_renew 1 = .ok (.iload_n 1, 1) := by decide +kernel
theorem dX3_renew_2 : decode cX3_renew 2 = .ok (.putfield 15, 3) := by decide +kernel
theorem dX3_renew_5 : decode cX3_renew 5 = .ok (.aload_n 0, 1) := by decide +kernel
theorem dX3_renew_6 : decode cX3_renew 6 = .ok (.iload_n 2, 1) := by decide +kernel
theorem dX3_renew_7 : decode cX3_renew 7 = .ok (.putfield 19, 3) := by decide +kernel
theorem dX3_renew_10 : decode cX3_renew 10 = .ok (.iconst 0, 1) := by decide +kernel
theorem dX3_renew_11 : decode cX3_renew 11 = .ok (.istore_n 3, 1) := by decide +kernel
theorem dX3_renew_12 : decode cX3_renew 12 = .ok (.iload_n 3, 1) := by decide +kernel
theorem dX3_renew_13 : decode cX3_renew 13 = .ok (.bipush 40, 2) := by decide +kernel
theorem dX3_renew_15 : decode cX3_renew 15 = .ok (.if_icmp .ge 16, 3) := by decide +kernel
theorem dX3_renew_18 : decode cX3_renew 18 = .ok (.aload_n 0, 1) := by decide +kernel
theorem dX3_renew_19 : decode cX3_renew 19 = .ok (.getfield 9, 3) := by decide +kernel
theorem dX3_renew_22 : decode cX3_renew 22 = .ok (.iload_n 3, 1) := by decide +kernel
theorem dX3_renew_23 : decode cX3_renew 23 = .ok (.iconst 0, 1) := by decide +kernel
theorem dX3_renew_24 : decode cX3_renew 24 = .ok (.iastore, 1) := by decide +kernel
theorem dX3_renew_25 : decode cX3_renew 25 = .ok (.iinc 3 1, 3) := by decide +kernel
theorem dX3_renew_28 : decode cX3_renew 28 = .ok (.goto (-16), 3) := by decide +kernel
theorem dX3_renew_31 : decode cX3_renew 31 = .ok (.return_, 1) := by decide +kernel
theorem dX3_faultOf_0 : decode cX3_faultOf 0 = .ok (.aload_n 0, 1) := by decide +kernel
theorem dX3_faultOf_1 : decode cX3_faultOf 1 = .ok (.getfield 15, 3) := by decide +kernel
theorem dX3_faultOf_4 : decode cX3_faultOf 4 = .ok (.bipush (-4), 2) := by decide +kernel
theorem dX3_faultOf_6 : decode cX3_faultOf 6 = .ok (.if_icmp .ne 5, 3) := by decide +kernel
theorem dX3_faultOf_9 : decode cX3_faultOf 9 = .ok (.iconst 1, 1) := by decide +kernel
theorem dX3_faultOf_10 : decode cX3_faultOf 10 = .ok (.ireturn, 1) := by decide +kernel
theorem dX3_faultOf_11 : decode cX3_faultOf 11 = .ok (.aload_n 0, 1) := by decide +kernel
theorem dX3_faultOf_12 : decode cX3_faultOf 12 = .ok (.getfield 15, 3) := by decide +kernel
theorem dX3_faultOf_15 : decode cX3_faultOf 15 = .ok (.iload_n 1, 1) := by decide +kernel
theorem dX3_faultOf_16 : decode cX3_faultOf 16 = .ok (.if_icmp .eq 5, 3) := by decide +kernel
theorem dX3_faultOf_19 : decode cX3_faultOf 19 = .ok (.iconst 3, 1) := by decide +kernel
theorem dX3_faultOf_20 : decode cX3_faultOf 20 = .ok (.ireturn, 1) := by decide +kernel
theorem dX3_faultOf_21 : decode cX3_faultOf 21 = .ok (.iload_n 2, 1) := by decide +kernel
theorem dX3_faultOf_22 : decode cX3_faultOf 22 = .ok (.ifCond .lt 13, 3) := by decide +kernel
theorem dX3_faultOf_25 : decode cX3_faultOf 25 = .ok (.iload_n 2, 1) := by decide +kernel
theorem dX3_faultOf_26 : decode cX3_faultOf 26 = .ok (.aload_n 0, 1) := by decide +kernel
theorem dX3_faultOf_27 : decode cX3_faultOf 27 = .ok (.getfield 19, 3) := by decide +kernel
theorem dX3_faultOf_30 : decode cX3_faultOf 30 = .ok (.iload_n 3, 1) := by decide +kernel
theorem dX3_faultOf_31 : decode cX3_faultOf 31 = .ok (.isub, 1) := by decide +kernel
theorem dX3_faultOf_32 : decode cX3_faultOf 32 = .ok (.if_icmp .le 7, 3) := by decide +kernel
theorem dX3_faultOf_35 : decode cX3_faultOf 35 = .ok (.iconst 2, 1) := by decide +kernel
theorem dX3_faultOf_36 : decode cX3_faultOf 36 = .ok (.goto 4, 3) := by decide +kernel
theorem dX3_faultOf_39 : decode cX3_faultOf 39 = .ok (.iconst 0, 1) := by decide +kernel
theorem dX3_faultOf_40 : decode cX3_faultOf 40 = .ok (.ireturn, 1) := by decide +kernel
theorem dX3_put_0 : decode cX3_put 0 = .ok (.aload_n 0, 1) := by decide +kernel
theorem dX3_put_1 : decode cX3_put 1 = .ok (.getfield 15, 3) := by decide +kernel
theorem dX3_put_4 : decode cX3_put 4 = .ok (.lookupswitch 50 #[(0, 28), (1, 39)], 28) := by decide +kernel
theorem dX3_put_32 : decode cX3_put 32 = .ok (.aload_n 0, 1) := by decide +kernel
theorem dX3_put_33 : decode cX3_put 33 = .ok (.getfield 9, 3) := by decide +kernel
theorem dX3_put_36 : decode cX3_put 36 = .ok (.iload_n 1, 1) := by decide +kernel
theorem dX3_put_37 : decode cX3_put 37 = .ok (.iload_n 2, 1) := by decide +kernel
theorem dX3_put_38 : decode cX3_put 38 = .ok (.i2b, 1) := by decide +kernel
theorem dX3_put_39 : decode cX3_put 39 = .ok (.iastore, 1) := by decide +kernel
theorem dX3_put_40 : decode cX3_put 40 = .ok (.goto 21, 3) := by decide +kernel
theorem dX3_put_43 : decode cX3_put 43 = .ok (.aload_n 0, 1) := by decide +kernel
theorem dX3_put_44 : decode cX3_put 44 = .ok (.getfield 9, 3) := by decide +kernel
theorem dX3_put_47 : decode cX3_put 47 = .ok (.iload_n 1, 1) := by decide +kernel
theorem dX3_put_48 : decode cX3_put 48 = .ok (.iload_n 2, 1) := by decide +kernel
theorem dX3_put_49 : decode cX3_put 49 = .ok (.i2s, 1) := by decide +kernel
theorem dX3_put_50 : decode cX3_put 50 = .ok (.iastore, 1) := by decide +kernel
theorem dX3_put_51 : decode cX3_put 51 = .ok (.goto 10, 3) := by decide +kernel
theorem dX3_put_54 : decode cX3_put 54 = .ok (.aload_n 0, 1) := by decide +kernel
theorem dX3_put_55 : decode cX3_put 55 = .ok (.getfield 9, 3) := by decide +kernel
theorem dX3_put_58 : decode cX3_put 58 = .ok (.iload_n 1, 1) := by decide +kernel
theorem dX3_put_59 : decode cX3_put 59 = .ok (.iload_n 2, 1) := by decide +kernel
theorem dX3_put_60 : decode cX3_put 60 = .ok (.iastore, 1) := by decide +kernel
theorem dX3_put_61 : decode cX3_put 61 = .ok (.return_, 1) := by decide +kernel
theorem dX4_init_0 : decode cX4_init 0 = .ok (.aload_n 0, 1) := by decide +kernel
theorem dX4_init_1 : decode cX4_init 1 = .ok (.invokespecial 3, 3) := by decide +kernel
theorem dX4_init_4 : decode cX4_init 4 = .ok (.aload_n 0, 1) := by decide +kernel
theorem dX4_init_5 : decode cX4_init 5 = .ok (.sipush 160, 3) := by decide +kernel
theorem dX4_init_8 : decode cX4_init 8 = .ok (.newarray .int, 2) := by decide +kernel
theorem dX4_init_10 : decode cX4_init 10 = .ok (.putfield 9, 3) := by decide +kernel
theorem dX4_init_13 : decode cX4_init 13 = .ok (.return_, 1) := by decide +kernel
theorem dX4_add_0 : decode cX4_add 0 = .ok (.aload_n 0, 1) := by decide +kernel
theorem dX4_add_1 : decode cX4_add 1 = .ok (.getfield 15, 3) := by decide +kernel
theorem dX4_add_4 : decode cX4_add 4 = .ok (.sipush 160, 3) := by decide +kernel
theorem dX4_add_7 : decode cX4_add 7 = .ok (.if_icmp .lt 5, 3) := by decide +kernel
theorem dX4_add_10 : decode cX4_add 10 = .ok (.iconst 0, 1) := by decide +kernel
theorem dX4_add_11 : decode cX4_add 11 = .ok (.ireturn, 1) := by decide +kernel
theorem dX4_add_12 : decode cX4_add 12 = .ok (.aload_n 0, 1) := by decide +kernel
theorem dX4_add_13 : decode cX4_add 13 = .ok (.getfield 9, 3) := by decide +kernel
theorem dX4_add_16 : decode cX4_add 16 = .ok (.aload_n 0, 1) := by decide +kernel
theorem dX4_add_17 : decode cX4_add 17 = .ok (.getfield 15, 3) := by decide +kernel
theorem dX4_add_20 : decode cX4_add 20 = .ok (.iload_n 1, 1) := by decide +kernel
theorem dX4_add_21 : decode cX4_add 21 = .ok (.iastore, 1) := by decide +kernel
theorem dX4_add_22 : decode cX4_add 22 = .ok (.aload_n 0, 1) := by decide +kernel
theorem dX4_add_23 : decode cX4_add 23 = .ok (.dup, 1) := by decide +kernel
theorem dX4_add_24 : decode cX4_add 24 = .ok (.getfield 15, 3) := by decide +kernel
theorem dX4_add_27 : decode cX4_add 27 = .ok (.iconst 1, 1) := by decide +kernel
theorem dX4_add_28 : decode cX4_add 28 = .ok (.iadd, 1) := by decide +kernel
theorem dX4_add_29 : decode cX4_add 29 = .ok (.putfield 15, 3) := by decide +kernel
theorem dX4_add_32 : decode cX4_add 32 = .ok (.iconst 1, 1) := by decide +kernel
theorem dX4_add_33 : decode cX4_add 33 = .ok (.ireturn, 1) := by decide +kernel
theorem dX4_rewind_0 : decode cX4_rewind 0 = .ok (.aload_n 0, 1) := by decide +kernel
theorem dX4_rewind_1 : decode cX4_rewind 1 = .ok (.iconst 0, 1) := by decide +kernel
theorem dX4_rewind_2 : decode cX4_rewind 2 = .ok (.putfield 19, 3) := by decide +kernel
theorem dX4_rewind_5 : decode cX4_rewind 5 = .ok (.return_, 1) := by decide +kernel
theorem dX4_take_0 : decode cX4_take 0 = .ok (.aload_n 0, 1) := by decide +kernel
theorem dX4_take_1 : decode cX4_take 1 = .ok (.getfield 19, 3) := by decide +kernel
theorem dX4_take_4 : decode cX4_take 4 = .ok (.aload_n 0, 1) := by decide +kernel
theorem dX4_take_5 : decode cX4_take 5 = .ok (.getfield 15, 3) := by decide +kernel
theorem dX4_take_8 : decode cX4_take 8 = .ok (.if_icmp .ge 30, 3) := by decide +kernel
theorem dX4_take_11 : decode cX4_take 11 = .ok (.aload_n 0, 1) := by decide +kernel
theorem dX4_take_12 : decode cX4_take 12 = .ok (.getfield 9, 3) := by decide +kernel
theorem dX4_take_15 : decode cX4_take 15 = .ok (.aload_n 0, 1) := by decide +kernel
theorem dX4_take_16 : decode cX4_take 16 = .ok (.getfield 19, 3) := by decide +kernel
theorem dX4_take_19 : decode cX4_take 19 = .ok (.iaload, 1) := by decide +kernel
theorem dX4_take_20 : decode cX4_take 20 = .ok (.bipush 32, 2) := by decide +kernel
theorem dX4_take_22 : decode cX4_take 22 = .ok (.if_icmp .ne 16, 3) := by decide +kernel
theorem dX4_take_25 : decode cX4_take 25 = .ok (.aload_n 0, 1) := by decide +kernel
theorem dX4_take_26 : decode cX4_take 26 = .ok (.dup, 1) := by decide +kernel
theorem dX4_take_27 : decode cX4_take 27 = .ok (.getfield 19, 3) := by decide +kernel
theorem dX4_take_30 : decode cX4_take 30 = .ok (.iconst 1, 1) := by decide +kernel
theorem dX4_take_31 : decode cX4_take 31 = .ok (.iadd, 1) := by decide +kernel
theorem dX4_take_32 : decode cX4_take 32 = .ok (.putfield 19, 3) := by decide +kernel
theorem dX4_take_35 : decode cX4_take 35 = .ok (.goto (-35), 3) := by decide +kernel
theorem dX4_take_38 : decode cX4_take 38 = .ok (.aload_n 0, 1) := by decide +kernel
theorem dX4_take_39 : decode cX4_take 39 = .ok (.aload_n 0, 1) := by decide +kernel
theorem dX4_take_40 : decode cX4_take 40 = .ok (.getfield 19, 3) := by decide +kernel
theorem dX4_take_43 : decode cX4_take 43 = .ok (.putfield 22, 3) := by decide +kernel
theorem dX4_take_46 : decode cX4_take 46 = .ok (.aload_n 0, 1) := by decide +kernel
theorem dX4_take_47 : decode cX4_take 47 = .ok (.iconst 0, 1) := by decide +kernel
theorem dX4_take_48 : decode cX4_take 48 = .ok (.putfield 25, 3) := by decide +kernel
theorem dX4_take_51 : decode cX4_take 51 = .ok (.aload_n 0, 1) := by decide +kernel
theorem dX4_take_52 : decode cX4_take 52 = .ok (.aload_n 0, 1) := by decide +kernel
theorem dX4_take_53 : decode cX4_take 53 = .ok (.getfield 19, 3) := by decide +kernel
theorem dX4_take_56 : decode cX4_take 56 = .ok (.aload_n 0, 1) := by decide +kernel
theorem dX4_take_57 : decode cX4_take 57 = .ok (.getfield 15, 3) := by decide +kernel
theorem dX4_take_60 : decode cX4_take 60 = .ok (.if_icmp .ge 18, 3) := by decide +kernel
theorem dX4_take_63 : decode cX4_take 63 = .ok (.aload_n 0, 1) := by decide +kernel
theorem dX4_take_64 : decode cX4_take 64 = .ok (.getfield 9, 3) := by decide +kernel
theorem dX4_take_67 : decode cX4_take 67 = .ok (.aload_n 0, 1) := by decide +kernel
theorem dX4_take_68 : decode cX4_take 68 = .ok (.getfield 19, 3) := by decide +kernel
theorem dX4_take_71 : decode cX4_take 71 = .ok (.iaload, 1) := by decide +kernel
theorem dX4_take_72 : decode cX4_take 72 = .ok (.invokestatic 28, 3) := by decide +kernel
theorem dX4_take_75 : decode cX4_take 75 = .ok (.goto 4, 3) := by decide +kernel
theorem dX4_take_78 : decode cX4_take 78 = .ok (.iconst 0, 1) := by decide +kernel
theorem dX4_take_79 : decode cX4_take 79 = .ok (.putfield 32, 3) := by decide +kernel
theorem dX4_take_82 : decode cX4_take 82 = .ok (.aload_n 0, 1) := by decide +kernel
theorem dX4_take_83 : decode cX4_take 83 = .ok (.getfield 32, 3) := by decide +kernel
theorem dX4_take_86 : decode cX4_take 86 = .ok (.ifCond .ne 4, 3) := by decide +kernel
theorem dX4_take_89 : decode cX4_take 89 = .ok (.return_, 1) := by decide +kernel
theorem dX4_take_90 : decode cX4_take 90 = .ok (.aload_n 0, 1) := by decide +kernel
theorem dX4_take_91 : decode cX4_take 91 = .ok (.dup, 1) := by decide +kernel
theorem dX4_take_92 : decode cX4_take 92 = .ok (.getfield 19, 3) := by decide +kernel
theorem dX4_take_95 : decode cX4_take 95 = .ok (.iconst 1, 1) := by decide +kernel
theorem dX4_take_96 : decode cX4_take 96 = .ok (.iadd, 1) := by decide +kernel
theorem dX4_take_97 : decode cX4_take 97 = .ok (.putfield 19, 3) := by decide +kernel
theorem dX4_take_100 : decode cX4_take 100 = .ok (.aload_n 0, 1) := by decide +kernel
theorem dX4_take_101 : decode cX4_take 101 = .ok (.getfield 32, 3) := by decide +kernel
theorem dX4_take_104 : decode cX4_take 104 = .ok (.iconst 1, 1) := by decide +kernel
theorem dX4_take_105 : decode cX4_take 105 = .ok (.if_icmp .eq 11, 3) := by decide +kernel
theorem dX4_take_108 : decode cX4_take 108 = .ok (.aload_n 0, 1) := by decide +kernel
theorem dX4_take_109 : decode cX4_take 109 = .ok (.getfield 32, 3) := by decide +kernel
theorem dX4_take_112 : decode cX4_take 112 = .ok (.iconst 2, 1) := by decide +kernel
theorem dX4_take_113 : decode cX4_take 113 = .ok (.if_icmp .ne 7, 3) := by decide +kernel
theorem dX4_take_116 : decode cX4_take 116 = .ok (.iconst 1, 1) := by decide +kernel
theorem dX4_take_117 : decode cX4_take 117 = .ok (.goto 4, 3) := by decide +kernel
theorem dX4_take_120 : decode cX4_take 120 = .ok (.iconst 0, 1) := by decide +kernel
theorem dX4_take_121 : decode cX4_take 121 = .ok (.istore_n 1, 1) := by decide +kernel
theorem dX4_take_122 : decode cX4_take 122 = .ok (.iload_n 1, 1) := by decide +kernel
theorem dX4_take_123 : decode cX4_take 123 = .ok (.ifCond .eq 46, 3) := by decide +kernel
theorem dX4_take_126 : decode cX4_take 126 = .ok (.aload_n 0, 1) := by decide +kernel
theorem dX4_take_127 : decode cX4_take 127 = .ok (.getfield 19, 3) := by decide +kernel
theorem dX4_take_130 : decode cX4_take 130 = .ok (.aload_n 0, 1) := by decide +kernel
theorem dX4_take_131 : decode cX4_take 131 = .ok (.getfield 15, 3) := by decide +kernel
theorem dX4_take_134 : decode cX4_take 134 = .ok (.if_icmp .ge 35, 3) := by decide +kernel
theorem dX4_take_137 : decode cX4_take 137 = .ok (.aload_n 0, 1) := by decide +kernel
theorem dX4_take_138 : decode cX4_take 138 = .ok (.getfield 9, 3) := by decide +kernel
theorem dX4_take_141 : decode cX4_take 141 = .ok (.aload_n 0, 1) := by decide +kernel
theorem dX4_take_142 : decode cX4_take 142 = .ok (.getfield 19, 3) := by decide +kernel
theorem dX4_take_145 : decode cX4_take 145 = .ok (.iaload, 1) := by decide +kernel
theorem dX4_take_146 : decode cX4_take 146 = .ok (.invokestatic 28, 3) := by decide +kernel
theorem dX4_take_149 : decode cX4_take 149 = .ok (.aload_n 0, 1) := by decide +kernel
theorem dX4_take_150 : decode cX4_take 150 = .ok (.getfield 32, 3) := by decide +kernel
theorem dX4_take_153 : decode cX4_take 153 = .ok (.if_icmp .ne 16, 3) := by decide +kernel
theorem dX4_take_156 : decode cX4_take 156 = .ok (.aload_n 0, 1) := by decide +kernel
theorem dX4_take_157 : decode cX4_take 157 = .ok (.dup, 1) := by decide +kernel
theorem dX4_take_158 : decode cX4_take 158 = .ok (.getfield 19, 3) := by decide +kernel
theorem dX4_take_161 : decode cX4_take 161 = .ok (.iconst 1, 1) := by decide +kernel
theorem dX4_take_162 : decode cX4_take 162 = .ok (.iadd, 1) := by decide +kernel
theorem dX4_take_163 : decode cX4_take 163 = .ok (.putfield 19, 3) := by decide +kernel
theorem dX4_take_166 : decode cX4_take 166 = .ok (.goto (-44), 3) := by decide +kernel
theorem dX4_take_169 : decode cX4_take 169 = .ok (.aload_n 0, 1) := by decide +kernel
theorem dX4_take_170 : decode cX4_take 170 = .ok (.getfield 32, 3) := by decide +kernel
theorem dX4_take_173 : decode cX4_take 173 = .ok (.iconst 2, 1) := by decide +kernel
theorem dX4_take_174 : decode cX4_take 174 = .ok (.if_icmp .ne 7, 3) := by decide +kernel
theorem dX4_take_177 : decode cX4_take 177 = .ok (.aload_n 0, 1) := by decide +kernel
theorem dX4_take_178 : decode cX4_take 178 = .ok (.invokevirtual 35, 3) := by decide +kernel
theorem dX4_take_181 : decode cX4_take 181 = .ok (.return_, 1) := by decide +kernel
theorem dX4_weighNumber_0 : decode cX4_weighNumber 0 = .ok (.aload_n 0, 1) := by decide +kernel
theorem dX4_weighNumber_1 : decode cX4_weighNumber 1 = .ok (.getfield 19, 3) := by decide +kernel
theorem dX4_weighNumber_4 : decode cX4_weighNumber 4 = .ok (.aload_n 0, 1) := by decide +kernel
theorem dX4_weighNumber_5 : decode cX4_weighNumber 5 = .ok (.getfield 22, 3) := by decide +kernel
theorem dX4_weighNumber_8 : decode cX4_weighNumber 8 = .ok (.isub, 1) := by decide +kernel
theorem dX4_weighNumber_9 : decode cX4_weighNumber 9 = .ok (.iconst 2, 1) := by decide +kernel
theorem dX4_weighNumber_10 : decode cX4_weighNumber 10 = .ok (.if_icmp .le 9, 3) := by decide +kernel
theorem dX4_weighNumber_13 : decode cX4_weighNumber 13 = .ok (.aload_n 0, 1) := by decide +kernel
theorem dX4_weighNumber_14 : decode cX4_weighNumber 14 = .ok (.iconst 4, 1) := by decide +kernel
theorem dX4_weighNumber_15 : decode cX4_weighNumber 15 = .ok (.putfield 32, 3) := by decide +kernel
theorem dX4_weighNumber_18 : decode cX4_weighNumber 18 = .ok (.return_, 1) := by decide +kernel
theorem dX4_weighNumber_19 : decode cX4_weighNumber 19 = .ok (.aload_n 0, 1) := by decide +kernel
theorem dX4_weighNumber_20 : decode cX4_weighNumber 20 = .ok (.getfield 22, 3) := by decide +kernel
theorem dX4_weighNumber_23 : decode cX4_weighNumber 23 = .ok (.istore_n 1, 1) := by decide +kernel
theorem dX4_weighNumber_24 : decode cX4_weighNumber 24 = .ok (.iload_n 1, 1) := by decide +kernel
theorem dX4_weighNumber_25 : decode cX4_weighNumber 25 = .ok (.aload_n 0, 1) := by decide +kernel
theorem dX4_weighNumber_26 : decode cX4_weighNumber 26 = .ok (.getfield 19, 3) := by decide +kernel
theorem dX4_weighNumber_29 : decode cX4_weighNumber 29 = .ok (.if_icmp .ge 30, 3) := by decide +kernel
theorem dX4_weighNumber_32 : decode cX4_weighNumber 32 = .ok (.aload_n 0, 1) := by decide +kernel
theorem dX4_weighNumber_33 : decode cX4_weighNumber 33 = .ok (.bipush 10, 2) := by decide +kernel
theorem dX4_weighNumber_35 : decode cX4_weighNumber 35 = .ok (.aload_n 0, 1) := by decide +kernel
theorem dX4_weighNumber_36 : decode cX4_weighNumber 36 = .ok (.getfield 25, 3) := by decide +kernel
theorem dX4_weighNumber_39 : decode cX4_weighNumber 39 = .ok (.imul, 1) := by decide +kernel
theorem dX4_weighNumber_40 : decode cX4_weighNumber 40 = .ok (.aload_n 0, 1) := by decide +kernel
theorem dX4_weighNumber_41 : decode cX4_weighNumber 41 = .ok (.getfield 9, 3) := by decide +kernel
theorem dX4_weighNumber_44 : decode cX4_weighNumber 44 = .ok (.iload_n 1, 1) := by decide +kernel
theorem dX4_weighNumber_45 : decode cX4_weighNumber 45 = .ok (.iaload, 1) := by decide +kernel
theorem dX4_weighNumber_46 : decode cX4_weighNumber 46 = .ok (.iadd, 1) := by decide +kernel
theorem dX4_weighNumber_47 : decode cX4_weighNumber 47 = .ok (.bipush 48, 2) := by decide +kernel
theorem dX4_weighNumber_49 : decode cX4_weighNumber 49 = .ok (.isub, 1) := by decide +kernel
theorem dX4_weighNumber_50 : decode cX4_weighNumber 50 = .ok (.putfield 25, 3) := by decide +kernel
theorem dX4_weighNumber_53 : decode cX4_weighNumber 53 = .ok (.iinc 1 1, 3) := by decide +kernel
theorem dX4_weighNumber_56 : decode cX4_weighNumber 56 = .ok (.goto (-32), 3) := by decide +kernel
theorem dX4_weighNumber_59 : decode cX4_weighNumber 59 = .ok (.return_, 1) := by decide +kernel
theorem dX4_isWord_0 : decode cX4_isWord 0 = .ok (.aload_n 0, 1) := by decide +kernel
theorem dX4_isWord_1 : decode cX4_isWord 1 = .ok (.getfield 32, 3) := by decide +kernel
theorem dX4_isWord_4 : decode cX4_isWord 4 = .ok (.iconst 1, 1) := by decide +kernel
theorem dX4_isWord_5 : decode cX4_isWord 5 = .ok (.if_icmp .ne 19, 3) := by decide +kernel
theorem dX4_isWord_8 : decode cX4_isWord 8 = .ok (.aload_n 0, 1) := by decide +kernel
theorem dX4_isWord_9 : decode cX4_isWord 9 = .ok (.getfield 19, 3) := by decide +kernel
theorem dX4_isWord_12 : decode cX4_isWord 12 = .ok (.aload_n 0, 1) := by decide +kernel
theorem dX4_isWord_13 : decode cX4_isWord 13 = .ok (.getfield 22, 3) := by decide +kernel
theorem dX4_isWord_16 : decode cX4_isWord 16 = .ok (.isub, 1) := by decide +kernel
theorem dX4_isWord_17 : decode cX4_isWord 17 = .ok (.aload_n 1, 1) := by decide +kernel
theorem dX4_isWord_18 : decode cX4_isWord 18 = .ok (.invokevirtual 38, 3) := by decide +kernel
theorem dX4_isWord_21 : decode cX4_isWord 21 = .ok (.if_icmp .eq 5, 3) := by decide +kernel
theorem dX4_isWord_24 : decode cX4_isWord 24 = .ok (.iconst 0, 1) := by decide +kernel
theorem dX4_isWord_25 : decode cX4_isWord 25 = .ok (.ireturn, 1) := by decide +kernel
theorem dX4_isWord_26 : decode cX4_isWord 26 = .ok (.iconst 0, 1) := by decide +kernel
theorem dX4_isWord_27 : decode cX4_isWord 27 = .ok (.istore_n 2, 1) := by decide +kernel
theorem dX4_isWord_28 : decode cX4_isWord 28 = .ok (.iload_n 2, 1) := by decide +kernel
theorem dX4_isWord_29 : decode cX4_isWord 29 = .ok (.aload_n 1, 1) := by decide +kernel
theorem dX4_isWord_30 : decode cX4_isWord 30 = .ok (.invokevirtual 38, 3) := by decide +kernel
theorem dX4_isWord_33 : decode cX4_isWord 33 = .ok (.if_icmp .ge 30, 3) := by decide +kernel
theorem dX4_isWord_36 : decode cX4_isWord 36 = .ok (.aload_n 0, 1) := by decide +kernel
theorem dX4_isWord_37 : decode cX4_isWord 37 = .ok (.getfield 9, 3) := by decide +kernel
theorem dX4_isWord_40 : decode cX4_isWord 40 = .ok (.aload_n 0, 1) := by decide +kernel
theorem dX4_isWord_41 : decode cX4_isWord 41 = .ok (.getfield 22, 3) := by decide +kernel
theorem dX4_isWord_44 : decode cX4_isWord 44 = .ok (.iload_n 2, 1) := by decide +kernel
theorem dX4_isWord_45 : decode cX4_isWord 45 = .ok (.iadd, 1) := by decide +kernel
theorem dX4_isWord_46 : decode cX4_isWord 46 = .ok (.iaload, 1) := by decide +kernel
theorem dX4_isWord_47 : decode cX4_isWord 47 = .ok (.aload_n 1, 1) := by decide +kernel
theorem dX4_isWord_48 : decode cX4_isWord 48 = .ok (.iload_n 2, 1) := by decide +kernel
theorem dX4_isWord_49 : decode cX4_isWord 49 = .ok (.invokevirtual 43, 3) := by decide +kernel
theorem dX4_isWord_52 : decode cX4_isWord 52 = .ok (.if_icmp .eq 5, 3) := by decide +kernel
theorem dX4_isWord_55 : decode cX4_isWord 55 = .ok (.iconst 0, 1) := by decide +kernel
theorem dX4_isWord_56 : decode cX4_isWord 56 = .ok (.ireturn, 1) := by decide +kernel
theorem dX4_isWord_57 : decode cX4_isWord 57 = .ok (.iinc 2 1, 3) := by decide +kernel
theorem dX4_isWord_60 : decode cX4_isWord 60 = .ok (.goto (-32), 3) := by decide +kernel
theorem dX4_isWord_63 : decode cX4_isWord 63 = .ok (.iconst 1, 1) := by decide +kernel
theorem dX4_isWord_64 : decode cX4_isWord 64 = .ok (.ireturn, 1) := by decide +kernel
theorem dX4_sortOf_0 : decode cX4_sortOf 0 = .ok (.iload_n 0, 1) := by decide +kernel
theorem dX4_sortOf_1 : decode cX4_sortOf 1 = .ok (.bipush 97, 2) := by decide +kernel
theorem dX4_sortOf_3 : decode cX4_sortOf 3 = .ok (.if_icmp .lt 11, 3) := by decide +kernel
theorem dX4_sortOf_6 : decode cX4_sortOf 6 = .ok (.iload_n 0, 1) := by decide +kernel
theorem dX4_sortOf_7 : decode cX4_sortOf 7 = .ok (.bipush 122, 2) := by decide +kernel
theorem dX4_sortOf_9 : decode cX4_sortOf 9 = .ok (.if_icmp .gt 5, 3) := by decide +kernel
theorem dX4_sortOf_12 : decode cX4_sortOf 12 = .ok (.iconst 1, 1) := by decide +kernel
theorem dX4_sortOf_13 : decode cX4_sortOf 13 = .ok (.ireturn, 1) := by decide +kernel
theorem dX4_sortOf_14 : decode cX4_sortOf 14 = .ok (.iload_n 0, 1) := by decide +kernel
theorem dX4_sortOf_15 : decode cX4_sortOf 15 = .ok (.bipush 48, 2) := by decide +kernel
theorem dX4_sortOf_17 : decode cX4_sortOf 17 = .ok (.if_icmp .lt 11, 3) := by decide +kernel
theorem dX4_sortOf_20 : decode cX4_sortOf 20 = .ok (.iload_n 0, 1) := by decide +kernel
theorem dX4_sortOf_21 : decode cX4_sortOf 21 = .ok (.bipush 57, 2) := by decide +kernel
theorem dX4_sortOf_23 : decode cX4_sortOf 23 = .ok (.if_icmp .gt 5, 3) := by decide +kernel
theorem dX4_sortOf_26 : decode cX4_sortOf 26 = .ok (.iconst 2, 1) := by decide +kernel
theorem dX4_sortOf_27 : decode cX4_sortOf 27 = .ok (.ireturn, 1) := by decide +kernel
theorem dX4_sortOf_28 : decode cX4_sortOf 28 = .ok (.iload_n 0, 1) := by decide +kernel
theorem dX4_sortOf_29 : decode cX4_sortOf 29 = .ok (.bipush 59, 2) := by decide +kernel
theorem dX4_sortOf_31 : decode cX4_sortOf 31 = .ok (.if_icmp .ne 7, 3) := by decide +kernel
theorem dX4_sortOf_34 : decode cX4_sortOf 34 = .ok (.iconst 3, 1) := by decide +kernel
theorem dX4_sortOf_35 : decode cX4_sortOf 35 = .ok (.goto 4, 3) := by decide +kernel
theorem dX4_sortOf_38 : decode cX4_sortOf 38 = .ok (.iconst 4, 1) := by decide +kernel
theorem dX4_sortOf_39 : decode cX4_sortOf 39 = .ok (.ireturn, 1) := by decide +kernel
theorem dJ6_bitCount_0f7a4_0 : decode cJ6_bitCount_0f7a4 0 = .ok (.iload_n 0, 1) := by decide +kernel
theorem dJ6_bitCount_0f7a4_1 : decode cJ6_bitCount_0f7a4 1 = .ok (.iload_n 0, 1) := by decide +kernel
theorem dJ6_bitCount_0f7a4_2 : decode cJ6_bitCount_0f7a4 2 = .ok (.iconst 1, 1) := by decide +kernel
theorem dJ6_bitCount_0f7a4_3 : decode cJ6_bitCount_0f7a4 3 = .ok (.iushr, 1) := by decide +kernel
theorem dJ6_bitCount_0f7a4_4 : decode cJ6_bitCount_0f7a4 4 = .ok (.ldc_w 265, 3) := by decide +kernel
theorem dJ6_bitCount_0f7a4_7 : decode cJ6_bitCount_0f7a4 7 = .ok (.iand, 1) := by decide +kernel
theorem dJ6_bitCount_0f7a4_8 : decode cJ6_bitCount_0f7a4 8 = .ok (.isub, 1) := by decide +kernel
theorem dJ6_bitCount_0f7a4_9 : decode cJ6_bitCount_0f7a4 9 = .ok (.istore_n 0, 1) := by decide +kernel
theorem dJ6_bitCount_0f7a4_10 : decode cJ6_bitCount_0f7a4 10 = .ok (.iload_n 0, 1) := by decide +kernel
theorem dJ6_bitCount_0f7a4_11 : decode cJ6_bitCount_0f7a4 11 = .ok (.ldc_w 266, 3) := by decide +kernel
theorem dJ6_bitCount_0f7a4_14 : decode cJ6_bitCount_0f7a4 14 = .ok (.iand, 1) := by decide +kernel
theorem dJ6_bitCount_0f7a4_15 : decode cJ6_bitCount_0f7a4 15 = .ok (.iload_n 0, 1) := by decide +kernel
theorem dJ6_bitCount_0f7a4_16 : decode cJ6_bitCount_0f7a4 16 = .ok (.iconst 2, 1) := by decide +kernel
theorem dJ6_bitCount_0f7a4_17 : decode cJ6_bitCount_0f7a4 17 = .ok (.iushr, 1) := by decide +kernel
theorem dJ6_bitCount_0f7a4_18 : decode cJ6_bitCount_0f7a4 18 = .ok (.ldc_w 266, 3) := by decide +kernel
theorem dJ6_bitCount_0f7a4_21 : decode cJ6_bitCount_0f7a4 21 = .ok (.iand, 1) := by decide +kernel
theorem dJ6_bitCount_0f7a4_22 : decode cJ6_bitCount_0f7a4 22 = .ok (.iadd, 1) := by decide +kernel
theorem dJ6_bitCount_0f7a4_23 : decode cJ6_bitCount_0f7a4 23 = .ok (.istore_n 0, 1) := by decide +kernel
theorem dJ6_bitCount_0f7a4_24 : decode cJ6_bitCount_0f7a4 24 = .ok (.iload_n 0, 1) := by decide +kernel
theorem dJ6_bitCount_0f7a4_25 : decode cJ6_bitCount_0f7a4 25 = .ok (.iload_n 0, 1) := by decide +kernel
theorem dJ6_bitCount_0f7a4_26 : decode cJ6_bitCount_0f7a4 26 = .ok (.iconst 4, 1) := by decide +kernel
theorem dJ6_bitCount_0f7a4_27 : decode cJ6_bitCount_0f7a4 27 = .ok (.iushr, 1) := by decide +kernel
theorem dJ6_bitCount_0f7a4_28 : decode cJ6_bitCount_0f7a4 28 = .ok (.iadd, 1) := by decide +kernel
theorem dJ6_bitCount_0f7a4_29 : decode cJ6_bitCount_0f7a4 29 = .ok (.ldc_w 267, 3) := by decide +kernel
theorem dJ6_bitCount_0f7a4_32 : decode cJ6_bitCount_0f7a4 32 = .ok (.iand, 1) := by decide +kernel
theorem dJ6_bitCount_0f7a4_33 : decode cJ6_bitCount_0f7a4 33 = .ok (.istore_n 0, 1) := by decide +kernel
theorem dJ6_bitCount_0f7a4_34 : decode cJ6_bitCount_0f7a4 34 = .ok (.iload_n 0, 1) := by decide +kernel
theorem dJ6_bitCount_0f7a4_35 : decode cJ6_bitCount_0f7a4 35 = .ok (.iload_n 0, 1) := by decide +kernel
theorem dJ6_bitCount_0f7a4_36 : decode cJ6_bitCount_0f7a4 36 = .ok (.bipush 8, 2) := by decide +kernel
theorem dJ6_bitCount_0f7a4_38 : decode cJ6_bitCount_0f7a4 38 = .ok (.iushr, 1) := by decide +kernel
theorem dJ6_bitCount_0f7a4_39 : decode cJ6_bitCount_0f7a4 39 = .ok (.iadd, 1) := by decide +kernel
theorem dJ6_bitCount_0f7a4_40 : decode cJ6_bitCount_0f7a4 40 = .ok (.istore_n 0, 1) := by decide +kernel
theorem dJ6_bitCount_0f7a4_41 : decode cJ6_bitCount_0f7a4 41 = .ok (.iload_n 0, 1) := by decide +kernel
theorem dJ6_bitCount_0f7a4_42 : decode cJ6_bitCount_0f7a4 42 = .ok (.iload_n 0, 1) := by decide +kernel
theorem dJ6_bitCount_0f7a4_43 : decode cJ6_bitCount_0f7a4 43 = .ok (.bipush 16, 2) := by decide +kernel
theorem dJ6_bitCount_0f7a4_45 : decode cJ6_bitCount_0f7a4 45 = .ok (.iushr, 1) := by decide +kernel
theorem dJ6_bitCount_0f7a4_46 : decode cJ6_bitCount_0f7a4 46 = .ok (.iadd, 1) := by decide +kernel
theorem dJ6_bitCount_0f7a4_47 : decode cJ6_bitCount_0f7a4 47 = .ok (.istore_n 0, 1) := by decide +kernel
theorem dJ6_bitCount_0f7a4_48 : decode cJ6_bitCount_0f7a4 48 = .ok (.iload_n 0, 1) := by decide +kernel
theorem dJ6_bitCount_0f7a4_49 : decode cJ6_bitCount_0f7a4 49 = .ok (.bipush 63, 2) := by decide +kernel
theorem dJ6_bitCount_0f7a4_51 : decode cJ6_bitCount_0f7a4 51 = .ok (.iand, 1) := by decide +kernel
theorem dJ6_bitCount_0f7a4_52 : decode cJ6_bitCount_0f7a4 52 = .ok (.ireturn, 1) := by decide +kernel
theorem dJ9_abs_0f7a4_0 : decode cJ9_abs_0f7a4 0 = .ok (.iload_n 0, 1) := by decide +kernel
theorem dJ9_abs_0f7a4_1 : decode cJ9_abs_0f7a4 1 = .ok (.ifCond .ge 8, 3) := by decide +kernel
theorem dJ9_abs_0f7a4_4 : decode cJ9_abs_0f7a4 4 = .ok (.iload_n 0, 1) := by decide +kernel
theorem dJ9_abs_0f7a4_5 : decode cJ9_abs_0f7a4 5 = .ok (.ineg, 1) := by decide +kernel
theorem dJ9_abs_0f7a4_6 : decode cJ9_abs_0f7a4 6 = .ok (.goto 4, 3) := by decide +kernel
theorem dJ9_abs_0f7a4_9 : decode cJ9_abs_0f7a4 9 = .ok (.iload_n 0, 1) := by decide +kernel
theorem dJ9_abs_0f7a4_10 : decode cJ9_abs_0f7a4 10 = .ok (.ireturn, 1) := by decide +kernel
theorem dJ9_max_7cf53_0 : decode cJ9_max_7cf53 0 = .ok (.iload_n 0, 1) := by decide +kernel
theorem dJ9_max_7cf53_1 : decode cJ9_max_7cf53 1 = .ok (.iload_n 1, 1) := by decide +kernel
theorem dJ9_max_7cf53_2 : decode cJ9_max_7cf53 2 = .ok (.if_icmp .lt 7, 3) := by decide +kernel
theorem dJ9_max_7cf53_5 : decode cJ9_max_7cf53 5 = .ok (.iload_n 0, 1) := by decide +kernel
theorem dJ9_max_7cf53_6 : decode cJ9_max_7cf53 6 = .ok (.goto 4, 3) := by decide +kernel
theorem dJ9_max_7cf53_9 : decode cJ9_max_7cf53 9 = .ok (.iload_n 1, 1) := by decide +kernel
theorem dJ9_max_7cf53_10 : decode cJ9_max_7cf53 10 = .ok (.ireturn, 1) := by decide +kernel
theorem dJ9_min_7cf53_0 : decode cJ9_min_7cf53 0 = .ok (.iload_n 0, 1) := by decide +kernel
theorem dJ9_min_7cf53_1 : decode cJ9_min_7cf53 1 = .ok (.iload_n 1, 1) := by decide +kernel
theorem dJ9_min_7cf53_2 : decode cJ9_min_7cf53 2 = .ok (.if_icmp .gt 7, 3) := by decide +kernel
theorem dJ9_min_7cf53_5 : decode cJ9_min_7cf53 5 = .ok (.iload_n 0, 1) := by decide +kernel
theorem dJ9_min_7cf53_6 : decode cJ9_min_7cf53 6 = .ok (.goto 4, 3) := by decide +kernel
theorem dJ9_min_7cf53_9 : decode cJ9_min_7cf53 9 = .ok (.iload_n 1, 1) := by decide +kernel
theorem dJ9_min_7cf53_10 : decode cJ9_min_7cf53 10 = .ok (.ireturn, 1) := by decide +kernel
theorem dJ0_length_8abf5_0 : decode cJ0_length_8abf5 0 = .ok (.aload_n 0, 1) := by decide +kernel
theorem dJ0_length_8abf5_1 : decode cJ0_length_8abf5 1 = .ok (.getfield 9, 3) := by decide +kernel
theorem dJ0_length_8abf5_4 : decode cJ0_length_8abf5 4 = .ok (.arraylength, 1) := by decide +kernel
theorem dJ0_length_8abf5_5 : decode cJ0_length_8abf5 5 = .ok (.aload_n 0, 1) := by decide +kernel
theorem dJ0_length_8abf5_6 : decode cJ0_length_8abf5 6 = .ok (.invokevirtual 335, 3) := by decide +kernel
theorem dJ0_length_8abf5_9 : decode cJ0_length_8abf5 9 = .ok (.ishr, 1) := by decide +kernel
theorem dJ0_length_8abf5_10 : decode cJ0_length_8abf5 10 = .ok (.ireturn, 1) := by decide +kernel
theorem dJ0_charAt_5068e_0 : decode cJ0_charAt_5068e 0 = .ok (.aload_n 0, 1) := by decide +kernel
theorem dJ0_charAt_5068e_1 : decode cJ0_charAt_5068e 1 = .ok (.invokevirtual 492, 3) := by decide +kernel
theorem dJ0_charAt_5068e_4 : decode cJ0_charAt_5068e 4 = .ok (.ifCond .eq 12, 3) := by decide +kernel
theorem dJ0_charAt_5068e_7 : decode cJ0_charAt_5068e 7 = .ok (.aload_n 0, 1) := by decide +kernel
theorem dJ0_charAt_5068e_8 : decode cJ0_charAt_5068e 8 = .ok (.getfield 9, 3) := by decide +kernel
theorem dJ0_charAt_5068e_11 : decode cJ0_charAt_5068e 11 = .ok (.iload_n 1, 1) := by decide +kernel
theorem dJ0_charAt_5068e_12 : decode cJ0_charAt_5068e 12 = .ok (.invokestatic 495, 3) := by decide +kernel
theorem dJ0_charAt_5068e_15 : decode cJ0_charAt_5068e 15 = .ok (.ireturn, 1) := by decide +kernel
theorem dJ0_charAt_5068e_16 : decode cJ0_charAt_5068e 16 = .ok (.aload_n 0, 1) := by decide +kernel
theorem dJ0_charAt_5068e_17 : decode cJ0_charAt_5068e 17 = .ok (.getfield 9, 3) := by decide +kernel
theorem dJ0_charAt_5068e_20 : decode cJ0_charAt_5068e 20 = .ok (.iload_n 1, 1) := by decide +kernel
theorem dJ0_charAt_5068e_21 : decode cJ0_charAt_5068e 21 = .ok (.invokestatic 498, 3) := by decide +kernel
theorem dJ0_charAt_5068e_24 : decode cJ0_charAt_5068e 24 = .ok (.ireturn, 1) := by decide +kernel
theorem dJ0_coder_7d493_0 : decode cJ0_coder_7d493 0 = .ok (.getstatic 38, 3) := by decide +kernel
theorem dJ0_coder_7d493_3 : decode cJ0_coder_7d493 3 = .ok (.ifCond .eq 10, 3) := by decide +kernel
theorem dJ0_coder_7d493_6 : decode cJ0_coder_7d493 6 = .ok (.aload_n 0, 1) := by decide +kernel
theorem dJ0_coder_7d493_7 : decode cJ0_coder_7d493 7 = .ok (.getfield 15, 3) := by decide +kernel
theorem dJ0_coder_7d493_10 : decode cJ0_coder_7d493 10 = .ok (.goto 4, 3) := by decide +kernel
theorem dJ0_coder_7d493_13 : decode cJ0_coder_7d493 13 = .ok (.iconst 1, 1) := by decide +kernel
theorem dJ0_coder_7d493_14 : decode cJ0_coder_7d493 14 = .ok (.ireturn, 1) := by decide +kernel
theorem dJ0_isLatin1_aae02_0 : decode cJ0_isLatin1_aae02 0 = .ok (.getstatic 38, 3) := by decide +kernel
theorem dJ0_isLatin1_aae02_3 : decode cJ0_isLatin1_aae02 3 = .ok (.ifCond .eq 14, 3) := by decide +kernel
theorem dJ0_isLatin1_aae02_6 : decode cJ0_isLatin1_aae02 6 = .ok (.aload_n 0, 1) := by decide +kernel
theorem dJ0_isLatin1_aae02_7 : decode cJ0_isLatin1_aae02 7 = .ok (.getfield 15, 3) := by decide +kernel
theorem dJ0_isLatin1_aae02_10 : decode cJ0_isLatin1_aae02 10 = .ok (.ifCond .ne 7, 3) := by decide +kernel
theorem dJ0_isLatin1_aae02_13 : decode cJ0_isLatin1_aae02 13 = .ok (.iconst 1, 1) := by decide +kernel
theorem dJ0_isLatin1_aae02_14 : decode cJ0_isLatin1_aae02 14 = .ok (.goto 4, 3) := by decide +kernel
theorem dJ0_isLatin1_aae02_17 : decode cJ0_isLatin1_aae02 17 = .ok (.iconst 0, 1) := by decide +kernel
theorem dJ0_isLatin1_aae02_18 : decode cJ0_isLatin1_aae02 18 = .ok (.ireturn, 1) := by decide +kernel
theorem dJ0_checkIndex_df160_0 : decode cJ0_checkIndex_df160 0 = .ok (.iload_n 0, 1) := by decide +kernel
theorem dJ0_checkIndex_df160_1 : decode cJ0_checkIndex_df160 1 = .ok (.iload_n 1, 1) := by decide +kernel
theorem dJ0_checkIndex_df160_2 : decode cJ0_checkIndex_df160 2 = .ok (.getstatic 1053, 3) := by decide +kernel
theorem dJ0_checkIndex_df160_5 : decode cJ0_checkIndex_df160 5 = .ok (.invokestatic 1059, 3) := by decide +kernel
theorem dJ0_checkIndex_df160_8 : decode cJ0_checkIndex_df160 8 = .ok (.pop, 1) := by decide +kernel
theorem dJ0_checkIndex_df160_9 : decode cJ0_checkIndex_df160 9 = .ok (.return_, 1) := by decide +kernel
theorem dJ1_charAt_3b067_0 : decode cJ1_charAt_3b067 0 = .ok (.iload_n 1, 1) := by decide +kernel
theorem dJ1_charAt_3b067_1 : decode cJ1_charAt_3b067 1 = .ok (.aload_n 0, 1) := by decide +kernel
theorem dJ1_charAt_3b067_2 : decode cJ1_charAt_3b067 2 = .ok (.arraylength, 1) := by decide +kernel
theorem dJ1_charAt_3b067_3 : decode cJ1_charAt_3b067 3 = .ok (.invokestatic 9, 3) := by decide +kernel
theorem dJ1_charAt_3b067_6 : decode cJ1_charAt_3b067 6 = .ok (.aload_n 0, 1) := by decide +kernel
theorem dJ1_charAt_3b067_7 : decode cJ1_charAt_3b067 7 = .ok (.iload_n 1, 1) := by decide +kernel
theorem dJ1_charAt_3b067_8 : decode cJ1_charAt_3b067 8 = .ok (.baload, 1) := by decide +kernel
theorem dJ1_charAt_3b067_9 : decode cJ1_charAt_3b067 9 = .ok (.sipush 255, 3) := by decide +kernel
theorem dJ1_charAt_3b067_12 : decode cJ1_charAt_3b067 12 = .ok (.iand, 1) := by decide +kernel
theorem dJ1_charAt_3b067_13 : decode cJ1_charAt_3b067 13 = .ok (.i2c, 1) := by decide +kernel
theorem dJ1_charAt_3b067_14 : decode cJ1_charAt_3b067 14 = .ok (.ireturn, 1) := by decide +kernel
theorem dJ2_getChar_3b067_0 : decode cJ2_getChar_3b067 0 = .ok (.getstatic 44, 3) := by decide +kernel
theorem dJ2_getChar_3b067_3 : decode cJ2_getChar_3b067 3 = .ok (.ifCond .ne 25, 3) := by decide +kernel
theorem dJ2_getChar_3b067_6 : decode cJ2_getChar_3b067 6 = .ok (.iload_n 1, 1) := by decide +kernel
theorem dJ2_getChar_3b067_7 : decode cJ2_getChar_3b067 7 = .ok (.ifCond .lt 11, 3) := by decide +kernel
theorem dJ2_getChar_3b067_10 : decode cJ2_getChar_3b067 10 = .ok (.iload_n 1, 1) := by decide +kernel
theorem dJ2_getChar_3b067_11 : decode cJ2_getChar_3b067 11 = .ok (.aload_n 0, 1) := by decide +kernel
theorem dJ2_getChar_3b067_12 : decode cJ2_getChar_3b067 12 = .ok (.invokestatic 48, 3) := by decide +kernel
theorem dJ2_getChar_3b067_15 : decode cJ2_getChar_3b067 15 = .ok (.if_icmp .lt 13, 3) := by decide +kernel
theorem dJ2_getChar_3b067_18 : decode cJ2_getChar_3b067 18 = .ok (.new 52, 3) := by decide +kernel
theorem dJ2_getChar_3b067_21 : decode cJ2_getChar_3b067 21 = .ok (.dup, 1) := by decide +kernel
theorem dJ2_getChar_3b067_22 : decode cJ2_getChar_3b067 22 = .ok (.ldc 54, 2) := by decide +kernel
theorem dJ2_getChar_3b067_24 : decode cJ2_getChar_3b067 24 = .ok (.invokespecial 56, 3) := by decide +kernel
theorem dJ2_getChar_3b067_27 : decode cJ2_getChar_3b067 27 = .ok (.athrow, 1) := by decide +kernel
theorem dJ2_getChar_3b067_28 : decode cJ2_getChar_3b067 28 = .ok (.iload_n 1, 1) := by decide +kernel
theorem dJ2_getChar_3b067_29 : decode cJ2_getChar_3b067 29 = .ok (.iconst 1, 1) := by decide +kernel
theorem dJ2_getChar_3b067_30 : decode cJ2_getChar_3b067 30 = .ok (.ishl, 1) := by decide +kernel
theorem dJ2_getChar_3b067_31 : decode cJ2_getChar_3b067 31 = .ok (.istore_n 1, 1) := by decide +kernel
theorem dJ2_getChar_3b067_32 : decode cJ2_getChar_3b067 32 = .ok (.aload_n 0, 1) := by decide +kernel
theorem dJ2_getChar_3b067_33 : decode cJ2_getChar_3b067 33 = .ok (.iload_n 1, 1) := by decide +kernel
theorem dJ2_getChar_3b067_34 : decode cJ2_getChar_3b067 34 = .ok (.iinc 1 1, 3) := by decide +kernel
theorem dJ2_getChar_3b067_37 : decode cJ2_getChar_3b067 37 = .ok (.baload, 1) := by decide +kernel
theorem dJ2_getChar_3b067_38 : decode cJ2_getChar_3b067 38 = .ok (.sipush 255, 3) := by decide +kernel
theorem dJ2_getChar_3b067_41 : decode cJ2_getChar_3b067 41 = .ok (.iand, 1) := by decide +kernel
theorem dJ2_getChar_3b067_42 : decode cJ2_getChar_3b067 42 = .ok (.getstatic 59, 3) := by decide +kernel
theorem dJ2_getChar_3b067_45 : decode cJ2_getChar_3b067 45 = .ok (.ishl, 1) := by decide +kernel
theorem dJ2_getChar_3b067_46 : decode cJ2_getChar_3b067 46 = .ok (.aload_n 0, 1) := by decide +kernel
theorem dJ2_getChar_3b067_47 : decode cJ2_getChar_3b067 47 = .ok (.iload_n 1, 1) := by decide +kernel
theorem dJ2_getChar_3b067_48 : decode cJ2_getChar_3b067 48 = .ok (.baload, 1) := by decide +kernel
theorem dJ2_getChar_3b067_49 : decode cJ2_getChar_3b067 49 = .ok (.sipush 255, 3) := by decide +kernel
theorem dJ2_getChar_3b067_52 : decode cJ2_getChar_3b067 52 = .ok (.iand, 1) := by decide +kernel
theorem dJ2_getChar_3b067_53 : decode cJ2_getChar_3b067 53 = .ok (.getstatic 63, 3) := by decide +kernel
theorem dJ2_getChar_3b067_56 : decode cJ2_getChar_3b067 56 = .ok (.ishl, 1) := by decide +kernel
theorem dJ2_getChar_3b067_57 : decode cJ2_getChar_3b067 57 = .ok (.ior, 1) := by decide +kernel
theorem dJ2_getChar_3b067_58 : decode cJ2_getChar_3b067 58 = .ok (.i2c, 1) := by decide +kernel
theorem dJ2_getChar_3b067_59 : decode cJ2_getChar_3b067 59 = .ok (.ireturn, 1) := by decide +kernel
theorem dJ2_length_9d52b_0 : decode cJ2_length_9d52b 0 = .ok (.aload_n 0, 1) := by decide +kernel
theorem dJ2_length_9d52b_1 : decode cJ2_length_9d52b 1 = .ok (.arraylength, 1) := by decide +kernel
theorem dJ2_length_9d52b_2 : decode cJ2_length_9d52b 2 = .ok (.iconst 1, 1) := by decide +kernel
theorem dJ2_length_9d52b_3 : decode cJ2_length_9d52b 3 = .ok (.ishr, 1) := by decide +kernel
theorem dJ2_length_9d52b_4 : decode cJ2_length_9d52b 4 = .ok (.ireturn, 1) := by decide +kernel
theorem dJ2_charAt_3b067_0 : decode cJ2_charAt_3b067 0 = .ok (.iload_n 1, 1) := by decide +kernel
theorem dJ2_charAt_3b067_1 : decode cJ2_charAt_3b067 1 = .ok (.aload_n 0, 1) := by decide +kernel
theorem dJ2_charAt_3b067_2 : decode cJ2_charAt_3b067 2 = .ok (.invokestatic 67, 3) := by decide +kernel
theorem dJ2_charAt_3b067_5 : decode cJ2_charAt_3b067 5 = .ok (.aload_n 0, 1) := by decide +kernel
theorem dJ2_charAt_3b067_6 : decode cJ2_charAt_3b067 6 = .ok (.iload_n 1, 1) := by decide +kernel
theorem dJ2_charAt_3b067_7 : decode cJ2_charAt_3b067 7 = .ok (.invokestatic 71, 3) := by decide +kernel
theorem dJ2_charAt_3b067_10 : decode cJ2_charAt_3b067 10 = .ok (.ireturn, 1) := by decide +kernel
theorem dJ2_checkIndex_2214a_0 : decode cJ2_checkIndex_2214a 0 = .ok (.iload_n 0, 1) := by decide +kernel
theorem dJ2_checkIndex_2214a_1 : decode cJ2_checkIndex_2214a 1 = .ok (.aload_n 1, 1) := by decide +kernel
theorem dJ2_checkIndex_2214a_2 : decode cJ2_checkIndex_2214a 2 = .ok (.invokestatic 48, 3) := by decide +kernel
theorem dJ2_checkIndex_2214a_5 : decode cJ2_checkIndex_2214a 5 = .ok (.invokestatic 414, 3) := by decide +kernel
theorem dJ2_checkIndex_2214a_8 : decode cJ2_checkIndex_2214a 8 = .ok (.return_, 1) := by decide +kernel
theorem dJ3_checkIndex_8e157_0 : decode cJ3_checkIndex_8e157 0 = .ok (.iload_n 0, 1) := by decide +kernel
theorem dJ3_checkIndex_8e157_1 : decode cJ3_checkIndex_8e157 1 = .ok (.ifCond .lt 8, 3) := by decide +kernel
theorem dJ3_checkIndex_8e157_4 : decode cJ3_checkIndex_8e157 4 = .ok (.iload_n 0, 1) := by decide +kernel
theorem dJ3_checkIndex_8e157_5 : decode cJ3_checkIndex_8e157 5 = .ok (.iload_n 1, 1) := by decide +kernel
theorem dJ3_checkIndex_8e157_6 : decode cJ3_checkIndex_8e157 6 = .ok (.if_icmp .lt 10, 3) := by decide +kernel
theorem dJ3_checkIndex_8e157_9 : decode cJ3_checkIndex_8e157 9 = .ok (.aload_n 2, 1) := by decide +kernel
theorem dJ3_checkIndex_8e157_10 : decode cJ3_checkIndex_8e157 10 = .ok (.iload_n 0, 1) := by decide +kernel
theorem dJ3_checkIndex_8e157_11 : decode cJ3_checkIndex_8e157 11 = .ok (.iload_n 1, 1) := by decide +kernel
theorem dJ3_checkIndex_8e157_12 : decode cJ3_checkIndex_8e157 12 = .ok (.invokestatic 95, 3) := by decide +kernel
theorem dJ3_checkIndex_8e157_15 : decode cJ3_checkIndex_8e157 15 = .ok (.athrow, 1) := by decide +kernel
theorem dJ3_checkIndex_8e157_16 : decode cJ3_checkIndex_8e157 16 = .ok (.iload_n 0, 1) := by decide +kernel
theorem dJ3_checkIndex_8e157_17 : decode cJ3_checkIndex_8e157 17 = .ok (.ireturn, 1) := by decide +kernel
