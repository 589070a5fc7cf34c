theorem dX5_init_0 : decode cX5_init 0 = .ok (.aload_n 0, 1) := by decide +kernel
theorem dX5_init_1 : decode cX5_init 1 = .ok (.invokespecial 1, 3) := by decide +kernel
theorem dX5_init_4 : decode cX5_init 4 = .ok (.aload_n 0, 1) := by decide +kernel
theorem dX5_init_5 : decode cX5_init 5 = .ok (.new 7, 3) := by decide +kernel
theorem dX5_init_8 : decode cX5_init 8 = .ok (.dup, 1) := by decide +kernel
theorem dX5_init_9 : decode cX5_init 9 = .ok (.invokespecial 9, 3) := by decide +kernel
theorem dX5_init_12 : decode cX5_init 12 = .ok (.putfield 10, 3) := by decide +kernel
theorem dX5_init_15 : decode cX5_init 15 = .ok (.aload_n 0, 1) := by decide +kernel
theorem dX5_init_16 : decode cX5_init 16 = .ok (.aload_n 0, 1) := by decide +kernel
theorem dX5_init_17 : decode cX5_init 17 = .ok (.getfield 10, 3) := by decide +kernel
theorem dX5_init_20 : decode cX5_init 20 = .ok (.getfield 16, 3) := by decide +kernel
theorem dX5_init_23 : decode cX5_init 23 = .ok (.putfield 20, 3) := by decide +kernel
theorem dX5_init_26 : decode cX5_init 26 = .ok (.aload_n 0, 1) := by decide +kernel
theorem dX5_init_27 : decode cX5_init 27 = .ok (.new 21, 3) := by decide +kernel
theorem dX5_init_30 : decode cX5_init 30 = .ok (.dup, 1) := by decide +kernel
theorem dX5_init_31 : decode cX5_init 31 = .ok (.invokespecial 23, 3) := by decide +kernel
theorem dX5_init_34 : decode cX5_init 34 = .ok (.putfield 24, 3) := by decide +kernel
theorem dX5_init_37 : decode cX5_init 37 = .ok (.aload_n 0, 1) := by decide +kernel
theorem dX5_init_38 : decode cX5_init 38 = .ok (.new 21, 3) := by decide +kernel
theorem dX5_init_41 : decode cX5_init 41 = .ok (.dup, 1) := by decide +kernel
theorem dX5_init_42 : decode cX5_init 42 = .ok (.invokespecial 23, 3) := by decide +kernel
theorem dX5_init_45 : decode cX5_init 45 = .ok (.putfield 28, 3) := by decide +kernel
theorem dX5_init_48 : decode cX5_init 48 = .ok (.aload_n 0, 1) := by decide +kernel
theorem dX5_init_49 : decode cX5_init 49 = .ok (.iconst 2, 1) := by decide +kernel
theorem dX5_init_50 : decode cX5_init 50 = .ok (.anewarray 21, 3) := by decide +kernel
theorem dX5_init_53 : decode cX5_init 53 = .ok (.dup, 1) := by decide +kernel
theorem dX5_init_54 : decode cX5_init 54 = .ok (.iconst 0, 1) := by decide +kernel
theorem dX5_init_55 : decode cX5_init 55 = .ok (.new 21, 3) := by decide +kernel
theorem dX5_init_58 : decode cX5_init 58 = .ok (.dup, 1) := by decide +kernel
theorem dX5_init_59 : decode cX5_init 59 = .ok (.invokespecial 23, 3) := by decide +kernel
theorem dX5_init_62 : decode cX5_init 62 = .ok (.aastore, 1) := by decide +kernel
theorem dX5_init_63 : decode cX5_init 63 = .ok (.dup, 1) := by decide +kernel
theorem dX5_init_64 : decode cX5_init 64 = .ok (.iconst 1, 1) := by decide +kernel
theorem dX5_init_65 : decode cX5_init 65 = .ok (.new 21, 3) := by decide +kernel
theorem dX5_init_68 : decode cX5_init 68 = .ok (.dup, 1) := by decide +kernel
theorem dX5_init_69 : decode cX5_init 69 = .ok (.invokespecial 23, 3) := by decide +kernel
theorem dX5_init_72 : decode cX5_init 72 = .ok (.aastore, 1) := by decide +kernel
theorem dX5_init_73 : decode cX5_init 73 = .ok (.putfield 31, 3) := by decide +kernel
theorem dX5_init_76 : decode cX5_init 76 = .ok (.aload_n 0, 1) := by decide +kernel
theorem dX5_init_77 : decode cX5_init 77 = .ok (.iconst 2, 1) := by decide +kernel
theorem dX5_init_78 : decode cX5_init 78 = .ok (.newarray .boolean, 2) := by decide +kernel
theorem dX5_init_80 : decode cX5_init 80 = .ok (.putfield 35, 3) := by decide +kernel
theorem dX5_init_83 : decode cX5_init 83 = .ok (.aload_n 0, 1) := by decide +kernel
theorem dX5_init_84 : decode cX5_init 84 = .ok (.iconst 4, 1) := by decide +kernel
theorem dX5_init_85 : decode cX5_init 85 = .ok (.anewarray 39, 3) := by decide +kernel
theorem dX5_init_88 : decode cX5_init 88 = .ok (.dup, 1) := by decide +kernel
theorem dX5_init_89 : decode cX5_init 89 = .ok (.iconst 0, 1) := by decide +kernel
theorem dX5_init_90 : decode cX5_init 90 = .ok (.new 39, 3) := by decide +kernel
theorem dX5_init_93 : decode cX5_init 93 = .ok (.dup, 1) := by decide +kernel
theorem dX5_init_94 : decode cX5_init 94 = .ok (.invokespecial 41, 3) := by decide +kernel
theorem dX5_init_97 : decode cX5_init 97 = .ok (.aastore, 1) := by decide +kernel
theorem dX5_init_98 : decode cX5_init 98 = .ok (.dup, 1) := by decide +kernel
theorem dX5_init_99 : decode cX5_init 99 = .ok (.iconst 1, 1) := by decide +kernel
theorem dX5_init_100 : decode cX5_init 100 = .ok (.new 39, 3) := by decide +kernel
theorem dX5_init_103 : decode cX5_init 103 = .ok (.dup, 1) := by decide +kernel
theorem dX5_init_104 : decode cX5_init 104 = .ok (.invokespecial 41, 3) := by decide +kernel
theorem dX5_init_107 : decode cX5_init 107 = .ok (.aastore, 1) := by decide +kernel
theorem dX5_init_108 : decode cX5_init 108 = .ok (.dup, 1) := by decide +kernel
theorem dX5_init_109 : decode cX5_init 109 = .ok (.iconst 2, 1) := by decide +kernel
theorem dX5_init_110 : decode cX5_init 110 = .ok (.new 39, 3) := by decide +kernel
theorem dX5_init_113 : decode cX5_init 113 = .ok (.dup, 1) := by decide +kernel
theorem dX5_init_114 : decode cX5_init 114 = .ok (.invokespecial 41, 3) := by decide +kernel
theorem dX5_init_117 : decode cX5_init 117 = .ok (.aastore, 1) := by decide +kernel
theorem dX5_init_118 : decode cX5_init 118 = .ok (.dup, 1) := by decide +kernel
theorem dX5_init_119 : decode cX5_init 119 = .ok (.iconst 3, 1) := by decide +kernel
theorem dX5_init_120 : decode cX5_init 120 = .ok (.new 39, 3) := by decide +kernel
theorem dX5_init_123 : decode cX5_init 123 = .ok (.dup, 1) := by decide +kernel
theorem dX5_init_124 : decode cX5_init 124 = .ok (.invokespecial 41, 3) := by decide +kernel
theorem dX5_init_127 : decode cX5_init 127 = .ok (.aastore, 1) := by decide +kernel
theorem dX5_init_128 : decode cX5_init 128 = .ok (.putfield 42, 3) := by decide +kernel
theorem dX5_init_131 : decode cX5_init 131 = .ok (.aload_n 0, 1) := by decide +kernel
theorem dX5_init_132 : decode cX5_init 132 = .ok (.new 46, 3) := by decide +kernel
theorem dX5_init_135 : decode cX5_init 135 = .ok (.dup, 1) := by decide +kernel
theorem dX5_init_136 : decode cX5_init 136 = .ok (.invokespecial 48, 3) := by decide +kernel
theorem dX5_init_139 : decode cX5_init 139 = .ok (.putfield 49, 3) := by decide +kernel
theorem dX5_init_142 : decode cX5_init 142 = .ok (.aload_n 0, 1) := by decide +kernel
theorem dX5_init_143 : decode cX5_init 143 = .ok (.bipush 6, 2) := by decide +kernel
theorem dX5_init_145 : decode cX5_init 145 = .ok (.newarray .int, 2) := by decide +kernel
theorem dX5_init_147 : decode cX5_init 147 = .ok (.putfield 53, 3) := by decide +kernel
theorem dX5_init_150 : decode cX5_init 150 = .ok (.aload_n 0, 1) := by decide +kernel
theorem dX5_init_151 : decode cX5_init 151 = .ok (.bipush 6, 2) := by decide +kernel
theorem dX5_init_153 : decode cX5_init 153 = .ok (.newarray .int, 2) := by decide +kernel
theorem dX5_init_155 : decode cX5_init 155 = .ok (.putfield 57, 3) := by decide +kernel
theorem dX5_init_158 : decode cX5_init 158 = .ok (.aload_n 0, 1) := by decide +kernel
theorem dX5_init_159 : decode cX5_init 159 = .ok (.bipush 6, 2) := by decide +kernel
theorem dX5_init_161 : decode cX5_init 161 = .ok (.newarray .int, 2) := by decide +kernel
theorem dX5_init_163 : decode cX5_init 163 = .ok (.putfield 60, 3) := by decide +kernel
theorem dX5_init_166 : decode cX5_init 166 = .ok (.aload_n 0, 1) := by decide +kernel
theorem dX5_init_167 : decode cX5_init 167 = .ok (.bipush 24, 2) := by decide +kernel
theorem dX5_init_169 : decode cX5_init 169 = .ok (.newarray .int, 2) := by decide +kernel
theorem dX5_init_171 : decode cX5_init 171 = .ok (.putfield 63, 3) := by decide +kernel
theorem dX5_init_174 : decode cX5_init 174 = .ok (.aload_n 0, 1) := by decide +kernel
theorem dX5_init_175 : decode cX5_init 175 = .ok (.iconst 4, 1) := by decide +kernel
theorem dX5_init_176 : decode cX5_init 176 = .ok (.newarray .int, 2) := by decide +kernel
theorem dX5_init_178 : decode cX5_init 178 = .ok (.putfield 66, 3) := by decide +kernel
theorem dX5_init_181 : decode cX5_init 181 = .ok (.aload_n 0, 1) := by decide +kernel
theorem dX5_init_182 : decode cX5_init 182 = .ok (.bipush 100, 2) := by decide +kernel
theorem dX5_init_184 : decode cX5_init 184 = .ok (.newarray .int, 2) := by decide +kernel
theorem dX5_init_186 : decode cX5_init 186 = .ok (.putfield 69, 3) := by decide +kernel
theorem dX5_init_189 : decode cX5_init 189 = .ok (.aload_n 0, 1) := by decide +kernel
theorem dX5_init_190 : decode cX5_init 190 = .ok (.bipush 100, 2) := by decide +kernel
theorem dX5_init_192 : decode cX5_init 192 = .ok (.newarray .int, 2) := by decide +kernel
theorem dX5_init_194 : decode cX5_init 194 = .ok (.putfield 72, 3) := by decide +kernel
theorem dX5_init_197 : decode cX5_init 197 = .ok (.return_, 1) := by decide +kernel
theorem dX5_feed_0 : decode cX5_feed 0 = .ok (.iload_n 1, 1) := by decide +kernel
theorem dX5_feed_1 : decode cX5_feed 1 = .ok (.iconst 0, 1) := by decide +kernel
theorem dX5_feed_2 : decode cX5_feed 2 = .ok (.bipush 127, 2) := by decide +kernel
theorem dX5_feed_4 : decode cX5_feed 4 = .ok (.invokestatic 75, 3) := by decide +kernel
theorem dX5_feed_7 : decode cX5_feed 7 = .ok (.ifCond .ne 5, 3) := by decide +kernel
theorem dX5_feed_10 : decode cX5_feed 10 = .ok (.iconst (-1), 1) := by decide +kernel
theorem dX5_feed_11 : decode cX5_feed 11 = .ok (.ireturn, 1) := by decide +kernel
theorem dX5_feed_12 : decode cX5_feed 12 = .ok (.aload_n 0, 1) := by decide +kernel
theorem dX5_feed_13 : decode cX5_feed 13 = .ok (.getfield 20, 3) := by decide +kernel
theorem dX5_feed_16 : decode cX5_feed 16 = .ok (.iload_n 1, 1) := by decide +kernel
theorem dX5_feed_17 : decode cX5_feed 17 = .ok (.invokevirtual 79, 3) := by decide +kernel
theorem dX5_feed_20 : decode cX5_feed 20 = .ok (.ifCond .eq 13, 3) := by decide +kernel
theorem dX5_feed_23 : decode cX5_feed 23 = .ok (.aload_n 0, 1) := by decide +kernel
theorem dX5_feed_24 : decode cX5_feed 24 = .ok (.getfield 20, 3) := by decide +kernel
theorem dX5_feed_27 : decode cX5_feed 27 = .ok (.getfield 85, 3) := by decide +kernel
theorem dX5_feed_30 : decode cX5_feed 30 = .ok (.goto 5, 3) := by decide +kernel
theorem dX5_feed_33 : decode cX5_feed 33 = .ok (.bipush (-3), 2) := by decide +kernel
theorem dX5_feed_35 : decode cX5_feed 35 = .ok (.ireturn, 1) := by decide +kernel
theorem dX5_end_0 : decode cX5_end 0 = .ok (.iload_n 1, 1) := by decide +kernel
theorem dX5_end_1 : decode cX5_end 1 = .ok (.iconst 0, 1) := by decide +kernel
theorem dX5_end_2 : decode cX5_end 2 = .ok (.aload_n 0, 1) := by decide +kernel
theorem dX5_end_3 : decode cX5_end 3 = .ok (.getfield 20, 3) := by decide +kernel
theorem dX5_end_6 : decode cX5_end 6 = .ok (.getfield 85, 3) := by decide +kernel
theorem dX5_end_9 : decode cX5_end 9 = .ok (.invokestatic 75, 3) := by decide +kernel
theorem dX5_end_12 : decode cX5_end 12 = .ok (.ifCond .ne 5, 3) := by decide +kernel
theorem dX5_end_15 : decode cX5_end 15 = .ok (.iconst (-1), 1) := by decide +kernel
theorem dX5_end_16 : decode cX5_end 16 = .ok (.ireturn, 1) := by decide +kernel
theorem dX5_end_17 : decode cX5_end 17 = .ok (.aload_n 0, 1) := by decide +kernel
theorem dX5_end_18 : decode cX5_end 18 = .ok (.getfield 20, 3) := by decide +kernel
theorem dX5_end_21 : decode cX5_end 21 = .ok (.getfield 85, 3) := by decide +kernel
theorem dX5_end_24 : decode cX5_end 24 = .ok (.istore_n 2, 1) := by decide +kernel
theorem dX5_end_25 : decode cX5_end 25 = .ok (.aload_n 0, 1) := by decide +kernel
theorem dX5_end_26 : decode cX5_end 26 = .ok (.getfield 20, 3) := by decide +kernel
theorem dX5_end_29 : decode cX5_end 29 = .ok (.iload_n 1, 1) := by decide +kernel
theorem dX5_end_30 : decode cX5_end 30 = .ok (.putfield 85, 3) := by decide +kernel
theorem dX5_end_33 : decode cX5_end 33 = .ok (.iload_n 2, 1) := by decide +kernel
theorem dX5_end_34 : decode cX5_end 34 = .ok (.ireturn, 1) := by decide +kernel
theorem dX5_text_0 : decode cX5_text 0 = .ok (.aload_n 0, 1) := by decide +kernel
theorem dX5_text_1 : decode cX5_text 1 = .ok (.getfield 10, 3) := by decide +kernel
theorem dX5_text_4 : decode cX5_text 4 = .ok (.invokevirtual 89, 3) := by decide +kernel
theorem dX5_text_7 : decode cX5_text 7 = .ok (.istore_n 1, 1) := by decide +kernel
theorem dX5_text_8 : decode cX5_text 8 = .ok (.aload_n 0, 1) := by decide +kernel
theorem dX5_text_9 : decode cX5_text 9 = .ok (.getfield 20, 3) := by decide +kernel
theorem dX5_text_12 : decode cX5_text 12 = .ok (.iconst 0, 1) := by decide +kernel
theorem dX5_text_13 : decode cX5_text 13 = .ok (.putfield 85, 3) := by decide +kernel
theorem dX5_text_16 : decode cX5_text 16 = .ok (.aload_n 0, 1) := by decide +kernel
theorem dX5_text_17 : decode cX5_text 17 = .ok (.getfield 10, 3) := by decide +kernel
theorem dX5_text_20 : decode cX5_text 20 = .ok (.getfield 93, 3) := by decide +kernel
theorem dX5_text_23 : decode cX5_text 23 = .ok (.ifCond .eq 14, 3) := by decide +kernel
theorem dX5_text_26 : decode cX5_text 26 = .ok (.bipush (-10), 2) := by decide +kernel
theorem dX5_text_28 : decode cX5_text 28 = .ok (.aload_n 0, 1) := by decide +kernel
theorem dX5_text_29 : decode cX5_text 29 = .ok (.getfield 10, 3) := by decide +kernel
theorem dX5_text_32 : decode cX5_text 32 = .ok (.getfield 96, 3) := by decide +kernel
theorem dX5_text_35 : decode cX5_text 35 = .ok (.isub, 1) := by decide +kernel
theorem dX5_text_36 : decode cX5_text 36 = .ok (.ireturn, 1) := by decide +kernel
theorem dX5_text_37 : decode cX5_text 37 = .ok (.aload_n 0, 1) := by decide +kernel
theorem dX5_text_38 : decode cX5_text 38 = .ok (.getfield 24, 3) := by decide +kernel
theorem dX5_text_41 : decode cX5_text 41 = .ok (.aload_n 0, 1) := by decide +kernel
theorem dX5_text_42 : decode cX5_text 42 = .ok (.getfield 10, 3) := by decide +kernel
theorem dX5_text_45 : decode cX5_text 45 = .ok (.getfield 99, 3) := by decide +kernel
theorem dX5_text_48 : decode cX5_text 48 = .ok (.invokevirtual 102, 3) := by decide +kernel
theorem dX5_text_51 : decode cX5_text 51 = .ok (.aload_n 0, 1) := by decide +kernel
theorem dX5_text_52 : decode cX5_text 52 = .ok (.iconst 0, 1) := by decide +kernel
theorem dX5_text_53 : decode cX5_text 53 = .ok (.putfield 106, 3) := by decide +kernel
theorem dX5_text_56 : decode cX5_text 56 = .ok (.iconst 0, 1) := by decide +kernel
theorem dX5_text_57 : decode cX5_text 57 = .ok (.istore_n 2, 1) := by decide +kernel
theorem dX5_text_58 : decode cX5_text 58 = .ok (.iload_n 2, 1) := by decide +kernel
theorem dX5_text_59 : decode cX5_text 59 = .ok (.iconst 2, 1) := by decide +kernel
theorem dX5_text_60 : decode cX5_text 60 = .ok (.if_icmp .ge 16, 3) := by decide +kernel
theorem dX5_text_63 : decode cX5_text 63 = .ok (.aload_n 0, 1) := by decide +kernel
theorem dX5_text_64 : decode cX5_text 64 = .ok (.getfield 35, 3) := by decide +kernel
theorem dX5_text_67 : decode cX5_text 67 = .ok (.iload_n 2, 1) := by decide +kernel
theorem dX5_text_68 : decode cX5_text 68 = .ok (.iconst 0, 1) := by decide +kernel
theorem dX5_text_69 : decode cX5_text 69 = .ok (.bastore, 1) := by decide +kernel
theorem dX5_text_70 : decode cX5_text 70 = .ok (.iinc 2 1, 3) := by decide +kernel
theorem dX5_text_73 : decode cX5_text 73 = .ok (.goto (-15), 3) := by decide +kernel
theorem dX5_text_76 : decode cX5_text 76 = .ok (.iload_n 1, 1) := by decide +kernel
theorem dX5_text_77 : decode cX5_text 77 = .ok (.ireturn, 1) := by decide +kernel
theorem dX5_fault_0 : decode cX5_fault 0 = .ok (.aload_n 0, 1) := by decide +kernel
theorem dX5_fault_1 : decode cX5_fault 1 = .ok (.getfield 10, 3) := by decide +kernel
theorem dX5_fault_4 : decode cX5_fault 4 = .ok (.getfield 93, 3) := by decide +kernel
theorem dX5_fault_7 : decode cX5_fault 7 = .ok (.ireturn, 1) := by decide +kernel
theorem dX5_rule_0 : decode cX5_rule 0 = .ok (.iload_n 1, 1) := by decide +kernel
theorem dX5_rule_1 : decode cX5_rule 1 = .ok (.tableswitch 72 0 4 #[35, 43, 51, 59, 67], 35) := by decide +kernel
theorem dX5_rule_36 : decode cX5_rule 36 = .ok (.aload_n 0, 1) := by decide +kernel
theorem dX5_rule_37 : decode cX5_rule 37 = .ok (.getfield 24, 3) := by decide +kernel
theorem dX5_rule_40 : decode cX5_rule 40 = .ok (.getfield 109, 3) := by decide +kernel
theorem dX5_rule_43 : decode cX5_rule 43 = .ok (.ireturn, 1) := by decide +kernel
theorem dX5_rule_44 : decode cX5_rule 44 = .ok (.aload_n 0, 1) := by decide +kernel
theorem dX5_rule_45 : decode cX5_rule 45 = .ok (.getfield 24, 3) := by decide +kernel
theorem dX5_rule_48 : decode cX5_rule 48 = .ok (.getfield 112, 3) := by decide +kernel
theorem dX5_rule_51 : decode cX5_rule 51 = .ok (.ireturn, 1) := by decide +kernel
theorem dX5_rule_52 : decode cX5_rule 52 = .ok (.aload_n 0, 1) := by decide +kernel
theorem dX5_rule_53 : decode cX5_rule 53 = .ok (.getfield 24, 3) := by decide +kernel
theorem dX5_rule_56 : decode cX5_rule 56 = .ok (.getfield 115, 3) := by decide +kernel
theorem dX5_rule_59 : decode cX5_rule 59 = .ok (.ireturn, 1) := by decide +kernel
theorem dX5_rule_60 : decode cX5_rule 60 = .ok (.aload_n 0, 1) := by decide +kernel
theorem dX5_rule_61 : decode cX5_rule 61 = .ok (.getfield 24, 3) := by decide +kernel
theorem dX5_rule_64 : decode cX5_rule 64 = .ok (.invokevirtual 118, 3) := by decide +kernel
theorem dX5_rule_67 : decode cX5_rule 67 = .ok (.ireturn, 1) := by decide +kernel
theorem dX5_rule_68 : decode cX5_rule 68 = .ok (.aload_n 0, 1) := by decide +kernel
theorem dX5_rule_69 : decode cX5_rule 69 = .ok (.invokevirtual 121, 3) := by decide +kernel
theorem dX5_rule_72 : decode cX5_rule 72 = .ok (.ireturn, 1) := by decide +kernel
theorem dX5_rule_73 : decode cX5_rule 73 = .ok (.iconst (-1), 1) := by decide +kernel
theorem dX5_rule_74 : decode cX5_rule 74 = .ok (.ireturn, 1) := by decide +kernel
theorem dX5_tub_0 : decode cX5_tub 0 = .ok (.aload_n 0, 1) := by decide +kernel
theorem dX5_tub_1 : decode cX5_tub 1 = .ok (.getfield 24, 3) := by decide +kernel
theorem dX5_tub_4 : decode cX5_tub 4 = .ok (.iload_n 1, 1) := by decide +kernel
theorem dX5_tub_5 : decode cX5_tub 5 = .ok (.invokevirtual 124, 3) := by decide +kernel
theorem dX5_tub_8 : decode cX5_tub 8 = .ok (.ifCond .eq 12, 3) := by decide +kernel
theorem dX5_tub_11 : decode cX5_tub 11 = .ok (.iload_n 2, 1) := by decide +kernel
theorem dX5_tub_12 : decode cX5_tub 12 = .ok (.iconst 0, 1) := by decide +kernel
theorem dX5_tub_13 : decode cX5_tub 13 = .ok (.iconst 5, 1) := by decide +kernel
theorem dX5_tub_14 : decode cX5_tub 14 = .ok (.invokestatic 75, 3) := by decide +kernel
theorem dX5_tub_17 : decode cX5_tub 17 = .ok (.ifCond .ne 5, 3) := by decide +kernel
theorem dX5_tub_20 : decode cX5_tub 20 = .ok (.iconst (-1), 1) := by decide +kernel
theorem dX5_tub_21 : decode cX5_tub 21 = .ok (.ireturn, 1) := by decide +kernel
theorem dX5_tub_22 : decode cX5_tub 22 = .ok (.iload_n 2, 1) := by decide +kernel
theorem dX5_tub_23 : decode cX5_tub 23 = .ok (.iconst 5, 1) := by decide +kernel
theorem dX5_tub_24 : decode cX5_tub 24 = .ok (.if_icmp .ne 19, 3) := by decide +kernel
theorem dX5_tub_27 : decode cX5_tub 27 = .ok (.getstatic 127, 3) := by decide +kernel
theorem dX5_tub_30 : decode cX5_tub 30 = .ok (.aload_n 0, 1) := by decide +kernel
theorem dX5_tub_31 : decode cX5_tub 31 = .ok (.getfield 24, 3) := by decide +kernel
theorem dX5_tub_34 : decode cX5_tub 34 = .ok (.iload_n 1, 1) := by decide +kernel
theorem dX5_tub_35 : decode cX5_tub 35 = .ok (.iconst 0, 1) := by decide +kernel
theorem dX5_tub_36 : decode cX5_tub 36 = .ok (.invokevirtual 130, 3) := by decide +kernel
theorem dX5_tub_39 : decode cX5_tub 39 = .ok (.iaload, 1) := by decide +kernel
theorem dX5_tub_40 : decode cX5_tub 40 = .ok (.goto 12, 3) := by decide +kernel
theorem dX5_tub_43 : decode cX5_tub 43 = .ok (.aload_n 0, 1) := by decide +kernel
theorem dX5_tub_44 : decode cX5_tub 44 = .ok (.getfield 24, 3) := by decide +kernel
theorem dX5_tub_47 : decode cX5_tub 47 = .ok (.iload_n 1, 1) := by decide +kernel
theorem dX5_tub_48 : decode cX5_tub 48 = .ok (.iload_n 2, 1) := by decide +kernel
theorem dX5_tub_49 : decode cX5_tub 49 = .ok (.invokevirtual 130, 3) := by decide +kernel
theorem dX5_tub_52 : decode cX5_tub 52 = .ok (.ireturn, 1) := by decide +kernel
theorem dX5_heir_0 : decode cX5_heir 0 = .ok (.aload_n 0, 1) := by decide +kernel
theorem dX5_heir_1 : decode cX5_heir 1 = .ok (.getfield 24, 3) := by decide +kernel
theorem dX5_heir_4 : decode cX5_heir 4 = .ok (.iload_n 1, 1) := by decide +kernel
theorem dX5_heir_5 : decode cX5_heir 5 = .ok (.invokevirtual 134, 3) := by decide +kernel
theorem dX5_heir_8 : decode cX5_heir 8 = .ok (.ifCond .eq 12, 3) := by decide +kernel
theorem dX5_heir_11 : decode cX5_heir 11 = .ok (.iload_n 2, 1) := by decide +kernel
theorem dX5_heir_12 : decode cX5_heir 12 = .ok (.iconst 0, 1) := by decide +kernel
theorem dX5_heir_13 : decode cX5_heir 13 = .ok (.iconst 3, 1) := by decide +kernel
theorem dX5_heir_14 : decode cX5_heir 14 = .ok (.invokestatic 75, 3) := by decide +kernel
theorem dX5_heir_17 : decode cX5_heir 17 = .ok (.ifCond .ne 5, 3) := by decide +kernel
theorem dX5_heir_20 : decode cX5_heir 20 = .ok (.iconst (-1), 1) := by decide +kernel
theorem dX5_heir_21 : decode cX5_heir 21 = .ok (.ireturn, 1) := by decide +kernel
theorem dX5_heir_22 : decode cX5_heir 22 = .ok (.aload_n 0, 1) := by decide +kernel
theorem dX5_heir_23 : decode cX5_heir 23 = .ok (.getfield 24, 3) := by decide +kernel
theorem dX5_heir_26 : decode cX5_heir 26 = .ok (.iload_n 1, 1) := by decide +kernel
theorem dX5_heir_27 : decode cX5_heir 27 = .ok (.iload_n 2, 1) := by decide +kernel
theorem dX5_heir_28 : decode cX5_heir 28 = .ok (.invokevirtual 137, 3) := by decide +kernel
theorem dX5_heir_31 : decode cX5_heir 31 = .ok (.ireturn, 1) := by decide +kernel
theorem dX5_current_0 : decode cX5_current 0 = .ok (.iload_n 1, 1) := by decide +kernel
theorem dX5_current_1 : decode cX5_current 1 = .ok (.iconst 0, 1) := by decide +kernel
theorem dX5_current_2 : decode cX5_current 2 = .ok (.bipush 9, 2) := by decide +kernel
theorem dX5_current_4 : decode cX5_current 4 = .ok (.invokestatic 75, 3) := by decide +kernel
theorem dX5_current_7 : decode cX5_current 7 = .ok (.ifCond .eq 15, 3) := by decide +kernel
theorem dX5_current_10 : decode cX5_current 10 = .ok (.aload_n 0, 1) := by decide +kernel
theorem dX5_current_11 : decode cX5_current 11 = .ok (.getfield 24, 3) := by decide +kernel
theorem dX5_current_14 : decode cX5_current 14 = .ok (.getfield 140, 3) := by decide +kernel
theorem dX5_current_17 : decode cX5_current 17 = .ok (.iload_n 1, 1) := by decide +kernel
theorem dX5_current_18 : decode cX5_current 18 = .ok (.iaload, 1) := by decide +kernel
theorem dX5_current_19 : decode cX5_current 19 = .ok (.goto 4, 3) := by decide +kernel
theorem dX5_current_22 : decode cX5_current 22 = .ok (.iconst (-1), 1) := by decide +kernel
theorem dX5_current_23 : decode cX5_current 23 = .ok (.ireturn, 1) := by decide +kernel
theorem dX5_wind_0 : decode cX5_wind 0 = .ok (.iload_n 1, 1) := by decide +kernel
theorem dX5_wind_1 : decode cX5_wind 1 = .ok (.iconst 0, 1) := by decide +kernel
theorem dX5_wind_2 : decode cX5_wind 2 = .ok (.bipush 23, 2) := by decide +kernel
theorem dX5_wind_4 : decode cX5_wind 4 = .ok (.invokestatic 75, 3) := by decide +kernel
theorem dX5_wind_7 : decode cX5_wind 7 = .ok (.ifCond .eq 15, 3) := by decide +kernel
theorem dX5_wind_10 : decode cX5_wind 10 = .ok (.aload_n 0, 1) := by decide +kernel
theorem dX5_wind_11 : decode cX5_wind 11 = .ok (.getfield 24, 3) := by decide +kernel
theorem dX5_wind_14 : decode cX5_wind 14 = .ok (.getfield 143, 3) := by decide +kernel
theorem dX5_wind_17 : decode cX5_wind 17 = .ok (.iload_n 1, 1) := by decide +kernel
theorem dX5_wind_18 : decode cX5_wind 18 = .ok (.iaload, 1) := by decide +kernel
theorem dX5_wind_19 : decode cX5_wind 19 = .ok (.goto 4, 3) := by decide +kernel
theorem dX5_wind_22 : decode cX5_wind 22 = .ok (.iconst (-1), 1) := by decide +kernel
theorem dX5_wind_23 : decode cX5_wind 23 = .ok (.ireturn, 1) := by decide +kernel
theorem dX5_alter_0 : decode cX5_alter 0 = .ok (.aload_n 0, 1) := by decide +kernel
theorem dX5_alter_1 : decode cX5_alter 1 = .ok (.getfield 24, 3) := by decide +kernel
theorem dX5_alter_4 : decode cX5_alter 4 = .ok (.iload_n 1, 1) := by decide +kernel
theorem dX5_alter_5 : decode cX5_alter 5 = .ok (.invokevirtual 124, 3) := by decide +kernel
theorem dX5_alter_8 : decode cX5_alter 8 = .ok (.ifCond .eq 11, 3) := by decide +kernel
theorem dX5_alter_11 : decode cX5_alter 11 = .ok (.iload_n 2, 1) := by decide +kernel
theorem dX5_alter_12 : decode cX5_alter 12 = .ok (.iload_n 3, 1) := by decide +kernel
theorem dX5_alter_13 : decode cX5_alter 13 = .ok (.invokestatic 146, 3) := by decide +kernel
theorem dX5_alter_16 : decode cX5_alter 16 = .ok (.ifCond .ne 5, 3) := by decide +kernel
theorem dX5_alter_19 : decode cX5_alter 19 = .ok (.iconst (-1), 1) := by decide +kernel
theorem dX5_alter_20 : decode cX5_alter 20 = .ok (.ireturn, 1) := by decide +kernel
theorem dX5_alter_21 : decode cX5_alter 21 = .ok (.aload_n 0, 1) := by decide +kernel
theorem dX5_alter_22 : decode cX5_alter 22 = .ok (.getfield 24, 3) := by decide +kernel
theorem dX5_alter_25 : decode cX5_alter 25 = .ok (.iload_n 1, 1) := by decide +kernel
theorem dX5_alter_26 : decode cX5_alter 26 = .ok (.iload_n 2, 1) := by decide +kernel
theorem dX5_alter_27 : decode cX5_alter 27 = .ok (.invokevirtual 130, 3) := by decide +kernel
theorem dX5_alter_30 : decode cX5_alter 30 = .ok (.istore 4, 2) := by decide +kernel
theorem dX5_alter_32 : decode cX5_alter 32 = .ok (.aload_n 0, 1) := by decide +kernel
theorem dX5_alter_33 : decode cX5_alter 33 = .ok (.getfield 24, 3) := by decide +kernel
theorem dX5_alter_36 : decode cX5_alter 36 = .ok (.iload_n 1, 1) := by decide +kernel
theorem dX5_alter_37 : decode cX5_alter 37 = .ok (.iload_n 2, 1) := by decide +kernel
theorem dX5_alter_38 : decode cX5_alter 38 = .ok (.iload_n 3, 1) := by decide +kernel
theorem dX5_alter_39 : decode cX5_alter 39 = .ok (.invokevirtual 150, 3) := by decide +kernel
theorem dX5_alter_42 : decode cX5_alter 42 = .ok (.iload 4, 2) := by decide +kernel
theorem dX5_alter_44 : decode cX5_alter 44 = .ok (.ireturn, 1) := by decide +kernel
theorem dX5_stand_0 : decode cX5_stand 0 = .ok (.aload_n 0, 1) := by decide +kernel
theorem dX5_stand_1 : decode cX5_stand 1 = .ok (.getfield 24, 3) := by decide +kernel
theorem dX5_stand_4 : decode cX5_stand 4 = .ok (.iload_n 1, 1) := by decide +kernel
theorem dX5_stand_5 : decode cX5_stand 5 = .ok (.invokevirtual 134, 3) := by decide +kernel
theorem dX5_stand_8 : decode cX5_stand 8 = .ok (.ifCond .eq 11, 3) := by decide +kernel
theorem dX5_stand_11 : decode cX5_stand 11 = .ok (.iload_n 2, 1) := by decide +kernel
theorem dX5_stand_12 : decode cX5_stand 12 = .ok (.iload_n 3, 1) := by decide +kernel
theorem dX5_stand_13 : decode cX5_stand 13 = .ok (.invokestatic 154, 3) := by decide +kernel
theorem dX5_stand_16 : decode cX5_stand 16 = .ok (.ifCond .ne 5, 3) := by decide +kernel
theorem dX5_stand_19 : decode cX5_stand 19 = .ok (.iconst (-1), 1) := by decide +kernel
theorem dX5_stand_20 : decode cX5_stand 20 = .ok (.ireturn, 1) := by decide +kernel
theorem dX5_stand_21 : decode cX5_stand 21 = .ok (.iload_n 2, 1) := by decide +kernel
theorem dX5_stand_22 : decode cX5_stand 22 = .ok (.iconst 1, 1) := by decide +kernel
theorem dX5_stand_23 : decode cX5_stand 23 = .ok (.if_icmp .ne 18, 3) := by decide +kernel
theorem dX5_stand_26 : decode cX5_stand 26 = .ok (.iload_n 3, 1) := by decide +kernel
theorem dX5_stand_27 : decode cX5_stand 27 = .ok (.aload_n 0, 1) := by decide +kernel
theorem dX5_stand_28 : decode cX5_stand 28 = .ok (.getfield 24, 3) := by decide +kernel
theorem dX5_stand_31 : decode cX5_stand 31 = .ok (.iload_n 1, 1) := by decide +kernel
theorem dX5_stand_32 : decode cX5_stand 32 = .ok (.iconst 2, 1) := by decide +kernel
theorem dX5_stand_33 : decode cX5_stand 33 = .ok (.invokevirtual 137, 3) := by decide +kernel
theorem dX5_stand_36 : decode cX5_stand 36 = .ok (.if_icmp .le 5, 3) := by decide +kernel
theorem dX5_stand_39 : decode cX5_stand 39 = .ok (.iconst (-1), 1) := by decide +kernel
theorem dX5_stand_40 : decode cX5_stand 40 = .ok (.ireturn, 1) := by decide +kernel
theorem dX5_stand_41 : decode cX5_stand 41 = .ok (.iload_n 2, 1) := by decide +kernel
theorem dX5_stand_42 : decode cX5_stand 42 = .ok (.iconst 2, 1) := by decide +kernel
theorem dX5_stand_43 : decode cX5_stand 43 = .ok (.if_icmp .ne 18, 3) := by decide +kernel
theorem dX5_stand_46 : decode cX5_stand 46 = .ok (.iload_n 3, 1) := by decide +kernel
theorem dX5_stand_47 : decode cX5_stand 47 = .ok (.aload_n 0, 1) := by decide +kernel
theorem dX5_stand_48 : decode cX5_stand 48 = .ok (.getfield 24, 3) := by decide +kernel
theorem dX5_stand_51 : decode cX5_stand 51 = .ok (.iload_n 1, 1) := by decide +kernel
theorem dX5_stand_52 : decode cX5_stand 52 = .ok (.iconst 1, 1) := by decide +kernel
theorem dX5_stand_53 : decode cX5_stand 53 = .ok (.invokevirtual 137, 3) := by decide +kernel
theorem dX5_stand_56 : decode cX5_stand 56 = .ok (.if_icmp .ge 5, 3) := by decide +kernel
theorem dX5_stand_59 : decode cX5_stand 59 = .ok (.iconst (-1), 1) := by decide +kernel
theorem dX5_stand_60 : decode cX5_stand 60 = .ok (.ireturn, 1) := by decide +kernel
theorem dX5_stand_61 : decode cX5_stand 61 = .ok (.aload_n 0, 1) := by decide +kernel
theorem dX5_stand_62 : decode cX5_stand 62 = .ok (.getfield 24, 3) := by decide +kernel
theorem dX5_stand_65 : decode cX5_stand 65 = .ok (.iload_n 1, 1) := by decide +kernel
theorem dX5_stand_66 : decode cX5_stand 66 = .ok (.iload_n 2, 1) := by decide +kernel
theorem dX5_stand_67 : decode cX5_stand 67 = .ok (.invokevirtual 137, 3) := by decide +kernel
theorem dX5_stand_70 : decode cX5_stand 70 = .ok (.istore 4, 2) := by decide +kernel
theorem dX5_stand_72 : decode cX5_stand 72 = .ok (.aload_n 0, 1) := by decide +kernel
theorem dX5_stand_73 : decode cX5_stand 73 = .ok (.getfield 24, 3) := by decide +kernel
theorem dX5_stand_76 : decode cX5_stand 76 = .ok (.iload_n 1, 1) := by decide +kernel
theorem dX5_stand_77 : decode cX5_stand 77 = .ok (.iload_n 2, 1) := by decide +kernel
theorem dX5_stand_78 : decode cX5_stand 78 = .ok (.iload_n 3, 1) := by decide +kernel
theorem dX5_stand_79 : decode cX5_stand 79 = .ok (.invokevirtual 157, 3) := by decide +kernel
theorem dX5_stand_82 : decode cX5_stand 82 = .ok (.iload 4, 2) := by decide +kernel
theorem dX5_stand_84 : decode cX5_stand 84 = .ok (.ireturn, 1) := by decide +kernel
theorem dX5_set_0 : decode cX5_set 0 = .ok (.iload_n 1, 1) := by decide +kernel
theorem dX5_set_1 : decode cX5_set 1 = .ok (.iconst 0, 1) := by decide +kernel
theorem dX5_set_2 : decode cX5_set 2 = .ok (.bipush 9, 2) := by decide +kernel
theorem dX5_set_4 : decode cX5_set 4 = .ok (.invokestatic 75, 3) := by decide +kernel
theorem dX5_set_7 : decode cX5_set 7 = .ok (.ifCond .eq 12, 3) := by decide +kernel
theorem dX5_set_10 : decode cX5_set 10 = .ok (.iload_n 2, 1) := by decide +kernel
theorem dX5_set_11 : decode cX5_set 11 = .ok (.iconst 0, 1) := by decide +kernel
theorem dX5_set_12 : decode cX5_set 12 = .ok (.iconst 4, 1) := by decide +kernel
theorem dX5_set_13 : decode cX5_set 13 = .ok (.invokestatic 75, 3) := by decide +kernel
theorem dX5_set_16 : decode cX5_set 16 = .ok (.ifCond .ne 5, 3) := by decide +kernel
theorem dX5_set_19 : decode cX5_set 19 = .ok (.iconst (-1), 1) := by decide +kernel
theorem dX5_set_20 : decode cX5_set 20 = .ok (.ireturn, 1) := by decide +kernel
theorem dX5_set_21 : decode cX5_set 21 = .ok (.aload_n 0, 1) := by decide +kernel
theorem dX5_set_22 : decode cX5_set 22 = .ok (.getfield 24, 3) := by decide +kernel
theorem dX5_set_25 : decode cX5_set 25 = .ok (.getfield 140, 3) := by decide +kernel
theorem dX5_set_28 : decode cX5_set 28 = .ok (.iload_n 1, 1) := by decide +kernel
theorem dX5_set_29 : decode cX5_set 29 = .ok (.iaload, 1) := by decide +kernel
theorem dX5_set_30 : decode cX5_set 30 = .ok (.istore_n 3, 1) := by decide +kernel
theorem dX5_set_31 : decode cX5_set 31 = .ok (.aload_n 0, 1) := by decide +kernel
theorem dX5_set_32 : decode cX5_set 32 = .ok (.getfield 24, 3) := by decide +kernel
theorem dX5_set_35 : decode cX5_set 35 = .ok (.getfield 140, 3) := by decide +kernel
theorem dX5_set_38 : decode cX5_set 38 = .ok (.iload_n 1, 1) := by decide +kernel
theorem dX5_set_39 : decode cX5_set 39 = .ok (.iload_n 2, 1) := by decide +kernel
theorem dX5_set_40 : decode cX5_set 40 = .ok (.iastore, 1) := by decide +kernel
theorem dX5_set_41 : decode cX5_set 41 = .ok (.iload_n 3, 1) := by decide +kernel
theorem dX5_set_42 : decode cX5_set 42 = .ok (.ireturn, 1) := by decide +kernel
theorem dX5_blow_0 : decode cX5_blow 0 = .ok (.iload_n 1, 1) := by decide +kernel
theorem dX5_blow_1 : decode cX5_blow 1 = .ok (.iconst 0, 1) := by decide +kernel
theorem dX5_blow_2 : decode cX5_blow 2 = .ok (.bipush 23, 2) := by decide +kernel
theorem dX5_blow_4 : decode cX5_blow 4 = .ok (.invokestatic 75, 3) := by decide +kernel
theorem dX5_blow_7 : decode cX5_blow 7 = .ok (.ifCond .eq 12, 3) := by decide +kernel
theorem dX5_blow_10 : decode cX5_blow 10 = .ok (.iload_n 2, 1) := by decide +kernel
theorem dX5_blow_11 : decode cX5_blow 11 = .ok (.iconst 0, 1) := by decide +kernel
theorem dX5_blow_12 : decode cX5_blow 12 = .ok (.iconst 4, 1) := by decide +kernel
theorem dX5_blow_13 : decode cX5_blow 13 = .ok (.invokestatic 75, 3) := by decide +kernel
theorem dX5_blow_16 : decode cX5_blow 16 = .ok (.ifCond .ne 5, 3) := by decide +kernel
theorem dX5_blow_19 : decode cX5_blow 19 = .ok (.iconst (-1), 1) := by decide +kernel
theorem dX5_blow_20 : decode cX5_blow 20 = .ok (.ireturn, 1) := by decide +kernel
theorem dX5_blow_21 : decode cX5_blow 21 = .ok (.aload_n 0, 1) := by decide +kernel
theorem dX5_blow_22 : decode cX5_blow 22 = .ok (.getfield 24, 3) := by decide +kernel
theorem dX5_blow_25 : decode cX5_blow 25 = .ok (.getfield 143, 3) := by decide +kernel
theorem dX5_blow_28 : decode cX5_blow 28 = .ok (.iload_n 1, 1) := by decide +kernel
theorem dX5_blow_29 : decode cX5_blow 29 = .ok (.iaload, 1) := by decide +kernel
theorem dX5_blow_30 : decode cX5_blow 30 = .ok (.istore_n 3, 1) := by decide +kernel
theorem dX5_blow_31 : decode cX5_blow 31 = .ok (.aload_n 0, 1) := by decide +kernel
theorem dX5_blow_32 : decode cX5_blow 32 = .ok (.getfield 24, 3) := by decide +kernel
theorem dX5_blow_35 : decode cX5_blow 35 = .ok (.getfield 143, 3) := by decide +kernel
theorem dX5_blow_38 : decode cX5_blow 38 = .ok (.iload_n 1, 1) := by decide +kernel
theorem dX5_blow_39 : decode cX5_blow 39 = .ok (.iload_n 2, 1) := by decide +kernel
theorem dX5_blow_40 : decode cX5_blow 40 = .ok (.iastore, 1) := by decide +kernel
theorem dX5_blow_41 : decode cX5_blow 41 = .ok (.iload_n 3, 1) := by decide +kernel
theorem dX5_blow_42 : decode cX5_blow 42 = .ok (.ireturn, 1) := by decide +kernel
theorem dX5_phase_0 : decode cX5_phase 0 = .ok (.iload_n 1, 1) := by decide +kernel
theorem dX5_phase_1 : decode cX5_phase 1 = .ok (.iconst 0, 1) := by decide +kernel
theorem dX5_phase_2 : decode cX5_phase 2 = .ok (.iconst 5, 1) := by decide +kernel
theorem dX5_phase_3 : decode cX5_phase 3 = .ok (.invokestatic 75, 3) := by decide +kernel
theorem dX5_phase_6 : decode cX5_phase 6 = .ok (.ifCond .ne 5, 3) := by decide +kernel
theorem dX5_phase_9 : decode cX5_phase 9 = .ok (.iconst (-1), 1) := by decide +kernel
theorem dX5_phase_10 : decode cX5_phase 10 = .ok (.ireturn, 1) := by decide +kernel
theorem dX5_phase_11 : decode cX5_phase 11 = .ok (.aload_n 0, 1) := by decide +kernel
theorem dX5_phase_12 : decode cX5_phase 12 = .ok (.getfield 24, 3) := by decide +kernel
theorem dX5_phase_15 : decode cX5_phase 15 = .ok (.getfield 115, 3) := by decide +kernel
theorem dX5_phase_18 : decode cX5_phase 18 = .ok (.istore_n 2, 1) := by decide +kernel
theorem dX5_phase_19 : decode cX5_phase 19 = .ok (.aload_n 0, 1) := by decide +kernel
theorem dX5_phase_20 : decode cX5_phase 20 = .ok (.getfield 24, 3) := by decide +kernel
theorem dX5_phase_23 : decode cX5_phase 23 = .ok (.iload_n 1, 1) := by decide +kernel
theorem dX5_phase_24 : decode cX5_phase 24 = .ok (.putfield 115, 3) := by decide +kernel
theorem dX5_phase_27 : decode cX5_phase 27 = .ok (.iload_n 2, 1) := by decide +kernel
theorem dX5_phase_28 : decode cX5_phase 28 = .ok (.ireturn, 1) := by decide +kernel
theorem dX5_cast_0 : decode cX5_cast 0 = .ok (.aload_n 0, 1) := by decide +kernel
theorem dX5_cast_1 : decode cX5_cast 1 = .ok (.iload_n 1, 1) := by decide +kernel
theorem dX5_cast_2 : decode cX5_cast 2 = .ok (.iload_n 2, 1) := by decide +kernel
theorem dX5_cast_3 : decode cX5_cast 3 = .ok (.iload_n 3, 1) := by decide +kernel
theorem dX5_cast_4 : decode cX5_cast 4 = .ok (.invokevirtual 160, 3) := by decide +kernel
theorem dX5_cast_7 : decode cX5_cast 7 = .ok (.ireturn, 1) := by decide +kernel
theorem dX5_sink_0 : decode cX5_sink 0 = .ok (.iload_n 1, 1) := by decide +kernel
theorem dX5_sink_1 : decode cX5_sink 1 = .ok (.iconst 0, 1) := by decide +kernel
theorem dX5_sink_2 : decode cX5_sink 2 = .ok (.aload_n 0, 1) := by decide +kernel
theorem dX5_sink_3 : decode cX5_sink 3 = .ok (.getfield 24, 3) := by decide +kernel
theorem dX5_sink_6 : decode cX5_sink 6 = .ok (.getfield 109, 3) := by decide +kernel
theorem dX5_sink_9 : decode cX5_sink 9 = .ok (.invokestatic 75, 3) := by decide +kernel
theorem dX5_sink_12 : decode cX5_sink 12 = .ok (.ifCond .ne 5, 3) := by decide +kernel
theorem dX5_sink_15 : decode cX5_sink 15 = .ok (.iconst (-1), 1) := by decide +kernel
theorem dX5_sink_16 : decode cX5_sink 16 = .ok (.ireturn, 1) := by decide +kernel
theorem dX5_sink_17 : decode cX5_sink 17 = .ok (.aload_n 0, 1) := by decide +kernel
theorem dX5_sink_18 : decode cX5_sink 18 = .ok (.getfield 24, 3) := by decide +kernel
theorem dX5_sink_21 : decode cX5_sink 21 = .ok (.getfield 109, 3) := by decide +kernel
theorem dX5_sink_24 : decode cX5_sink 24 = .ok (.istore_n 2, 1) := by decide +kernel
theorem dX5_sink_25 : decode cX5_sink 25 = .ok (.aload_n 0, 1) := by decide +kernel
theorem dX5_sink_26 : decode cX5_sink 26 = .ok (.getfield 24, 3) := by decide +kernel
theorem dX5_sink_29 : decode cX5_sink 29 = .ok (.iload_n 1, 1) := by decide +kernel
theorem dX5_sink_30 : decode cX5_sink 30 = .ok (.putfield 109, 3) := by decide +kernel
theorem dX5_sink_33 : decode cX5_sink 33 = .ok (.iload_n 2, 1) := by decide +kernel
theorem dX5_sink_34 : decode cX5_sink 34 = .ok (.ireturn, 1) := by decide +kernel
theorem dX5_fate_0 : decode cX5_fate 0 = .ok (.aload_n 0, 1) := by decide +kernel
theorem dX5_fate_1 : decode cX5_fate 1 = .ok (.getfield 24, 3) := by decide +kernel
theorem dX5_fate_4 : decode cX5_fate 4 = .ok (.iload_n 1, 1) := by decide +kernel
theorem dX5_fate_5 : decode cX5_fate 5 = .ok (.invokevirtual 124, 3) := by decide +kernel
theorem dX5_fate_8 : decode cX5_fate 8 = .ok (.ifCond .eq 12, 3) := by decide +kernel
theorem dX5_fate_11 : decode cX5_fate 11 = .ok (.iload_n 2, 1) := by decide +kernel
theorem dX5_fate_12 : decode cX5_fate 12 = .ok (.iconst 0, 1) := by decide +kernel
theorem dX5_fate_13 : decode cX5_fate 13 = .ok (.iconst 3, 1) := by decide +kernel
theorem dX5_fate_14 : decode cX5_fate 14 = .ok (.invokestatic 75, 3) := by decide +kernel
theorem dX5_fate_17 : decode cX5_fate 17 = .ok (.ifCond .ne 5, 3) := by decide +kernel
theorem dX5_fate_20 : decode cX5_fate 20 = .ok (.iconst (-1), 1) := by decide +kernel
theorem dX5_fate_21 : decode cX5_fate 21 = .ok (.ireturn, 1) := by decide +kernel
theorem dX5_fate_22 : decode cX5_fate 22 = .ok (.aload_n 0, 1) := by decide +kernel
theorem dX5_fate_23 : decode cX5_fate 23 = .ok (.getfield 49, 3) := by decide +kernel
theorem dX5_fate_26 : decode cX5_fate 26 = .ok (.aload_n 0, 1) := by decide +kernel
theorem dX5_fate_27 : decode cX5_fate 27 = .ok (.getfield 24, 3) := by decide +kernel
theorem dX5_fate_30 : decode cX5_fate 30 = .ok (.iload_n 1, 1) := by decide +kernel
theorem dX5_fate_31 : decode cX5_fate 31 = .ok (.bipush 24, 2) := by decide +kernel
theorem dX5_fate_33 : decode cX5_fate 33 = .ok (.invokevirtual 164, 3) := by decide +kernel
theorem dX5_fate_36 : decode cX5_fate 36 = .ok (.iload_n 2, 1) := by decide +kernel
theorem dX5_fate_37 : decode cX5_fate 37 = .ok (.tableswitch 56 0 2 #[27, 36, 46], 27) := by decide +kernel
theorem dX5_fate_64 : decode cX5_fate 64 = .ok (.aload_n 0, 1) := by decide +kernel
theorem dX5_fate_65 : decode cX5_fate 65 = .ok (.getfield 49, 3) := by decide +kernel
theorem dX5_fate_68 : decode cX5_fate 68 = .ok (.iload_n 1, 1) := by decide +kernel
theorem dX5_fate_69 : decode cX5_fate 69 = .ok (.invokevirtual 168, 3) := by decide +kernel
theorem dX5_fate_72 : decode cX5_fate 72 = .ok (.ireturn, 1) := by decide +kernel
theorem dX5_fate_73 : decode cX5_fate 73 = .ok (.aload_n 0, 1) := by decide +kernel
theorem dX5_fate_74 : decode cX5_fate 74 = .ok (.getfield 49, 3) := by decide +kernel
theorem dX5_fate_77 : decode cX5_fate 77 = .ok (.getfield 172, 3) := by decide +kernel
theorem dX5_fate_80 : decode cX5_fate 80 = .ok (.iload_n 1, 1) := by decide +kernel
theorem dX5_fate_81 : decode cX5_fate 81 = .ok (.iaload, 1) := by decide +kernel
theorem dX5_fate_82 : decode cX5_fate 82 = .ok (.ireturn, 1) := by decide +kernel
theorem dX5_fate_83 : decode cX5_fate 83 = .ok (.aload_n 0, 1) := by decide +kernel
theorem dX5_fate_84 : decode cX5_fate 84 = .ok (.getfield 49, 3) := by decide +kernel
theorem dX5_fate_87 : decode cX5_fate 87 = .ok (.getfield 175, 3) := by decide +kernel
theorem dX5_fate_90 : decode cX5_fate 90 = .ok (.iload_n 1, 1) := by decide +kernel
theorem dX5_fate_91 : decode cX5_fate 91 = .ok (.iaload, 1) := by decide +kernel
theorem dX5_fate_92 : decode cX5_fate 92 = .ok (.ireturn, 1) := by decide +kernel
theorem dX5_fate_93 : decode cX5_fate 93 = .ok (.aload_n 0, 1) := by decide +kernel
theorem dX5_fate_94 : decode cX5_fate 94 = .ok (.getfield 49, 3) := by decide +kernel
theorem dX5_fate_97 : decode cX5_fate 97 = .ok (.getfield 178, 3) := by decide +kernel
theorem dX5_fate_100 : decode cX5_fate 100 = .ok (.iload_n 1, 1) := by decide +kernel
theorem dX5_fate_101 : decode cX5_fate 101 = .ok (.iaload, 1) := by decide +kernel
theorem dX5_fate_102 : decode cX5_fate 102 = .ok (.ireturn, 1) := by decide +kernel
theorem dX5_where_0 : decode cX5_where 0 = .ok (.aload_n 0, 1) := by decide +kernel
theorem dX5_where_1 : decode cX5_where 1 = .ok (.getfield 24, 3) := by decide +kernel
theorem dX5_where_4 : decode cX5_where 4 = .ok (.iload_n 1, 1) := by decide +kernel
theorem dX5_where_5 : decode cX5_where 5 = .ok (.invokevirtual 124, 3) := by decide +kernel
theorem dX5_where_8 : decode cX5_where 8 = .ok (.ifCond .eq 22, 3) := by decide +kernel
theorem dX5_where_11 : decode cX5_where 11 = .ok (.iload_n 2, 1) := by decide +kernel
theorem dX5_where_12 : decode cX5_where 12 = .ok (.iconst 0, 1) := by decide +kernel
theorem dX5_where_13 : decode cX5_where 13 = .ok (.bipush 24, 2) := by decide +kernel
theorem dX5_where_15 : decode cX5_where 15 = .ok (.invokestatic 75, 3) := by decide +kernel
theorem dX5_where_18 : decode cX5_where 18 = .ok (.ifCond .eq 12, 3) := by decide +kernel
theorem dX5_where_21 : decode cX5_where 21 = .ok (.iload_n 3, 1) := by decide +kernel
theorem dX5_where_22 : decode cX5_where 22 = .ok (.iconst 0, 1) := by decide +kernel
theorem dX5_where_23 : decode cX5_where 23 = .ok (.iconst 2, 1) := by decide +kernel
theorem dX5_where_24 : decode cX5_where 24 = .ok (.invokestatic 75, 3) := by decide +kernel
theorem dX5_where_27 : decode cX5_where 27 = .ok (.ifCond .ne 5, 3) := by decide +kernel
theorem dX5_where_30 : decode cX5_where 30 = .ok (.iconst (-1), 1) := by decide +kernel
theorem dX5_where_31 : decode cX5_where 31 = .ok (.ireturn, 1) := by decide +kernel
theorem dX5_where_32 : decode cX5_where 32 = .ok (.aload_n 0, 1) := by decide +kernel
theorem dX5_where_33 : decode cX5_where 33 = .ok (.getfield 49, 3) := by decide +kernel
theorem dX5_where_36 : decode cX5_where 36 = .ok (.aload_n 0, 1) := by decide +kernel
theorem dX5_where_37 : decode cX5_where 37 = .ok (.getfield 24, 3) := by decide +kernel
theorem dX5_where_40 : decode cX5_where 40 = .ok (.iload_n 1, 1) := by decide +kernel
theorem dX5_where_41 : decode cX5_where 41 = .ok (.iload_n 2, 1) := by decide +kernel
theorem dX5_where_42 : decode cX5_where 42 = .ok (.invokevirtual 164, 3) := by decide +kernel
theorem dX5_where_45 : decode cX5_where 45 = .ok (.iload_n 3, 1) := by decide +kernel
theorem dX5_where_46 : decode cX5_where 46 = .ok (.lookupswitch 45 #[(0, 26), (1, 35)], 26) := by decide +kernel
theorem dX5_where_72 : decode cX5_where 72 = .ok (.aload_n 0, 1) := by decide +kernel
theorem dX5_where_73 : decode cX5_where 73 = .ok (.getfield 49, 3) := by decide +kernel
theorem dX5_where_76 : decode cX5_where 76 = .ok (.iload_n 1, 1) := by decide +kernel
theorem dX5_where_77 : decode cX5_where 77 = .ok (.invokevirtual 181, 3) := by decide +kernel
theorem dX5_where_80 : decode cX5_where 80 = .ok (.ireturn, 1) := by decide +kernel
theorem dX5_where_81 : decode cX5_where 81 = .ok (.aload_n 0, 1) := by decide +kernel
theorem dX5_where_82 : decode cX5_where 82 = .ok (.getfield 49, 3) := by decide +kernel
theorem dX5_where_85 : decode cX5_where 85 = .ok (.getfield 184, 3) := by decide +kernel
theorem dX5_where_88 : decode cX5_where 88 = .ok (.iload_n 1, 1) := by decide +kernel
theorem dX5_where_89 : decode cX5_where 89 = .ok (.iaload, 1) := by decide +kernel
theorem dX5_where_90 : decode cX5_where 90 = .ok (.ireturn, 1) := by decide +kernel
theorem dX5_where_91 : decode cX5_where 91 = .ok (.aload_n 0, 1) := by decide +kernel
theorem dX5_where_92 : decode cX5_where 92 = .ok (.getfield 49, 3) := by decide +kernel
theorem dX5_where_95 : decode cX5_where 95 = .ok (.iload_n 1, 1) := by decide +kernel
theorem dX5_where_96 : decode cX5_where 96 = .ok (.invokevirtual 168, 3) := by decide +kernel
theorem dX5_where_99 : decode cX5_where 99 = .ok (.ireturn, 1) := by decide +kernel
theorem dX5_has_0 : decode cX5_has 0 = .ok (.aload_n 0, 1) := by decide +kernel
theorem dX5_has_1 : decode cX5_has 1 = .ok (.getfield 24, 3) := by decide +kernel
theorem dX5_has_4 : decode cX5_has 4 = .ok (.iload_n 1, 1) := by decide +kernel
theorem dX5_has_5 : decode cX5_has 5 = .ok (.invokevirtual 134, 3) := by decide +kernel
theorem dX5_has_8 : decode cX5_has 8 = .ok (.ifCond .eq 12, 3) := by decide +kernel
theorem dX5_has_11 : decode cX5_has 11 = .ok (.iload_n 2, 1) := by decide +kernel
theorem dX5_has_12 : decode cX5_has 12 = .ok (.iconst 0, 1) := by decide +kernel
theorem dX5_has_13 : decode cX5_has 13 = .ok (.iconst 1, 1) := by decide +kernel
theorem dX5_has_14 : decode cX5_has 14 = .ok (.invokestatic 75, 3) := by decide +kernel
theorem dX5_has_17 : decode cX5_has 17 = .ok (.ifCond .ne 5, 3) := by decide +kernel
theorem dX5_has_20 : decode cX5_has 20 = .ok (.iconst (-1), 1) := by decide +kernel
theorem dX5_has_21 : decode cX5_has 21 = .ok (.ireturn, 1) := by decide +kernel
theorem dX5_has_22 : decode cX5_has 22 = .ok (.aload_n 0, 1) := by decide +kernel
theorem dX5_has_23 : decode cX5_has 23 = .ok (.getfield 49, 3) := by decide +kernel
theorem dX5_has_26 : decode cX5_has 26 = .ok (.aload_n 0, 1) := by decide +kernel
theorem dX5_has_27 : decode cX5_has 27 = .ok (.getfield 24, 3) := by decide +kernel
theorem dX5_has_30 : decode cX5_has 30 = .ok (.invokevirtual 187, 3) := by decide +kernel
theorem dX5_has_33 : decode cX5_has 33 = .ok (.iload_n 2, 1) := by decide +kernel
theorem dX5_has_34 : decode cX5_has 34 = .ok (.ifCond .ne 18, 3) := by decide +kernel
theorem dX5_has_37 : decode cX5_has 37 = .ok (.aload_n 0, 1) := by decide +kernel
theorem dX5_has_38 : decode cX5_has 38 = .ok (.getfield 49, 3) := by decide +kernel
theorem dX5_has_41 : decode cX5_has 41 = .ok (.aload_n 0, 1) := by decide +kernel
theorem dX5_has_42 : decode cX5_has 42 = .ok (.getfield 24, 3) := by decide +kernel
theorem dX5_has_45 : decode cX5_has 45 = .ok (.iload_n 1, 1) := by decide +kernel
theorem dX5_has_46 : decode cX5_has 46 = .ok (.invokevirtual 190, 3) := by decide +kernel
theorem dX5_has_49 : decode cX5_has 49 = .ok (.goto 15, 3) := by decide +kernel
theorem dX5_has_52 : decode cX5_has 52 = .ok (.aload_n 0, 1) := by decide +kernel
theorem dX5_has_53 : decode cX5_has 53 = .ok (.getfield 49, 3) := by decide +kernel
theorem dX5_has_56 : decode cX5_has 56 = .ok (.aload_n 0, 1) := by decide +kernel
theorem dX5_has_57 : decode cX5_has 57 = .ok (.getfield 24, 3) := by decide +kernel
theorem dX5_has_60 : decode cX5_has 60 = .ok (.iload_n 1, 1) := by decide +kernel
theorem dX5_has_61 : decode cX5_has 61 = .ok (.invokevirtual 194, 3) := by decide +kernel
theorem dX5_has_64 : decode cX5_has 64 = .ok (.ireturn, 1) := by decide +kernel
theorem dX5_all_0 : decode cX5_all 0 = .ok (.iload_n 1, 1) := by decide +kernel
theorem dX5_all_1 : decode cX5_all 1 = .ok (.iconst 0, 1) := by decide +kernel
theorem dX5_all_2 : decode cX5_all 2 = .ok (.iconst 4, 1) := by decide +kernel
theorem dX5_all_3 : decode cX5_all 3 = .ok (.invokestatic 75, 3) := by decide +kernel
theorem dX5_all_6 : decode cX5_all 6 = .ok (.ifCond .ne 5, 3) := by decide +kernel
theorem dX5_all_9 : decode cX5_all 9 = .ok (.iconst (-1), 1) := by decide +kernel
theorem dX5_all_10 : decode cX5_all 10 = .ok (.ireturn, 1) := by decide +kernel
theorem dX5_all_11 : decode cX5_all 11 = .ok (.aload_n 0, 1) := by decide +kernel
theorem dX5_all_12 : decode cX5_all 12 = .ok (.getfield 49, 3) := by decide +kernel
theorem dX5_all_15 : decode cX5_all 15 = .ok (.aload_n 0, 1) := by decide +kernel
theorem dX5_all_16 : decode cX5_all 16 = .ok (.getfield 24, 3) := by decide +kernel
theorem dX5_all_19 : decode cX5_all 19 = .ok (.invokevirtual 187, 3) := by decide +kernel
theorem dX5_all_22 : decode cX5_all 22 = .ok (.iload_n 1, 1) := by decide +kernel
theorem dX5_all_23 : decode cX5_all 23 = .ok (.iconst 4, 1) := by decide +kernel
theorem dX5_all_24 : decode cX5_all 24 = .ok (.if_icmp .ne 17, 3) := by decide +kernel
theorem dX5_all_27 : decode cX5_all 27 = .ok (.aload_n 0, 1) := by decide +kernel
theorem dX5_all_28 : decode cX5_all 28 = .ok (.getfield 49, 3) := by decide +kernel
theorem dX5_all_31 : decode cX5_all 31 = .ok (.aload_n 0, 1) := by decide +kernel
theorem dX5_all_32 : decode cX5_all 32 = .ok (.getfield 24, 3) := by decide +kernel
theorem dX5_all_35 : decode cX5_all 35 = .ok (.invokevirtual 197, 3) := by decide +kernel
theorem dX5_all_38 : decode cX5_all 38 = .ok (.goto 15, 3) := by decide +kernel
theorem dX5_all_41 : decode cX5_all 41 = .ok (.aload_n 0, 1) := by decide +kernel
theorem dX5_all_42 : decode cX5_all 42 = .ok (.getfield 49, 3) := by decide +kernel
theorem dX5_all_45 : decode cX5_all 45 = .ok (.aload_n 0, 1) := by decide +kernel
theorem dX5_all_46 : decode cX5_all 46 = .ok (.getfield 24, 3) := by decide +kernel
theorem dX5_all_49 : decode cX5_all 49 = .ok (.iload_n 1, 1) := by decide +kernel
theorem dX5_all_50 : decode cX5_all 50 = .ok (.invokevirtual 201, 3) := by decide +kernel
theorem dX5_all_53 : decode cX5_all 53 = .ok (.ireturn, 1) := by decide +kernel
theorem dX5_when_0 : decode cX5_when 0 = .ok (.aload_n 0, 1) := by decide +kernel
theorem dX5_when_1 : decode cX5_when 1 = .ok (.getfield 24, 3) := by decide +kernel
theorem dX5_when_4 : decode cX5_when 4 = .ok (.iload_n 1, 1) := by decide +kernel
theorem dX5_when_5 : decode cX5_when 5 = .ok (.invokevirtual 124, 3) := by decide +kernel
theorem dX5_when_8 : decode cX5_when 8 = .ok (.ifCond .eq 14, 3) := by decide +kernel
theorem dX5_when_11 : decode cX5_when 11 = .ok (.aload_n 0, 1) := by decide +kernel
theorem dX5_when_12 : decode cX5_when 12 = .ok (.getfield 24, 3) := by decide +kernel
theorem dX5_when_15 : decode cX5_when 15 = .ok (.iload_n 2, 1) := by decide +kernel
theorem dX5_when_16 : decode cX5_when 16 = .ok (.invokevirtual 134, 3) := by decide +kernel
theorem dX5_when_19 : decode cX5_when 19 = .ok (.ifCond .ne 5, 3) := by decide +kernel
theorem dX5_when_22 : decode cX5_when 22 = .ok (.iconst (-1), 1) := by decide +kernel
theorem dX5_when_23 : decode cX5_when 23 = .ok (.ireturn, 1) := by decide +kernel
theorem dX5_when_24 : decode cX5_when 24 = .ok (.aload_n 0, 1) := by decide +kernel
theorem dX5_when_25 : decode cX5_when 25 = .ok (.getfield 28, 3) := by decide +kernel
theorem dX5_when_28 : decode cX5_when 28 = .ok (.aload_n 0, 1) := by decide +kernel
theorem dX5_when_29 : decode cX5_when 29 = .ok (.getfield 24, 3) := by decide +kernel
theorem dX5_when_32 : decode cX5_when 32 = .ok (.invokevirtual 102, 3) := by decide +kernel
theorem dX5_when_35 : decode cX5_when 35 = .ok (.iconst 0, 1) := by decide +kernel
theorem dX5_when_36 : decode cX5_when 36 = .ok (.istore_n 3, 1) := by decide +kernel
theorem dX5_when_37 : decode cX5_when 37 = .ok (.iload_n 3, 1) := by decide +kernel
theorem dX5_when_38 : decode cX5_when 38 = .ok (.bipush 24, 2) := by decide +kernel
theorem dX5_when_40 : decode cX5_when 40 = .ok (.if_icmp .ge 37, 3) := by decide +kernel
theorem dX5_when_43 : decode cX5_when 43 = .ok (.aload_n 0, 1) := by decide +kernel
theorem dX5_when_44 : decode cX5_when 44 = .ok (.getfield 28, 3) := by decide +kernel
theorem dX5_when_47 : decode cX5_when 47 = .ok (.iload_n 1, 1) := by decide +kernel
theorem dX5_when_48 : decode cX5_when 48 = .ok (.iconst 3, 1) := by decide +kernel
theorem dX5_when_49 : decode cX5_when 49 = .ok (.iload_n 3, 1) := by decide +kernel
theorem dX5_when_50 : decode cX5_when 50 = .ok (.invokevirtual 150, 3) := by decide +kernel
theorem dX5_when_53 : decode cX5_when 53 = .ok (.aload_n 0, 1) := by decide +kernel
theorem dX5_when_54 : decode cX5_when 54 = .ok (.getfield 49, 3) := by decide +kernel
theorem dX5_when_57 : decode cX5_when 57 = .ok (.aload_n 0, 1) := by decide +kernel
theorem dX5_when_58 : decode cX5_when 58 = .ok (.getfield 28, 3) := by decide +kernel
theorem dX5_when_61 : decode cX5_when 61 = .ok (.iload_n 1, 1) := by decide +kernel
theorem dX5_when_62 : decode cX5_when 62 = .ok (.iload_n 2, 1) := by decide +kernel
theorem dX5_when_63 : decode cX5_when 63 = .ok (.invokevirtual 204, 3) := by decide +kernel
theorem dX5_when_66 : decode cX5_when 66 = .ok (.ifCond .eq 5, 3) := by decide +kernel
theorem dX5_when_69 : decode cX5_when 69 = .ok (.iload_n 3, 1) := by decide +kernel
theorem dX5_when_70 : decode cX5_when 70 = .ok (.ireturn, 1) := by decide +kernel
theorem dX5_when_71 : decode cX5_when 71 = .ok (.iinc 3 1, 3) := by decide +kernel
theorem dX5_when_74 : decode cX5_when 74 = .ok (.goto (-37), 3) := by decide +kernel
theorem dX5_when_77 : decode cX5_when 77 = .ok (.bipush (-4), 2) := by decide +kernel
theorem dX5_when_79 : decode cX5_when 79 = .ok (.ireturn, 1) := by decide +kernel
theorem dX5_aim_0 : decode cX5_aim 0 = .ok (.aload_n 0, 1) := by decide +kernel
theorem dX5_aim_1 : decode cX5_aim 1 = .ok (.getfield 24, 3) := by decide +kernel
theorem dX5_aim_4 : decode cX5_aim 4 = .ok (.iload_n 1, 1) := by decide +kernel
theorem dX5_aim_5 : decode cX5_aim 5 = .ok (.invokevirtual 124, 3) := by decide +kernel
theorem dX5_aim_8 : decode cX5_aim 8 = .ok (.ifCond .eq 14, 3) := by decide +kernel
theorem dX5_aim_11 : decode cX5_aim 11 = .ok (.aload_n 0, 1) := by decide +kernel
theorem dX5_aim_12 : decode cX5_aim 12 = .ok (.getfield 24, 3) := by decide +kernel
theorem dX5_aim_15 : decode cX5_aim 15 = .ok (.iload_n 2, 1) := by decide +kernel
theorem dX5_aim_16 : decode cX5_aim 16 = .ok (.invokevirtual 134, 3) := by decide +kernel
theorem dX5_aim_19 : decode cX5_aim 19 = .ok (.ifCond .ne 5, 3) := by decide +kernel
theorem dX5_aim_22 : decode cX5_aim 22 = .ok (.iconst (-1), 1) := by decide +kernel
theorem dX5_aim_23 : decode cX5_aim 23 = .ok (.ireturn, 1) := by decide +kernel
theorem dX5_aim_24 : decode cX5_aim 24 = .ok (.aload_n 0, 1) := by decide +kernel
theorem dX5_aim_25 : decode cX5_aim 25 = .ok (.getfield 28, 3) := by decide +kernel
theorem dX5_aim_28 : decode cX5_aim 28 = .ok (.aload_n 0, 1) := by decide +kernel
theorem dX5_aim_29 : decode cX5_aim 29 = .ok (.getfield 24, 3) := by decide +kernel
theorem dX5_aim_32 : decode cX5_aim 32 = .ok (.invokevirtual 102, 3) := by decide +kernel
theorem dX5_aim_35 : decode cX5_aim 35 = .ok (.getstatic 208, 3) := by decide +kernel
theorem dX5_aim_38 : decode cX5_aim 38 = .ok (.iconst 1, 1) := by decide +kernel
theorem dX5_aim_39 : decode cX5_aim 39 = .ok (.iaload, 1) := by decide +kernel
theorem dX5_aim_40 : decode cX5_aim 40 = .ok (.istore_n 3, 1) := by decide +kernel
theorem dX5_aim_41 : decode cX5_aim 41 = .ok (.iload_n 3, 1) := by decide +kernel
theorem dX5_aim_42 : decode cX5_aim 42 = .ok (.getstatic 211, 3) := by decide +kernel
theorem dX5_aim_45 : decode cX5_aim 45 = .ok (.iconst 1, 1) := by decide +kernel
theorem dX5_aim_46 : decode cX5_aim 46 = .ok (.iaload, 1) := by decide +kernel
theorem dX5_aim_47 : decode cX5_aim 47 = .ok (.if_icmp .gt 67, 3) := by decide +kernel
theorem dX5_aim_50 : decode cX5_aim 50 = .ok (.getstatic 208, 3) := by decide +kernel
theorem dX5_aim_53 : decode cX5_aim 53 = .ok (.iconst 2, 1) := by decide +kernel
theorem dX5_aim_54 : decode cX5_aim 54 = .ok (.iaload, 1) := by decide +kernel
theorem dX5_aim_55 : decode cX5_aim 55 = .ok (.istore 4, 2) := by decide +kernel
theorem dX5_aim_57 : decode cX5_aim 57 = .ok (.iload 4, 2) := by decide +kernel
theorem dX5_aim_59 : decode cX5_aim 59 = .ok (.getstatic 211, 3) := by decide +kernel
theorem dX5_aim_62 : decode cX5_aim 62 = .ok (.iconst 2, 1) := by decide +kernel
theorem dX5_aim_63 : decode cX5_aim 63 = .ok (.iaload, 1) := by decide +kernel
theorem dX5_aim_64 : decode cX5_aim 64 = .ok (.if_icmp .gt 44, 3) := by decide +kernel
theorem dX5_aim_67 : decode cX5_aim 67 = .ok (.aload_n 0, 1) := by decide +kernel
theorem dX5_aim_68 : decode cX5_aim 68 = .ok (.getfield 28, 3) := by decide +kernel
theorem dX5_aim_71 : decode cX5_aim 71 = .ok (.iload_n 1, 1) := by decide +kernel
theorem dX5_aim_72 : decode cX5_aim 72 = .ok (.iload_n 3, 1) := by decide +kernel
theorem dX5_aim_73 : decode cX5_aim 73 = .ok (.iload 4, 2) := by decide +kernel
theorem dX5_aim_75 : decode cX5_aim 75 = .ok (.invokevirtual 214, 3) := by decide +kernel
theorem dX5_aim_78 : decode cX5_aim 78 = .ok (.aload_n 0, 1) := by decide +kernel
theorem dX5_aim_79 : decode cX5_aim 79 = .ok (.getfield 49, 3) := by decide +kernel
theorem dX5_aim_82 : decode cX5_aim 82 = .ok (.aload_n 0, 1) := by decide +kernel
theorem dX5_aim_83 : decode cX5_aim 83 = .ok (.getfield 28, 3) := by decide +kernel
theorem dX5_aim_86 : decode cX5_aim 86 = .ok (.iload_n 1, 1) := by decide +kernel
theorem dX5_aim_87 : decode cX5_aim 87 = .ok (.iload_n 2, 1) := by decide +kernel
theorem dX5_aim_88 : decode cX5_aim 88 = .ok (.invokevirtual 204, 3) := by decide +kernel
theorem dX5_aim_91 : decode cX5_aim 91 = .ok (.ifCond .eq 11, 3) := by decide +kernel
theorem dX5_aim_94 : decode cX5_aim 94 = .ok (.bipush 10, 2) := by decide +kernel
theorem dX5_aim_96 : decode cX5_aim 96 = .ok (.iload_n 3, 1) := by decide +kernel
theorem dX5_aim_97 : decode cX5_aim 97 = .ok (.imul, 1) := by decide +kernel
theorem dX5_aim_98 : decode cX5_aim 98 = .ok (.iload 4, 2) := by decide +kernel
theorem dX5_aim_100 : decode cX5_aim 100 = .ok (.iadd, 1) := by decide +kernel
theorem dX5_aim_101 : decode cX5_aim 101 = .ok (.ireturn, 1) := by decide +kernel
theorem dX5_aim_102 : decode cX5_aim 102 = .ok (.iinc 4 1, 3) := by decide +kernel
theorem dX5_aim_105 : decode cX5_aim 105 = .ok (.goto (-48), 3) := by decide +kernel
theorem dX5_aim_108 : decode cX5_aim 108 = .ok (.iinc 3 1, 3) := by decide +kernel
theorem dX5_aim_111 : decode cX5_aim 111 = .ok (.goto (-70), 3) := by decide +kernel
theorem dX5_aim_114 : decode cX5_aim 114 = .ok (.bipush (-4), 2) := by decide +kernel
theorem dX5_aim_116 : decode cX5_aim 116 = .ok (.ireturn, 1) := by decide +kernel
theorem dX5_ways_0 : decode cX5_ways 0 = .ok (.aload_n 0, 1) := by decide +kernel
theorem dX5_ways_1 : decode cX5_ways 1 = .ok (.getfield 24, 3) := by decide +kernel
theorem dX5_ways_4 : decode cX5_ways 4 = .ok (.iload_n 1, 1) := by decide +kernel
theorem dX5_ways_5 : decode cX5_ways 5 = .ok (.invokevirtual 124, 3) := by decide +kernel
theorem dX5_ways_8 : decode cX5_ways 8 = .ok (.ifCond .eq 12, 3) := by decide +kernel
theorem dX5_ways_11 : decode cX5_ways 11 = .ok (.iload_n 2, 1) := by decide +kernel
theorem dX5_ways_12 : decode cX5_ways 12 = .ok (.iconst 0, 1) := by decide +kernel
theorem dX5_ways_13 : decode cX5_ways 13 = .ok (.iconst 3, 1) := by decide +kernel
theorem dX5_ways_14 : decode cX5_ways 14 = .ok (.invokestatic 75, 3) := by decide +kernel
theorem dX5_ways_17 : decode cX5_ways 17 = .ok (.ifCond .ne 5, 3) := by decide +kernel
theorem dX5_ways_20 : decode cX5_ways 20 = .ok (.iconst (-1), 1) := by decide +kernel
theorem dX5_ways_21 : decode cX5_ways 21 = .ok (.ireturn, 1) := by decide +kernel
theorem dX5_ways_22 : decode cX5_ways 22 = .ok (.aload_n 0, 1) := by decide +kernel
theorem dX5_ways_23 : decode cX5_ways 23 = .ok (.getfield 28, 3) := by decide +kernel
theorem dX5_ways_26 : decode cX5_ways 26 = .ok (.aload_n 0, 1) := by decide +kernel
theorem dX5_ways_27 : decode cX5_ways 27 = .ok (.getfield 24, 3) := by decide +kernel
theorem dX5_ways_30 : decode cX5_ways 30 = .ok (.invokevirtual 102, 3) := by decide +kernel
theorem dX5_ways_33 : decode cX5_ways 33 = .ok (.iconst 0, 1) := by decide +kernel
theorem dX5_ways_34 : decode cX5_ways 34 = .ok (.istore_n 3, 1) := by decide +kernel
theorem dX5_ways_35 : decode cX5_ways 35 = .ok (.getstatic 208, 3) := by decide +kernel
theorem dX5_ways_38 : decode cX5_ways 38 = .ok (.iconst 1, 1) := by decide +kernel
theorem dX5_ways_39 : decode cX5_ways 39 = .ok (.iaload, 1) := by decide +kernel
theorem dX5_ways_40 : decode cX5_ways 40 = .ok (.istore 4, 2) := by decide +kernel
theorem dX5_ways_42 : decode cX5_ways 42 = .ok (.iload 4, 2) := by decide +kernel
theorem dX5_ways_44 : decode cX5_ways 44 = .ok (.getstatic 211, 3) := by decide +kernel
theorem dX5_ways_47 : decode cX5_ways 47 = .ok (.iconst 1, 1) := by decide +kernel
theorem dX5_ways_48 : decode cX5_ways 48 = .ok (.iaload, 1) := by decide +kernel
theorem dX5_ways_49 : decode cX5_ways 49 = .ok (.if_icmp .gt 73, 3) := by decide +kernel
theorem dX5_ways_52 : decode cX5_ways 52 = .ok (.getstatic 208, 3) := by decide +kernel
theorem dX5_ways_55 : decode cX5_ways 55 = .ok (.iconst 2, 1) := by decide +kernel
theorem dX5_ways_56 : decode cX5_ways 56 = .ok (.iaload, 1) := by decide +kernel
theorem dX5_ways_57 : decode cX5_ways 57 = .ok (.istore 5, 2) := by decide +kernel
theorem dX5_ways_59 : decode cX5_ways 59 = .ok (.iload 5, 2) := by decide +kernel
theorem dX5_ways_61 : decode cX5_ways 61 = .ok (.getstatic 211, 3) := by decide +kernel
theorem dX5_ways_64 : decode cX5_ways 64 = .ok (.iconst 2, 1) := by decide +kernel
theorem dX5_ways_65 : decode cX5_ways 65 = .ok (.iaload, 1) := by decide +kernel
theorem dX5_ways_66 : decode cX5_ways 66 = .ok (.if_icmp .gt 50, 3) := by decide +kernel
theorem dX5_ways_69 : decode cX5_ways 69 = .ok (.aload_n 0, 1) := by decide +kernel
theorem dX5_ways_70 : decode cX5_ways 70 = .ok (.getfield 28, 3) := by decide +kernel
theorem dX5_ways_73 : decode cX5_ways 73 = .ok (.iload_n 1, 1) := by decide +kernel
theorem dX5_ways_74 : decode cX5_ways 74 = .ok (.iload 4, 2) := by decide +kernel
theorem dX5_ways_76 : decode cX5_ways 76 = .ok (.iload 5, 2) := by decide +kernel
theorem dX5_ways_78 : decode cX5_ways 78 = .ok (.invokevirtual 214, 3) := by decide +kernel
theorem dX5_ways_81 : decode cX5_ways 81 = .ok (.aload_n 0, 1) := by decide +kernel
theorem dX5_ways_82 : decode cX5_ways 82 = .ok (.getfield 49, 3) := by decide +kernel
theorem dX5_ways_85 : decode cX5_ways 85 = .ok (.aload_n 0, 1) := by decide +kernel
theorem dX5_ways_86 : decode cX5_ways 86 = .ok (.getfield 28, 3) := by decide +kernel
theorem dX5_ways_89 : decode cX5_ways 89 = .ok (.iload_n 1, 1) := by decide +kernel
theorem dX5_ways_90 : decode cX5_ways 90 = .ok (.bipush 24, 2) := by decide +kernel
theorem dX5_ways_92 : decode cX5_ways 92 = .ok (.invokevirtual 164, 3) := by decide +kernel
theorem dX5_ways_95 : decode cX5_ways 95 = .ok (.aload_n 0, 1) := by decide +kernel
theorem dX5_ways_96 : decode cX5_ways 96 = .ok (.getfield 49, 3) := by decide +kernel
theorem dX5_ways_99 : decode cX5_ways 99 = .ok (.iload_n 1, 1) := by decide +kernel
theorem dX5_ways_100 : decode cX5_ways 100 = .ok (.invokevirtual 168, 3) := by decide +kernel
theorem dX5_ways_103 : decode cX5_ways 103 = .ok (.iload_n 2, 1) := by decide +kernel
theorem dX5_ways_104 : decode cX5_ways 104 = .ok (.if_icmp .ne 6, 3) := by decide +kernel
theorem dX5_ways_107 : decode cX5_ways 107 = .ok (.iinc 3 1, 3) := by decide +kernel
theorem dX5_ways_110 : decode cX5_ways 110 = .ok (.iinc 5 1, 3) := by decide +kernel
theorem dX5_ways_113 : decode cX5_ways 113 = .ok (.goto (-54), 3) := by decide +kernel
theorem dX5_ways_116 : decode cX5_ways 116 = .ok (.iinc 4 1, 3) := by decide +kernel
theorem dX5_ways_119 : decode cX5_ways 119 = .ok (.goto (-77), 3) := by decide +kernel
theorem dX5_ways_122 : decode cX5_ways 122 = .ok (.iload_n 3, 1) := by decide +kernel
theorem dX5_ways_123 : decode cX5_ways 123 = .ok (.ireturn, 1) := by decide +kernel
theorem dX5_place_0 : decode cX5_place 0 = .ok (.aload_n 0, 1) := by decide +kernel
theorem dX5_place_1 : decode cX5_place 1 = .ok (.getfield 24, 3) := by decide +kernel
theorem dX5_place_4 : decode cX5_place 4 = .ok (.iload_n 1, 1) := by decide +kernel
theorem dX5_place_5 : decode cX5_place 5 = .ok (.invokevirtual 134, 3) := by decide +kernel
theorem dX5_place_8 : decode cX5_place 8 = .ok (.ifCond .eq 12, 3) := by decide +kernel
theorem dX5_place_11 : decode cX5_place 11 = .ok (.iload_n 2, 1) := by decide +kernel
theorem dX5_place_12 : decode cX5_place 12 = .ok (.iconst 0, 1) := by decide +kernel
theorem dX5_place_13 : decode cX5_place 13 = .ok (.iconst 1, 1) := by decide +kernel
theorem dX5_place_14 : decode cX5_place 14 = .ok (.invokestatic 75, 3) := by decide +kernel
theorem dX5_place_17 : decode cX5_place 17 = .ok (.ifCond .ne 5, 3) := by decide +kernel
theorem dX5_place_20 : decode cX5_place 20 = .ok (.iconst (-1), 1) := by decide +kernel
theorem dX5_place_21 : decode cX5_place 21 = .ok (.ireturn, 1) := by decide +kernel
theorem dX5_place_22 : decode cX5_place 22 = .ok (.aload_n 0, 1) := by decide +kernel
theorem dX5_place_23 : decode cX5_place 23 = .ok (.getfield 28, 3) := by decide +kernel
theorem dX5_place_26 : decode cX5_place 26 = .ok (.aload_n 0, 1) := by decide +kernel
theorem dX5_place_27 : decode cX5_place 27 = .ok (.getfield 24, 3) := by decide +kernel
theorem dX5_place_30 : decode cX5_place 30 = .ok (.invokevirtual 102, 3) := by decide +kernel
theorem dX5_place_33 : decode cX5_place 33 = .ok (.aload_n 0, 1) := by decide +kernel
theorem dX5_place_34 : decode cX5_place 34 = .ok (.getfield 49, 3) := by decide +kernel
theorem dX5_place_37 : decode cX5_place 37 = .ok (.aload_n 0, 1) := by decide +kernel
theorem dX5_place_38 : decode cX5_place 38 = .ok (.getfield 28, 3) := by decide +kernel
theorem dX5_place_41 : decode cX5_place 41 = .ok (.invokevirtual 217, 3) := by decide +kernel
theorem dX5_place_44 : decode cX5_place 44 = .ok (.iconst 0, 1) := by decide +kernel
theorem dX5_place_45 : decode cX5_place 45 = .ok (.istore_n 3, 1) := by decide +kernel
theorem dX5_place_46 : decode cX5_place 46 = .ok (.iconst (-1), 1) := by decide +kernel
theorem dX5_place_47 : decode cX5_place 47 = .ok (.istore 4, 2) := by decide +kernel
theorem dX5_place_49 : decode cX5_place 49 = .ok (.iconst 0, 1) := by decide +kernel
theorem dX5_place_50 : decode cX5_place 50 = .ok (.istore 5, 2) := by decide +kernel
theorem dX5_place_52 : decode cX5_place 52 = .ok (.iload 5, 2) := by decide +kernel
theorem dX5_place_54 : decode cX5_place 54 = .ok (.bipush 10, 2) := by decide +kernel
theorem dX5_place_56 : decode cX5_place 56 = .ok (.if_icmp .ge 59, 3) := by decide +kernel
theorem dX5_place_59 : decode cX5_place 59 = .ok (.aload_n 0, 1) := by decide +kernel
theorem dX5_place_60 : decode cX5_place 60 = .ok (.getfield 28, 3) := by decide +kernel
theorem dX5_place_63 : decode cX5_place 63 = .ok (.iload_n 1, 1) := by decide +kernel
theorem dX5_place_64 : decode cX5_place 64 = .ok (.iconst 0, 1) := by decide +kernel
theorem dX5_place_65 : decode cX5_place 65 = .ok (.iload 5, 2) := by decide +kernel
theorem dX5_place_67 : decode cX5_place 67 = .ok (.invokevirtual 157, 3) := by decide +kernel
theorem dX5_place_70 : decode cX5_place 70 = .ok (.aload_n 0, 1) := by decide +kernel
theorem dX5_place_71 : decode cX5_place 71 = .ok (.getfield 49, 3) := by decide +kernel
theorem dX5_place_74 : decode cX5_place 74 = .ok (.aload_n 0, 1) := by decide +kernel
theorem dX5_place_75 : decode cX5_place 75 = .ok (.getfield 28, 3) := by decide +kernel
theorem dX5_place_78 : decode cX5_place 78 = .ok (.invokevirtual 220, 3) := by decide +kernel
theorem dX5_place_81 : decode cX5_place 81 = .ok (.aload_n 0, 1) := by decide +kernel
theorem dX5_place_82 : decode cX5_place 82 = .ok (.getfield 49, 3) := by decide +kernel
theorem dX5_place_85 : decode cX5_place 85 = .ok (.aload_n 0, 1) := by decide +kernel
theorem dX5_place_86 : decode cX5_place 86 = .ok (.getfield 28, 3) := by decide +kernel
theorem dX5_place_89 : decode cX5_place 89 = .ok (.iload_n 1, 1) := by decide +kernel
theorem dX5_place_90 : decode cX5_place 90 = .ok (.invokevirtual 190, 3) := by decide +kernel
theorem dX5_place_93 : decode cX5_place 93 = .ok (.istore 6, 2) := by decide +kernel
theorem dX5_place_95 : decode cX5_place 95 = .ok (.iload 6, 2) := by decide +kernel
theorem dX5_place_97 : decode cX5_place 97 = .ok (.iload 4, 2) := by decide +kernel
theorem dX5_place_99 : decode cX5_place 99 = .ok (.if_icmp .le 10, 3) := by decide +kernel
theorem dX5_place_102 : decode cX5_place 102 = .ok (.iload 6, 2) := by decide +kernel
theorem dX5_place_104 : decode cX5_place 104 = .ok (.istore 4, 2) := by decide +kernel
theorem dX5_place_106 : decode cX5_place 106 = .ok (.iload 5, 2) := by decide +kernel
theorem dX5_place_108 : decode cX5_place 108 = .ok (.istore_n 3, 1) := by decide +kernel
theorem dX5_place_109 : decode cX5_place 109 = .ok (.iinc 5 1, 3) := by decide +kernel
theorem dX5_place_112 : decode cX5_place 112 = .ok (.goto (-60), 3) := by decide +kernel
theorem dX5_place_115 : decode cX5_place 115 = .ok (.iload_n 2, 1) := by decide +kernel
theorem dX5_place_116 : decode cX5_place 116 = .ok (.ifCond .ne 7, 3) := by decide +kernel
theorem dX5_place_119 : decode cX5_place 119 = .ok (.iload_n 3, 1) := by decide +kernel
theorem dX5_place_120 : decode cX5_place 120 = .ok (.goto 5, 3) := by decide +kernel
theorem dX5_place_123 : decode cX5_place 123 = .ok (.iload 4, 2) := by decide +kernel
theorem dX5_place_125 : decode cX5_place 125 = .ok (.ireturn, 1) := by decide +kernel
theorem dX5_hook_0 : decode cX5_hook 0 = .ok (.aload_n 0, 1) := by decide +kernel
theorem dX5_hook_1 : decode cX5_hook 1 = .ok (.getfield 24, 3) := by decide +kernel
theorem dX5_hook_4 : decode cX5_hook 4 = .ok (.iload_n 1, 1) := by decide +kernel
theorem dX5_hook_5 : decode cX5_hook 5 = .ok (.invokevirtual 134, 3) := by decide +kernel
theorem dX5_hook_8 : decode cX5_hook 8 = .ok (.ifCond .eq 14, 3) := by decide +kernel
theorem dX5_hook_11 : decode cX5_hook 11 = .ok (.iload_n 2, 1) := by decide +kernel
theorem dX5_hook_12 : decode cX5_hook 12 = .ok (.iconst 1, 1) := by decide +kernel
theorem dX5_hook_13 : decode cX5_hook 13 = .ok (.sipush 400, 3) := by decide +kernel
theorem dX5_hook_16 : decode cX5_hook 16 = .ok (.invokestatic 75, 3) := by decide +kernel
theorem dX5_hook_19 : decode cX5_hook 19 = .ok (.ifCond .ne 5, 3) := by decide +kernel
theorem dX5_hook_22 : decode cX5_hook 22 = .ok (.iconst (-1), 1) := by decide +kernel
theorem dX5_hook_23 : decode cX5_hook 23 = .ok (.ireturn, 1) := by decide +kernel
theorem dX5_hook_24 : decode cX5_hook 24 = .ok (.aload_n 0, 1) := by decide +kernel
theorem dX5_hook_25 : decode cX5_hook 25 = .ok (.getfield 28, 3) := by decide +kernel
theorem dX5_hook_28 : decode cX5_hook 28 = .ok (.aload_n 0, 1) := by decide +kernel
theorem dX5_hook_29 : decode cX5_hook 29 = .ok (.getfield 24, 3) := by decide +kernel
theorem dX5_hook_32 : decode cX5_hook 32 = .ok (.invokevirtual 102, 3) := by decide +kernel
theorem dX5_hook_35 : decode cX5_hook 35 = .ok (.aload_n 0, 1) := by decide +kernel
theorem dX5_hook_36 : decode cX5_hook 36 = .ok (.getfield 49, 3) := by decide +kernel
theorem dX5_hook_39 : decode cX5_hook 39 = .ok (.aload_n 0, 1) := by decide +kernel
theorem dX5_hook_40 : decode cX5_hook 40 = .ok (.getfield 28, 3) := by decide +kernel
theorem dX5_hook_43 : decode cX5_hook 43 = .ok (.invokevirtual 217, 3) := by decide +kernel
theorem dX5_hook_46 : decode cX5_hook 46 = .ok (.iconst 0, 1) := by decide +kernel
theorem dX5_hook_47 : decode cX5_hook 47 = .ok (.istore_n 3, 1) := by decide +kernel
theorem dX5_hook_48 : decode cX5_hook 48 = .ok (.iload_n 3, 1) := by decide +kernel
theorem dX5_hook_49 : decode cX5_hook 49 = .ok (.getstatic 223, 3) := by decide +kernel
theorem dX5_hook_52 : decode cX5_hook 52 = .ok (.iconst 3, 1) := by decide +kernel
theorem dX5_hook_53 : decode cX5_hook 53 = .ok (.iaload, 1) := by decide +kernel
theorem dX5_hook_54 : decode cX5_hook 54 = .ok (.if_icmp .gt 48, 3) := by decide +kernel
theorem dX5_hook_57 : decode cX5_hook 57 = .ok (.aload_n 0, 1) := by decide +kernel
theorem dX5_hook_58 : decode cX5_hook 58 = .ok (.getfield 28, 3) := by decide +kernel
theorem dX5_hook_61 : decode cX5_hook 61 = .ok (.iload_n 1, 1) := by decide +kernel
theorem dX5_hook_62 : decode cX5_hook 62 = .ok (.iconst 3, 1) := by decide +kernel
theorem dX5_hook_63 : decode cX5_hook 63 = .ok (.iload_n 3, 1) := by decide +kernel
theorem dX5_hook_64 : decode cX5_hook 64 = .ok (.invokevirtual 157, 3) := by decide +kernel
theorem dX5_hook_67 : decode cX5_hook 67 = .ok (.aload_n 0, 1) := by decide +kernel
theorem dX5_hook_68 : decode cX5_hook 68 = .ok (.getfield 49, 3) := by decide +kernel
theorem dX5_hook_71 : decode cX5_hook 71 = .ok (.aload_n 0, 1) := by decide +kernel
theorem dX5_hook_72 : decode cX5_hook 72 = .ok (.getfield 28, 3) := by decide +kernel
theorem dX5_hook_75 : decode cX5_hook 75 = .ok (.invokevirtual 220, 3) := by decide +kernel
theorem dX5_hook_78 : decode cX5_hook 78 = .ok (.aload_n 0, 1) := by decide +kernel
theorem dX5_hook_79 : decode cX5_hook 79 = .ok (.getfield 49, 3) := by decide +kernel
theorem dX5_hook_82 : decode cX5_hook 82 = .ok (.aload_n 0, 1) := by decide +kernel
theorem dX5_hook_83 : decode cX5_hook 83 = .ok (.getfield 28, 3) := by decide +kernel
theorem dX5_hook_86 : decode cX5_hook 86 = .ok (.iload_n 1, 1) := by decide +kernel
theorem dX5_hook_87 : decode cX5_hook 87 = .ok (.invokevirtual 190, 3) := by decide +kernel
theorem dX5_hook_90 : decode cX5_hook 90 = .ok (.iload_n 2, 1) := by decide +kernel
theorem dX5_hook_91 : decode cX5_hook 91 = .ok (.if_icmp .lt 5, 3) := by decide +kernel
theorem dX5_hook_94 : decode cX5_hook 94 = .ok (.iload_n 3, 1) := by decide +kernel
theorem dX5_hook_95 : decode cX5_hook 95 = .ok (.ireturn, 1) := by decide +kernel
theorem dX5_hook_96 : decode cX5_hook 96 = .ok (.iinc 3 1, 3) := by decide +kernel
theorem dX5_hook_99 : decode cX5_hook 99 = .ok (.goto (-51), 3) := by decide +kernel
theorem dX5_hook_102 : decode cX5_hook 102 = .ok (.bipush (-4), 2) := by decide +kernel
theorem dX5_hook_104 : decode cX5_hook 104 = .ok (.ireturn, 1) := by decide +kernel
theorem dX5_fire_0 : decode cX5_fire 0 = .ok (.aload_n 0, 1) := by decide +kernel
theorem dX5_fire_1 : decode cX5_fire 1 = .ok (.getfield 24, 3) := by decide +kernel
theorem dX5_fire_4 : decode cX5_fire 4 = .ok (.iload_n 1, 1) := by decide +kernel
theorem dX5_fire_5 : decode cX5_fire 5 = .ok (.invokevirtual 134, 3) := by decide +kernel
theorem dX5_fire_8 : decode cX5_fire 8 = .ok (.ifCond .eq 12, 3) := by decide +kernel
theorem dX5_fire_11 : decode cX5_fire 11 = .ok (.iload_n 2, 1) := by decide +kernel
theorem dX5_fire_12 : decode cX5_fire 12 = .ok (.iconst 0, 1) := by decide +kernel
theorem dX5_fire_13 : decode cX5_fire 13 = .ok (.iconst 1, 1) := by decide +kernel
theorem dX5_fire_14 : decode cX5_fire 14 = .ok (.invokestatic 75, 3) := by decide +kernel
theorem dX5_fire_17 : decode cX5_fire 17 = .ok (.ifCond .ne 5, 3) := by decide +kernel
theorem dX5_fire_20 : decode cX5_fire 20 = .ok (.iconst (-1), 1) := by decide +kernel
theorem dX5_fire_21 : decode cX5_fire 21 = .ok (.ireturn, 1) := by decide +kernel
theorem dX5_fire_22 : decode cX5_fire 22 = .ok (.aload_n 0, 1) := by decide +kernel
theorem dX5_fire_23 : decode cX5_fire 23 = .ok (.getfield 28, 3) := by decide +kernel
theorem dX5_fire_26 : decode cX5_fire 26 = .ok (.aload_n 0, 1) := by decide +kernel
theorem dX5_fire_27 : decode cX5_fire 27 = .ok (.getfield 24, 3) := by decide +kernel
theorem dX5_fire_30 : decode cX5_fire 30 = .ok (.invokevirtual 102, 3) := by decide +kernel
theorem dX5_fire_33 : decode cX5_fire 33 = .ok (.aload_n 0, 1) := by decide +kernel
theorem dX5_fire_34 : decode cX5_fire 34 = .ok (.getfield 49, 3) := by decide +kernel
theorem dX5_fire_37 : decode cX5_fire 37 = .ok (.aload_n 0, 1) := by decide +kernel
theorem dX5_fire_38 : decode cX5_fire 38 = .ok (.getfield 28, 3) := by decide +kernel
theorem dX5_fire_41 : decode cX5_fire 41 = .ok (.invokevirtual 187, 3) := by decide +kernel
theorem dX5_fire_44 : decode cX5_fire 44 = .ok (.bipush (-4), 2) := by decide +kernel
theorem dX5_fire_46 : decode cX5_fire 46 = .ok (.istore_n 3, 1) := by decide +kernel
theorem dX5_fire_47 : decode cX5_fire 47 = .ok (.aload_n 0, 1) := by decide +kernel
theorem dX5_fire_48 : decode cX5_fire 48 = .ok (.getfield 49, 3) := by decide +kernel
theorem dX5_fire_51 : decode cX5_fire 51 = .ok (.aload_n 0, 1) := by decide +kernel
theorem dX5_fire_52 : decode cX5_fire 52 = .ok (.getfield 28, 3) := by decide +kernel
theorem dX5_fire_55 : decode cX5_fire 55 = .ok (.iload_n 1, 1) := by decide +kernel
theorem dX5_fire_56 : decode cX5_fire 56 = .ok (.invokevirtual 190, 3) := by decide +kernel
theorem dX5_fire_59 : decode cX5_fire 59 = .ok (.istore 4, 2) := by decide +kernel
theorem dX5_fire_61 : decode cX5_fire 61 = .ok (.iconst 0, 1) := by decide +kernel
theorem dX5_fire_62 : decode cX5_fire 62 = .ok (.istore 5, 2) := by decide +kernel
theorem dX5_fire_64 : decode cX5_fire 64 = .ok (.iload 5, 2) := by decide +kernel
theorem dX5_fire_66 : decode cX5_fire 66 = .ok (.bipush 24, 2) := by decide +kernel
theorem dX5_fire_68 : decode cX5_fire 68 = .ok (.if_icmp .ge 101, 3) := by decide +kernel
theorem dX5_fire_71 : decode cX5_fire 71 = .ok (.iconst 1, 1) := by decide +kernel
theorem dX5_fire_72 : decode cX5_fire 72 = .ok (.istore 6, 2) := by decide +kernel
theorem dX5_fire_74 : decode cX5_fire 74 = .ok (.iload 6, 2) := by decide +kernel
theorem dX5_fire_76 : decode cX5_fire 76 = .ok (.iconst 5, 1) := by decide +kernel
theorem dX5_fire_77 : decode cX5_fire 77 = .ok (.if_icmp .ge 66, 3) := by decide +kernel
theorem dX5_fire_80 : decode cX5_fire 80 = .ok (.aload_n 0, 1) := by decide +kernel
theorem dX5_fire_81 : decode cX5_fire 81 = .ok (.getfield 28, 3) := by decide +kernel
theorem dX5_fire_84 : decode cX5_fire 84 = .ok (.getfield 143, 3) := by decide +kernel
theorem dX5_fire_87 : decode cX5_fire 87 = .ok (.iload 5, 2) := by decide +kernel
theorem dX5_fire_89 : decode cX5_fire 89 = .ok (.iload 6, 2) := by decide +kernel
theorem dX5_fire_91 : decode cX5_fire 91 = .ok (.iastore, 1) := by decide +kernel
theorem dX5_fire_92 : decode cX5_fire 92 = .ok (.aload_n 0, 1) := by decide +kernel
theorem dX5_fire_93 : decode cX5_fire 93 = .ok (.getfield 49, 3) := by decide +kernel
theorem dX5_fire_96 : decode cX5_fire 96 = .ok (.aload_n 0, 1) := by decide +kernel
theorem dX5_fire_97 : decode cX5_fire 97 = .ok (.getfield 28, 3) := by decide +kernel
theorem dX5_fire_100 : decode cX5_fire 100 = .ok (.invokevirtual 187, 3) := by decide +kernel
theorem dX5_fire_103 : decode cX5_fire 103 = .ok (.aload_n 0, 1) := by decide +kernel
theorem dX5_fire_104 : decode cX5_fire 104 = .ok (.getfield 49, 3) := by decide +kernel
theorem dX5_fire_107 : decode cX5_fire 107 = .ok (.aload_n 0, 1) := by decide +kernel
theorem dX5_fire_108 : decode cX5_fire 108 = .ok (.getfield 28, 3) := by decide +kernel
theorem dX5_fire_111 : decode cX5_fire 111 = .ok (.iload_n 1, 1) := by decide +kernel
theorem dX5_fire_112 : decode cX5_fire 112 = .ok (.invokevirtual 190, 3) := by decide +kernel
theorem dX5_fire_115 : decode cX5_fire 115 = .ok (.istore 7, 2) := by decide +kernel
theorem dX5_fire_117 : decode cX5_fire 117 = .ok (.iload 7, 2) := by decide +kernel
theorem dX5_fire_119 : decode cX5_fire 119 = .ok (.iload 4, 2) := by decide +kernel
theorem dX5_fire_121 : decode cX5_fire 121 = .ok (.if_icmp .le 16, 3) := by decide +kernel
theorem dX5_fire_124 : decode cX5_fire 124 = .ok (.iload 7, 2) := by decide +kernel
theorem dX5_fire_126 : decode cX5_fire 126 = .ok (.istore 4, 2) := by decide +kernel
theorem dX5_fire_128 : decode cX5_fire 128 = .ok (.bipush 10, 2) := by decide +kernel
theorem dX5_fire_130 : decode cX5_fire 130 = .ok (.iload 5, 2) := by decide +kernel
theorem dX5_fire_132 : decode cX5_fire 132 = .ok (.imul, 1) := by decide +kernel
theorem dX5_fire_133 : decode cX5_fire 133 = .ok (.iload 6, 2) := by decide +kernel
theorem dX5_fire_135 : decode cX5_fire 135 = .ok (.iadd, 1) := by decide +kernel
theorem dX5_fire_136 : decode cX5_fire 136 = .ok (.istore_n 3, 1) := by decide +kernel
theorem dX5_fire_137 : decode cX5_fire 137 = .ok (.iinc 6 1, 3) := by decide +kernel
theorem dX5_fire_140 : decode cX5_fire 140 = .ok (.goto (-66), 3) := by decide +kernel
theorem dX5_fire_143 : decode cX5_fire 143 = .ok (.aload_n 0, 1) := by decide +kernel
theorem dX5_fire_144 : decode cX5_fire 144 = .ok (.getfield 28, 3) := by decide +kernel
theorem dX5_fire_147 : decode cX5_fire 147 = .ok (.getfield 143, 3) := by decide +kernel
theorem dX5_fire_150 : decode cX5_fire 150 = .ok (.iload 5, 2) := by decide +kernel
theorem dX5_fire_152 : decode cX5_fire 152 = .ok (.aload_n 0, 1) := by decide +kernel
theorem dX5_fire_153 : decode cX5_fire 153 = .ok (.getfield 24, 3) := by decide +kernel
theorem dX5_fire_156 : decode cX5_fire 156 = .ok (.getfield 143, 3) := by decide +kernel
theorem dX5_fire_159 : decode cX5_fire 159 = .ok (.iload 5, 2) := by decide +kernel
theorem dX5_fire_161 : decode cX5_fire 161 = .ok (.iaload, 1) := by decide +kernel
theorem dX5_fire_162 : decode cX5_fire 162 = .ok (.iastore, 1) := by decide +kernel
theorem dX5_fire_163 : decode cX5_fire 163 = .ok (.iinc 5 1, 3) := by decide +kernel
theorem dX5_fire_166 : decode cX5_fire 166 = .ok (.goto (-102), 3) := by decide +kernel
theorem dX5_fire_169 : decode cX5_fire 169 = .ok (.iload_n 3, 1) := by decide +kernel
theorem dX5_fire_170 : decode cX5_fire 170 = .ok (.bipush (-4), 2) := by decide +kernel
theorem dX5_fire_172 : decode cX5_fire 172 = .ok (.if_icmp .ne 6, 3) := by decide +kernel
theorem dX5_fire_175 : decode cX5_fire 175 = .ok (.bipush (-4), 2) := by decide +kernel
theorem dX5_fire_177 : decode cX5_fire 177 = .ok (.ireturn, 1) := by decide +kernel
theorem dX5_fire_178 : decode cX5_fire 178 = .ok (.iload_n 2, 1) := by decide +kernel
theorem dX5_fire_179 : decode cX5_fire 179 = .ok (.ifCond .ne 7, 3) := by decide +kernel
theorem dX5_fire_182 : decode cX5_fire 182 = .ok (.iload_n 3, 1) := by decide +kernel
theorem dX5_fire_183 : decode cX5_fire 183 = .ok (.goto 5, 3) := by decide +kernel
theorem dX5_fire_186 : decode cX5_fire 186 = .ok (.iload 4, 2) := by decide +kernel
theorem dX5_fire_188 : decode cX5_fire 188 = .ok (.ireturn, 1) := by decide +kernel
theorem dX5_moon_0 : decode cX5_moon 0 = .ok (.iload_n 1, 1) := by decide +kernel
theorem dX5_moon_1 : decode cX5_moon 1 = .ok (.iconst 0, 1) := by decide +kernel
theorem dX5_moon_2 : decode cX5_moon 2 = .ok (.iconst 1, 1) := by decide +kernel
theorem dX5_moon_3 : decode cX5_moon 3 = .ok (.invokestatic 75, 3) := by decide +kernel
theorem dX5_moon_6 : decode cX5_moon 6 = .ok (.ifCond .ne 5, 3) := by decide +kernel
theorem dX5_moon_9 : decode cX5_moon 9 = .ok (.iconst (-1), 1) := by decide +kernel
theorem dX5_moon_10 : decode cX5_moon 10 = .ok (.ireturn, 1) := by decide +kernel
theorem dX5_moon_11 : decode cX5_moon 11 = .ok (.aload_n 0, 1) := by decide +kernel
theorem dX5_moon_12 : decode cX5_moon 12 = .ok (.getfield 28, 3) := by decide +kernel
theorem dX5_moon_15 : decode cX5_moon 15 = .ok (.aload_n 0, 1) := by decide +kernel
theorem dX5_moon_16 : decode cX5_moon 16 = .ok (.getfield 24, 3) := by decide +kernel
theorem dX5_moon_19 : decode cX5_moon 19 = .ok (.invokevirtual 102, 3) := by decide +kernel
theorem dX5_moon_22 : decode cX5_moon 22 = .ok (.iconst 0, 1) := by decide +kernel
theorem dX5_moon_23 : decode cX5_moon 23 = .ok (.istore_n 2, 1) := by decide +kernel
theorem dX5_moon_24 : decode cX5_moon 24 = .ok (.iconst (-1), 1) := by decide +kernel
theorem dX5_moon_25 : decode cX5_moon 25 = .ok (.istore_n 3, 1) := by decide +kernel
theorem dX5_moon_26 : decode cX5_moon 26 = .ok (.iconst 0, 1) := by decide +kernel
theorem dX5_moon_27 : decode cX5_moon 27 = .ok (.istore 4, 2) := by decide +kernel
theorem dX5_moon_29 : decode cX5_moon 29 = .ok (.iload 4, 2) := by decide +kernel
theorem dX5_moon_31 : decode cX5_moon 31 = .ok (.bipush 6, 2) := by decide +kernel
theorem dX5_moon_33 : decode cX5_moon 33 = .ok (.if_icmp .ge 54, 3) := by decide +kernel
theorem dX5_moon_36 : decode cX5_moon 36 = .ok (.aload_n 0, 1) := by decide +kernel
theorem dX5_moon_37 : decode cX5_moon 37 = .ok (.getfield 28, 3) := by decide +kernel
theorem dX5_moon_40 : decode cX5_moon 40 = .ok (.iload 4, 2) := by decide +kernel
theorem dX5_moon_42 : decode cX5_moon 42 = .ok (.putfield 115, 3) := by decide +kernel
theorem dX5_moon_45 : decode cX5_moon 45 = .ok (.aload_n 0, 1) := by decide +kernel
theorem dX5_moon_46 : decode cX5_moon 46 = .ok (.getfield 49, 3) := by decide +kernel
theorem dX5_moon_49 : decode cX5_moon 49 = .ok (.aload_n 0, 1) := by decide +kernel
theorem dX5_moon_50 : decode cX5_moon 50 = .ok (.getfield 28, 3) := by decide +kernel
theorem dX5_moon_53 : decode cX5_moon 53 = .ok (.invokevirtual 187, 3) := by decide +kernel
theorem dX5_moon_56 : decode cX5_moon 56 = .ok (.aload_n 0, 1) := by decide +kernel
theorem dX5_moon_57 : decode cX5_moon 57 = .ok (.getfield 49, 3) := by decide +kernel
theorem dX5_moon_60 : decode cX5_moon 60 = .ok (.aload_n 0, 1) := by decide +kernel
theorem dX5_moon_61 : decode cX5_moon 61 = .ok (.getfield 28, 3) := by decide +kernel
theorem dX5_moon_64 : decode cX5_moon 64 = .ok (.invokevirtual 197, 3) := by decide +kernel
theorem dX5_moon_67 : decode cX5_moon 67 = .ok (.istore 5, 2) := by decide +kernel
theorem dX5_moon_69 : decode cX5_moon 69 = .ok (.iload 5, 2) := by decide +kernel
theorem dX5_moon_71 : decode cX5_moon 71 = .ok (.iload_n 3, 1) := by decide +kernel
theorem dX5_moon_72 : decode cX5_moon 72 = .ok (.if_icmp .le 9, 3) := by decide +kernel
theorem dX5_moon_75 : decode cX5_moon 75 = .ok (.iload 5, 2) := by decide +kernel
theorem dX5_moon_77 : decode cX5_moon 77 = .ok (.istore_n 3, 1) := by decide +kernel
theorem dX5_moon_78 : decode cX5_moon 78 = .ok (.iload 4, 2) := by decide +kernel
theorem dX5_moon_80 : decode cX5_moon 80 = .ok (.istore_n 2, 1) := by decide +kernel
theorem dX5_moon_81 : decode cX5_moon 81 = .ok (.iinc 4 1, 3) := by decide +kernel
theorem dX5_moon_84 : decode cX5_moon 84 = .ok (.goto (-55), 3) := by decide +kernel
theorem dX5_moon_87 : decode cX5_moon 87 = .ok (.iload_n 1, 1) := by decide +kernel
theorem dX5_moon_88 : decode cX5_moon 88 = .ok (.ifCond .ne 7, 3) := by decide +kernel
theorem dX5_moon_91 : decode cX5_moon 91 = .ok (.iload_n 2, 1) := by decide +kernel
theorem dX5_moon_92 : decode cX5_moon 92 = .ok (.goto 4, 3) := by decide +kernel
theorem dX5_moon_95 : decode cX5_moon 95 = .ok (.iload_n 3, 1) := by decide +kernel
theorem dX5_moon_96 : decode cX5_moon 96 = .ok (.ireturn, 1) := by decide +kernel
theorem dX5_rest_0 : decode cX5_rest 0 = .ok (.aload_n 0, 1) := by decide +kernel
theorem dX5_rest_1 : decode cX5_rest 1 = .ok (.getfield 24, 3) := by decide +kernel
theorem dX5_rest_4 : decode cX5_rest 4 = .ok (.iload_n 1, 1) := by decide +kernel
theorem dX5_rest_5 : decode cX5_rest 5 = .ok (.invokevirtual 134, 3) := by decide +kernel
theorem dX5_rest_8 : decode cX5_rest 8 = .ok (.ifCond .eq 28, 3) := by decide +kernel
theorem dX5_rest_11 : decode cX5_rest 11 = .ok (.aload_n 0, 1) := by decide +kernel
theorem dX5_rest_12 : decode cX5_rest 12 = .ok (.getfield 24, 3) := by decide +kernel
theorem dX5_rest_15 : decode cX5_rest 15 = .ok (.iload_n 2, 1) := by decide +kernel
theorem dX5_rest_16 : decode cX5_rest 16 = .ok (.invokevirtual 134, 3) := by decide +kernel
theorem dX5_rest_19 : decode cX5_rest 19 = .ok (.ifCond .eq 17, 3) := by decide +kernel
theorem dX5_rest_22 : decode cX5_rest 22 = .ok (.iload_n 1, 1) := by decide +kernel
theorem dX5_rest_23 : decode cX5_rest 23 = .ok (.iload_n 2, 1) := by decide +kernel
theorem dX5_rest_24 : decode cX5_rest 24 = .ok (.if_icmp .eq 12, 3) := by decide +kernel
theorem dX5_rest_27 : decode cX5_rest 27 = .ok (.iload_n 3, 1) := by decide +kernel
theorem dX5_rest_28 : decode cX5_rest 28 = .ok (.iconst 0, 1) := by decide +kernel
theorem dX5_rest_29 : decode cX5_rest 29 = .ok (.iconst 1, 1) := by decide +kernel
theorem dX5_rest_30 : decode cX5_rest 30 = .ok (.invokestatic 75, 3) := by decide +kernel
theorem dX5_rest_33 : decode cX5_rest 33 = .ok (.ifCond .ne 5, 3) := by decide +kernel
theorem dX5_rest_36 : decode cX5_rest 36 = .ok (.iconst (-1), 1) := by decide +kernel
theorem dX5_rest_37 : decode cX5_rest 37 = .ok (.ireturn, 1) := by decide +kernel
theorem dX5_rest_38 : decode cX5_rest 38 = .ok (.aload_n 0, 1) := by decide +kernel
theorem dX5_rest_39 : decode cX5_rest 39 = .ok (.iload_n 1, 1) := by decide +kernel
theorem dX5_rest_40 : decode cX5_rest 40 = .ok (.iload_n 2, 1) := by decide +kernel
theorem dX5_rest_41 : decode cX5_rest 41 = .ok (.invokevirtual 226, 3) := by decide +kernel
theorem dX5_rest_44 : decode cX5_rest 44 = .ok (.iconst 0, 1) := by decide +kernel
theorem dX5_rest_45 : decode cX5_rest 45 = .ok (.istore 4, 2) := by decide +kernel
theorem dX5_rest_47 : decode cX5_rest 47 = .ok (.bipush (-4), 2) := by decide +kernel
theorem dX5_rest_49 : decode cX5_rest 49 = .ok (.istore 5, 2) := by decide +kernel
theorem dX5_rest_51 : decode cX5_rest 51 = .ok (.iconst 0, 1) := by decide +kernel
theorem dX5_rest_52 : decode cX5_rest 52 = .ok (.istore 6, 2) := by decide +kernel
theorem dX5_rest_54 : decode cX5_rest 54 = .ok (.iload 6, 2) := by decide +kernel
theorem dX5_rest_56 : decode cX5_rest 56 = .ok (.bipush 10, 2) := by decide +kernel
theorem dX5_rest_58 : decode cX5_rest 58 = .ok (.if_icmp .ge 57, 3) := by decide +kernel
theorem dX5_rest_61 : decode cX5_rest 61 = .ok (.iconst 0, 1) := by decide +kernel
theorem dX5_rest_62 : decode cX5_rest 62 = .ok (.istore 7, 2) := by decide +kernel
theorem dX5_rest_64 : decode cX5_rest 64 = .ok (.iload 7, 2) := by decide +kernel
theorem dX5_rest_66 : decode cX5_rest 66 = .ok (.bipush 10, 2) := by decide +kernel
theorem dX5_rest_68 : decode cX5_rest 68 = .ok (.if_icmp .ge 41, 3) := by decide +kernel
theorem dX5_rest_71 : decode cX5_rest 71 = .ok (.aload_n 0, 1) := by decide +kernel
theorem dX5_rest_72 : decode cX5_rest 72 = .ok (.iload 6, 2) := by decide +kernel
theorem dX5_rest_74 : decode cX5_rest 74 = .ok (.iload 7, 2) := by decide +kernel
theorem dX5_rest_76 : decode cX5_rest 76 = .ok (.invokevirtual 230, 3) := by decide +kernel
theorem dX5_rest_79 : decode cX5_rest 79 = .ok (.ifCond .ne 6, 3) := by decide +kernel
theorem dX5_rest_82 : decode cX5_rest 82 = .ok (.goto 21, 3) := by decide +kernel
theorem dX5_rest_85 : decode cX5_rest 85 = .ok (.iload 4, 2) := by decide +kernel
theorem dX5_rest_87 : decode cX5_rest 87 = .ok (.ifCond .ne 13, 3) := by decide +kernel
theorem dX5_rest_90 : decode cX5_rest 90 = .ok (.bipush 10, 2) := by decide +kernel
theorem dX5_rest_92 : decode cX5_rest 92 = .ok (.iload 6, 2) := by decide +kernel
theorem dX5_rest_94 : decode cX5_rest 94 = .ok (.imul, 1) := by decide +kernel
theorem dX5_rest_95 : decode cX5_rest 95 = .ok (.iload 7, 2) := by decide +kernel
theorem dX5_rest_97 : decode cX5_rest 97 = .ok (.iadd, 1) := by decide +kernel
theorem dX5_rest_98 : decode cX5_rest 98 = .ok (.istore 5, 2) := by decide +kernel
theorem dX5_rest_100 : decode cX5_rest 100 = .ok (.iinc 4 1, 3) := by decide +kernel
theorem dX5_rest_103 : decode cX5_rest 103 = .ok (.iinc 7 1, 3) := by decide +kernel
theorem dX5_rest_106 : decode cX5_rest 106 = .ok (.goto (-42), 3) := by decide +kernel
theorem dX5_rest_109 : decode cX5_rest 109 = .ok (.iinc 6 1, 3) := by decide +kernel
theorem dX5_rest_112 : decode cX5_rest 112 = .ok (.goto (-58), 3) := by decide +kernel
theorem dX5_rest_115 : decode cX5_rest 115 = .ok (.iload_n 3, 1) := by decide +kernel
theorem dX5_rest_116 : decode cX5_rest 116 = .ok (.ifCond .ne 8, 3) := by decide +kernel
theorem dX5_rest_119 : decode cX5_rest 119 = .ok (.iload 4, 2) := by decide +kernel
theorem dX5_rest_121 : decode cX5_rest 121 = .ok (.goto 5, 3) := by decide +kernel
theorem dX5_rest_124 : decode cX5_rest 124 = .ok (.iload 5, 2) := by decide +kernel
theorem dX5_rest_126 : decode cX5_rest 126 = .ok (.ireturn, 1) := by decide +kernel
theorem dX5_luck_0 : decode cX5_luck 0 = .ok (.iload_n 1, 1) := by decide +kernel
theorem dX5_luck_1 : decode cX5_luck 1 = .ok (.iconst 0, 1) := by decide +kernel
theorem dX5_luck_2 : decode cX5_luck 2 = .ok (.bipush 10, 2) := by decide +kernel
theorem dX5_luck_4 : decode cX5_luck 4 = .ok (.invokestatic 75, 3) := by decide +kernel
theorem dX5_luck_7 : decode cX5_luck 7 = .ok (.ifCond .eq 35, 3) := by decide +kernel
theorem dX5_luck_10 : decode cX5_luck 10 = .ok (.aload_n 0, 1) := by decide +kernel
theorem dX5_luck_11 : decode cX5_luck 11 = .ok (.getfield 24, 3) := by decide +kernel
theorem dX5_luck_14 : decode cX5_luck 14 = .ok (.iload_n 2, 1) := by decide +kernel
theorem dX5_luck_15 : decode cX5_luck 15 = .ok (.invokevirtual 124, 3) := by decide +kernel
theorem dX5_luck_18 : decode cX5_luck 18 = .ok (.ifCond .eq 24, 3) := by decide +kernel
theorem dX5_luck_21 : decode cX5_luck 21 = .ok (.aload_n 0, 1) := by decide +kernel
theorem dX5_luck_22 : decode cX5_luck 22 = .ok (.getfield 24, 3) := by decide +kernel
theorem dX5_luck_25 : decode cX5_luck 25 = .ok (.iload_n 3, 1) := by decide +kernel
theorem dX5_luck_26 : decode cX5_luck 26 = .ok (.invokevirtual 134, 3) := by decide +kernel
theorem dX5_luck_29 : decode cX5_luck 29 = .ok (.ifCond .eq 13, 3) := by decide +kernel
theorem dX5_luck_32 : decode cX5_luck 32 = .ok (.iload 4, 2) := by decide +kernel
theorem dX5_luck_34 : decode cX5_luck 34 = .ok (.iconst 0, 1) := by decide +kernel
theorem dX5_luck_35 : decode cX5_luck 35 = .ok (.iconst 1, 1) := by decide +kernel
theorem dX5_luck_36 : decode cX5_luck 36 = .ok (.invokestatic 75, 3) := by decide +kernel
theorem dX5_luck_39 : decode cX5_luck 39 = .ok (.ifCond .ne 7, 3) := by decide +kernel
theorem dX5_luck_42 : decode cX5_luck 42 = .ok (.ldc2_w 233, 3) := by decide +kernel
theorem dX5_luck_45 : decode cX5_luck 45 = .ok (.lreturn, 1) := by decide +kernel
theorem dX5_luck_46 : decode cX5_luck 46 = .ok (.aload_n 0, 1) := by decide +kernel
theorem dX5_luck_47 : decode cX5_luck 47 = .ok (.invokevirtual 121, 3) := by decide +kernel
theorem dX5_luck_50 : decode cX5_luck 50 = .ok (.istore 5, 2) := by decide +kernel
theorem dX5_luck_52 : decode cX5_luck 52 = .ok (.iload 5, 2) := by decide +kernel
theorem dX5_luck_54 : decode cX5_luck 54 = .ok (.bipush 8, 2) := by decide +kernel
theorem dX5_luck_56 : decode cX5_luck 56 = .ok (.if_icmp .le 7, 3) := by decide +kernel
theorem dX5_luck_59 : decode cX5_luck 59 = .ok (.ldc2_w 235, 3) := by decide +kernel
theorem dX5_luck_62 : decode cX5_luck 62 = .ok (.lreturn, 1) := by decide +kernel
theorem dX5_luck_63 : decode cX5_luck 63 = .ok (.aload_n 0, 1) := by decide +kernel
theorem dX5_luck_64 : decode cX5_luck 64 = .ok (.getfield 28, 3) := by decide +kernel
theorem dX5_luck_67 : decode cX5_luck 67 = .ok (.aload_n 0, 1) := by decide +kernel
theorem dX5_luck_68 : decode cX5_luck 68 = .ok (.getfield 24, 3) := by decide +kernel
theorem dX5_luck_71 : decode cX5_luck 71 = .ok (.invokevirtual 102, 3) := by decide +kernel
theorem dX5_luck_74 : decode cX5_luck 74 = .ok (.lconst 0, 1) := by decide +kernel
theorem dX5_luck_75 : decode cX5_luck 75 = .ok (.lstore 6, 2) := by decide +kernel
theorem dX5_luck_77 : decode cX5_luck 77 = .ok (.iconst 0, 1) := by decide +kernel
theorem dX5_luck_78 : decode cX5_luck 78 = .ok (.istore 8, 2) := by decide +kernel
theorem dX5_luck_80 : decode cX5_luck 80 = .ok (.iload 8, 2) := by decide +kernel
theorem dX5_luck_82 : decode cX5_luck 82 = .ok (.iconst 1, 1) := by decide +kernel
theorem dX5_luck_83 : decode cX5_luck 83 = .ok (.iload 5, 2) := by decide +kernel
theorem dX5_luck_85 : decode cX5_luck 85 = .ok (.ishl, 1) := by decide +kernel
theorem dX5_luck_86 : decode cX5_luck 86 = .ok (.if_icmp .ge 50, 3) := by decide +kernel
theorem dX5_luck_89 : decode cX5_luck 89 = .ok (.aload_n 0, 1) := by decide +kernel
theorem dX5_luck_90 : decode cX5_luck 90 = .ok (.iload 8, 2) := by decide +kernel
theorem dX5_luck_92 : decode cX5_luck 92 = .ok (.iload 5, 2) := by decide +kernel
theorem dX5_luck_94 : decode cX5_luck 94 = .ok (.iload_n 1, 1) := by decide +kernel
theorem dX5_luck_95 : decode cX5_luck 95 = .ok (.invokevirtual 237, 3) := by decide +kernel
theorem dX5_luck_98 : decode cX5_luck 98 = .ok (.lstore 9, 2) := by decide +kernel
theorem dX5_luck_100 : decode cX5_luck 100 = .ok (.lload 9, 2) := by decide +kernel
theorem dX5_luck_102 : decode cX5_luck 102 = .ok (.lconst 0, 1) := by decide +kernel
theorem dX5_luck_103 : decode cX5_luck 103 = .ok (.lcmp, 1) := by decide +kernel
theorem dX5_luck_104 : decode cX5_luck 104 = .ok (.ifCond .le 26, 3) := by decide +kernel
theorem dX5_luck_107 : decode cX5_luck 107 = .ok (.aload_n 0, 1) := by decide +kernel
theorem dX5_luck_108 : decode cX5_luck 108 = .ok (.getfield 49, 3) := by decide +kernel
theorem dX5_luck_111 : decode cX5_luck 111 = .ok (.aload_n 0, 1) := by decide +kernel
theorem dX5_luck_112 : decode cX5_luck 112 = .ok (.getfield 28, 3) := by decide +kernel
theorem dX5_luck_115 : decode cX5_luck 115 = .ok (.iload_n 2, 1) := by decide +kernel
theorem dX5_luck_116 : decode cX5_luck 116 = .ok (.iload_n 3, 1) := by decide +kernel
theorem dX5_luck_117 : decode cX5_luck 117 = .ok (.invokevirtual 204, 3) := by decide +kernel
theorem dX5_luck_120 : decode cX5_luck 120 = .ok (.ifCond .eq 10, 3) := by decide +kernel
theorem dX5_luck_123 : decode cX5_luck 123 = .ok (.lload 6, 2) := by decide +kernel
theorem dX5_luck_125 : decode cX5_luck 125 = .ok (.lload 9, 2) := by decide +kernel
theorem dX5_luck_127 : decode cX5_luck 127 = .ok (.ladd, 1) := by decide +kernel
theorem dX5_luck_128 : decode cX5_luck 128 = .ok (.lstore 6, 2) := by decide +kernel
theorem dX5_luck_130 : decode cX5_luck 130 = .ok (.iinc 8 1, 3) := by decide +kernel
theorem dX5_luck_133 : decode cX5_luck 133 = .ok (.goto (-53), 3) := by decide +kernel
theorem dX5_luck_136 : decode cX5_luck 136 = .ok (.lload 6, 2) := by decide +kernel
theorem dX5_luck_138 : decode cX5_luck 138 = .ok (.iload 5, 2) := by decide +kernel
theorem dX5_luck_140 : decode cX5_luck 140 = .ok (.invokestatic 241, 3) := by decide +kernel
theorem dX5_luck_143 : decode cX5_luck 143 = .ok (.iload 4, 2) := by decide +kernel
theorem dX5_luck_145 : decode cX5_luck 145 = .ok (.invokestatic 245, 3) := by decide +kernel
theorem dX5_luck_148 : decode cX5_luck 148 = .ok (.lreturn, 1) := by decide +kernel
theorem dX5_mean_0 : decode cX5_mean 0 = .ok (.iload_n 1, 1) := by decide +kernel
theorem dX5_mean_1 : decode cX5_mean 1 = .ok (.iconst 0, 1) := by decide +kernel
theorem dX5_mean_2 : decode cX5_mean 2 = .ok (.bipush 10, 2) := by decide +kernel
theorem dX5_mean_4 : decode cX5_mean 4 = .ok (.invokestatic 75, 3) := by decide +kernel
theorem dX5_mean_7 : decode cX5_mean 7 = .ok (.ifCond .eq 23, 3) := by decide +kernel
theorem dX5_mean_10 : decode cX5_mean 10 = .ok (.aload_n 0, 1) := by decide +kernel
theorem dX5_mean_11 : decode cX5_mean 11 = .ok (.getfield 24, 3) := by decide +kernel
theorem dX5_mean_14 : decode cX5_mean 14 = .ok (.iload_n 2, 1) := by decide +kernel
theorem dX5_mean_15 : decode cX5_mean 15 = .ok (.invokevirtual 134, 3) := by decide +kernel
theorem dX5_mean_18 : decode cX5_mean 18 = .ok (.ifCond .eq 12, 3) := by decide +kernel
theorem dX5_mean_21 : decode cX5_mean 21 = .ok (.iload_n 3, 1) := by decide +kernel
theorem dX5_mean_22 : decode cX5_mean 22 = .ok (.iconst 0, 1) := by decide +kernel
theorem dX5_mean_23 : decode cX5_mean 23 = .ok (.iconst 1, 1) := by decide +kernel
theorem dX5_mean_24 : decode cX5_mean 24 = .ok (.invokestatic 75, 3) := by decide +kernel
theorem dX5_mean_27 : decode cX5_mean 27 = .ok (.ifCond .ne 7, 3) := by decide +kernel
theorem dX5_mean_30 : decode cX5_mean 30 = .ok (.ldc2_w 233, 3) := by decide +kernel
theorem dX5_mean_33 : decode cX5_mean 33 = .ok (.lreturn, 1) := by decide +kernel
theorem dX5_mean_34 : decode cX5_mean 34 = .ok (.aload_n 0, 1) := by decide +kernel
theorem dX5_mean_35 : decode cX5_mean 35 = .ok (.invokevirtual 121, 3) := by decide +kernel
theorem dX5_mean_38 : decode cX5_mean 38 = .ok (.istore 4, 2) := by decide +kernel
theorem dX5_mean_40 : decode cX5_mean 40 = .ok (.iload 4, 2) := by decide +kernel
theorem dX5_mean_42 : decode cX5_mean 42 = .ok (.bipush 8, 2) := by decide +kernel
theorem dX5_mean_44 : decode cX5_mean 44 = .ok (.if_icmp .le 7, 3) := by decide +kernel
theorem dX5_mean_47 : decode cX5_mean 47 = .ok (.ldc2_w 235, 3) := by decide +kernel
theorem dX5_mean_50 : decode cX5_mean 50 = .ok (.lreturn, 1) := by decide +kernel
theorem dX5_mean_51 : decode cX5_mean 51 = .ok (.aload_n 0, 1) := by decide +kernel
theorem dX5_mean_52 : decode cX5_mean 52 = .ok (.getfield 28, 3) := by decide +kernel
theorem dX5_mean_55 : decode cX5_mean 55 = .ok (.aload_n 0, 1) := by decide +kernel
theorem dX5_mean_56 : decode cX5_mean 56 = .ok (.getfield 24, 3) := by decide +kernel
theorem dX5_mean_59 : decode cX5_mean 59 = .ok (.invokevirtual 102, 3) := by decide +kernel
theorem dX5_mean_62 : decode cX5_mean 62 = .ok (.lconst 0, 1) := by decide +kernel
theorem dX5_mean_63 : decode cX5_mean 63 = .ok (.lstore 5, 2) := by decide +kernel
theorem dX5_mean_65 : decode cX5_mean 65 = .ok (.iconst 0, 1) := by decide +kernel
theorem dX5_mean_66 : decode cX5_mean 66 = .ok (.istore 7, 2) := by decide +kernel
theorem dX5_mean_68 : decode cX5_mean 68 = .ok (.iload 7, 2) := by decide +kernel
theorem dX5_mean_70 : decode cX5_mean 70 = .ok (.iconst 1, 1) := by decide +kernel
theorem dX5_mean_71 : decode cX5_mean 71 = .ok (.iload 4, 2) := by decide +kernel
theorem dX5_mean_73 : decode cX5_mean 73 = .ok (.ishl, 1) := by decide +kernel
theorem dX5_mean_74 : decode cX5_mean 74 = .ok (.if_icmp .ge 62, 3) := by decide +kernel
theorem dX5_mean_77 : decode cX5_mean 77 = .ok (.aload_n 0, 1) := by decide +kernel
theorem dX5_mean_78 : decode cX5_mean 78 = .ok (.iload 7, 2) := by decide +kernel
theorem dX5_mean_80 : decode cX5_mean 80 = .ok (.iload 4, 2) := by decide +kernel
theorem dX5_mean_82 : decode cX5_mean 82 = .ok (.iload_n 1, 1) := by decide +kernel
theorem dX5_mean_83 : decode cX5_mean 83 = .ok (.invokevirtual 237, 3) := by decide +kernel
theorem dX5_mean_86 : decode cX5_mean 86 = .ok (.lstore 8, 2) := by decide +kernel
theorem dX5_mean_88 : decode cX5_mean 88 = .ok (.lload 8, 2) := by decide +kernel
theorem dX5_mean_90 : decode cX5_mean 90 = .ok (.lconst 0, 1) := by decide +kernel
theorem dX5_mean_91 : decode cX5_mean 91 = .ok (.lcmp, 1) := by decide +kernel
theorem dX5_mean_92 : decode cX5_mean 92 = .ok (.ifCond .ne 6, 3) := by decide +kernel
theorem dX5_mean_95 : decode cX5_mean 95 = .ok (.goto 35, 3) := by decide +kernel
theorem dX5_mean_98 : decode cX5_mean 98 = .ok (.aload_n 0, 1) := by decide +kernel
theorem dX5_mean_99 : decode cX5_mean 99 = .ok (.getfield 49, 3) := by decide +kernel
theorem dX5_mean_102 : decode cX5_mean 102 = .ok (.aload_n 0, 1) := by decide +kernel
theorem dX5_mean_103 : decode cX5_mean 103 = .ok (.getfield 28, 3) := by decide +kernel
theorem dX5_mean_106 : decode cX5_mean 106 = .ok (.invokevirtual 187, 3) := by decide +kernel
theorem dX5_mean_109 : decode cX5_mean 109 = .ok (.lload 5, 2) := by decide +kernel
theorem dX5_mean_111 : decode cX5_mean 111 = .ok (.lload 8, 2) := by decide +kernel
theorem dX5_mean_113 : decode cX5_mean 113 = .ok (.aload_n 0, 1) := by decide +kernel
theorem dX5_mean_114 : decode cX5_mean 114 = .ok (.getfield 49, 3) := by decide +kernel
theorem dX5_mean_117 : decode cX5_mean 117 = .ok (.aload_n 0, 1) := by decide +kernel
theorem dX5_mean_118 : decode cX5_mean 118 = .ok (.getfield 28, 3) := by decide +kernel
theorem dX5_mean_121 : decode cX5_mean 121 = .ok (.iload_n 2, 1) := by decide +kernel
theorem dX5_mean_122 : decode cX5_mean 122 = .ok (.invokevirtual 190, 3) := by decide +kernel
theorem dX5_mean_125 : decode cX5_mean 125 = .ok (.i2l, 1) := by decide +kernel
theorem dX5_mean_126 : decode cX5_mean 126 = .ok (.lmul, 1) := by decide +kernel
theorem dX5_mean_127 : decode cX5_mean 127 = .ok (.ladd, 1) := by decide +kernel
theorem dX5_mean_128 : decode cX5_mean 128 = .ok (.lstore 5, 2) := by decide +kernel
theorem dX5_mean_130 : decode cX5_mean 130 = .ok (.iinc 7 1, 3) := by decide +kernel
theorem dX5_mean_133 : decode cX5_mean 133 = .ok (.goto (-65), 3) := by decide +kernel
theorem dX5_mean_136 : decode cX5_mean 136 = .ok (.lload 5, 2) := by decide +kernel
theorem dX5_mean_138 : decode cX5_mean 138 = .ok (.iload 4, 2) := by decide +kernel
theorem dX5_mean_140 : decode cX5_mean 140 = .ok (.invokestatic 241, 3) := by decide +kernel
theorem dX5_mean_143 : decode cX5_mean 143 = .ok (.iload_n 3, 1) := by decide +kernel
theorem dX5_mean_144 : decode cX5_mean 144 = .ok (.invokestatic 245, 3) := by decide +kernel
theorem dX5_mean_147 : decode cX5_mean 147 = .ok (.lreturn, 1) := by decide +kernel
theorem dX5_see_0 : decode cX5_see 0 = .ok (.aload_n 0, 1) := by decide +kernel
theorem dX5_see_1 : decode cX5_see 1 = .ok (.getfield 24, 3) := by decide +kernel
theorem dX5_see_4 : decode cX5_see 4 = .ok (.iload_n 1, 1) := by decide +kernel
theorem dX5_see_5 : decode cX5_see 5 = .ok (.invokevirtual 124, 3) := by decide +kernel
theorem dX5_see_8 : decode cX5_see 8 = .ok (.ifCond .eq 23, 3) := by decide +kernel
theorem dX5_see_11 : decode cX5_see 11 = .ok (.iload_n 2, 1) := by decide +kernel
theorem dX5_see_12 : decode cX5_see 12 = .ok (.iconst 0, 1) := by decide +kernel
theorem dX5_see_13 : decode cX5_see 13 = .ok (.bipush 24, 2) := by decide +kernel
theorem dX5_see_15 : decode cX5_see 15 = .ok (.invokestatic 75, 3) := by decide +kernel
theorem dX5_see_18 : decode cX5_see 18 = .ok (.ifCond .eq 13, 3) := by decide +kernel
theorem dX5_see_21 : decode cX5_see 21 = .ok (.iload_n 3, 1) := by decide +kernel
theorem dX5_see_22 : decode cX5_see 22 = .ok (.iconst 0, 1) := by decide +kernel
theorem dX5_see_23 : decode cX5_see 23 = .ok (.bipush 30, 2) := by decide +kernel
theorem dX5_see_25 : decode cX5_see 25 = .ok (.invokestatic 75, 3) := by decide +kernel
theorem dX5_see_28 : decode cX5_see 28 = .ok (.ifCond .ne 5, 3) := by decide +kernel
theorem dX5_see_31 : decode cX5_see 31 = .ok (.iconst (-1), 1) := by decide +kernel
theorem dX5_see_32 : decode cX5_see 32 = .ok (.ireturn, 1) := by decide +kernel
theorem dX5_see_33 : decode cX5_see 33 = .ok (.aload_n 0, 1) := by decide +kernel
theorem dX5_see_34 : decode cX5_see 34 = .ok (.getfield 106, 3) := by decide +kernel
theorem dX5_see_37 : decode cX5_see 37 = .ok (.bipush 6, 2) := by decide +kernel
theorem dX5_see_39 : decode cX5_see 39 = .ok (.if_icmp .lt 6, 3) := by decide +kernel
theorem dX5_see_42 : decode cX5_see 42 = .ok (.bipush (-3), 2) := by decide +kernel
theorem dX5_see_44 : decode cX5_see 44 = .ok (.ireturn, 1) := by decide +kernel
theorem dX5_see_45 : decode cX5_see 45 = .ok (.aload_n 0, 1) := by decide +kernel
theorem dX5_see_46 : decode cX5_see 46 = .ok (.getfield 53, 3) := by decide +kernel
theorem dX5_see_49 : decode cX5_see 49 = .ok (.aload_n 0, 1) := by decide +kernel
theorem dX5_see_50 : decode cX5_see 50 = .ok (.getfield 106, 3) := by decide +kernel
theorem dX5_see_53 : decode cX5_see 53 = .ok (.iload_n 1, 1) := by decide +kernel
theorem dX5_see_54 : decode cX5_see 54 = .ok (.iastore, 1) := by decide +kernel
theorem dX5_see_55 : decode cX5_see 55 = .ok (.aload_n 0, 1) := by decide +kernel
theorem dX5_see_56 : decode cX5_see 56 = .ok (.getfield 57, 3) := by decide +kernel
theorem dX5_see_59 : decode cX5_see 59 = .ok (.aload_n 0, 1) := by decide +kernel
theorem dX5_see_60 : decode cX5_see 60 = .ok (.getfield 106, 3) := by decide +kernel
theorem dX5_see_63 : decode cX5_see 63 = .ok (.iload_n 2, 1) := by decide +kernel
theorem dX5_see_64 : decode cX5_see 64 = .ok (.iastore, 1) := by decide +kernel
theorem dX5_see_65 : decode cX5_see 65 = .ok (.aload_n 0, 1) := by decide +kernel
theorem dX5_see_66 : decode cX5_see 66 = .ok (.getfield 60, 3) := by decide +kernel
theorem dX5_see_69 : decode cX5_see 69 = .ok (.aload_n 0, 1) := by decide +kernel
theorem dX5_see_70 : decode cX5_see 70 = .ok (.getfield 106, 3) := by decide +kernel
theorem dX5_see_73 : decode cX5_see 73 = .ok (.iload_n 3, 1) := by decide +kernel
theorem dX5_see_74 : decode cX5_see 74 = .ok (.iastore, 1) := by decide +kernel
theorem dX5_see_75 : decode cX5_see 75 = .ok (.aload_n 0, 1) := by decide +kernel
theorem dX5_see_76 : decode cX5_see 76 = .ok (.dup, 1) := by decide +kernel
theorem dX5_see_77 : decode cX5_see 77 = .ok (.getfield 106, 3) := by decide +kernel
theorem dX5_see_80 : decode cX5_see 80 = .ok (.iconst 1, 1) := by decide +kernel
theorem dX5_see_81 : decode cX5_see 81 = .ok (.iadd, 1) := by decide +kernel
theorem dX5_see_82 : decode cX5_see 82 = .ok (.putfield 106, 3) := by decide +kernel
theorem dX5_see_85 : decode cX5_see 85 = .ok (.aload_n 0, 1) := by decide +kernel
theorem dX5_see_86 : decode cX5_see 86 = .ok (.getfield 106, 3) := by decide +kernel
theorem dX5_see_89 : decode cX5_see 89 = .ok (.ireturn, 1) := by decide +kernel
theorem dX5_forget_0 : decode cX5_forget 0 = .ok (.iload_n 1, 1) := by decide +kernel
theorem dX5_forget_1 : decode cX5_forget 1 = .ok (.iconst 0, 1) := by decide +kernel
theorem dX5_forget_2 : decode cX5_forget 2 = .ok (.aload_n 0, 1) := by decide +kernel
theorem dX5_forget_3 : decode cX5_forget 3 = .ok (.getfield 106, 3) := by decide +kernel
theorem dX5_forget_6 : decode cX5_forget 6 = .ok (.invokestatic 75, 3) := by decide +kernel
theorem dX5_forget_9 : decode cX5_forget 9 = .ok (.ifCond .ne 5, 3) := by decide +kernel
theorem dX5_forget_12 : decode cX5_forget 12 = .ok (.iconst (-1), 1) := by decide +kernel
theorem dX5_forget_13 : decode cX5_forget 13 = .ok (.ireturn, 1) := by decide +kernel
theorem dX5_forget_14 : decode cX5_forget 14 = .ok (.aload_n 0, 1) := by decide +kernel
theorem dX5_forget_15 : decode cX5_forget 15 = .ok (.getfield 106, 3) := by decide +kernel
theorem dX5_forget_18 : decode cX5_forget 18 = .ok (.istore_n 2, 1) := by decide +kernel
theorem dX5_forget_19 : decode cX5_forget 19 = .ok (.aload_n 0, 1) := by decide +kernel
theorem dX5_forget_20 : decode cX5_forget 20 = .ok (.iload_n 1, 1) := by decide +kernel
theorem dX5_forget_21 : decode cX5_forget 21 = .ok (.putfield 106, 3) := by decide +kernel
theorem dX5_forget_24 : decode cX5_forget 24 = .ok (.iload_n 2, 1) := by decide +kernel
theorem dX5_forget_25 : decode cX5_forget 25 = .ok (.ireturn, 1) := by decide +kernel
theorem dX5_kinds_0 : decode cX5_kinds 0 = .ok (.aload_n 0, 1) := by decide +kernel
theorem dX5_kinds_1 : decode cX5_kinds 1 = .ok (.getfield 24, 3) := by decide +kernel
theorem dX5_kinds_4 : decode cX5_kinds 4 = .ok (.iload_n 1, 1) := by decide +kernel
theorem dX5_kinds_5 : decode cX5_kinds 5 = .ok (.invokevirtual 124, 3) := by decide +kernel
theorem dX5_kinds_8 : decode cX5_kinds 8 = .ok (.ifCond .eq 11, 3) := by decide +kernel
theorem dX5_kinds_11 : decode cX5_kinds 11 = .ok (.aload_n 0, 1) := by decide +kernel
theorem dX5_kinds_12 : decode cX5_kinds 12 = .ok (.iload_n 1, 1) := by decide +kernel
theorem dX5_kinds_13 : decode cX5_kinds 13 = .ok (.invokevirtual 249, 3) := by decide +kernel
theorem dX5_kinds_16 : decode cX5_kinds 16 = .ok (.goto 4, 3) := by decide +kernel
theorem dX5_kinds_19 : decode cX5_kinds 19 = .ok (.iconst (-1), 1) := by decide +kernel
theorem dX5_kinds_20 : decode cX5_kinds 20 = .ok (.ireturn, 1) := by decide +kernel
theorem dX5_sets_0 : decode cX5_sets 0 = .ok (.iload_n 1, 1) := by decide +kernel
theorem dX5_sets_1 : decode cX5_sets 1 = .ok (.iconst 0, 1) := by decide +kernel
theorem dX5_sets_2 : decode cX5_sets 2 = .ok (.bipush 9, 2) := by decide +kernel
theorem dX5_sets_4 : decode cX5_sets 4 = .ok (.invokestatic 75, 3) := by decide +kernel
theorem dX5_sets_7 : decode cX5_sets 7 = .ok (.ifCond .ne 5, 3) := by decide +kernel
theorem dX5_sets_10 : decode cX5_sets 10 = .ok (.iconst (-1), 1) := by decide +kernel
theorem dX5_sets_11 : decode cX5_sets 11 = .ok (.ireturn, 1) := by decide +kernel
theorem dX5_sets_12 : decode cX5_sets 12 = .ok (.aload_n 0, 1) := by decide +kernel
theorem dX5_sets_13 : decode cX5_sets 13 = .ok (.getfield 28, 3) := by decide +kernel
theorem dX5_sets_16 : decode cX5_sets 16 = .ok (.aload_n 0, 1) := by decide +kernel
theorem dX5_sets_17 : decode cX5_sets 17 = .ok (.getfield 24, 3) := by decide +kernel
theorem dX5_sets_20 : decode cX5_sets 20 = .ok (.invokevirtual 102, 3) := by decide +kernel
theorem dX5_sets_23 : decode cX5_sets 23 = .ok (.iconst 0, 1) := by decide +kernel
theorem dX5_sets_24 : decode cX5_sets 24 = .ok (.istore_n 2, 1) := by decide +kernel
theorem dX5_sets_25 : decode cX5_sets 25 = .ok (.iconst 0, 1) := by decide +kernel
theorem dX5_sets_26 : decode cX5_sets 26 = .ok (.istore_n 3, 1) := by decide +kernel
theorem dX5_sets_27 : decode cX5_sets 27 = .ok (.iload_n 3, 1) := by decide +kernel
theorem dX5_sets_28 : decode cX5_sets 28 = .ok (.iconst 5, 1) := by decide +kernel
theorem dX5_sets_29 : decode cX5_sets 29 = .ok (.if_icmp .ge 36, 3) := by decide +kernel
theorem dX5_sets_32 : decode cX5_sets 32 = .ok (.aload_n 0, 1) := by decide +kernel
theorem dX5_sets_33 : decode cX5_sets 33 = .ok (.getfield 28, 3) := by decide +kernel
theorem dX5_sets_36 : decode cX5_sets 36 = .ok (.getfield 140, 3) := by decide +kernel
theorem dX5_sets_39 : decode cX5_sets 39 = .ok (.iload_n 1, 1) := by decide +kernel
theorem dX5_sets_40 : decode cX5_sets 40 = .ok (.iload_n 3, 1) := by decide +kernel
theorem dX5_sets_41 : decode cX5_sets 41 = .ok (.iastore, 1) := by decide +kernel
theorem dX5_sets_42 : decode cX5_sets 42 = .ok (.aload_n 0, 1) := by decide +kernel
theorem dX5_sets_43 : decode cX5_sets 43 = .ok (.aload_n 0, 1) := by decide +kernel
theorem dX5_sets_44 : decode cX5_sets 44 = .ok (.getfield 28, 3) := by decide +kernel
theorem dX5_sets_47 : decode cX5_sets 47 = .ok (.invokevirtual 252, 3) := by decide +kernel
theorem dX5_sets_50 : decode cX5_sets 50 = .ok (.ifCond .eq 9, 3) := by decide +kernel
theorem dX5_sets_53 : decode cX5_sets 53 = .ok (.iload_n 2, 1) := by decide +kernel
theorem dX5_sets_54 : decode cX5_sets 54 = .ok (.iconst 1, 1) := by decide +kernel
theorem dX5_sets_55 : decode cX5_sets 55 = .ok (.iload_n 3, 1) := by decide +kernel
theorem dX5_sets_56 : decode cX5_sets 56 = .ok (.ishl, 1) := by decide +kernel
theorem dX5_sets_57 : decode cX5_sets 57 = .ok (.ior, 1) := by decide +kernel
theorem dX5_sets_58 : decode cX5_sets 58 = .ok (.istore_n 2, 1) := by decide +kernel
theorem dX5_sets_59 : decode cX5_sets 59 = .ok (.iinc 3 1, 3) := by decide +kernel
theorem dX5_sets_62 : decode cX5_sets 62 = .ok (.goto (-35), 3) := by decide +kernel
theorem dX5_sets_65 : decode cX5_sets 65 = .ok (.iload_n 2, 1) := by decide +kernel
theorem dX5_sets_66 : decode cX5_sets 66 = .ok (.ireturn, 1) := by decide +kernel
theorem dX5_look_0 : decode cX5_look 0 = .ok (.aload_n 0, 1) := by decide +kernel
theorem dX5_look_1 : decode cX5_look 1 = .ok (.getfield 24, 3) := by decide +kernel
theorem dX5_look_4 : decode cX5_look 4 = .ok (.iload_n 1, 1) := by decide +kernel
theorem dX5_look_5 : decode cX5_look 5 = .ok (.invokevirtual 124, 3) := by decide +kernel
theorem dX5_look_8 : decode cX5_look 8 = .ok (.ifCond .eq 12, 3) := by decide +kernel
theorem dX5_look_11 : decode cX5_look 11 = .ok (.iload_n 2, 1) := by decide +kernel
theorem dX5_look_12 : decode cX5_look 12 = .ok (.iconst 0, 1) := by decide +kernel
theorem dX5_look_13 : decode cX5_look 13 = .ok (.iconst 1, 1) := by decide +kernel
theorem dX5_look_14 : decode cX5_look 14 = .ok (.invokestatic 75, 3) := by decide +kernel
theorem dX5_look_17 : decode cX5_look 17 = .ok (.ifCond .ne 5, 3) := by decide +kernel
theorem dX5_look_20 : decode cX5_look 20 = .ok (.iconst (-1), 1) := by decide +kernel
theorem dX5_look_21 : decode cX5_look 21 = .ok (.ireturn, 1) := by decide +kernel
theorem dX5_look_22 : decode cX5_look 22 = .ok (.aload_n 0, 1) := by decide +kernel
theorem dX5_look_23 : decode cX5_look 23 = .ok (.iload_n 1, 1) := by decide +kernel
theorem dX5_look_24 : decode cX5_look 24 = .ok (.invokevirtual 249, 3) := by decide +kernel
theorem dX5_look_27 : decode cX5_look 27 = .ok (.istore_n 3, 1) := by decide +kernel
theorem dX5_look_28 : decode cX5_look 28 = .ok (.iload_n 3, 1) := by decide +kernel
theorem dX5_look_29 : decode cX5_look 29 = .ok (.invokestatic 256, 3) := by decide +kernel
theorem dX5_look_32 : decode cX5_look 32 = .ok (.istore 4, 2) := by decide +kernel
theorem dX5_look_34 : decode cX5_look 34 = .ok (.bipush (-4), 2) := by decide +kernel
theorem dX5_look_36 : decode cX5_look 36 = .ok (.istore 5, 2) := by decide +kernel
theorem dX5_look_38 : decode cX5_look 38 = .ok (.iconst 0, 1) := by decide +kernel
theorem dX5_look_39 : decode cX5_look 39 = .ok (.istore 6, 2) := by decide +kernel
theorem dX5_look_41 : decode cX5_look 41 = .ok (.iload 6, 2) := by decide +kernel
theorem dX5_look_43 : decode cX5_look 43 = .ok (.bipush 24, 2) := by decide +kernel
theorem dX5_look_45 : decode cX5_look 45 = .ok (.if_icmp .gt 34, 3) := by decide +kernel
theorem dX5_look_48 : decode cX5_look 48 = .ok (.aload_n 0, 1) := by decide +kernel
theorem dX5_look_49 : decode cX5_look 49 = .ok (.iload_n 1, 1) := by decide +kernel
theorem dX5_look_50 : decode cX5_look 50 = .ok (.iload_n 3, 1) := by decide +kernel
theorem dX5_look_51 : decode cX5_look 51 = .ok (.iload 6, 2) := by decide +kernel
theorem dX5_look_53 : decode cX5_look 53 = .ok (.invokevirtual 261, 3) := by decide +kernel
theorem dX5_look_56 : decode cX5_look 56 = .ok (.istore 7, 2) := by decide +kernel
theorem dX5_look_58 : decode cX5_look 58 = .ok (.iload 7, 2) := by decide +kernel
theorem dX5_look_60 : decode cX5_look 60 = .ok (.iload 4, 2) := by decide +kernel
theorem dX5_look_62 : decode cX5_look 62 = .ok (.if_icmp .ge 11, 3) := by decide +kernel
theorem dX5_look_65 : decode cX5_look 65 = .ok (.iload 7, 2) := by decide +kernel
theorem dX5_look_67 : decode cX5_look 67 = .ok (.istore 4, 2) := by decide +kernel
theorem dX5_look_69 : decode cX5_look 69 = .ok (.iload 6, 2) := by decide +kernel
theorem dX5_look_71 : decode cX5_look 71 = .ok (.istore 5, 2) := by decide +kernel
theorem dX5_look_73 : decode cX5_look 73 = .ok (.iinc 6 1, 3) := by decide +kernel
theorem dX5_look_76 : decode cX5_look 76 = .ok (.goto (-35), 3) := by decide +kernel
theorem dX5_look_79 : decode cX5_look 79 = .ok (.iload 5, 2) := by decide +kernel
theorem dX5_look_81 : decode cX5_look 81 = .ok (.bipush (-4), 2) := by decide +kernel
theorem dX5_look_83 : decode cX5_look 83 = .ok (.if_icmp .ne 6, 3) := by decide +kernel
theorem dX5_look_86 : decode cX5_look 86 = .ok (.bipush (-4), 2) := by decide +kernel
theorem dX5_look_88 : decode cX5_look 88 = .ok (.ireturn, 1) := by decide +kernel
theorem dX5_look_89 : decode cX5_look 89 = .ok (.iload_n 2, 1) := by decide +kernel
theorem dX5_look_90 : decode cX5_look 90 = .ok (.ifCond .ne 8, 3) := by decide +kernel
theorem dX5_look_93 : decode cX5_look 93 = .ok (.iload 5, 2) := by decide +kernel
theorem dX5_look_95 : decode cX5_look 95 = .ok (.goto 5, 3) := by decide +kernel
theorem dX5_look_98 : decode cX5_look 98 = .ok (.iload 4, 2) := by decide +kernel
theorem dX5_look_100 : decode cX5_look 100 = .ok (.ireturn, 1) := by decide +kernel
theorem dX5_drift_0 : decode cX5_drift 0 = .ok (.iload_n 2, 1) := by decide +kernel
theorem dX5_drift_1 : decode cX5_drift 1 = .ok (.iconst 1, 1) := by decide +kernel
theorem dX5_drift_2 : decode cX5_drift 2 = .ok (.bipush 60, 2) := by decide +kernel
theorem dX5_drift_4 : decode cX5_drift 4 = .ok (.invokestatic 75, 3) := by decide +kernel
theorem dX5_drift_7 : decode cX5_drift 7 = .ok (.ifCond .eq 12, 3) := by decide +kernel
theorem dX5_drift_10 : decode cX5_drift 10 = .ok (.iload_n 3, 1) := by decide +kernel
theorem dX5_drift_11 : decode cX5_drift 11 = .ok (.iconst 0, 1) := by decide +kernel
theorem dX5_drift_12 : decode cX5_drift 12 = .ok (.iconst 1, 1) := by decide +kernel
theorem dX5_drift_13 : decode cX5_drift 13 = .ok (.invokestatic 75, 3) := by decide +kernel
theorem dX5_drift_16 : decode cX5_drift 16 = .ok (.ifCond .ne 5, 3) := by decide +kernel
theorem dX5_drift_19 : decode cX5_drift 19 = .ok (.iconst (-1), 1) := by decide +kernel
theorem dX5_drift_20 : decode cX5_drift 20 = .ok (.ireturn, 1) := by decide +kernel
theorem dX5_drift_21 : decode cX5_drift 21 = .ok (.aload_n 0, 1) := by decide +kernel
theorem dX5_drift_22 : decode cX5_drift 22 = .ok (.getfield 24, 3) := by decide +kernel
theorem dX5_drift_25 : decode cX5_drift 25 = .ok (.getfield 109, 3) := by decide +kernel
theorem dX5_drift_28 : decode cX5_drift 28 = .ok (.istore 4, 2) := by decide +kernel
theorem dX5_drift_30 : decode cX5_drift 30 = .ok (.iload 4, 2) := by decide +kernel
theorem dX5_drift_32 : decode cX5_drift 32 = .ok (.iconst 1, 1) := by decide +kernel
theorem dX5_drift_33 : decode cX5_drift 33 = .ok (.if_icmp .ge 6, 3) := by decide +kernel
theorem dX5_drift_36 : decode cX5_drift 36 = .ok (.bipush (-2), 2) := by decide +kernel
theorem dX5_drift_38 : decode cX5_drift 38 = .ok (.ireturn, 1) := by decide +kernel
theorem dX5_drift_39 : decode cX5_drift 39 = .ok (.aload_n 0, 1) := by decide +kernel
theorem dX5_drift_40 : decode cX5_drift 40 = .ok (.getfield 28, 3) := by decide +kernel
theorem dX5_drift_43 : decode cX5_drift 43 = .ok (.aload_n 0, 1) := by decide +kernel
theorem dX5_drift_44 : decode cX5_drift 44 = .ok (.getfield 24, 3) := by decide +kernel
theorem dX5_drift_47 : decode cX5_drift 47 = .ok (.invokevirtual 102, 3) := by decide +kernel
theorem dX5_drift_50 : decode cX5_drift 50 = .ok (.aload_n 0, 1) := by decide +kernel
theorem dX5_drift_51 : decode cX5_drift 51 = .ok (.getfield 49, 3) := by decide +kernel
theorem dX5_drift_54 : decode cX5_drift 54 = .ok (.aload_n 0, 1) := by decide +kernel
theorem dX5_drift_55 : decode cX5_drift 55 = .ok (.getfield 28, 3) := by decide +kernel
theorem dX5_drift_58 : decode cX5_drift 58 = .ok (.invokevirtual 187, 3) := by decide +kernel
theorem dX5_drift_61 : decode cX5_drift 61 = .ok (.iload_n 1, 1) := by decide +kernel
theorem dX5_drift_62 : decode cX5_drift 62 = .ok (.istore 5, 2) := by decide +kernel
theorem dX5_drift_64 : decode cX5_drift 64 = .ok (.iconst 0, 1) := by decide +kernel
theorem dX5_drift_65 : decode cX5_drift 65 = .ok (.istore 6, 2) := by decide +kernel
theorem dX5_drift_67 : decode cX5_drift 67 = .ok (.iconst 0, 1) := by decide +kernel
theorem dX5_drift_68 : decode cX5_drift 68 = .ok (.istore 7, 2) := by decide +kernel
theorem dX5_drift_70 : decode cX5_drift 70 = .ok (.iload 7, 2) := by decide +kernel
theorem dX5_drift_72 : decode cX5_drift 72 = .ok (.iload_n 2, 1) := by decide +kernel
theorem dX5_drift_73 : decode cX5_drift 73 = .ok (.if_icmp .ge 98, 3) := by decide +kernel
theorem dX5_drift_76 : decode cX5_drift 76 = .ok (.iload 5, 2) := by decide +kernel
theorem dX5_drift_78 : decode cX5_drift 78 = .ok (.ldc_w 264, 3) := by decide +kernel
theorem dX5_drift_81 : decode cX5_drift 81 = .ok (.imul, 1) := by decide +kernel
theorem dX5_drift_82 : decode cX5_drift 82 = .ok (.sipush 12345, 3) := by decide +kernel
theorem dX5_drift_85 : decode cX5_drift 85 = .ok (.iadd, 1) := by decide +kernel
theorem dX5_drift_86 : decode cX5_drift 86 = .ok (.istore 5, 2) := by decide +kernel
theorem dX5_drift_88 : decode cX5_drift 88 = .ok (.iload 5, 2) := by decide +kernel
theorem dX5_drift_90 : decode cX5_drift 90 = .ok (.bipush 16, 2) := by decide +kernel
theorem dX5_drift_92 : decode cX5_drift 92 = .ok (.iushr, 1) := by decide +kernel
theorem dX5_drift_93 : decode cX5_drift 93 = .ok (.sipush 32767, 3) := by decide +kernel
theorem dX5_drift_96 : decode cX5_drift 96 = .ok (.iand, 1) := by decide +kernel
theorem dX5_drift_97 : decode cX5_drift 97 = .ok (.istore 8, 2) := by decide +kernel
theorem dX5_drift_99 : decode cX5_drift 99 = .ok (.iload 8, 2) := by decide +kernel
theorem dX5_drift_101 : decode cX5_drift 101 = .ok (.iload 4, 2) := by decide +kernel
theorem dX5_drift_103 : decode cX5_drift 103 = .ok (.irem, 1) := by decide +kernel
theorem dX5_drift_104 : decode cX5_drift 104 = .ok (.istore 9, 2) := by decide +kernel
theorem dX5_drift_106 : decode cX5_drift 106 = .ok (.aload_n 0, 1) := by decide +kernel
theorem dX5_drift_107 : decode cX5_drift 107 = .ok (.getfield 28, 3) := by decide +kernel
theorem dX5_drift_110 : decode cX5_drift 110 = .ok (.iload 9, 2) := by decide +kernel
theorem dX5_drift_112 : decode cX5_drift 112 = .ok (.iload 8, 2) := by decide +kernel
theorem dX5_drift_114 : decode cX5_drift 114 = .ok (.bipush 8, 2) := by decide +kernel
theorem dX5_drift_116 : decode cX5_drift 116 = .ok (.idiv, 1) := by decide +kernel
theorem dX5_drift_117 : decode cX5_drift 117 = .ok (.bipush 10, 2) := by decide +kernel
theorem dX5_drift_119 : decode cX5_drift 119 = .ok (.irem, 1) := by decide +kernel
theorem dX5_drift_120 : decode cX5_drift 120 = .ok (.iconst 1, 1) := by decide +kernel
theorem dX5_drift_121 : decode cX5_drift 121 = .ok (.iload 8, 2) := by decide +kernel
theorem dX5_drift_123 : decode cX5_drift 123 = .ok (.sipush 128, 3) := by decide +kernel
theorem dX5_drift_126 : decode cX5_drift 126 = .ok (.idiv, 1) := by decide +kernel
theorem dX5_drift_127 : decode cX5_drift 127 = .ok (.bipush 9, 2) := by decide +kernel
theorem dX5_drift_129 : decode cX5_drift 129 = .ok (.irem, 1) := by decide +kernel
theorem dX5_drift_130 : decode cX5_drift 130 = .ok (.iadd, 1) := by decide +kernel
theorem dX5_drift_131 : decode cX5_drift 131 = .ok (.invokevirtual 214, 3) := by decide +kernel
theorem dX5_drift_134 : decode cX5_drift 134 = .ok (.aload_n 0, 1) := by decide +kernel
theorem dX5_drift_135 : decode cX5_drift 135 = .ok (.getfield 49, 3) := by decide +kernel
theorem dX5_drift_138 : decode cX5_drift 138 = .ok (.aload_n 0, 1) := by decide +kernel
theorem dX5_drift_139 : decode cX5_drift 139 = .ok (.getfield 28, 3) := by decide +kernel
theorem dX5_drift_142 : decode cX5_drift 142 = .ok (.iload 9, 2) := by decide +kernel
theorem dX5_drift_144 : decode cX5_drift 144 = .ok (.bipush 24, 2) := by decide +kernel
theorem dX5_drift_146 : decode cX5_drift 146 = .ok (.invokevirtual 164, 3) := by decide +kernel
theorem dX5_drift_149 : decode cX5_drift 149 = .ok (.iload 6, 2) := by decide +kernel
theorem dX5_drift_151 : decode cX5_drift 151 = .ok (.aload_n 0, 1) := by decide +kernel
theorem dX5_drift_152 : decode cX5_drift 152 = .ok (.getfield 49, 3) := by decide +kernel
theorem dX5_drift_155 : decode cX5_drift 155 = .ok (.aload_n 0, 1) := by decide +kernel
theorem dX5_drift_156 : decode cX5_drift 156 = .ok (.getfield 28, 3) := by decide +kernel
theorem dX5_drift_159 : decode cX5_drift 159 = .ok (.invokevirtual 197, 3) := by decide +kernel
theorem dX5_drift_162 : decode cX5_drift 162 = .ok (.iadd, 1) := by decide +kernel
theorem dX5_drift_163 : decode cX5_drift 163 = .ok (.istore 6, 2) := by decide +kernel
theorem dX5_drift_165 : decode cX5_drift 165 = .ok (.iinc 7 1, 3) := by decide +kernel
theorem dX5_drift_168 : decode cX5_drift 168 = .ok (.goto (-98), 3) := by decide +kernel
theorem dX5_drift_171 : decode cX5_drift 171 = .ok (.iload_n 3, 1) := by decide +kernel
theorem dX5_drift_172 : decode cX5_drift 172 = .ok (.ifCond .ne 8, 3) := by decide +kernel
theorem dX5_drift_175 : decode cX5_drift 175 = .ok (.iload 6, 2) := by decide +kernel
theorem dX5_drift_177 : decode cX5_drift 177 = .ok (.goto 15, 3) := by decide +kernel
theorem dX5_drift_180 : decode cX5_drift 180 = .ok (.aload_n 0, 1) := by decide +kernel
theorem dX5_drift_181 : decode cX5_drift 181 = .ok (.getfield 49, 3) := by decide +kernel
theorem dX5_drift_184 : decode cX5_drift 184 = .ok (.aload_n 0, 1) := by decide +kernel
theorem dX5_drift_185 : decode cX5_drift 185 = .ok (.getfield 28, 3) := by decide +kernel
theorem dX5_drift_188 : decode cX5_drift 188 = .ok (.iconst 1, 1) := by decide +kernel
theorem dX5_drift_189 : decode cX5_drift 189 = .ok (.invokevirtual 201, 3) := by decide +kernel
theorem dX5_drift_192 : decode cX5_drift 192 = .ok (.ireturn, 1) := by decide +kernel
theorem dX5_keep_0 : decode cX5_keep 0 = .ok (.iload_n 1, 1) := by decide +kernel
theorem dX5_keep_1 : decode cX5_keep 1 = .ok (.iconst 0, 1) := by decide +kernel
theorem dX5_keep_2 : decode cX5_keep 2 = .ok (.iconst 1, 1) := by decide +kernel
theorem dX5_keep_3 : decode cX5_keep 3 = .ok (.invokestatic 75, 3) := by decide +kernel
theorem dX5_keep_6 : decode cX5_keep 6 = .ok (.ifCond .ne 5, 3) := by decide +kernel
theorem dX5_keep_9 : decode cX5_keep 9 = .ok (.iconst (-1), 1) := by decide +kernel
theorem dX5_keep_10 : decode cX5_keep 10 = .ok (.ireturn, 1) := by decide +kernel
theorem dX5_keep_11 : decode cX5_keep 11 = .ok (.aload_n 0, 1) := by decide +kernel
theorem dX5_keep_12 : decode cX5_keep 12 = .ok (.getfield 35, 3) := by decide +kernel
theorem dX5_keep_15 : decode cX5_keep 15 = .ok (.iload_n 1, 1) := by decide +kernel
theorem dX5_keep_16 : decode cX5_keep 16 = .ok (.baload, 1) := by decide +kernel
theorem dX5_keep_17 : decode cX5_keep 17 = .ok (.ifCond .eq 7, 3) := by decide +kernel
theorem dX5_keep_20 : decode cX5_keep 20 = .ok (.iconst 1, 1) := by decide +kernel
theorem dX5_keep_21 : decode cX5_keep 21 = .ok (.goto 4, 3) := by decide +kernel
theorem dX5_keep_24 : decode cX5_keep 24 = .ok (.iconst 0, 1) := by decide +kernel
theorem dX5_keep_25 : decode cX5_keep 25 = .ok (.istore_n 2, 1) := by decide +kernel
theorem dX5_keep_26 : decode cX5_keep 26 = .ok (.aload_n 0, 1) := by decide +kernel
theorem dX5_keep_27 : decode cX5_keep 27 = .ok (.getfield 31, 3) := by decide +kernel
theorem dX5_keep_30 : decode cX5_keep 30 = .ok (.iload_n 1, 1) := by decide +kernel
theorem dX5_keep_31 : decode cX5_keep 31 = .ok (.aaload, 1) := by decide +kernel
theorem dX5_keep_32 : decode cX5_keep 32 = .ok (.aload_n 0, 1) := by decide +kernel
theorem dX5_keep_33 : decode cX5_keep 33 = .ok (.getfield 24, 3) := by decide +kernel
theorem dX5_keep_36 : decode cX5_keep 36 = .ok (.invokevirtual 102, 3) := by decide +kernel
theorem dX5_keep_39 : decode cX5_keep 39 = .ok (.aload_n 0, 1) := by decide +kernel
theorem dX5_keep_40 : decode cX5_keep 40 = .ok (.getfield 35, 3) := by decide +kernel
theorem dX5_keep_43 : decode cX5_keep 43 = .ok (.iload_n 1, 1) := by decide +kernel
theorem dX5_keep_44 : decode cX5_keep 44 = .ok (.iconst 1, 1) := by decide +kernel
theorem dX5_keep_45 : decode cX5_keep 45 = .ok (.bastore, 1) := by decide +kernel
theorem dX5_keep_46 : decode cX5_keep 46 = .ok (.iload_n 2, 1) := by decide +kernel
theorem dX5_keep_47 : decode cX5_keep 47 = .ok (.ireturn, 1) := by decide +kernel
theorem dX5_back_0 : decode cX5_back 0 = .ok (.iload_n 1, 1) := by decide +kernel
theorem dX5_back_1 : decode cX5_back 1 = .ok (.iconst 0, 1) := by decide +kernel
theorem dX5_back_2 : decode cX5_back 2 = .ok (.iconst 1, 1) := by decide +kernel
theorem dX5_back_3 : decode cX5_back 3 = .ok (.invokestatic 75, 3) := by decide +kernel
theorem dX5_back_6 : decode cX5_back 6 = .ok (.ifCond .ne 5, 3) := by decide +kernel
theorem dX5_back_9 : decode cX5_back 9 = .ok (.iconst (-1), 1) := by decide +kernel
theorem dX5_back_10 : decode cX5_back 10 = .ok (.ireturn, 1) := by decide +kernel
theorem dX5_back_11 : decode cX5_back 11 = .ok (.aload_n 0, 1) := by decide +kernel
theorem dX5_back_12 : decode cX5_back 12 = .ok (.getfield 35, 3) := by decide +kernel
theorem dX5_back_15 : decode cX5_back 15 = .ok (.iload_n 1, 1) := by decide +kernel
theorem dX5_back_16 : decode cX5_back 16 = .ok (.baload, 1) := by decide +kernel
theorem dX5_back_17 : decode cX5_back 17 = .ok (.ifCond .ne 6, 3) := by decide +kernel
theorem dX5_back_20 : decode cX5_back 20 = .ok (.bipush (-2), 2) := by decide +kernel
theorem dX5_back_22 : decode cX5_back 22 = .ok (.ireturn, 1) := by decide +kernel
theorem dX5_back_23 : decode cX5_back 23 = .ok (.aload_n 0, 1) := by decide +kernel
theorem dX5_back_24 : decode cX5_back 24 = .ok (.getfield 24, 3) := by decide +kernel
theorem dX5_back_27 : decode cX5_back 27 = .ok (.aload_n 0, 1) := by decide +kernel
theorem dX5_back_28 : decode cX5_back 28 = .ok (.getfield 31, 3) := by decide +kernel
theorem dX5_back_31 : decode cX5_back 31 = .ok (.iload_n 1, 1) := by decide +kernel
theorem dX5_back_32 : decode cX5_back 32 = .ok (.aaload, 1) := by decide +kernel
theorem dX5_back_33 : decode cX5_back 33 = .ok (.invokevirtual 102, 3) := by decide +kernel
theorem dX5_back_36 : decode cX5_back 36 = .ok (.aload_n 0, 1) := by decide +kernel
theorem dX5_back_37 : decode cX5_back 37 = .ok (.getfield 24, 3) := by decide +kernel
theorem dX5_back_40 : decode cX5_back 40 = .ok (.invokevirtual 118, 3) := by decide +kernel
theorem dX5_back_43 : decode cX5_back 43 = .ok (.ireturn, 1) := by decide +kernel
theorem dX5_sheet_0 : decode cX5_sheet 0 = .ok (.iload_n 1, 1) := by decide +kernel
theorem dX5_sheet_1 : decode cX5_sheet 1 = .ok (.iconst 0, 1) := by decide +kernel
theorem dX5_sheet_2 : decode cX5_sheet 2 = .ok (.iconst 3, 1) := by decide +kernel
theorem dX5_sheet_3 : decode cX5_sheet 3 = .ok (.invokestatic 75, 3) := by decide +kernel
theorem dX5_sheet_6 : decode cX5_sheet 6 = .ok (.ifCond .eq 18, 3) := by decide +kernel
theorem dX5_sheet_9 : decode cX5_sheet 9 = .ok (.iload_n 2, 1) := by decide +kernel
theorem dX5_sheet_10 : decode cX5_sheet 10 = .ok (.iconst 0, 1) := by decide +kernel
theorem dX5_sheet_11 : decode cX5_sheet 11 = .ok (.iconst 2, 1) := by decide +kernel
theorem dX5_sheet_12 : decode cX5_sheet 12 = .ok (.invokestatic 75, 3) := by decide +kernel
theorem dX5_sheet_15 : decode cX5_sheet 15 = .ok (.ifCond .eq 9, 3) := by decide +kernel
theorem dX5_sheet_18 : decode cX5_sheet 18 = .ok (.iload_n 3, 1) := by decide +kernel
theorem dX5_sheet_19 : decode cX5_sheet 19 = .ok (.bipush 40, 2) := by decide +kernel
theorem dX5_sheet_21 : decode cX5_sheet 21 = .ok (.if_icmp .le 5, 3) := by decide +kernel
theorem dX5_sheet_24 : decode cX5_sheet 24 = .ok (.iconst (-1), 1) := by decide +kernel
theorem dX5_sheet_25 : decode cX5_sheet 25 = .ok (.ireturn, 1) := by decide +kernel
theorem dX5_sheet_26 : decode cX5_sheet 26 = .ok (.iload_n 3, 1) := by decide +kernel
theorem dX5_sheet_27 : decode cX5_sheet 27 = .ok (.ifCond .ge 6, 3) := by decide +kernel
theorem dX5_sheet_30 : decode cX5_sheet 30 = .ok (.bipush (-14), 2) := by decide +kernel
theorem dX5_sheet_32 : decode cX5_sheet 32 = .ok (.ireturn, 1) := by decide +kernel
theorem dX5_sheet_33 : decode cX5_sheet 33 = .ok (.aload_n 0, 1) := by decide +kernel
theorem dX5_sheet_34 : decode cX5_sheet 34 = .ok (.getfield 42, 3) := by decide +kernel
theorem dX5_sheet_37 : decode cX5_sheet 37 = .ok (.iload_n 1, 1) := by decide +kernel
theorem dX5_sheet_38 : decode cX5_sheet 38 = .ok (.aaload, 1) := by decide +kernel
theorem dX5_sheet_39 : decode cX5_sheet 39 = .ok (.iload_n 2, 1) := by decide +kernel
theorem dX5_sheet_40 : decode cX5_sheet 40 = .ok (.iload_n 3, 1) := by decide +kernel
theorem dX5_sheet_41 : decode cX5_sheet 41 = .ok (.invokevirtual 265, 3) := by decide +kernel
theorem dX5_sheet_44 : decode cX5_sheet 44 = .ok (.iconst 1, 1) := by decide +kernel
theorem dX5_sheet_45 : decode cX5_sheet 45 = .ok (.ireturn, 1) := by decide +kernel
theorem dX5_lay_0 : decode cX5_lay 0 = .ok (.iload_n 1, 1) := by decide +kernel
theorem dX5_lay_1 : decode cX5_lay 1 = .ok (.iconst 0, 1) := by decide +kernel
theorem dX5_lay_2 : decode cX5_lay 2 = .ok (.iconst 3, 1) := by decide +kernel
theorem dX5_lay_3 : decode cX5_lay 3 = .ok (.invokestatic 75, 3) := by decide +kernel
theorem dX5_lay_6 : decode cX5_lay 6 = .ok (.ifCond .ne 5, 3) := by decide +kernel
theorem dX5_lay_9 : decode cX5_lay 9 = .ok (.iconst (-1), 1) := by decide +kernel
theorem dX5_lay_10 : decode cX5_lay 10 = .ok (.ireturn, 1) := by decide +kernel
theorem dX5_lay_11 : decode cX5_lay 11 = .ok (.aload_n 0, 1) := by decide +kernel
theorem dX5_lay_12 : decode cX5_lay 12 = .ok (.getfield 42, 3) := by decide +kernel
theorem dX5_lay_15 : decode cX5_lay 15 = .ok (.iload_n 1, 1) := by decide +kernel
theorem dX5_lay_16 : decode cX5_lay 16 = .ok (.aaload, 1) := by decide +kernel
theorem dX5_lay_17 : decode cX5_lay 17 = .ok (.astore 4, 2) := by decide +kernel
theorem dX5_lay_19 : decode cX5_lay 19 = .ok (.aload 4, 2) := by decide +kernel
theorem dX5_lay_21 : decode cX5_lay 21 = .ok (.aload 4, 2) := by decide +kernel
theorem dX5_lay_23 : decode cX5_lay 23 = .ok (.getfield 268, 3) := by decide +kernel
theorem dX5_lay_26 : decode cX5_lay 26 = .ok (.iload_n 2, 1) := by decide +kernel
theorem dX5_lay_27 : decode cX5_lay 27 = .ok (.iconst 1, 1) := by decide +kernel
theorem dX5_lay_28 : decode cX5_lay 28 = .ok (.invokevirtual 271, 3) := by decide +kernel
theorem dX5_lay_31 : decode cX5_lay 31 = .ok (.istore 5, 2) := by decide +kernel
theorem dX5_lay_33 : decode cX5_lay 33 = .ok (.iload 5, 2) := by decide +kernel
theorem dX5_lay_35 : decode cX5_lay 35 = .ok (.ifCond .eq 9, 3) := by decide +kernel
theorem dX5_lay_38 : decode cX5_lay 38 = .ok (.bipush (-10), 2) := by decide +kernel
theorem dX5_lay_40 : decode cX5_lay 40 = .ok (.iload 5, 2) := by decide +kernel
theorem dX5_lay_42 : decode cX5_lay 42 = .ok (.isub, 1) := by decide +kernel
theorem dX5_lay_43 : decode cX5_lay 43 = .ok (.ireturn, 1) := by decide +kernel
theorem dX5_lay_44 : decode cX5_lay 44 = .ok (.aload 4, 2) := by decide +kernel
theorem dX5_lay_46 : decode cX5_lay 46 = .ok (.iload_n 2, 1) := by decide +kernel
theorem dX5_lay_47 : decode cX5_lay 47 = .ok (.iload_n 3, 1) := by decide +kernel
theorem dX5_lay_48 : decode cX5_lay 48 = .ok (.invokevirtual 274, 3) := by decide +kernel
theorem dX5_lay_51 : decode cX5_lay 51 = .ok (.iconst 1, 1) := by decide +kernel
theorem dX5_lay_52 : decode cX5_lay 52 = .ok (.ireturn, 1) := by decide +kernel
theorem dX5_read_0 : decode cX5_read 0 = .ok (.iload_n 1, 1) := by decide +kernel
theorem dX5_read_1 : decode cX5_read 1 = .ok (.iconst 0, 1) := by decide +kernel
theorem dX5_read_2 : decode cX5_read 2 = .ok (.iconst 3, 1) := by decide +kernel
theorem dX5_read_3 : decode cX5_read 3 = .ok (.invokestatic 75, 3) := by decide +kernel
theorem dX5_read_6 : decode cX5_read 6 = .ok (.ifCond .eq 23, 3) := by decide +kernel
theorem dX5_read_9 : decode cX5_read 9 = .ok (.iload_n 2, 1) := by decide +kernel
theorem dX5_read_10 : decode cX5_read 10 = .ok (.iconst 0, 1) := by decide +kernel
theorem dX5_read_11 : decode cX5_read 11 = .ok (.iconst 2, 1) := by decide +kernel
theorem dX5_read_12 : decode cX5_read 12 = .ok (.invokestatic 75, 3) := by decide +kernel
theorem dX5_read_15 : decode cX5_read 15 = .ok (.ifCond .eq 14, 3) := by decide +kernel
theorem dX5_read_18 : decode cX5_read 18 = .ok (.iload 4, 2) := by decide +kernel
theorem dX5_read_20 : decode cX5_read 20 = .ok (.iconst 0, 1) := by decide +kernel
theorem dX5_read_21 : decode cX5_read 21 = .ok (.bipush 13, 2) := by decide +kernel
theorem dX5_read_23 : decode cX5_read 23 = .ok (.invokestatic 75, 3) := by decide +kernel
theorem dX5_read_26 : decode cX5_read 26 = .ok (.ifCond .ne 5, 3) := by decide +kernel
theorem dX5_read_29 : decode cX5_read 29 = .ok (.iconst (-1), 1) := by decide +kernel
theorem dX5_read_30 : decode cX5_read 30 = .ok (.ireturn, 1) := by decide +kernel
theorem dX5_read_31 : decode cX5_read 31 = .ok (.aload_n 0, 1) := by decide +kernel
theorem dX5_read_32 : decode cX5_read 32 = .ok (.getfield 42, 3) := by decide +kernel
theorem dX5_read_35 : decode cX5_read 35 = .ok (.iload_n 1, 1) := by decide +kernel
theorem dX5_read_36 : decode cX5_read 36 = .ok (.aaload, 1) := by decide +kernel
theorem dX5_read_37 : decode cX5_read 37 = .ok (.astore 5, 2) := by decide +kernel
theorem dX5_read_39 : decode cX5_read 39 = .ok (.aload_n 0, 1) := by decide +kernel
theorem dX5_read_40 : decode cX5_read 40 = .ok (.getfield 24, 3) := by decide +kernel
theorem dX5_read_43 : decode cX5_read 43 = .ok (.getfield 109, 3) := by decide +kernel
theorem dX5_read_46 : decode cX5_read 46 = .ok (.istore 6, 2) := by decide +kernel
theorem dX5_read_48 : decode cX5_read 48 = .ok (.iconst 0, 1) := by decide +kernel
theorem dX5_read_49 : decode cX5_read 49 = .ok (.istore 7, 2) := by decide +kernel
theorem dX5_read_51 : decode cX5_read 51 = .ok (.iconst 0, 1) := by decide +kernel
theorem dX5_read_52 : decode cX5_read 52 = .ok (.istore 8, 2) := by decide +kernel
theorem dX5_read_54 : decode cX5_read 54 = .ok (.iload 7, 2) := by decide +kernel
theorem dX5_read_56 : decode cX5_read 56 = .ok (.iload 4, 2) := by decide +kernel
theorem dX5_read_58 : decode cX5_read 58 = .ok (.if_icmp .ge 86, 3) := by decide +kernel
theorem dX5_read_61 : decode cX5_read 61 = .ok (.iload_n 3, 1) := by decide +kernel
theorem dX5_read_62 : decode cX5_read 62 = .ok (.iconst 3, 1) := by decide +kernel
theorem dX5_read_63 : decode cX5_read 63 = .ok (.iload 7, 2) := by decide +kernel
theorem dX5_read_65 : decode cX5_read 65 = .ok (.imul, 1) := by decide +kernel
theorem dX5_read_66 : decode cX5_read 66 = .ok (.iadd, 1) := by decide +kernel
theorem dX5_read_67 : decode cX5_read 67 = .ok (.istore 9, 2) := by decide +kernel
theorem dX5_read_69 : decode cX5_read 69 = .ok (.aload 5, 2) := by decide +kernel
theorem dX5_read_71 : decode cX5_read 71 = .ok (.iload_n 2, 1) := by decide +kernel
theorem dX5_read_72 : decode cX5_read 72 = .ok (.iload 9, 2) := by decide +kernel
theorem dX5_read_74 : decode cX5_read 74 = .ok (.iconst 3, 1) := by decide +kernel
theorem dX5_read_75 : decode cX5_read 75 = .ok (.invokevirtual 271, 3) := by decide +kernel
theorem dX5_read_78 : decode cX5_read 78 = .ok (.istore 8, 2) := by decide +kernel
theorem dX5_read_80 : decode cX5_read 80 = .ok (.iload 8, 2) := by decide +kernel
theorem dX5_read_82 : decode cX5_read 82 = .ok (.ifCond .eq 6, 3) := by decide +kernel
theorem dX5_read_85 : decode cX5_read 85 = .ok (.goto 59, 3) := by decide +kernel
theorem dX5_read_88 : decode cX5_read 88 = .ok (.aload_n 0, 1) := by decide +kernel
theorem dX5_read_89 : decode cX5_read 89 = .ok (.aload 5, 2) := by decide +kernel
theorem dX5_read_91 : decode cX5_read 91 = .ok (.getfield 277, 3) := by decide +kernel
theorem dX5_read_94 : decode cX5_read 94 = .ok (.iload 9, 2) := by decide +kernel
theorem dX5_read_96 : decode cX5_read 96 = .ok (.iaload, 1) := by decide +kernel
theorem dX5_read_97 : decode cX5_read 97 = .ok (.aload 5, 2) := by decide +kernel
theorem dX5_read_99 : decode cX5_read 99 = .ok (.getfield 277, 3) := by decide +kernel
theorem dX5_read_102 : decode cX5_read 102 = .ok (.iload 9, 2) := by decide +kernel
theorem dX5_read_104 : decode cX5_read 104 = .ok (.iconst 1, 1) := by decide +kernel
theorem dX5_read_105 : decode cX5_read 105 = .ok (.iadd, 1) := by decide +kernel
theorem dX5_read_106 : decode cX5_read 106 = .ok (.iaload, 1) := by decide +kernel
theorem dX5_read_107 : decode cX5_read 107 = .ok (.aload 5, 2) := by decide +kernel
theorem dX5_read_109 : decode cX5_read 109 = .ok (.getfield 277, 3) := by decide +kernel
theorem dX5_read_112 : decode cX5_read 112 = .ok (.iload 9, 2) := by decide +kernel
theorem dX5_read_114 : decode cX5_read 114 = .ok (.iconst 2, 1) := by decide +kernel
theorem dX5_read_115 : decode cX5_read 115 = .ok (.iadd, 1) := by decide +kernel
theorem dX5_read_116 : decode cX5_read 116 = .ok (.iaload, 1) := by decide +kernel
theorem dX5_read_117 : decode cX5_read 117 = .ok (.invokevirtual 160, 3) := by decide +kernel
theorem dX5_read_120 : decode cX5_read 120 = .ok (.ifCond .ge 18, 3) := by decide +kernel
theorem dX5_read_123 : decode cX5_read 123 = .ok (.aload_n 0, 1) := by decide +kernel
theorem dX5_read_124 : decode cX5_read 124 = .ok (.getfield 24, 3) := by decide +kernel
theorem dX5_read_127 : decode cX5_read 127 = .ok (.iload 6, 2) := by decide +kernel
theorem dX5_read_129 : decode cX5_read 129 = .ok (.putfield 109, 3) := by decide +kernel
theorem dX5_read_132 : decode cX5_read 132 = .ok (.bipush (-20), 2) := by decide +kernel
theorem dX5_read_134 : decode cX5_read 134 = .ok (.iload 7, 2) := by decide +kernel
theorem dX5_read_136 : decode cX5_read 136 = .ok (.isub, 1) := by decide +kernel
theorem dX5_read_137 : decode cX5_read 137 = .ok (.ireturn, 1) := by decide +kernel
theorem dX5_read_138 : decode cX5_read 138 = .ok (.iinc 7 1, 3) := by decide +kernel
theorem dX5_read_141 : decode cX5_read 141 = .ok (.goto (-87), 3) := by decide +kernel
theorem dX5_read_144 : decode cX5_read 144 = .ok (.aload_n 0, 1) := by decide +kernel
theorem dX5_read_145 : decode cX5_read 145 = .ok (.iload 8, 2) := by decide +kernel
theorem dX5_read_147 : decode cX5_read 147 = .ok (.putfield 280, 3) := by decide +kernel
theorem dX5_read_150 : decode cX5_read 150 = .ok (.iload 7, 2) := by decide +kernel
theorem dX5_read_152 : decode cX5_read 152 = .ok (.ireturn, 1) := by decide +kernel
theorem dX5_torn_0 : decode cX5_torn 0 = .ok (.aload_n 0, 1) := by decide +kernel
theorem dX5_torn_1 : decode cX5_torn 1 = .ok (.getfield 280, 3) := by decide +kernel
theorem dX5_torn_4 : decode cX5_torn 4 = .ok (.ireturn, 1) := by decide +kernel
theorem dX5_count_0 : decode cX5_count 0 = .ok (.iload_n 1, 1) := by decide +kernel
theorem dX5_count_1 : decode cX5_count 1 = .ok (.tableswitch 127 0 5 #[39, 44, 74, 82, 111, 119], 39) := by decide +kernel
theorem dX5_count_40 : decode cX5_count 40 = .ok (.aload_n 0, 1) := by decide +kernel
theorem dX5_count_41 : decode cX5_count 41 = .ok (.getfield 106, 3) := by decide +kernel
theorem dX5_count_44 : decode cX5_count 44 = .ok (.ireturn, 1) := by decide +kernel
theorem dX5_count_45 : decode cX5_count 45 = .ok (.aload_n 0, 1) := by decide +kernel
theorem dX5_count_46 : decode cX5_count 46 = .ok (.getfield 35, 3) := by decide +kernel
theorem dX5_count_49 : decode cX5_count 49 = .ok (.iconst 0, 1) := by decide +kernel
theorem dX5_count_50 : decode cX5_count 50 = .ok (.baload, 1) := by decide +kernel
theorem dX5_count_51 : decode cX5_count 51 = .ok (.ifCond .eq 7, 3) := by decide +kernel
theorem dX5_count_54 : decode cX5_count 54 = .ok (.iconst 1, 1) := by decide +kernel
theorem dX5_count_55 : decode cX5_count 55 = .ok (.goto 4, 3) := by decide +kernel
theorem dX5_count_58 : decode cX5_count 58 = .ok (.iconst 0, 1) := by decide +kernel
theorem dX5_count_59 : decode cX5_count 59 = .ok (.aload_n 0, 1) := by decide +kernel
theorem dX5_count_60 : decode cX5_count 60 = .ok (.getfield 35, 3) := by decide +kernel
theorem dX5_count_63 : decode cX5_count 63 = .ok (.iconst 1, 1) := by decide +kernel
theorem dX5_count_64 : decode cX5_count 64 = .ok (.baload, 1) := by decide +kernel
theorem dX5_count_65 : decode cX5_count 65 = .ok (.ifCond .eq 7, 3) := by decide +kernel
theorem dX5_count_68 : decode cX5_count 68 = .ok (.iconst 1, 1) := by decide +kernel
theorem dX5_count_69 : decode cX5_count 69 = .ok (.goto 4, 3) := by decide +kernel
theorem dX5_count_72 : decode cX5_count 72 = .ok (.iconst 0, 1) := by decide +kernel
theorem dX5_count_73 : decode cX5_count 73 = .ok (.iadd, 1) := by decide +kernel
theorem dX5_count_74 : decode cX5_count 74 = .ok (.ireturn, 1) := by decide +kernel
theorem dX5_count_75 : decode cX5_count 75 = .ok (.aload_n 0, 1) := by decide +kernel
theorem dX5_count_76 : decode cX5_count 76 = .ok (.getfield 20, 3) := by decide +kernel
theorem dX5_count_79 : decode cX5_count 79 = .ok (.getfield 85, 3) := by decide +kernel
theorem dX5_count_82 : decode cX5_count 82 = .ok (.ireturn, 1) := by decide +kernel
theorem dX5_count_83 : decode cX5_count 83 = .ok (.aload_n 0, 1) := by decide +kernel
theorem dX5_count_84 : decode cX5_count 84 = .ok (.getfield 42, 3) := by decide +kernel
theorem dX5_count_87 : decode cX5_count 87 = .ok (.iconst 0, 1) := by decide +kernel
theorem dX5_count_88 : decode cX5_count 88 = .ok (.aaload, 1) := by decide +kernel
theorem dX5_count_89 : decode cX5_count 89 = .ok (.getfield 268, 3) := by decide +kernel
theorem dX5_count_92 : decode cX5_count 92 = .ok (.bipush (-4), 2) := by decide +kernel
theorem dX5_count_94 : decode cX5_count 94 = .ok (.if_icmp .ne 8, 3) := by decide +kernel
theorem dX5_count_97 : decode cX5_count 97 = .ok (.bipush (-4), 2) := by decide +kernel
theorem dX5_count_99 : decode cX5_count 99 = .ok (.goto 12, 3) := by decide +kernel
theorem dX5_count_102 : decode cX5_count 102 = .ok (.aload_n 0, 1) := by decide +kernel
theorem dX5_count_103 : decode cX5_count 103 = .ok (.getfield 42, 3) := by decide +kernel
theorem dX5_count_106 : decode cX5_count 106 = .ok (.iconst 0, 1) := by decide +kernel
theorem dX5_count_107 : decode cX5_count 107 = .ok (.aaload, 1) := by decide +kernel
theorem dX5_count_108 : decode cX5_count 108 = .ok (.getfield 283, 3) := by decide +kernel
theorem dX5_count_111 : decode cX5_count 111 = .ok (.ireturn, 1) := by decide +kernel
theorem dX5_count_112 : decode cX5_count 112 = .ok (.aload_n 0, 1) := by decide +kernel
theorem dX5_count_113 : decode cX5_count 113 = .ok (.getfield 24, 3) := by decide +kernel
theorem dX5_count_116 : decode cX5_count 116 = .ok (.invokevirtual 286, 3) := by decide +kernel
theorem dX5_count_119 : decode cX5_count 119 = .ok (.ireturn, 1) := by decide +kernel
theorem dX5_count_120 : decode cX5_count 120 = .ok (.aload_n 0, 1) := by decide +kernel
theorem dX5_count_121 : decode cX5_count 121 = .ok (.getfield 24, 3) := by decide +kernel
theorem dX5_count_124 : decode cX5_count 124 = .ok (.invokevirtual 289, 3) := by decide +kernel
theorem dX5_count_127 : decode cX5_count 127 = .ok (.ireturn, 1) := by decide +kernel
theorem dX5_count_128 : decode cX5_count 128 = .ok (.iconst (-1), 1) := by decide +kernel
theorem dX5_count_129 : decode cX5_count 129 = .ok (.ireturn, 1) := by decide +kernel
theorem dX5_within_0 : decode cX5_within 0 = .ok (.iload_n 0, 1) := by decide +kernel
theorem dX5_within_1 : decode cX5_within 1 = .ok (.iload_n 1, 1) := by decide +kernel
theorem dX5_within_2 : decode cX5_within 2 = .ok (.if_icmp .lt 12, 3) := by decide +kernel
theorem dX5_within_5 : decode cX5_within 5 = .ok (.iload_n 0, 1) := by decide +kernel
theorem dX5_within_6 : decode cX5_within 6 = .ok (.iload_n 2, 1) := by decide +kernel
theorem dX5_within_7 : decode cX5_within 7 = .ok (.if_icmp .gt 7, 3) := by decide +kernel
theorem dX5_within_10 : decode cX5_within 10 = .ok (.iconst 1, 1) := by decide +kernel
theorem dX5_within_11 : decode cX5_within 11 = .ok (.goto 4, 3) := by decide +kernel
theorem dX5_within_14 : decode cX5_within 14 = .ok (.iconst 0, 1) := by decide +kernel
theorem dX5_within_15 : decode cX5_within 15 = .ok (.ireturn, 1) := by decide +kernel
theorem dX5_fitsTub_0 : decode cX5_fitsTub 0 = .ok (.iload_n 0, 1) := by decide +kernel
theorem dX5_fitsTub_1 : decode cX5_fitsTub 1 = .ok (.iconst 0, 1) := by decide +kernel
theorem dX5_fitsTub_2 : decode cX5_fitsTub 2 = .ok (.iconst 4, 1) := by decide +kernel
theorem dX5_fitsTub_3 : decode cX5_fitsTub 3 = .ok (.invokestatic 75, 3) := by decide +kernel
theorem dX5_fitsTub_6 : decode cX5_fitsTub 6 = .ok (.ifCond .eq 24, 3) := by decide +kernel
theorem dX5_fitsTub_9 : decode cX5_fitsTub 9 = .ok (.iload_n 1, 1) := by decide +kernel
theorem dX5_fitsTub_10 : decode cX5_fitsTub 10 = .ok (.getstatic 208, 3) := by decide +kernel
theorem dX5_fitsTub_13 : decode cX5_fitsTub 13 = .ok (.iload_n 0, 1) := by decide +kernel
theorem dX5_fitsTub_14 : decode cX5_fitsTub 14 = .ok (.iaload, 1) := by decide +kernel
theorem dX5_fitsTub_15 : decode cX5_fitsTub 15 = .ok (.getstatic 211, 3) := by decide +kernel
theorem dX5_fitsTub_18 : decode cX5_fitsTub 18 = .ok (.iload_n 0, 1) := by decide +kernel
theorem dX5_fitsTub_19 : decode cX5_fitsTub 19 = .ok (.iaload, 1) := by decide +kernel
theorem dX5_fitsTub_20 : decode cX5_fitsTub 20 = .ok (.invokestatic 75, 3) := by decide +kernel
theorem dX5_fitsTub_23 : decode cX5_fitsTub 23 = .ok (.ifCond .eq 7, 3) := by decide +kernel
theorem dX5_fitsTub_26 : decode cX5_fitsTub 26 = .ok (.iconst 1, 1) := by decide +kernel
theorem dX5_fitsTub_27 : decode cX5_fitsTub 27 = .ok (.goto 4, 3) := by decide +kernel
theorem dX5_fitsTub_30 : decode cX5_fitsTub 30 = .ok (.iconst 0, 1) := by decide +kernel
theorem dX5_fitsTub_31 : decode cX5_fitsTub 31 = .ok (.ireturn, 1) := by decide +kernel
theorem dX5_fitsHeir_0 : decode cX5_fitsHeir 0 = .ok (.iload_n 0, 1) := by decide +kernel
theorem dX5_fitsHeir_1 : decode cX5_fitsHeir 1 = .ok (.iconst 0, 1) := by decide +kernel
theorem dX5_fitsHeir_2 : decode cX5_fitsHeir 2 = .ok (.iconst 3, 1) := by decide +kernel
theorem dX5_fitsHeir_3 : decode cX5_fitsHeir 3 = .ok (.invokestatic 75, 3) := by decide +kernel
theorem dX5_fitsHeir_6 : decode cX5_fitsHeir 6 = .ok (.ifCond .eq 20, 3) := by decide +kernel
theorem dX5_fitsHeir_9 : decode cX5_fitsHeir 9 = .ok (.iload_n 1, 1) := by decide +kernel
theorem dX5_fitsHeir_10 : decode cX5_fitsHeir 10 = .ok (.iconst 0, 1) := by decide +kernel
theorem dX5_fitsHeir_11 : decode cX5_fitsHeir 11 = .ok (.getstatic 223, 3) := by decide +kernel
theorem dX5_fitsHeir_14 : decode cX5_fitsHeir 14 = .ok (.iload_n 0, 1) := by decide +kernel
theorem dX5_fitsHeir_15 : decode cX5_fitsHeir 15 = .ok (.iaload, 1) := by decide +kernel
theorem dX5_fitsHeir_16 : decode cX5_fitsHeir 16 = .ok (.invokestatic 75, 3) := by decide +kernel
theorem dX5_fitsHeir_19 : decode cX5_fitsHeir 19 = .ok (.ifCond .eq 7, 3) := by decide +kernel
theorem dX5_fitsHeir_22 : decode cX5_fitsHeir 22 = .ok (.iconst 1, 1) := by decide +kernel
theorem dX5_fitsHeir_23 : decode cX5_fitsHeir 23 = .ok (.goto 4, 3) := by decide +kernel
theorem dX5_fitsHeir_26 : decode cX5_fitsHeir 26 = .ok (.iconst 0, 1) := by decide +kernel
theorem dX5_fitsHeir_27 : decode cX5_fitsHeir 27 = .ok (.ireturn, 1) := by decide +kernel
theorem dX5_putIn_0 : decode cX5_putIn 0 = .ok (.iconst 1, 1) := by decide +kernel
theorem dX5_putIn_1 : decode cX5_putIn 1 = .ok (.iload_n 1, 1) := by decide +kernel
theorem dX5_putIn_2 : decode cX5_putIn 2 = .ok (.invokestatic 146, 3) := by decide +kernel
theorem dX5_putIn_5 : decode cX5_putIn 5 = .ok (.ifCond .eq 19, 3) := by decide +kernel
theorem dX5_putIn_8 : decode cX5_putIn 8 = .ok (.iconst 2, 1) := by decide +kernel
theorem dX5_putIn_9 : decode cX5_putIn 9 = .ok (.iload_n 2, 1) := by decide +kernel
theorem dX5_putIn_10 : decode cX5_putIn 10 = .ok (.invokestatic 146, 3) := by decide +kernel
theorem dX5_putIn_13 : decode cX5_putIn 13 = .ok (.ifCond .eq 11, 3) := by decide +kernel
theorem dX5_putIn_16 : decode cX5_putIn 16 = .ok (.iconst 3, 1) := by decide +kernel
theorem dX5_putIn_17 : decode cX5_putIn 17 = .ok (.iload_n 3, 1) := by decide +kernel
theorem dX5_putIn_18 : decode cX5_putIn 18 = .ok (.invokestatic 146, 3) := by decide +kernel
theorem dX5_putIn_21 : decode cX5_putIn 21 = .ok (.ifCond .ne 5, 3) := by decide +kernel
theorem dX5_putIn_24 : decode cX5_putIn 24 = .ok (.iconst (-1), 1) := by decide +kernel
theorem dX5_putIn_25 : decode cX5_putIn 25 = .ok (.ireturn, 1) := by decide +kernel
theorem dX5_putIn_26 : decode cX5_putIn 26 = .ok (.aload_n 0, 1) := by decide +kernel
theorem dX5_putIn_27 : decode cX5_putIn 27 = .ok (.getfield 24, 3) := by decide +kernel
theorem dX5_putIn_30 : decode cX5_putIn 30 = .ok (.getfield 109, 3) := by decide +kernel
theorem dX5_putIn_33 : decode cX5_putIn 33 = .ok (.iconst 4, 1) := by decide +kernel
theorem dX5_putIn_34 : decode cX5_putIn 34 = .ok (.if_icmp .lt 6, 3) := by decide +kernel
theorem dX5_putIn_37 : decode cX5_putIn 37 = .ok (.bipush (-3), 2) := by decide +kernel
theorem dX5_putIn_39 : decode cX5_putIn 39 = .ok (.ireturn, 1) := by decide +kernel
theorem dX5_putIn_40 : decode cX5_putIn 40 = .ok (.aload_n 0, 1) := by decide +kernel
theorem dX5_putIn_41 : decode cX5_putIn 41 = .ok (.getfield 24, 3) := by decide +kernel
theorem dX5_putIn_44 : decode cX5_putIn 44 = .ok (.getfield 109, 3) := by decide +kernel
theorem dX5_putIn_47 : decode cX5_putIn 47 = .ok (.istore 4, 2) := by decide +kernel
theorem dX5_putIn_49 : decode cX5_putIn 49 = .ok (.aload_n 0, 1) := by decide +kernel
theorem dX5_putIn_50 : decode cX5_putIn 50 = .ok (.getfield 24, 3) := by decide +kernel
theorem dX5_putIn_53 : decode cX5_putIn 53 = .ok (.dup, 1) := by decide +kernel
theorem dX5_putIn_54 : decode cX5_putIn 54 = .ok (.getfield 109, 3) := by decide +kernel
theorem dX5_putIn_57 : decode cX5_putIn 57 = .ok (.iconst 1, 1) := by decide +kernel
theorem dX5_putIn_58 : decode cX5_putIn 58 = .ok (.iadd, 1) := by decide +kernel
theorem dX5_putIn_59 : decode cX5_putIn 59 = .ok (.putfield 109, 3) := by decide +kernel
theorem dX5_putIn_62 : decode cX5_putIn 62 = .ok (.aload_n 0, 1) := by decide +kernel
theorem dX5_putIn_63 : decode cX5_putIn 63 = .ok (.getfield 24, 3) := by decide +kernel
theorem dX5_putIn_66 : decode cX5_putIn 66 = .ok (.iload 4, 2) := by decide +kernel
theorem dX5_putIn_68 : decode cX5_putIn 68 = .ok (.iconst 0, 1) := by decide +kernel
theorem dX5_putIn_69 : decode cX5_putIn 69 = .ok (.iconst 0, 1) := by decide +kernel
theorem dX5_putIn_70 : decode cX5_putIn 70 = .ok (.invokevirtual 150, 3) := by decide +kernel
theorem dX5_putIn_73 : decode cX5_putIn 73 = .ok (.aload_n 0, 1) := by decide +kernel
theorem dX5_putIn_74 : decode cX5_putIn 74 = .ok (.getfield 24, 3) := by decide +kernel
theorem dX5_putIn_77 : decode cX5_putIn 77 = .ok (.iload 4, 2) := by decide +kernel
theorem dX5_putIn_79 : decode cX5_putIn 79 = .ok (.iload_n 1, 1) := by decide +kernel
theorem dX5_putIn_80 : decode cX5_putIn 80 = .ok (.iload_n 2, 1) := by decide +kernel
theorem dX5_putIn_81 : decode cX5_putIn 81 = .ok (.invokevirtual 214, 3) := by decide +kernel
theorem dX5_putIn_84 : decode cX5_putIn 84 = .ok (.aload_n 0, 1) := by decide +kernel
theorem dX5_putIn_85 : decode cX5_putIn 85 = .ok (.getfield 24, 3) := by decide +kernel
theorem dX5_putIn_88 : decode cX5_putIn 88 = .ok (.iload 4, 2) := by decide +kernel
theorem dX5_putIn_90 : decode cX5_putIn 90 = .ok (.iconst 3, 1) := by decide +kernel
theorem dX5_putIn_91 : decode cX5_putIn 91 = .ok (.iload_n 3, 1) := by decide +kernel
theorem dX5_putIn_92 : decode cX5_putIn 92 = .ok (.invokevirtual 150, 3) := by decide +kernel
theorem dX5_putIn_95 : decode cX5_putIn 95 = .ok (.aload_n 0, 1) := by decide +kernel
theorem dX5_putIn_96 : decode cX5_putIn 96 = .ok (.getfield 24, 3) := by decide +kernel
theorem dX5_putIn_99 : decode cX5_putIn 99 = .ok (.iload 4, 2) := by decide +kernel
theorem dX5_putIn_101 : decode cX5_putIn 101 = .ok (.iconst 4, 1) := by decide +kernel
theorem dX5_putIn_102 : decode cX5_putIn 102 = .ok (.iconst 1, 1) := by decide +kernel
theorem dX5_putIn_103 : decode cX5_putIn 103 = .ok (.invokevirtual 150, 3) := by decide +kernel
theorem dX5_putIn_106 : decode cX5_putIn 106 = .ok (.aload_n 0, 1) := by decide +kernel
theorem dX5_putIn_107 : decode cX5_putIn 107 = .ok (.getfield 24, 3) := by decide +kernel
theorem dX5_putIn_110 : decode cX5_putIn 110 = .ok (.getfield 109, 3) := by decide +kernel
theorem dX5_putIn_113 : decode cX5_putIn 113 = .ok (.ireturn, 1) := by decide +kernel
theorem dX5_listWindyHours_0 : decode cX5_listWindyHours 0 = .ok (.iconst 0, 1) := by decide +kernel
theorem dX5_listWindyHours_1 : decode cX5_listWindyHours 1 = .ok (.istore_n 1, 1) := by decide +kernel
theorem dX5_listWindyHours_2 : decode cX5_listWindyHours 2 = .ok (.iconst 0, 1) := by decide +kernel
theorem dX5_listWindyHours_3 : decode cX5_listWindyHours 3 = .ok (.istore_n 2, 1) := by decide +kernel
theorem dX5_listWindyHours_4 : decode cX5_listWindyHours 4 = .ok (.iload_n 2, 1) := by decide +kernel
theorem dX5_listWindyHours_5 : decode cX5_listWindyHours 5 = .ok (.bipush 24, 2) := by decide +kernel
theorem dX5_listWindyHours_7 : decode cX5_listWindyHours 7 = .ok (.if_icmp .ge 34, 3) := by decide +kernel
theorem dX5_listWindyHours_10 : decode cX5_listWindyHours 10 = .ok (.aload_n 0, 1) := by decide +kernel
theorem dX5_listWindyHours_11 : decode cX5_listWindyHours 11 = .ok (.getfield 24, 3) := by decide +kernel
theorem dX5_listWindyHours_14 : decode cX5_listWindyHours 14 = .ok (.getfield 143, 3) := by decide +kernel
theorem dX5_listWindyHours_17 : decode cX5_listWindyHours 17 = .ok (.iload_n 2, 1) := by decide +kernel
theorem dX5_listWindyHours_18 : decode cX5_listWindyHours 18 = .ok (.iaload, 1) := by decide +kernel
theorem dX5_listWindyHours_19 : decode cX5_listWindyHours 19 = .ok (.ifCond .ne 6, 3) := by decide +kernel
theorem dX5_listWindyHours_22 : decode cX5_listWindyHours 22 = .ok (.goto 13, 3) := by decide +kernel
theorem dX5_listWindyHours_25 : decode cX5_listWindyHours 25 = .ok (.aload_n 0, 1) := by decide +kernel
theorem dX5_listWindyHours_26 : decode cX5_listWindyHours 26 = .ok (.getfield 63, 3) := by decide +kernel
theorem dX5_listWindyHours_29 : decode cX5_listWindyHours 29 = .ok (.iload_n 1, 1) := by decide +kernel
theorem dX5_listWindyHours_30 : decode cX5_listWindyHours 30 = .ok (.iload_n 2, 1) := by decide +kernel
theorem dX5_listWindyHours_31 : decode cX5_listWindyHours 31 = .ok (.iastore, 1) := by decide +kernel
theorem dX5_listWindyHours_32 : decode cX5_listWindyHours 32 = .ok (.iinc 1 1, 3) := by decide +kernel
theorem dX5_listWindyHours_35 : decode cX5_listWindyHours 35 = .ok (.iinc 2 1, 3) := by decide +kernel
theorem dX5_listWindyHours_38 : decode cX5_listWindyHours 38 = .ok (.goto (-34), 3) := by decide +kernel
theorem dX5_listWindyHours_41 : decode cX5_listWindyHours 41 = .ok (.iload_n 1, 1) := by decide +kernel
theorem dX5_listWindyHours_42 : decode cX5_listWindyHours 42 = .ok (.ireturn, 1) := by decide +kernel
theorem dX5_dropWinds_0 : decode cX5_dropWinds 0 = .ok (.lconst 1, 1) := by decide +kernel
theorem dX5_dropWinds_1 : decode cX5_dropWinds 1 = .ok (.lstore 4, 2) := by decide +kernel
theorem dX5_dropWinds_3 : decode cX5_dropWinds 3 = .ok (.iconst 0, 1) := by decide +kernel
theorem dX5_dropWinds_4 : decode cX5_dropWinds 4 = .ok (.istore 6, 2) := by decide +kernel
theorem dX5_dropWinds_6 : decode cX5_dropWinds 6 = .ok (.iload 6, 2) := by decide +kernel
theorem dX5_dropWinds_8 : decode cX5_dropWinds 8 = .ok (.iload_n 2, 1) := by decide +kernel
theorem dX5_dropWinds_9 : decode cX5_dropWinds 9 = .ok (.if_icmp .ge 84, 3) := by decide +kernel
theorem dX5_dropWinds_12 : decode cX5_dropWinds 12 = .ok (.aload_n 0, 1) := by decide +kernel
theorem dX5_dropWinds_13 : decode cX5_dropWinds 13 = .ok (.getfield 63, 3) := by decide +kernel
theorem dX5_dropWinds_16 : decode cX5_dropWinds 16 = .ok (.iload 6, 2) := by decide +kernel
theorem dX5_dropWinds_18 : decode cX5_dropWinds 18 = .ok (.iaload, 1) := by decide +kernel
theorem dX5_dropWinds_19 : decode cX5_dropWinds 19 = .ok (.istore 7, 2) := by decide +kernel
theorem dX5_dropWinds_21 : decode cX5_dropWinds 21 = .ok (.iload_n 1, 1) := by decide +kernel
theorem dX5_dropWinds_22 : decode cX5_dropWinds 22 = .ok (.iload 6, 2) := by decide +kernel
theorem dX5_dropWinds_24 : decode cX5_dropWinds 24 = .ok (.ishr, 1) := by decide +kernel
theorem dX5_dropWinds_25 : decode cX5_dropWinds 25 = .ok (.iconst 1, 1) := by decide +kernel
theorem dX5_dropWinds_26 : decode cX5_dropWinds 26 = .ok (.iand, 1) := by decide +kernel
theorem dX5_dropWinds_27 : decode cX5_dropWinds 27 = .ok (.iconst 1, 1) := by decide +kernel
theorem dX5_dropWinds_28 : decode cX5_dropWinds 28 = .ok (.if_icmp .ne 7, 3) := by decide +kernel
theorem dX5_dropWinds_31 : decode cX5_dropWinds 31 = .ok (.iconst 1, 1) := by decide +kernel
theorem dX5_dropWinds_32 : decode cX5_dropWinds 32 = .ok (.goto 4, 3) := by decide +kernel
theorem dX5_dropWinds_35 : decode cX5_dropWinds 35 = .ok (.iconst 0, 1) := by decide +kernel
theorem dX5_dropWinds_36 : decode cX5_dropWinds 36 = .ok (.istore 8, 2) := by decide +kernel
theorem dX5_dropWinds_38 : decode cX5_dropWinds 38 = .ok (.aload_n 0, 1) := by decide +kernel
theorem dX5_dropWinds_39 : decode cX5_dropWinds 39 = .ok (.getfield 28, 3) := by decide +kernel
theorem dX5_dropWinds_42 : decode cX5_dropWinds 42 = .ok (.getfield 143, 3) := by decide +kernel
theorem dX5_dropWinds_45 : decode cX5_dropWinds 45 = .ok (.iload 7, 2) := by decide +kernel
theorem dX5_dropWinds_47 : decode cX5_dropWinds 47 = .ok (.iload 8, 2) := by decide +kernel
theorem dX5_dropWinds_49 : decode cX5_dropWinds 49 = .ok (.ifCond .eq 7, 3) := by decide +kernel
theorem dX5_dropWinds_52 : decode cX5_dropWinds 52 = .ok (.iconst 0, 1) := by decide +kernel
theorem dX5_dropWinds_53 : decode cX5_dropWinds 53 = .ok (.goto 13, 3) := by decide +kernel
theorem dX5_dropWinds_56 : decode cX5_dropWinds 56 = .ok (.aload_n 0, 1) := by decide +kernel
theorem dX5_dropWinds_57 : decode cX5_dropWinds 57 = .ok (.getfield 24, 3) := by decide +kernel
theorem dX5_dropWinds_60 : decode cX5_dropWinds 60 = .ok (.getfield 143, 3) := by decide +kernel
theorem dX5_dropWinds_63 : decode cX5_dropWinds 63 = .ok (.iload 7, 2) := by decide +kernel
theorem dX5_dropWinds_65 : decode cX5_dropWinds 65 = .ok (.iaload, 1) := by decide +kernel
theorem dX5_dropWinds_66 : decode cX5_dropWinds 66 = .ok (.iastore, 1) := by decide +kernel
theorem dX5_dropWinds_67 : decode cX5_dropWinds 67 = .ok (.lload 4, 2) := by decide +kernel
theorem dX5_dropWinds_69 : decode cX5_dropWinds 69 = .ok (.iload 8, 2) := by decide +kernel
theorem dX5_dropWinds_71 : decode cX5_dropWinds 71 = .ok (.ifCond .eq 8, 3) := by decide +kernel
theorem dX5_dropWinds_74 : decode cX5_dropWinds 74 = .ok (.iload_n 3, 1) := by decide +kernel
theorem dX5_dropWinds_75 : decode cX5_dropWinds 75 = .ok (.i2l, 1) := by decide +kernel
theorem dX5_dropWinds_76 : decode cX5_dropWinds 76 = .ok (.goto 8, 3) := by decide +kernel
theorem dX5_dropWinds_79 : decode cX5_dropWinds 79 = .ok (.bipush 10, 2) := by decide +kernel
theorem dX5_dropWinds_81 : decode cX5_dropWinds 81 = .ok (.iload_n 3, 1) := by decide +kernel
theorem dX5_dropWinds_82 : decode cX5_dropWinds 82 = .ok (.isub, 1) := by decide +kernel
theorem dX5_dropWinds_83 : decode cX5_dropWinds 83 = .ok (.i2l, 1) := by decide +kernel
theorem dX5_dropWinds_84 : decode cX5_dropWinds 84 = .ok (.lmul, 1) := by decide +kernel
theorem dX5_dropWinds_85 : decode cX5_dropWinds 85 = .ok (.lstore 4, 2) := by decide +kernel
theorem dX5_dropWinds_87 : decode cX5_dropWinds 87 = .ok (.iinc 6 1, 3) := by decide +kernel
theorem dX5_dropWinds_90 : decode cX5_dropWinds 90 = .ok (.goto (-84), 3) := by decide +kernel
theorem dX5_dropWinds_93 : decode cX5_dropWinds 93 = .ok (.lload 4, 2) := by decide +kernel
theorem dX5_dropWinds_95 : decode cX5_dropWinds 95 = .ok (.lreturn, 1) := by decide +kernel
theorem dX5_allOdds_0 : decode cX5_allOdds 0 = .ok (.lconst 1, 1) := by decide +kernel
theorem dX5_allOdds_1 : decode cX5_allOdds 1 = .ok (.lstore_n 1, 1) := by decide +kernel
theorem dX5_allOdds_2 : decode cX5_allOdds 2 = .ok (.iconst 0, 1) := by decide +kernel
theorem dX5_allOdds_3 : decode cX5_allOdds 3 = .ok (.istore_n 3, 1) := by decide +kernel
theorem dX5_allOdds_4 : decode cX5_allOdds 4 = .ok (.iload_n 3, 1) := by decide +kernel
theorem dX5_allOdds_5 : decode cX5_allOdds 5 = .ok (.iload_n 0, 1) := by decide +kernel
theorem dX5_allOdds_6 : decode cX5_allOdds 6 = .ok (.if_icmp .ge 15, 3) := by decide +kernel
theorem dX5_allOdds_9 : decode cX5_allOdds 9 = .ok (.lload_n 1, 1) := by decide +kernel
theorem dX5_allOdds_10 : decode cX5_allOdds 10 = .ok (.ldc2_w 292, 3) := by decide +kernel
theorem dX5_allOdds_13 : decode cX5_allOdds 13 = .ok (.lmul, 1) := by decide +kernel
theorem dX5_allOdds_14 : decode cX5_allOdds 14 = .ok (.lstore_n 1, 1) := by decide +kernel
theorem dX5_allOdds_15 : decode cX5_allOdds 15 = .ok (.iinc 3 1, 3) := by decide +kernel
theorem dX5_allOdds_18 : decode cX5_allOdds 18 = .ok (.goto (-14), 3) := by decide +kernel
theorem dX5_allOdds_21 : decode cX5_allOdds 21 = .ok (.lload_n 1, 1) := by decide +kernel
theorem dX5_allOdds_22 : decode cX5_allOdds 22 = .ok (.lreturn, 1) := by decide +kernel
theorem dX5_partOfFraction_0 : decode cX5_partOfFraction 0 = .ok (.lload_n 0, 1) := by decide +kernel
theorem dX5_partOfFraction_1 : decode cX5_partOfFraction 1 = .ok (.lload_n 2, 1) := by decide +kernel
theorem dX5_partOfFraction_2 : decode cX5_partOfFraction 2 = .ok (.invokestatic 294, 3) := by decide +kernel
theorem dX5_partOfFraction_5 : decode cX5_partOfFraction 5 = .ok (.lstore 5, 2) := by decide +kernel
theorem dX5_partOfFraction_7 : decode cX5_partOfFraction 7 = .ok (.iload 4, 2) := by decide +kernel
theorem dX5_partOfFraction_9 : decode cX5_partOfFraction 9 = .ok (.ifCond .ne 7, 3) := by decide +kernel
theorem dX5_partOfFraction_12 : decode cX5_partOfFraction 12 = .ok (.lload_n 0, 1) := by decide +kernel
theorem dX5_partOfFraction_13 : decode cX5_partOfFraction 13 = .ok (.goto 4, 3) := by decide +kernel
theorem dX5_partOfFraction_16 : decode cX5_partOfFraction 16 = .ok (.lload_n 2, 1) := by decide +kernel
theorem dX5_partOfFraction_17 : decode cX5_partOfFraction 17 = .ok (.lstore 7, 2) := by decide +kernel
theorem dX5_partOfFraction_19 : decode cX5_partOfFraction 19 = .ok (.lload 5, 2) := by decide +kernel
theorem dX5_partOfFraction_21 : decode cX5_partOfFraction 21 = .ok (.lconst 1, 1) := by decide +kernel
theorem dX5_partOfFraction_22 : decode cX5_partOfFraction 22 = .ok (.lcmp, 1) := by decide +kernel
theorem dX5_partOfFraction_23 : decode cX5_partOfFraction 23 = .ok (.ifCond .le 11, 3) := by decide +kernel
theorem dX5_partOfFraction_26 : decode cX5_partOfFraction 26 = .ok (.lload 7, 2) := by decide +kernel
theorem dX5_partOfFraction_28 : decode cX5_partOfFraction 28 = .ok (.lload 5, 2) := by decide +kernel
theorem dX5_partOfFraction_30 : decode cX5_partOfFraction 30 = .ok (.ldiv, 1) := by decide +kernel
theorem dX5_partOfFraction_31 : decode cX5_partOfFraction 31 = .ok (.goto 5, 3) := by decide +kernel
theorem dX5_partOfFraction_34 : decode cX5_partOfFraction 34 = .ok (.lload 7, 2) := by decide +kernel
theorem dX5_partOfFraction_36 : decode cX5_partOfFraction 36 = .ok (.lreturn, 1) := by decide +kernel
theorem dX5_commonDivisor_0 : decode cX5_commonDivisor 0 = .ok (.lload_n 0, 1) := by decide +kernel
theorem dX5_commonDivisor_1 : decode cX5_commonDivisor 1 = .ok (.lstore 4, 2) := by decide +kernel
theorem dX5_commonDivisor_3 : decode cX5_commonDivisor 3 = .ok (.lload_n 2, 1) := by decide +kernel
theorem dX5_commonDivisor_4 : decode cX5_commonDivisor 4 = .ok (.lstore 6, 2) := by decide +kernel
theorem dX5_commonDivisor_6 : decode cX5_commonDivisor 6 = .ok (.iconst 0, 1) := by decide +kernel
theorem dX5_commonDivisor_7 : decode cX5_commonDivisor 7 = .ok (.istore 8, 2) := by decide +kernel
theorem dX5_commonDivisor_9 : decode cX5_commonDivisor 9 = .ok (.iload 8, 2) := by decide +kernel
theorem dX5_commonDivisor_11 : decode cX5_commonDivisor 11 = .ok (.bipush 100, 2) := by decide +kernel
theorem dX5_commonDivisor_13 : decode cX5_commonDivisor 13 = .ok (.if_icmp .ge 31, 3) := by decide +kernel
theorem dX5_commonDivisor_16 : decode cX5_commonDivisor 16 = .ok (.lload 6, 2) := by decide +kernel
theorem dX5_commonDivisor_18 : decode cX5_commonDivisor 18 = .ok (.lconst 0, 1) := by decide +kernel
theorem dX5_commonDivisor_19 : decode cX5_commonDivisor 19 = .ok (.lcmp, 1) := by decide +kernel
theorem dX5_commonDivisor_20 : decode cX5_commonDivisor 20 = .ok (.ifCond .eq 24, 3) := by decide +kernel
theorem dX5_commonDivisor_23 : decode cX5_commonDivisor 23 = .ok (.lload 4, 2) := by decide +kernel
theorem dX5_commonDivisor_25 : decode cX5_commonDivisor 25 = .ok (.lload 6, 2) := by decide +kernel
theorem dX5_commonDivisor_27 : decode cX5_commonDivisor 27 = .ok (.lrem, 1) := by decide +kernel
theorem dX5_commonDivisor_28 : decode cX5_commonDivisor 28 = .ok (.lstore 9, 2) := by decide +kernel
theorem dX5_commonDivisor_30 : decode cX5_commonDivisor 30 = .ok (.lload 6, 2) := by decide +kernel
theorem dX5_commonDivisor_32 : decode cX5_commonDivisor 32 = .ok (.lstore 4, 2) := by decide +kernel
theorem dX5_commonDivisor_34 : decode cX5_commonDivisor 34 = .ok (.lload 9, 2) := by decide +kernel
theorem dX5_commonDivisor_36 : decode cX5_commonDivisor 36 = .ok (.lstore 6, 2) := by decide +kernel
theorem dX5_commonDivisor_38 : decode cX5_commonDivisor 38 = .ok (.iinc 8 1, 3) := by decide +kernel
theorem dX5_commonDivisor_41 : decode cX5_commonDivisor 41 = .ok (.goto (-32), 3) := by decide +kernel
theorem dX5_commonDivisor_44 : decode cX5_commonDivisor 44 = .ok (.lload 4, 2) := by decide +kernel
theorem dX5_commonDivisor_46 : decode cX5_commonDivisor 46 = .ok (.lreturn, 1) := by decide +kernel
theorem dX5_weighPairs_0 : decode cX5_weighPairs 0 = .ok (.aload_n 0, 1) := by decide +kernel
theorem dX5_weighPairs_1 : decode cX5_weighPairs 1 = .ok (.getfield 28, 3) := by decide +kernel
theorem dX5_weighPairs_4 : decode cX5_weighPairs 4 = .ok (.aload_n 0, 1) := by decide +kernel
theorem dX5_weighPairs_5 : decode cX5_weighPairs 5 = .ok (.getfield 24, 3) := by decide +kernel
theorem dX5_weighPairs_8 : decode cX5_weighPairs 8 = .ok (.invokevirtual 102, 3) := by decide +kernel
theorem dX5_weighPairs_11 : decode cX5_weighPairs 11 = .ok (.aload_n 0, 1) := by decide +kernel
theorem dX5_weighPairs_12 : decode cX5_weighPairs 12 = .ok (.getfield 49, 3) := by decide +kernel
theorem dX5_weighPairs_15 : decode cX5_weighPairs 15 = .ok (.aload_n 0, 1) := by decide +kernel
theorem dX5_weighPairs_16 : decode cX5_weighPairs 16 = .ok (.getfield 28, 3) := by decide +kernel
theorem dX5_weighPairs_19 : decode cX5_weighPairs 19 = .ok (.invokevirtual 217, 3) := by decide +kernel
theorem dX5_weighPairs_22 : decode cX5_weighPairs 22 = .ok (.iconst 0, 1) := by decide +kernel
theorem dX5_weighPairs_23 : decode cX5_weighPairs 23 = .ok (.istore_n 3, 1) := by decide +kernel
theorem dX5_weighPairs_24 : decode cX5_weighPairs 24 = .ok (.iload_n 3, 1) := by decide +kernel
theorem dX5_weighPairs_25 : decode cX5_weighPairs 25 = .ok (.bipush 10, 2) := by decide +kernel
theorem dX5_weighPairs_27 : decode cX5_weighPairs 27 = .ok (.if_icmp .ge 105, 3) := by decide +kernel
theorem dX5_weighPairs_30 : decode cX5_weighPairs 30 = .ok (.aload_n 0, 1) := by decide +kernel
theorem dX5_weighPairs_31 : decode cX5_weighPairs 31 = .ok (.getfield 28, 3) := by decide +kernel
theorem dX5_weighPairs_34 : decode cX5_weighPairs 34 = .ok (.iload_n 1, 1) := by decide +kernel
theorem dX5_weighPairs_35 : decode cX5_weighPairs 35 = .ok (.iconst 0, 1) := by decide +kernel
theorem dX5_weighPairs_36 : decode cX5_weighPairs 36 = .ok (.iload_n 3, 1) := by decide +kernel
theorem dX5_weighPairs_37 : decode cX5_weighPairs 37 = .ok (.invokevirtual 157, 3) := by decide +kernel
theorem dX5_weighPairs_40 : decode cX5_weighPairs 40 = .ok (.iconst 0, 1) := by decide +kernel
theorem dX5_weighPairs_41 : decode cX5_weighPairs 41 = .ok (.istore 4, 2) := by decide +kernel
theorem dX5_weighPairs_43 : decode cX5_weighPairs 43 = .ok (.iload 4, 2) := by decide +kernel
theorem dX5_weighPairs_45 : decode cX5_weighPairs 45 = .ok (.bipush 10, 2) := by decide +kernel
theorem dX5_weighPairs_47 : decode cX5_weighPairs 47 = .ok (.if_icmp .ge 79, 3) := by decide +kernel
theorem dX5_weighPairs_50 : decode cX5_weighPairs 50 = .ok (.aload_n 0, 1) := by decide +kernel
theorem dX5_weighPairs_51 : decode cX5_weighPairs 51 = .ok (.getfield 28, 3) := by decide +kernel
theorem dX5_weighPairs_54 : decode cX5_weighPairs 54 = .ok (.iload_n 2, 1) := by decide +kernel
theorem dX5_weighPairs_55 : decode cX5_weighPairs 55 = .ok (.iconst 0, 1) := by decide +kernel
theorem dX5_weighPairs_56 : decode cX5_weighPairs 56 = .ok (.iload 4, 2) := by decide +kernel
theorem dX5_weighPairs_58 : decode cX5_weighPairs 58 = .ok (.invokevirtual 157, 3) := by decide +kernel
theorem dX5_weighPairs_61 : decode cX5_weighPairs 61 = .ok (.aload_n 0, 1) := by decide +kernel
theorem dX5_weighPairs_62 : decode cX5_weighPairs 62 = .ok (.getfield 49, 3) := by decide +kernel
theorem dX5_weighPairs_65 : decode cX5_weighPairs 65 = .ok (.aload_n 0, 1) := by decide +kernel
theorem dX5_weighPairs_66 : decode cX5_weighPairs 66 = .ok (.getfield 28, 3) := by decide +kernel
theorem dX5_weighPairs_69 : decode cX5_weighPairs 69 = .ok (.invokevirtual 220, 3) := by decide +kernel
theorem dX5_weighPairs_72 : decode cX5_weighPairs 72 = .ok (.aload_n 0, 1) := by decide +kernel
theorem dX5_weighPairs_73 : decode cX5_weighPairs 73 = .ok (.getfield 69, 3) := by decide +kernel
theorem dX5_weighPairs_76 : decode cX5_weighPairs 76 = .ok (.bipush 10, 2) := by decide +kernel
theorem dX5_weighPairs_78 : decode cX5_weighPairs 78 = .ok (.iload_n 3, 1) := by decide +kernel
theorem dX5_weighPairs_79 : decode cX5_weighPairs 79 = .ok (.imul, 1) := by decide +kernel
theorem dX5_weighPairs_80 : decode cX5_weighPairs 80 = .ok (.iload 4, 2) := by decide +kernel
theorem dX5_weighPairs_82 : decode cX5_weighPairs 82 = .ok (.iadd, 1) := by decide +kernel
theorem dX5_weighPairs_83 : decode cX5_weighPairs 83 = .ok (.aload_n 0, 1) := by decide +kernel
theorem dX5_weighPairs_84 : decode cX5_weighPairs 84 = .ok (.getfield 49, 3) := by decide +kernel
theorem dX5_weighPairs_87 : decode cX5_weighPairs 87 = .ok (.aload_n 0, 1) := by decide +kernel
theorem dX5_weighPairs_88 : decode cX5_weighPairs 88 = .ok (.getfield 28, 3) := by decide +kernel
theorem dX5_weighPairs_91 : decode cX5_weighPairs 91 = .ok (.iload_n 1, 1) := by decide +kernel
theorem dX5_weighPairs_92 : decode cX5_weighPairs 92 = .ok (.invokevirtual 190, 3) := by decide +kernel
theorem dX5_weighPairs_95 : decode cX5_weighPairs 95 = .ok (.iastore, 1) := by decide +kernel
theorem dX5_weighPairs_96 : decode cX5_weighPairs 96 = .ok (.aload_n 0, 1) := by decide +kernel
theorem dX5_weighPairs_97 : decode cX5_weighPairs 97 = .ok (.getfield 72, 3) := by decide +kernel
theorem dX5_weighPairs_100 : decode cX5_weighPairs 100 = .ok (.bipush 10, 2) := by decide +kernel
theorem dX5_weighPairs_102 : decode cX5_weighPairs 102 = .ok (.iload_n 3, 1) := by decide +kernel
theorem dX5_weighPairs_103 : decode cX5_weighPairs 103 = .ok (.imul, 1) := by decide +kernel
theorem dX5_weighPairs_104 : decode cX5_weighPairs 104 = .ok (.iload 4, 2) := by decide +kernel
theorem dX5_weighPairs_106 : decode cX5_weighPairs 106 = .ok (.iadd, 1) := by decide +kernel
theorem dX5_weighPairs_107 : decode cX5_weighPairs 107 = .ok (.aload_n 0, 1) := by decide +kernel
theorem dX5_weighPairs_108 : decode cX5_weighPairs 108 = .ok (.getfield 49, 3) := by decide +kernel
theorem dX5_weighPairs_111 : decode cX5_weighPairs 111 = .ok (.aload_n 0, 1) := by decide +kernel
theorem dX5_weighPairs_112 : decode cX5_weighPairs 112 = .ok (.getfield 28, 3) := by decide +kernel
theorem dX5_weighPairs_115 : decode cX5_weighPairs 115 = .ok (.iload_n 2, 1) := by decide +kernel
theorem dX5_weighPairs_116 : decode cX5_weighPairs 116 = .ok (.invokevirtual 190, 3) := by decide +kernel
theorem dX5_weighPairs_119 : decode cX5_weighPairs 119 = .ok (.iastore, 1) := by decide +kernel
theorem dX5_weighPairs_120 : decode cX5_weighPairs 120 = .ok (.iinc 4 1, 3) := by decide +kernel
theorem dX5_weighPairs_123 : decode cX5_weighPairs 123 = .ok (.goto (-80), 3) := by decide +kernel
theorem dX5_weighPairs_126 : decode cX5_weighPairs 126 = .ok (.iinc 3 1, 3) := by decide +kernel
theorem dX5_weighPairs_129 : decode cX5_weighPairs 129 = .ok (.goto (-105), 3) := by decide +kernel
theorem dX5_weighPairs_132 : decode cX5_weighPairs 132 = .ok (.return_, 1) := by decide +kernel
theorem dX5_neitherWouldGo_0 : decode cX5_neitherWouldGo 0 = .ok (.bipush 10, 2) := by decide +kernel
theorem dX5_neitherWouldGo_2 : decode cX5_neitherWouldGo 2 = .ok (.iload_n 1, 1) := by decide +kernel
theorem dX5_neitherWouldGo_3 : decode cX5_neitherWouldGo 3 = .ok (.imul, 1) := by decide +kernel
theorem dX5_neitherWouldGo_4 : decode cX5_neitherWouldGo 4 = .ok (.iload_n 2, 1) := by decide +kernel
theorem dX5_neitherWouldGo_5 : decode cX5_neitherWouldGo 5 = .ok (.iadd, 1) := by decide +kernel
theorem dX5_neitherWouldGo_6 : decode cX5_neitherWouldGo 6 = .ok (.istore_n 3, 1) := by decide +kernel
theorem dX5_neitherWouldGo_7 : decode cX5_neitherWouldGo 7 = .ok (.iconst 0, 1) := by decide +kernel
theorem dX5_neitherWouldGo_8 : decode cX5_neitherWouldGo 8 = .ok (.istore 4, 2) := by decide +kernel
theorem dX5_neitherWouldGo_10 : decode cX5_neitherWouldGo 10 = .ok (.iload 4, 2) := by decide +kernel
theorem dX5_neitherWouldGo_12 : decode cX5_neitherWouldGo 12 = .ok (.bipush 10, 2) := by decide +kernel
theorem dX5_neitherWouldGo_14 : decode cX5_neitherWouldGo 14 = .ok (.if_icmp .ge 55, 3) := by decide +kernel
theorem dX5_neitherWouldGo_17 : decode cX5_neitherWouldGo 17 = .ok (.aload_n 0, 1) := by decide +kernel
theorem dX5_neitherWouldGo_18 : decode cX5_neitherWouldGo 18 = .ok (.getfield 69, 3) := by decide +kernel
theorem dX5_neitherWouldGo_21 : decode cX5_neitherWouldGo 21 = .ok (.bipush 10, 2) := by decide +kernel
theorem dX5_neitherWouldGo_23 : decode cX5_neitherWouldGo 23 = .ok (.iload 4, 2) := by decide +kernel
theorem dX5_neitherWouldGo_25 : decode cX5_neitherWouldGo 25 = .ok (.imul, 1) := by decide +kernel
theorem dX5_neitherWouldGo_26 : decode cX5_neitherWouldGo 26 = .ok (.iload_n 2, 1) := by decide +kernel
theorem dX5_neitherWouldGo_27 : decode cX5_neitherWouldGo 27 = .ok (.iadd, 1) := by decide +kernel
theorem dX5_neitherWouldGo_28 : decode cX5_neitherWouldGo 28 = .ok (.iaload, 1) := by decide +kernel
theorem dX5_neitherWouldGo_29 : decode cX5_neitherWouldGo 29 = .ok (.aload_n 0, 1) := by decide +kernel
theorem dX5_neitherWouldGo_30 : decode cX5_neitherWouldGo 30 = .ok (.getfield 69, 3) := by decide +kernel
theorem dX5_neitherWouldGo_33 : decode cX5_neitherWouldGo 33 = .ok (.iload_n 3, 1) := by decide +kernel
theorem dX5_neitherWouldGo_34 : decode cX5_neitherWouldGo 34 = .ok (.iaload, 1) := by decide +kernel
theorem dX5_neitherWouldGo_35 : decode cX5_neitherWouldGo 35 = .ok (.if_icmp .le 5, 3) := by decide +kernel
theorem dX5_neitherWouldGo_38 : decode cX5_neitherWouldGo 38 = .ok (.iconst 0, 1) := by decide +kernel
theorem dX5_neitherWouldGo_39 : decode cX5_neitherWouldGo 39 = .ok (.ireturn, 1) := by decide +kernel
theorem dX5_neitherWouldGo_40 : decode cX5_neitherWouldGo 40 = .ok (.aload_n 0, 1) := by decide +kernel
theorem dX5_neitherWouldGo_41 : decode cX5_neitherWouldGo 41 = .ok (.getfield 72, 3) := by decide +kernel
theorem dX5_neitherWouldGo_44 : decode cX5_neitherWouldGo 44 = .ok (.bipush 10, 2) := by decide +kernel
theorem dX5_neitherWouldGo_46 : decode cX5_neitherWouldGo 46 = .ok (.iload_n 1, 1) := by decide +kernel
theorem dX5_neitherWouldGo_47 : decode cX5_neitherWouldGo 47 = .ok (.imul, 1) := by decide +kernel
theorem dX5_neitherWouldGo_48 : decode cX5_neitherWouldGo 48 = .ok (.iload 4, 2) := by decide +kernel
theorem dX5_neitherWouldGo_50 : decode cX5_neitherWouldGo 50 = .ok (.iadd, 1) := by decide +kernel
theorem dX5_neitherWouldGo_51 : decode cX5_neitherWouldGo 51 = .ok (.iaload, 1) := by decide +kernel
theorem dX5_neitherWouldGo_52 : decode cX5_neitherWouldGo 52 = .ok (.aload_n 0, 1) := by decide +kernel
theorem dX5_neitherWouldGo_53 : decode cX5_neitherWouldGo 53 = .ok (.getfield 72, 3) := by decide +kernel
theorem dX5_neitherWouldGo_56 : decode cX5_neitherWouldGo 56 = .ok (.iload_n 3, 1) := by decide +kernel
theorem dX5_neitherWouldGo_57 : decode cX5_neitherWouldGo 57 = .ok (.iaload, 1) := by decide +kernel
theorem dX5_neitherWouldGo_58 : decode cX5_neitherWouldGo 58 = .ok (.if_icmp .le 5, 3) := by decide +kernel
theorem dX5_neitherWouldGo_61 : decode cX5_neitherWouldGo 61 = .ok (.iconst 0, 1) := by decide +kernel
theorem dX5_neitherWouldGo_62 : decode cX5_neitherWouldGo 62 = .ok (.ireturn, 1) := by decide +kernel
theorem dX5_neitherWouldGo_63 : decode cX5_neitherWouldGo 63 = .ok (.iinc 4 1, 3) := by decide +kernel
theorem dX5_neitherWouldGo_66 : decode cX5_neitherWouldGo 66 = .ok (.goto (-56), 3) := by decide +kernel
theorem dX5_neitherWouldGo_69 : decode cX5_neitherWouldGo 69 = .ok (.iconst 1, 1) := by decide +kernel
theorem dX5_neitherWouldGo_70 : decode cX5_neitherWouldGo 70 = .ok (.ireturn, 1) := by decide +kernel
theorem dX5_isAsSeen_0 : decode cX5_isAsSeen 0 = .ok (.iconst 0, 1) := by decide +kernel
theorem dX5_isAsSeen_1 : decode cX5_isAsSeen 1 = .ok (.istore_n 2, 1) := by decide +kernel
theorem dX5_isAsSeen_2 : decode cX5_isAsSeen 2 = .ok (.iload_n 2, 1) := by decide +kernel
theorem dX5_isAsSeen_3 : decode cX5_isAsSeen 3 = .ok (.aload_n 0, 1) := by decide +kernel
theorem dX5_isAsSeen_4 : decode cX5_isAsSeen 4 = .ok (.getfield 106, 3) := by decide +kernel
theorem dX5_isAsSeen_7 : decode cX5_isAsSeen 7 = .ok (.if_icmp .ge 60, 3) := by decide +kernel
theorem dX5_isAsSeen_10 : decode cX5_isAsSeen 10 = .ok (.aload_n 0, 1) := by decide +kernel
theorem dX5_isAsSeen_11 : decode cX5_isAsSeen 11 = .ok (.getfield 53, 3) := by decide +kernel
theorem dX5_isAsSeen_14 : decode cX5_isAsSeen 14 = .ok (.iload_n 2, 1) := by decide +kernel
theorem dX5_isAsSeen_15 : decode cX5_isAsSeen 15 = .ok (.iaload, 1) := by decide +kernel
theorem dX5_isAsSeen_16 : decode cX5_isAsSeen 16 = .ok (.istore_n 3, 1) := by decide +kernel
theorem dX5_isAsSeen_17 : decode cX5_isAsSeen 17 = .ok (.aload_n 1, 1) := by decide +kernel
theorem dX5_isAsSeen_18 : decode cX5_isAsSeen 18 = .ok (.iload_n 3, 1) := by decide +kernel
theorem dX5_isAsSeen_19 : decode cX5_isAsSeen 19 = .ok (.invokevirtual 124, 3) := by decide +kernel
theorem dX5_isAsSeen_22 : decode cX5_isAsSeen 22 = .ok (.ifCond .ne 5, 3) := by decide +kernel
theorem dX5_isAsSeen_25 : decode cX5_isAsSeen 25 = .ok (.iconst 0, 1) := by decide +kernel
theorem dX5_isAsSeen_26 : decode cX5_isAsSeen 26 = .ok (.ireturn, 1) := by decide +kernel
theorem dX5_isAsSeen_27 : decode cX5_isAsSeen 27 = .ok (.aload_n 0, 1) := by decide +kernel
theorem dX5_isAsSeen_28 : decode cX5_isAsSeen 28 = .ok (.getfield 49, 3) := by decide +kernel
theorem dX5_isAsSeen_31 : decode cX5_isAsSeen 31 = .ok (.aload_n 1, 1) := by decide +kernel
theorem dX5_isAsSeen_32 : decode cX5_isAsSeen 32 = .ok (.iload_n 3, 1) := by decide +kernel
theorem dX5_isAsSeen_33 : decode cX5_isAsSeen 33 = .ok (.aload_n 0, 1) := by decide +kernel
theorem dX5_isAsSeen_34 : decode cX5_isAsSeen 34 = .ok (.getfield 57, 3) := by decide +kernel
theorem dX5_isAsSeen_37 : decode cX5_isAsSeen 37 = .ok (.iload_n 2, 1) := by decide +kernel
theorem dX5_isAsSeen_38 : decode cX5_isAsSeen 38 = .ok (.iaload, 1) := by decide +kernel
theorem dX5_isAsSeen_39 : decode cX5_isAsSeen 39 = .ok (.invokevirtual 298, 3) := by decide +kernel
theorem dX5_isAsSeen_42 : decode cX5_isAsSeen 42 = .ok (.aload_n 0, 1) := by decide +kernel
theorem dX5_isAsSeen_43 : decode cX5_isAsSeen 43 = .ok (.getfield 49, 3) := by decide +kernel
theorem dX5_isAsSeen_46 : decode cX5_isAsSeen 46 = .ok (.iload_n 3, 1) := by decide +kernel
theorem dX5_isAsSeen_47 : decode cX5_isAsSeen 47 = .ok (.invokevirtual 181, 3) := by decide +kernel
theorem dX5_isAsSeen_50 : decode cX5_isAsSeen 50 = .ok (.aload_n 0, 1) := by decide +kernel
theorem dX5_isAsSeen_51 : decode cX5_isAsSeen 51 = .ok (.getfield 60, 3) := by decide +kernel
theorem dX5_isAsSeen_54 : decode cX5_isAsSeen 54 = .ok (.iload_n 2, 1) := by decide +kernel
theorem dX5_isAsSeen_55 : decode cX5_isAsSeen 55 = .ok (.iaload, 1) := by decide +kernel
theorem dX5_isAsSeen_56 : decode cX5_isAsSeen 56 = .ok (.if_icmp .eq 5, 3) := by decide +kernel
theorem dX5_isAsSeen_59 : decode cX5_isAsSeen 59 = .ok (.iconst 0, 1) := by decide +kernel
theorem dX5_isAsSeen_60 : decode cX5_isAsSeen 60 = .ok (.ireturn, 1) := by decide +kernel
theorem dX5_isAsSeen_61 : decode cX5_isAsSeen 61 = .ok (.iinc 2 1, 3) := by decide +kernel
theorem dX5_isAsSeen_64 : decode cX5_isAsSeen 64 = .ok (.goto (-62), 3) := by decide +kernel
theorem dX5_isAsSeen_67 : decode cX5_isAsSeen 67 = .ok (.iconst 1, 1) := by decide +kernel
theorem dX5_isAsSeen_68 : decode cX5_isAsSeen 68 = .ok (.ireturn, 1) := by decide +kernel
theorem dX5_kindsAsSeen_0 : decode cX5_kindsAsSeen 0 = .ok (.aload_n 0, 1) := by decide +kernel
theorem dX5_kindsAsSeen_1 : decode cX5_kindsAsSeen 1 = .ok (.getfield 28, 3) := by decide +kernel
theorem dX5_kindsAsSeen_4 : decode cX5_kindsAsSeen 4 = .ok (.aload_n 0, 1) := by decide +kernel
theorem dX5_kindsAsSeen_5 : decode cX5_kindsAsSeen 5 = .ok (.getfield 24, 3) := by decide +kernel
theorem dX5_kindsAsSeen_8 : decode cX5_kindsAsSeen 8 = .ok (.invokevirtual 102, 3) := by decide +kernel
theorem dX5_kindsAsSeen_11 : decode cX5_kindsAsSeen 11 = .ok (.iconst 0, 1) := by decide +kernel
theorem dX5_kindsAsSeen_12 : decode cX5_kindsAsSeen 12 = .ok (.istore_n 2, 1) := by decide +kernel
theorem dX5_kindsAsSeen_13 : decode cX5_kindsAsSeen 13 = .ok (.iconst 0, 1) := by decide +kernel
theorem dX5_kindsAsSeen_14 : decode cX5_kindsAsSeen 14 = .ok (.istore_n 3, 1) := by decide +kernel
theorem dX5_kindsAsSeen_15 : decode cX5_kindsAsSeen 15 = .ok (.iload_n 3, 1) := by decide +kernel
theorem dX5_kindsAsSeen_16 : decode cX5_kindsAsSeen 16 = .ok (.iconst 4, 1) := by decide +kernel
theorem dX5_kindsAsSeen_17 : decode cX5_kindsAsSeen 17 = .ok (.if_icmp .ge 36, 3) := by decide +kernel
theorem dX5_kindsAsSeen_20 : decode cX5_kindsAsSeen 20 = .ok (.aload_n 0, 1) := by decide +kernel
theorem dX5_kindsAsSeen_21 : decode cX5_kindsAsSeen 21 = .ok (.getfield 28, 3) := by decide +kernel
theorem dX5_kindsAsSeen_24 : decode cX5_kindsAsSeen 24 = .ok (.iload_n 1, 1) := by decide +kernel
theorem dX5_kindsAsSeen_25 : decode cX5_kindsAsSeen 25 = .ok (.iconst 0, 1) := by decide +kernel
theorem dX5_kindsAsSeen_26 : decode cX5_kindsAsSeen 26 = .ok (.iload_n 3, 1) := by decide +kernel
theorem dX5_kindsAsSeen_27 : decode cX5_kindsAsSeen 27 = .ok (.invokevirtual 150, 3) := by decide +kernel
theorem dX5_kindsAsSeen_30 : decode cX5_kindsAsSeen 30 = .ok (.aload_n 0, 1) := by decide +kernel
theorem dX5_kindsAsSeen_31 : decode cX5_kindsAsSeen 31 = .ok (.aload_n 0, 1) := by decide +kernel
theorem dX5_kindsAsSeen_32 : decode cX5_kindsAsSeen 32 = .ok (.getfield 28, 3) := by decide +kernel
theorem dX5_kindsAsSeen_35 : decode cX5_kindsAsSeen 35 = .ok (.invokevirtual 252, 3) := by decide +kernel
theorem dX5_kindsAsSeen_38 : decode cX5_kindsAsSeen 38 = .ok (.ifCond .eq 9, 3) := by decide +kernel
theorem dX5_kindsAsSeen_41 : decode cX5_kindsAsSeen 41 = .ok (.iload_n 2, 1) := by decide +kernel
theorem dX5_kindsAsSeen_42 : decode cX5_kindsAsSeen 42 = .ok (.iconst 1, 1) := by decide +kernel
theorem dX5_kindsAsSeen_43 : decode cX5_kindsAsSeen 43 = .ok (.iload_n 3, 1) := by decide +kernel
theorem dX5_kindsAsSeen_44 : decode cX5_kindsAsSeen 44 = .ok (.ishl, 1) := by decide +kernel
theorem dX5_kindsAsSeen_45 : decode cX5_kindsAsSeen 45 = .ok (.ior, 1) := by decide +kernel
theorem dX5_kindsAsSeen_46 : decode cX5_kindsAsSeen 46 = .ok (.istore_n 2, 1) := by decide +kernel
theorem dX5_kindsAsSeen_47 : decode cX5_kindsAsSeen 47 = .ok (.iinc 3 1, 3) := by decide +kernel
theorem dX5_kindsAsSeen_50 : decode cX5_kindsAsSeen 50 = .ok (.goto (-35), 3) := by decide +kernel
theorem dX5_kindsAsSeen_53 : decode cX5_kindsAsSeen 53 = .ok (.iload_n 2, 1) := by decide +kernel
theorem dX5_kindsAsSeen_54 : decode cX5_kindsAsSeen 54 = .ok (.ireturn, 1) := by decide +kernel
theorem dX5_leftAtWorst_0 : decode cX5_leftAtWorst 0 = .ok (.aload_n 0, 1) := by decide +kernel
theorem dX5_leftAtWorst_1 : decode cX5_leftAtWorst 1 = .ok (.getfield 28, 3) := by decide +kernel
theorem dX5_leftAtWorst_4 : decode cX5_leftAtWorst 4 = .ok (.aload_n 0, 1) := by decide +kernel
theorem dX5_leftAtWorst_5 : decode cX5_leftAtWorst 5 = .ok (.getfield 24, 3) := by decide +kernel
theorem dX5_leftAtWorst_8 : decode cX5_leftAtWorst 8 = .ok (.invokevirtual 102, 3) := by decide +kernel
theorem dX5_leftAtWorst_11 : decode cX5_leftAtWorst 11 = .ok (.iconst 0, 1) := by decide +kernel
theorem dX5_leftAtWorst_12 : decode cX5_leftAtWorst 12 = .ok (.istore 4, 2) := by decide +kernel
theorem dX5_leftAtWorst_14 : decode cX5_leftAtWorst 14 = .ok (.iload 4, 2) := by decide +kernel
theorem dX5_leftAtWorst_16 : decode cX5_leftAtWorst 16 = .ok (.iconst 4, 1) := by decide +kernel
theorem dX5_leftAtWorst_17 : decode cX5_leftAtWorst 17 = .ok (.if_icmp .ge 48, 3) := by decide +kernel
theorem dX5_leftAtWorst_20 : decode cX5_leftAtWorst 20 = .ok (.aload_n 0, 1) := by decide +kernel
theorem dX5_leftAtWorst_21 : decode cX5_leftAtWorst 21 = .ok (.getfield 28, 3) := by decide +kernel
theorem dX5_leftAtWorst_24 : decode cX5_leftAtWorst 24 = .ok (.iload_n 1, 1) := by decide +kernel
theorem dX5_leftAtWorst_25 : decode cX5_leftAtWorst 25 = .ok (.iconst 0, 1) := by decide +kernel
theorem dX5_leftAtWorst_26 : decode cX5_leftAtWorst 26 = .ok (.iload 4, 2) := by decide +kernel
theorem dX5_leftAtWorst_28 : decode cX5_leftAtWorst 28 = .ok (.invokevirtual 150, 3) := by decide +kernel
theorem dX5_leftAtWorst_31 : decode cX5_leftAtWorst 31 = .ok (.aload_n 0, 1) := by decide +kernel
theorem dX5_leftAtWorst_32 : decode cX5_leftAtWorst 32 = .ok (.getfield 49, 3) := by decide +kernel
theorem dX5_leftAtWorst_35 : decode cX5_leftAtWorst 35 = .ok (.aload_n 0, 1) := by decide +kernel
theorem dX5_leftAtWorst_36 : decode cX5_leftAtWorst 36 = .ok (.getfield 28, 3) := by decide +kernel
theorem dX5_leftAtWorst_39 : decode cX5_leftAtWorst 39 = .ok (.iload_n 1, 1) := by decide +kernel
theorem dX5_leftAtWorst_40 : decode cX5_leftAtWorst 40 = .ok (.iload_n 3, 1) := by decide +kernel
theorem dX5_leftAtWorst_41 : decode cX5_leftAtWorst 41 = .ok (.invokevirtual 298, 3) := by decide +kernel
theorem dX5_leftAtWorst_44 : decode cX5_leftAtWorst 44 = .ok (.aload_n 0, 1) := by decide +kernel
theorem dX5_leftAtWorst_45 : decode cX5_leftAtWorst 45 = .ok (.getfield 66, 3) := by decide +kernel
theorem dX5_leftAtWorst_48 : decode cX5_leftAtWorst 48 = .ok (.iload 4, 2) := by decide +kernel
theorem dX5_leftAtWorst_50 : decode cX5_leftAtWorst 50 = .ok (.aload_n 0, 1) := by decide +kernel
theorem dX5_leftAtWorst_51 : decode cX5_leftAtWorst 51 = .ok (.getfield 49, 3) := by decide +kernel
theorem dX5_leftAtWorst_54 : decode cX5_leftAtWorst 54 = .ok (.iload_n 1, 1) := by decide +kernel
theorem dX5_leftAtWorst_55 : decode cX5_leftAtWorst 55 = .ok (.invokevirtual 181, 3) := by decide +kernel
theorem dX5_leftAtWorst_58 : decode cX5_leftAtWorst 58 = .ok (.iastore, 1) := by decide +kernel
theorem dX5_leftAtWorst_59 : decode cX5_leftAtWorst 59 = .ok (.iinc 4 1, 3) := by decide +kernel
theorem dX5_leftAtWorst_62 : decode cX5_leftAtWorst 62 = .ok (.goto (-48), 3) := by decide +kernel
theorem dX5_leftAtWorst_65 : decode cX5_leftAtWorst 65 = .ok (.iconst 0, 1) := by decide +kernel
theorem dX5_leftAtWorst_66 : decode cX5_leftAtWorst 66 = .ok (.istore 4, 2) := by decide +kernel
theorem dX5_leftAtWorst_68 : decode cX5_leftAtWorst 68 = .ok (.iconst 0, 1) := by decide +kernel
theorem dX5_leftAtWorst_69 : decode cX5_leftAtWorst 69 = .ok (.istore 5, 2) := by decide +kernel
theorem dX5_leftAtWorst_71 : decode cX5_leftAtWorst 71 = .ok (.iload 5, 2) := by decide +kernel
theorem dX5_leftAtWorst_73 : decode cX5_leftAtWorst 73 = .ok (.iconst 4, 1) := by decide +kernel
theorem dX5_leftAtWorst_74 : decode cX5_leftAtWorst 74 = .ok (.if_icmp .ge 78, 3) := by decide +kernel
theorem dX5_leftAtWorst_77 : decode cX5_leftAtWorst 77 = .ok (.iconst 0, 1) := by decide +kernel
theorem dX5_leftAtWorst_78 : decode cX5_leftAtWorst 78 = .ok (.istore 6, 2) := by decide +kernel
theorem dX5_leftAtWorst_80 : decode cX5_leftAtWorst 80 = .ok (.iconst 0, 1) := by decide +kernel
theorem dX5_leftAtWorst_81 : decode cX5_leftAtWorst 81 = .ok (.istore 7, 2) := by decide +kernel
theorem dX5_leftAtWorst_83 : decode cX5_leftAtWorst 83 = .ok (.iload 7, 2) := by decide +kernel
theorem dX5_leftAtWorst_85 : decode cX5_leftAtWorst 85 = .ok (.iconst 4, 1) := by decide +kernel
theorem dX5_leftAtWorst_86 : decode cX5_leftAtWorst 86 = .ok (.if_icmp .ge 51, 3) := by decide +kernel
theorem dX5_leftAtWorst_89 : decode cX5_leftAtWorst 89 = .ok (.iload_n 2, 1) := by decide +kernel
theorem dX5_leftAtWorst_90 : decode cX5_leftAtWorst 90 = .ok (.iload 7, 2) := by decide +kernel
theorem dX5_leftAtWorst_92 : decode cX5_leftAtWorst 92 = .ok (.ishr, 1) := by decide +kernel
theorem dX5_leftAtWorst_93 : decode cX5_leftAtWorst 93 = .ok (.iconst 1, 1) := by decide +kernel
theorem dX5_leftAtWorst_94 : decode cX5_leftAtWorst 94 = .ok (.iand, 1) := by decide +kernel
theorem dX5_leftAtWorst_95 : decode cX5_leftAtWorst 95 = .ok (.iconst 1, 1) := by decide +kernel
theorem dX5_leftAtWorst_96 : decode cX5_leftAtWorst 96 = .ok (.if_icmp .ne 7, 3) := by decide +kernel
theorem dX5_leftAtWorst_99 : decode cX5_leftAtWorst 99 = .ok (.iconst 1, 1) := by decide +kernel
theorem dX5_leftAtWorst_100 : decode cX5_leftAtWorst 100 = .ok (.goto 4, 3) := by decide +kernel
theorem dX5_leftAtWorst_103 : decode cX5_leftAtWorst 103 = .ok (.iconst 0, 1) := by decide +kernel
theorem dX5_leftAtWorst_104 : decode cX5_leftAtWorst 104 = .ok (.istore 8, 2) := by decide +kernel
theorem dX5_leftAtWorst_106 : decode cX5_leftAtWorst 106 = .ok (.iload 8, 2) := by decide +kernel
theorem dX5_leftAtWorst_108 : decode cX5_leftAtWorst 108 = .ok (.ifCond .eq 23, 3) := by decide +kernel
theorem dX5_leftAtWorst_111 : decode cX5_leftAtWorst 111 = .ok (.aload_n 0, 1) := by decide +kernel
theorem dX5_leftAtWorst_112 : decode cX5_leftAtWorst 112 = .ok (.getfield 66, 3) := by decide +kernel
theorem dX5_leftAtWorst_115 : decode cX5_leftAtWorst 115 = .ok (.iload 7, 2) := by decide +kernel
theorem dX5_leftAtWorst_117 : decode cX5_leftAtWorst 117 = .ok (.iaload, 1) := by decide +kernel
theorem dX5_leftAtWorst_118 : decode cX5_leftAtWorst 118 = .ok (.aload_n 0, 1) := by decide +kernel
theorem dX5_leftAtWorst_119 : decode cX5_leftAtWorst 119 = .ok (.getfield 66, 3) := by decide +kernel
theorem dX5_leftAtWorst_122 : decode cX5_leftAtWorst 122 = .ok (.iload 5, 2) := by decide +kernel
theorem dX5_leftAtWorst_124 : decode cX5_leftAtWorst 124 = .ok (.iaload, 1) := by decide +kernel
theorem dX5_leftAtWorst_125 : decode cX5_leftAtWorst 125 = .ok (.if_icmp .ne 6, 3) := by decide +kernel
theorem dX5_leftAtWorst_128 : decode cX5_leftAtWorst 128 = .ok (.iinc 6 1, 3) := by decide +kernel
theorem dX5_leftAtWorst_131 : decode cX5_leftAtWorst 131 = .ok (.iinc 7 1, 3) := by decide +kernel
theorem dX5_leftAtWorst_134 : decode cX5_leftAtWorst 134 = .ok (.goto (-51), 3) := by decide +kernel
theorem dX5_leftAtWorst_137 : decode cX5_leftAtWorst 137 = .ok (.iload 4, 2) := by decide +kernel
theorem dX5_leftAtWorst_139 : decode cX5_leftAtWorst 139 = .ok (.iload 6, 2) := by decide +kernel
theorem dX5_leftAtWorst_141 : decode cX5_leftAtWorst 141 = .ok (.invokestatic 301, 3) := by decide +kernel
theorem dX5_leftAtWorst_144 : decode cX5_leftAtWorst 144 = .ok (.istore 4, 2) := by decide +kernel
theorem dX5_leftAtWorst_146 : decode cX5_leftAtWorst 146 = .ok (.iinc 5 1, 3) := by decide +kernel
theorem dX5_leftAtWorst_149 : decode cX5_leftAtWorst 149 = .ok (.goto (-78), 3) := by decide +kernel
theorem dX5_leftAtWorst_152 : decode cX5_leftAtWorst 152 = .ok (.iload 4, 2) := by decide +kernel
theorem dX5_leftAtWorst_154 : decode cX5_leftAtWorst 154 = .ok (.ireturn, 1) := by decide +kernel
