theorem dX7_safe_143 : decode cX7_safe 143 = .ok (.aload_n 0, 1) := by decide +kernel
theorem dX7_safe_144 : decode cX7_safe 144 = .ok (.invokevirtual 321, 3) := by decide +kernel
theorem dX7_safe_147 : decode cX7_safe 147 = .ok (.iload 4, 2) := by decide +kernel
theorem dX7_safe_149 : decode cX7_safe 149 = .ok (.ifCond .ne 8, 3) := by decide +kernel
theorem dX7_safe_152 : decode cX7_safe 152 = .ok (.iload 6, 2) := by decide +kernel
theorem dX7_safe_154 : decode cX7_safe 154 = .ok (.goto 5, 3) := by decide +kernel
theorem dX7_safe_157 : decode cX7_safe 157 = .ok (.iload 5, 2) := by decide +kernel
theorem dX7_safe_159 : decode cX7_safe 159 = .ok (.ireturn, 1) := by decide +kernel
theorem dX7_answer_0 : decode cX7_answer 0 = .ok (.aload_n 0, 1) := by decide +kernel
theorem dX7_answer_1 : decode cX7_answer 1 = .ok (.iconst 0, 1) := by decide +kernel
theorem dX7_answer_2 : decode cX7_answer 2 = .ok (.putfield 111, 3) := by decide +kernel
theorem dX7_answer_5 : decode cX7_answer 5 = .ok (.iload_n 1, 1) := by decide +kernel
theorem dX7_answer_6 : decode cX7_answer 6 = .ok (.iload_n 2, 1) := by decide +kernel
theorem dX7_answer_7 : decode cX7_answer 7 = .ok (.iload_n 3, 1) := by decide +kernel
theorem dX7_answer_8 : decode cX7_answer 8 = .ok (.invokestatic 358, 3) := by decide +kernel
theorem dX7_answer_11 : decode cX7_answer 11 = .ok (.ifCond .eq 16, 3) := by decide +kernel
theorem dX7_answer_14 : decode cX7_answer 14 = .ok (.iload 4, 2) := by decide +kernel
theorem dX7_answer_16 : decode cX7_answer 16 = .ok (.i2l, 1) := by decide +kernel
theorem dX7_answer_17 : decode cX7_answer 17 = .ok (.lconst 0, 1) := by decide +kernel
theorem dX7_answer_18 : decode cX7_answer 18 = .ok (.ldc2_w 362, 3) := by decide +kernel
theorem dX7_answer_21 : decode cX7_answer 21 = .ok (.invokestatic 117, 3) := by decide +kernel
theorem dX7_answer_24 : decode cX7_answer 24 = .ok (.ifCond .ne 5, 3) := by decide +kernel
theorem dX7_answer_27 : decode cX7_answer 27 = .ok (.iconst (-1), 1) := by decide +kernel
theorem dX7_answer_28 : decode cX7_answer 28 = .ok (.ireturn, 1) := by decide +kernel
theorem dX7_answer_29 : decode cX7_answer 29 = .ok (.aload_n 0, 1) := by decide +kernel
theorem dX7_answer_30 : decode cX7_answer 30 = .ok (.invokevirtual 315, 3) := by decide +kernel
theorem dX7_answer_33 : decode cX7_answer 33 = .ok (.aload_n 0, 1) := by decide +kernel
theorem dX7_answer_34 : decode cX7_answer 34 = .ok (.invokevirtual 231, 3) := by decide +kernel
theorem dX7_answer_37 : decode cX7_answer 37 = .ok (.iconst 0, 1) := by decide +kernel
theorem dX7_answer_38 : decode cX7_answer 38 = .ok (.istore 5, 2) := by decide +kernel
theorem dX7_answer_40 : decode cX7_answer 40 = .ok (.ldc_w 369, 3) := by decide +kernel
theorem dX7_answer_43 : decode cX7_answer 43 = .ok (.istore 6, 2) := by decide +kernel
theorem dX7_answer_45 : decode cX7_answer 45 = .ok (.iconst 0, 1) := by decide +kernel
theorem dX7_answer_46 : decode cX7_answer 46 = .ok (.istore 7, 2) := by decide +kernel
theorem dX7_answer_48 : decode cX7_answer 48 = .ok (.iload 7, 2) := by decide +kernel
theorem dX7_answer_50 : decode cX7_answer 50 = .ok (.bipush 16, 2) := by decide +kernel
theorem dX7_answer_52 : decode cX7_answer 52 = .ok (.if_icmp .ge 54, 3) := by decide +kernel
theorem dX7_answer_55 : decode cX7_answer 55 = .ok (.aload_n 0, 1) := by decide +kernel
theorem dX7_answer_56 : decode cX7_answer 56 = .ok (.iload_n 1, 1) := by decide +kernel
theorem dX7_answer_57 : decode cX7_answer 57 = .ok (.iload_n 2, 1) := by decide +kernel
theorem dX7_answer_58 : decode cX7_answer 58 = .ok (.iload_n 3, 1) := by decide +kernel
theorem dX7_answer_59 : decode cX7_answer 59 = .ok (.iload 4, 2) := by decide +kernel
theorem dX7_answer_61 : decode cX7_answer 61 = .ok (.iload 7, 2) := by decide +kernel
theorem dX7_answer_63 : decode cX7_answer 63 = .ok (.invokevirtual 364, 3) := by decide +kernel
theorem dX7_answer_66 : decode cX7_answer 66 = .ok (.istore 8, 2) := by decide +kernel
theorem dX7_answer_68 : decode cX7_answer 68 = .ok (.iload 8, 2) := by decide +kernel
theorem dX7_answer_70 : decode cX7_answer 70 = .ok (.iload 6, 2) := by decide +kernel
theorem dX7_answer_72 : decode cX7_answer 72 = .ok (.if_icmp .ge 8, 3) := by decide +kernel
theorem dX7_answer_75 : decode cX7_answer 75 = .ok (.iload 7, 2) := by decide +kernel
theorem dX7_answer_77 : decode cX7_answer 77 = .ok (.goto 5, 3) := by decide +kernel
theorem dX7_answer_80 : decode cX7_answer 80 = .ok (.iload 5, 2) := by decide +kernel
theorem dX7_answer_82 : decode cX7_answer 82 = .ok (.istore 5, 2) := by decide +kernel
theorem dX7_answer_84 : decode cX7_answer 84 = .ok (.iload 8, 2) := by decide +kernel
theorem dX7_answer_86 : decode cX7_answer 86 = .ok (.iload 6, 2) := by decide +kernel
theorem dX7_answer_88 : decode cX7_answer 88 = .ok (.if_icmp .ge 8, 3) := by decide +kernel
theorem dX7_answer_91 : decode cX7_answer 91 = .ok (.iload 8, 2) := by decide +kernel
theorem dX7_answer_93 : decode cX7_answer 93 = .ok (.goto 5, 3) := by decide +kernel
theorem dX7_answer_96 : decode cX7_answer 96 = .ok (.iload 6, 2) := by decide +kernel
theorem dX7_answer_98 : decode cX7_answer 98 = .ok (.istore 6, 2) := by decide +kernel
theorem dX7_answer_100 : decode cX7_answer 100 = .ok (.iinc 7 1, 3) := by decide +kernel
theorem dX7_answer_103 : decode cX7_answer 103 = .ok (.goto (-55), 3) := by decide +kernel
theorem dX7_answer_106 : decode cX7_answer 106 = .ok (.aload_n 0, 1) := by decide +kernel
theorem dX7_answer_107 : decode cX7_answer 107 = .ok (.invokevirtual 321, 3) := by decide +kernel
theorem dX7_answer_110 : decode cX7_answer 110 = .ok (.iload 5, 2) := by decide +kernel
theorem dX7_answer_112 : decode cX7_answer 112 = .ok (.ireturn, 1) := by decide +kernel
theorem dX7_cover_0 : decode cX7_cover 0 = .ok (.aload_n 0, 1) := by decide +kernel
theorem dX7_cover_1 : decode cX7_cover 1 = .ok (.iload_n 1, 1) := by decide +kernel
theorem dX7_cover_2 : decode cX7_cover 2 = .ok (.iload_n 2, 1) := by decide +kernel
theorem dX7_cover_3 : decode cX7_cover 3 = .ok (.iload_n 3, 1) := by decide +kernel
theorem dX7_cover_4 : decode cX7_cover 4 = .ok (.iload 4, 2) := by decide +kernel
theorem dX7_cover_6 : decode cX7_cover 6 = .ok (.iload 4, 2) := by decide +kernel
theorem dX7_cover_8 : decode cX7_cover 8 = .ok (.invokevirtual 370, 3) := by decide +kernel
theorem dX7_cover_11 : decode cX7_cover 11 = .ok (.ireturn, 1) := by decide +kernel
theorem dX7_which_0 : decode cX7_which 0 = .ok (.aload_n 0, 1) := by decide +kernel
theorem dX7_which_1 : decode cX7_which 1 = .ok (.iconst 0, 1) := by decide +kernel
theorem dX7_which_2 : decode cX7_which 2 = .ok (.putfield 111, 3) := by decide +kernel
theorem dX7_which_5 : decode cX7_which 5 = .ok (.aload_n 0, 1) := by decide +kernel
theorem dX7_which_6 : decode cX7_which 6 = .ok (.iload_n 1, 1) := by decide +kernel
theorem dX7_which_7 : decode cX7_which 7 = .ok (.invokevirtual 373, 3) := by decide +kernel
theorem dX7_which_10 : decode cX7_which 10 = .ok (.istore_n 2, 1) := by decide +kernel
theorem dX7_which_11 : decode cX7_which 11 = .ok (.iload_n 2, 1) := by decide +kernel
theorem dX7_which_12 : decode cX7_which 12 = .ok (.ifCond .ge 5, 3) := by decide +kernel
theorem dX7_which_15 : decode cX7_which 15 = .ok (.iload_n 2, 1) := by decide +kernel
theorem dX7_which_16 : decode cX7_which 16 = .ok (.ireturn, 1) := by decide +kernel
theorem dX7_which_17 : decode cX7_which 17 = .ok (.iconst 0, 1) := by decide +kernel
theorem dX7_which_18 : decode cX7_which 18 = .ok (.istore_n 3, 1) := by decide +kernel
theorem dX7_which_19 : decode cX7_which 19 = .ok (.iconst 0, 1) := by decide +kernel
theorem dX7_which_20 : decode cX7_which 20 = .ok (.istore 4, 2) := by decide +kernel
theorem dX7_which_22 : decode cX7_which 22 = .ok (.iconst 0, 1) := by decide +kernel
theorem dX7_which_23 : decode cX7_which 23 = .ok (.istore 5, 2) := by decide +kernel
theorem dX7_which_25 : decode cX7_which 25 = .ok (.iconst 1, 1) := by decide +kernel
theorem dX7_which_26 : decode cX7_which 26 = .ok (.istore 6, 2) := by decide +kernel
theorem dX7_which_28 : decode cX7_which 28 = .ok (.iload 6, 2) := by decide +kernel
theorem dX7_which_30 : decode cX7_which 30 = .ok (.aload_n 0, 1) := by decide +kernel
theorem dX7_which_31 : decode cX7_which 31 = .ok (.getfield 101, 3) := by decide +kernel
theorem dX7_which_34 : decode cX7_which 34 = .ok (.iload_n 1, 1) := by decide +kernel
theorem dX7_which_35 : decode cX7_which 35 = .ok (.iaload, 1) := by decide +kernel
theorem dX7_which_36 : decode cX7_which 36 = .ok (.if_icmp .ge 117, 3) := by decide +kernel
theorem dX7_which_39 : decode cX7_which 39 = .ok (.aload_n 0, 1) := by decide +kernel
theorem dX7_which_40 : decode cX7_which 40 = .ok (.getfield 104, 3) := by decide +kernel
theorem dX7_which_43 : decode cX7_which 43 = .ok (.bipush 100, 2) := by decide +kernel
theorem dX7_which_45 : decode cX7_which 45 = .ok (.iload_n 1, 1) := by decide +kernel
theorem dX7_which_46 : decode cX7_which 46 = .ok (.imul, 1) := by decide +kernel
theorem dX7_which_47 : decode cX7_which 47 = .ok (.iload 6, 2) := by decide +kernel
theorem dX7_which_49 : decode cX7_which 49 = .ok (.iadd, 1) := by decide +kernel
theorem dX7_which_50 : decode cX7_which 50 = .ok (.iconst 1, 1) := by decide +kernel
theorem dX7_which_51 : decode cX7_which 51 = .ok (.isub, 1) := by decide +kernel
theorem dX7_which_52 : decode cX7_which 52 = .ok (.laload, 1) := by decide +kernel
theorem dX7_which_53 : decode cX7_which 53 = .ok (.lstore 7, 2) := by decide +kernel
theorem dX7_which_55 : decode cX7_which 55 = .ok (.aload_n 0, 1) := by decide +kernel
theorem dX7_which_56 : decode cX7_which 56 = .ok (.getfield 104, 3) := by decide +kernel
theorem dX7_which_59 : decode cX7_which 59 = .ok (.bipush 100, 2) := by decide +kernel
theorem dX7_which_61 : decode cX7_which 61 = .ok (.iload_n 1, 1) := by decide +kernel
theorem dX7_which_62 : decode cX7_which 62 = .ok (.imul, 1) := by decide +kernel
theorem dX7_which_63 : decode cX7_which 63 = .ok (.iload 6, 2) := by decide +kernel
theorem dX7_which_65 : decode cX7_which 65 = .ok (.iadd, 1) := by decide +kernel
theorem dX7_which_66 : decode cX7_which 66 = .ok (.laload, 1) := by decide +kernel
theorem dX7_which_67 : decode cX7_which 67 = .ok (.lstore 9, 2) := by decide +kernel
theorem dX7_which_69 : decode cX7_which 69 = .ok (.lload 9, 2) := by decide +kernel
theorem dX7_which_71 : decode cX7_which 71 = .ok (.lload 7, 2) := by decide +kernel
theorem dX7_which_73 : decode cX7_which 73 = .ok (.lcmp, 1) := by decide +kernel
theorem dX7_which_74 : decode cX7_which 74 = .ok (.ifCond .le 7, 3) := by decide +kernel
theorem dX7_which_77 : decode cX7_which 77 = .ok (.iconst 1, 1) := by decide +kernel
theorem dX7_which_78 : decode cX7_which 78 = .ok (.goto 17, 3) := by decide +kernel
theorem dX7_which_81 : decode cX7_which 81 = .ok (.lload 9, 2) := by decide +kernel
theorem dX7_which_83 : decode cX7_which 83 = .ok (.lload 7, 2) := by decide +kernel
theorem dX7_which_85 : decode cX7_which 85 = .ok (.lcmp, 1) := by decide +kernel
theorem dX7_which_86 : decode cX7_which 86 = .ok (.ifCond .ge 7, 3) := by decide +kernel
theorem dX7_which_89 : decode cX7_which 89 = .ok (.iconst (-1), 1) := by decide +kernel
theorem dX7_which_90 : decode cX7_which 90 = .ok (.goto 5, 3) := by decide +kernel
theorem dX7_which_93 : decode cX7_which 93 = .ok (.iload 5, 2) := by decide +kernel
theorem dX7_which_95 : decode cX7_which 95 = .ok (.istore 11, 2) := by decide +kernel
theorem dX7_which_97 : decode cX7_which 97 = .ok (.iload_n 3, 1) := by decide +kernel
theorem dX7_which_98 : decode cX7_which 98 = .ok (.lload 7, 2) := by decide +kernel
theorem dX7_which_100 : decode cX7_which 100 = .ok (.lload 9, 2) := by decide +kernel
theorem dX7_which_102 : decode cX7_which 102 = .ok (.lcmp, 1) := by decide +kernel
theorem dX7_which_103 : decode cX7_which 103 = .ok (.ifCond .eq 7, 3) := by decide +kernel
theorem dX7_which_106 : decode cX7_which 106 = .ok (.iconst 1, 1) := by decide +kernel
theorem dX7_which_107 : decode cX7_which 107 = .ok (.goto 4, 3) := by decide +kernel
theorem dX7_which_110 : decode cX7_which 110 = .ok (.iconst 0, 1) := by decide +kernel
theorem dX7_which_111 : decode cX7_which 111 = .ok (.iadd, 1) := by decide +kernel
theorem dX7_which_112 : decode cX7_which 112 = .ok (.istore_n 3, 1) := by decide +kernel
theorem dX7_which_113 : decode cX7_which 113 = .ok (.iload 4, 2) := by decide +kernel
theorem dX7_which_115 : decode cX7_which 115 = .ok (.lload 7, 2) := by decide +kernel
theorem dX7_which_117 : decode cX7_which 117 = .ok (.lload 9, 2) := by decide +kernel
theorem dX7_which_119 : decode cX7_which 119 = .ok (.lcmp, 1) := by decide +kernel
theorem dX7_which_120 : decode cX7_which 120 = .ok (.ifCond .eq 19, 3) := by decide +kernel
theorem dX7_which_123 : decode cX7_which 123 = .ok (.iload 5, 2) := by decide +kernel
theorem dX7_which_125 : decode cX7_which 125 = .ok (.ifCond .eq 14, 3) := by decide +kernel
theorem dX7_which_128 : decode cX7_which 128 = .ok (.iload 11, 2) := by decide +kernel
theorem dX7_which_130 : decode cX7_which 130 = .ok (.iload 5, 2) := by decide +kernel
theorem dX7_which_132 : decode cX7_which 132 = .ok (.if_icmp .eq 7, 3) := by decide +kernel
theorem dX7_which_135 : decode cX7_which 135 = .ok (.iconst 1, 1) := by decide +kernel
theorem dX7_which_136 : decode cX7_which 136 = .ok (.goto 4, 3) := by decide +kernel
theorem dX7_which_139 : decode cX7_which 139 = .ok (.iconst 0, 1) := by decide +kernel
theorem dX7_which_140 : decode cX7_which 140 = .ok (.iadd, 1) := by decide +kernel
theorem dX7_which_141 : decode cX7_which 141 = .ok (.istore 4, 2) := by decide +kernel
theorem dX7_which_143 : decode cX7_which 143 = .ok (.iload 11, 2) := by decide +kernel
theorem dX7_which_145 : decode cX7_which 145 = .ok (.istore 5, 2) := by decide +kernel
theorem dX7_which_147 : decode cX7_which 147 = .ok (.iinc 6 1, 3) := by decide +kernel
theorem dX7_which_150 : decode cX7_which 150 = .ok (.goto (-122), 3) := by decide +kernel
theorem dX7_which_153 : decode cX7_which 153 = .ok (.iload_n 3, 1) := by decide +kernel
theorem dX7_which_154 : decode cX7_which 154 = .ok (.iconst 3, 1) := by decide +kernel
theorem dX7_which_155 : decode cX7_which 155 = .ok (.if_icmp .ge 7, 3) := by decide +kernel
theorem dX7_which_158 : decode cX7_which 158 = .ok (.iconst 0, 1) := by decide +kernel
theorem dX7_which_159 : decode cX7_which 159 = .ok (.goto 16, 3) := by decide +kernel
theorem dX7_which_162 : decode cX7_which 162 = .ok (.iconst 3, 1) := by decide +kernel
theorem dX7_which_163 : decode cX7_which 163 = .ok (.iload 4, 2) := by decide +kernel
theorem dX7_which_165 : decode cX7_which 165 = .ok (.imul, 1) := by decide +kernel
theorem dX7_which_166 : decode cX7_which 166 = .ok (.iload_n 3, 1) := by decide +kernel
theorem dX7_which_167 : decode cX7_which 167 = .ok (.if_icmp .lt 7, 3) := by decide +kernel
theorem dX7_which_170 : decode cX7_which 170 = .ok (.iconst 1, 1) := by decide +kernel
theorem dX7_which_171 : decode cX7_which 171 = .ok (.goto 4, 3) := by decide +kernel
theorem dX7_which_174 : decode cX7_which 174 = .ok (.iconst 2, 1) := by decide +kernel
theorem dX7_which_175 : decode cX7_which 175 = .ok (.ireturn, 1) := by decide +kernel
theorem dX7_skippedIn_0 : decode cX7_skippedIn 0 = .ok (.aload_n 0, 1) := by decide +kernel
theorem dX7_skippedIn_1 : decode cX7_skippedIn 1 = .ok (.getfield 98, 3) := by decide +kernel
theorem dX7_skippedIn_4 : decode cX7_skippedIn 4 = .ok (.iload_n 1, 1) := by decide +kernel
theorem dX7_skippedIn_5 : decode cX7_skippedIn 5 = .ok (.iaload, 1) := by decide +kernel
theorem dX7_skippedIn_6 : decode cX7_skippedIn 6 = .ok (.ifCond .ne 9, 3) := by decide +kernel
theorem dX7_skippedIn_9 : decode cX7_skippedIn 9 = .ok (.ldc2_w 376, 3) := by decide +kernel
theorem dX7_skippedIn_12 : decode cX7_skippedIn 12 = .ok (.goto 22, 3) := by decide +kernel
theorem dX7_skippedIn_15 : decode cX7_skippedIn 15 = .ok (.aload_n 0, 1) := by decide +kernel
theorem dX7_skippedIn_16 : decode cX7_skippedIn 16 = .ok (.getfield 98, 3) := by decide +kernel
theorem dX7_skippedIn_19 : decode cX7_skippedIn 19 = .ok (.iload_n 1, 1) := by decide +kernel
theorem dX7_skippedIn_20 : decode cX7_skippedIn 20 = .ok (.iaload, 1) := by decide +kernel
theorem dX7_skippedIn_21 : decode cX7_skippedIn 21 = .ok (.iconst 1, 1) := by decide +kernel
theorem dX7_skippedIn_22 : decode cX7_skippedIn 22 = .ok (.if_icmp .ne 9, 3) := by decide +kernel
theorem dX7_skippedIn_25 : decode cX7_skippedIn 25 = .ok (.ldc2_w 378, 3) := by decide +kernel
theorem dX7_skippedIn_28 : decode cX7_skippedIn 28 = .ok (.goto 6, 3) := by decide +kernel
theorem dX7_skippedIn_31 : decode cX7_skippedIn 31 = .ok (.ldc2_w 380, 3) := by decide +kernel
theorem dX7_skippedIn_34 : decode cX7_skippedIn 34 = .ok (.lreturn, 1) := by decide +kernel
theorem dX7_read_0 : decode cX7_read 0 = .ok (.aload_n 0, 1) := by decide +kernel
theorem dX7_read_1 : decode cX7_read 1 = .ok (.iconst 0, 1) := by decide +kernel
theorem dX7_read_2 : decode cX7_read 2 = .ok (.putfield 111, 3) := by decide +kernel
theorem dX7_read_5 : decode cX7_read 5 = .ok (.aload_n 0, 1) := by decide +kernel
theorem dX7_read_6 : decode cX7_read 6 = .ok (.iload_n 1, 1) := by decide +kernel
theorem dX7_read_7 : decode cX7_read 7 = .ok (.invokevirtual 307, 3) := by decide +kernel
theorem dX7_read_10 : decode cX7_read 10 = .ok (.ifCond .eq 11, 3) := by decide +kernel
theorem dX7_read_13 : decode cX7_read 13 = .ok (.aload_n 0, 1) := by decide +kernel
theorem dX7_read_14 : decode cX7_read 14 = .ok (.iload_n 2, 1) := by decide +kernel
theorem dX7_read_15 : decode cX7_read 15 = .ok (.invokevirtual 373, 3) := by decide +kernel
theorem dX7_read_18 : decode cX7_read 18 = .ok (.goto 4, 3) := by decide +kernel
theorem dX7_read_21 : decode cX7_read 21 = .ok (.iconst (-1), 1) := by decide +kernel
theorem dX7_read_22 : decode cX7_read 22 = .ok (.istore_n 3, 1) := by decide +kernel
theorem dX7_read_23 : decode cX7_read 23 = .ok (.iload_n 3, 1) := by decide +kernel
theorem dX7_read_24 : decode cX7_read 24 = .ok (.ifCond .ge 5, 3) := by decide +kernel
theorem dX7_read_27 : decode cX7_read 27 = .ok (.iload_n 3, 1) := by decide +kernel
theorem dX7_read_28 : decode cX7_read 28 = .ok (.ireturn, 1) := by decide +kernel
theorem dX7_read_29 : decode cX7_read 29 = .ok (.aload_n 0, 1) := by decide +kernel
theorem dX7_read_30 : decode cX7_read 30 = .ok (.invokevirtual 315, 3) := by decide +kernel
theorem dX7_read_33 : decode cX7_read 33 = .ok (.aload_n 0, 1) := by decide +kernel
theorem dX7_read_34 : decode cX7_read 34 = .ok (.invokevirtual 231, 3) := by decide +kernel
theorem dX7_read_37 : decode cX7_read 37 = .ok (.bipush (-4), 2) := by decide +kernel
theorem dX7_read_39 : decode cX7_read 39 = .ok (.istore 4, 2) := by decide +kernel
theorem dX7_read_41 : decode cX7_read 41 = .ok (.iconst 0, 1) := by decide +kernel
theorem dX7_read_42 : decode cX7_read 42 = .ok (.istore 5, 2) := by decide +kernel
theorem dX7_read_44 : decode cX7_read 44 = .ok (.iload 5, 2) := by decide +kernel
theorem dX7_read_46 : decode cX7_read 46 = .ok (.aload_n 0, 1) := by decide +kernel
theorem dX7_read_47 : decode cX7_read 47 = .ok (.getfield 101, 3) := by decide +kernel
theorem dX7_read_50 : decode cX7_read 50 = .ok (.iload_n 2, 1) := by decide +kernel
theorem dX7_read_51 : decode cX7_read 51 = .ok (.iaload, 1) := by decide +kernel
theorem dX7_read_52 : decode cX7_read 52 = .ok (.if_icmp .ge 72, 3) := by decide +kernel
theorem dX7_read_55 : decode cX7_read 55 = .ok (.iload 4, 2) := by decide +kernel
theorem dX7_read_57 : decode cX7_read 57 = .ok (.ifCond .ge 67, 3) := by decide +kernel
theorem dX7_read_60 : decode cX7_read 60 = .ok (.aload_n 0, 1) := by decide +kernel
theorem dX7_read_61 : decode cX7_read 61 = .ok (.invokevirtual 234, 3) := by decide +kernel
theorem dX7_read_64 : decode cX7_read 64 = .ok (.ifCond .ne 7, 3) := by decide +kernel
theorem dX7_read_67 : decode cX7_read 67 = .ok (.aload_n 0, 1) := by decide +kernel
theorem dX7_read_68 : decode cX7_read 68 = .ok (.invokevirtual 238, 3) := by decide +kernel
theorem dX7_read_71 : decode cX7_read 71 = .ok (.aload_n 0, 1) := by decide +kernel
theorem dX7_read_72 : decode cX7_read 72 = .ok (.getfield 104, 3) := by decide +kernel
theorem dX7_read_75 : decode cX7_read 75 = .ok (.bipush 100, 2) := by decide +kernel
theorem dX7_read_77 : decode cX7_read 77 = .ok (.iload_n 2, 1) := by decide +kernel
theorem dX7_read_78 : decode cX7_read 78 = .ok (.imul, 1) := by decide +kernel
theorem dX7_read_79 : decode cX7_read 79 = .ok (.iload 5, 2) := by decide +kernel
theorem dX7_read_81 : decode cX7_read 81 = .ok (.iadd, 1) := by decide +kernel
theorem dX7_read_82 : decode cX7_read 82 = .ok (.laload, 1) := by decide +kernel
theorem dX7_read_83 : decode cX7_read 83 = .ok (.lstore 6, 2) := by decide +kernel
theorem dX7_read_85 : decode cX7_read 85 = .ok (.lload 6, 2) := by decide +kernel
theorem dX7_read_87 : decode cX7_read 87 = .ok (.aload_n 0, 1) := by decide +kernel
theorem dX7_read_88 : decode cX7_read 88 = .ok (.iload_n 2, 1) := by decide +kernel
theorem dX7_read_89 : decode cX7_read 89 = .ok (.invokevirtual 382, 3) := by decide +kernel
theorem dX7_read_92 : decode cX7_read 92 = .ok (.lcmp, 1) := by decide +kernel
theorem dX7_read_93 : decode cX7_read 93 = .ok (.ifCond .eq 21, 3) := by decide +kernel
theorem dX7_read_96 : decode cX7_read 96 = .ok (.lload 6, 2) := by decide +kernel
theorem dX7_read_98 : decode cX7_read 98 = .ok (.aload_n 0, 1) := by decide +kernel
theorem dX7_read_99 : decode cX7_read 99 = .ok (.getfield 38, 3) := by decide +kernel
theorem dX7_read_102 : decode cX7_read 102 = .ok (.iload_n 1, 1) := by decide +kernel
theorem dX7_read_103 : decode cX7_read 103 = .ok (.iaload, 1) := by decide +kernel
theorem dX7_read_104 : decode cX7_read 104 = .ok (.i2l, 1) := by decide +kernel
theorem dX7_read_105 : decode cX7_read 105 = .ok (.lcmp, 1) := by decide +kernel
theorem dX7_read_106 : decode cX7_read 106 = .ok (.ifCond .eq 8, 3) := by decide +kernel
theorem dX7_read_109 : decode cX7_read 109 = .ok (.iload 5, 2) := by decide +kernel
theorem dX7_read_111 : decode cX7_read 111 = .ok (.goto 5, 3) := by decide +kernel
theorem dX7_read_114 : decode cX7_read 114 = .ok (.bipush (-4), 2) := by decide +kernel
theorem dX7_read_116 : decode cX7_read 116 = .ok (.istore 4, 2) := by decide +kernel
theorem dX7_read_118 : decode cX7_read 118 = .ok (.iinc 5 1, 3) := by decide +kernel
theorem dX7_read_121 : decode cX7_read 121 = .ok (.goto (-77), 3) := by decide +kernel
theorem dX7_read_124 : decode cX7_read 124 = .ok (.aload_n 0, 1) := by decide +kernel
theorem dX7_read_125 : decode cX7_read 125 = .ok (.invokevirtual 321, 3) := by decide +kernel
theorem dX7_read_128 : decode cX7_read 128 = .ok (.iload 4, 2) := by decide +kernel
theorem dX7_read_130 : decode cX7_read 130 = .ok (.ireturn, 1) := by decide +kernel
theorem dX7_worth_0 : decode cX7_worth 0 = .ok (.aload_n 0, 1) := by decide +kernel
theorem dX7_worth_1 : decode cX7_worth 1 = .ok (.iconst 0, 1) := by decide +kernel
theorem dX7_worth_2 : decode cX7_worth 2 = .ok (.putfield 111, 3) := by decide +kernel
theorem dX7_worth_5 : decode cX7_worth 5 = .ok (.iload_n 1, 1) := by decide +kernel
theorem dX7_worth_6 : decode cX7_worth 6 = .ok (.i2l, 1) := by decide +kernel
theorem dX7_worth_7 : decode cX7_worth 7 = .ok (.lconst 0, 1) := by decide +kernel
theorem dX7_worth_8 : decode cX7_worth 8 = .ok (.ldc2_w 310, 3) := by decide +kernel
theorem dX7_worth_11 : decode cX7_worth 11 = .ok (.invokestatic 117, 3) := by decide +kernel
theorem dX7_worth_14 : decode cX7_worth 14 = .ok (.ifCond .eq 15, 3) := by decide +kernel
theorem dX7_worth_17 : decode cX7_worth 17 = .ok (.iload_n 2, 1) := by decide +kernel
theorem dX7_worth_18 : decode cX7_worth 18 = .ok (.i2l, 1) := by decide +kernel
theorem dX7_worth_19 : decode cX7_worth 19 = .ok (.lconst 1, 1) := by decide +kernel
theorem dX7_worth_20 : decode cX7_worth 20 = .ok (.ldc2_w 165, 3) := by decide +kernel
theorem dX7_worth_23 : decode cX7_worth 23 = .ok (.invokestatic 117, 3) := by decide +kernel
theorem dX7_worth_26 : decode cX7_worth 26 = .ok (.ifCond .ne 5, 3) := by decide +kernel
theorem dX7_worth_29 : decode cX7_worth 29 = .ok (.iconst (-1), 1) := by decide +kernel
theorem dX7_worth_30 : decode cX7_worth 30 = .ok (.ireturn, 1) := by decide +kernel
theorem dX7_worth_31 : decode cX7_worth 31 = .ok (.aload_n 0, 1) := by decide +kernel
theorem dX7_worth_32 : decode cX7_worth 32 = .ok (.getfield 114, 3) := by decide +kernel
theorem dX7_worth_35 : decode cX7_worth 35 = .ok (.iconst 2, 1) := by decide +kernel
theorem dX7_worth_36 : decode cX7_worth 36 = .ok (.if_icmp .ge 6, 3) := by decide +kernel
theorem dX7_worth_39 : decode cX7_worth 39 = .ok (.bipush (-3), 2) := by decide +kernel
theorem dX7_worth_41 : decode cX7_worth 41 = .ok (.ireturn, 1) := by decide +kernel
theorem dX7_worth_42 : decode cX7_worth 42 = .ok (.iconst 0, 1) := by decide +kernel
theorem dX7_worth_43 : decode cX7_worth 43 = .ok (.istore_n 3, 1) := by decide +kernel
theorem dX7_worth_44 : decode cX7_worth 44 = .ok (.aload_n 0, 1) := by decide +kernel
theorem dX7_worth_45 : decode cX7_worth 45 = .ok (.invokevirtual 315, 3) := by decide +kernel
theorem dX7_worth_48 : decode cX7_worth 48 = .ok (.iconst 0, 1) := by decide +kernel
theorem dX7_worth_49 : decode cX7_worth 49 = .ok (.istore 4, 2) := by decide +kernel
theorem dX7_worth_51 : decode cX7_worth 51 = .ok (.iload 4, 2) := by decide +kernel
theorem dX7_worth_53 : decode cX7_worth 53 = .ok (.iload_n 2, 1) := by decide +kernel
theorem dX7_worth_54 : decode cX7_worth 54 = .ok (.if_icmp .ge 100, 3) := by decide +kernel
theorem dX7_worth_57 : decode cX7_worth 57 = .ok (.aload_n 0, 1) := by decide +kernel
theorem dX7_worth_58 : decode cX7_worth 58 = .ok (.invokevirtual 321, 3) := by decide +kernel
theorem dX7_worth_61 : decode cX7_worth 61 = .ok (.aload_n 0, 1) := by decide +kernel
theorem dX7_worth_62 : decode cX7_worth 62 = .ok (.iload 4, 2) := by decide +kernel
theorem dX7_worth_64 : decode cX7_worth 64 = .ok (.putfield 158, 3) := by decide +kernel
theorem dX7_worth_67 : decode cX7_worth 67 = .ok (.aload_n 0, 1) := by decide +kernel
theorem dX7_worth_68 : decode cX7_worth 68 = .ok (.getfield 38, 3) := by decide +kernel
theorem dX7_worth_71 : decode cX7_worth 71 = .ok (.iconst 0, 1) := by decide +kernel
theorem dX7_worth_72 : decode cX7_worth 72 = .ok (.iaload, 1) := by decide +kernel
theorem dX7_worth_73 : decode cX7_worth 73 = .ok (.iload_n 1, 1) := by decide +kernel
theorem dX7_worth_74 : decode cX7_worth 74 = .ok (.iadd, 1) := by decide +kernel
theorem dX7_worth_75 : decode cX7_worth 75 = .ok (.aload_n 0, 1) := by decide +kernel
theorem dX7_worth_76 : decode cX7_worth 76 = .ok (.getfield 7, 3) := by decide +kernel
theorem dX7_worth_79 : decode cX7_worth 79 = .ok (.if_icmp .le 10, 3) := by decide +kernel
theorem dX7_worth_82 : decode cX7_worth 82 = .ok (.aload_n 0, 1) := by decide +kernel
theorem dX7_worth_83 : decode cX7_worth 83 = .ok (.getfield 7, 3) := by decide +kernel
theorem dX7_worth_86 : decode cX7_worth 86 = .ok (.goto 11, 3) := by decide +kernel
theorem dX7_worth_89 : decode cX7_worth 89 = .ok (.aload_n 0, 1) := by decide +kernel
theorem dX7_worth_90 : decode cX7_worth 90 = .ok (.getfield 38, 3) := by decide +kernel
theorem dX7_worth_93 : decode cX7_worth 93 = .ok (.iconst 0, 1) := by decide +kernel
theorem dX7_worth_94 : decode cX7_worth 94 = .ok (.iaload, 1) := by decide +kernel
theorem dX7_worth_95 : decode cX7_worth 95 = .ok (.iload_n 1, 1) := by decide +kernel
theorem dX7_worth_96 : decode cX7_worth 96 = .ok (.iadd, 1) := by decide +kernel
theorem dX7_worth_97 : decode cX7_worth 97 = .ok (.istore 5, 2) := by decide +kernel
theorem dX7_worth_99 : decode cX7_worth 99 = .ok (.aload_n 0, 1) := by decide +kernel
theorem dX7_worth_100 : decode cX7_worth 100 = .ok (.getfield 38, 3) := by decide +kernel
theorem dX7_worth_103 : decode cX7_worth 103 = .ok (.iconst 0, 1) := by decide +kernel
theorem dX7_worth_104 : decode cX7_worth 104 = .ok (.iload 5, 2) := by decide +kernel
theorem dX7_worth_106 : decode cX7_worth 106 = .ok (.aload_n 0, 1) := by decide +kernel
theorem dX7_worth_107 : decode cX7_worth 107 = .ok (.getfield 38, 3) := by decide +kernel
theorem dX7_worth_110 : decode cX7_worth 110 = .ok (.iconst 0, 1) := by decide +kernel
theorem dX7_worth_111 : decode cX7_worth 111 = .ok (.iaload, 1) := by decide +kernel
theorem dX7_worth_112 : decode cX7_worth 112 = .ok (.if_icmp .le 8, 3) := by decide +kernel
theorem dX7_worth_115 : decode cX7_worth 115 = .ok (.iload 5, 2) := by decide +kernel
theorem dX7_worth_117 : decode cX7_worth 117 = .ok (.goto 9, 3) := by decide +kernel
theorem dX7_worth_120 : decode cX7_worth 120 = .ok (.aload_n 0, 1) := by decide +kernel
theorem dX7_worth_121 : decode cX7_worth 121 = .ok (.getfield 38, 3) := by decide +kernel
theorem dX7_worth_124 : decode cX7_worth 124 = .ok (.iconst 0, 1) := by decide +kernel
theorem dX7_worth_125 : decode cX7_worth 125 = .ok (.iaload, 1) := by decide +kernel
theorem dX7_worth_126 : decode cX7_worth 126 = .ok (.iastore, 1) := by decide +kernel
theorem dX7_worth_127 : decode cX7_worth 127 = .ok (.aload_n 0, 1) := by decide +kernel
theorem dX7_worth_128 : decode cX7_worth 128 = .ok (.invokevirtual 318, 3) := by decide +kernel
theorem dX7_worth_131 : decode cX7_worth 131 = .ok (.iload_n 3, 1) := by decide +kernel
theorem dX7_worth_132 : decode cX7_worth 132 = .ok (.aload_n 0, 1) := by decide +kernel
theorem dX7_worth_133 : decode cX7_worth 133 = .ok (.iconst 0, 1) := by decide +kernel
theorem dX7_worth_134 : decode cX7_worth 134 = .ok (.iconst 1, 1) := by decide +kernel
theorem dX7_worth_135 : decode cX7_worth 135 = .ok (.invokevirtual 244, 3) := by decide +kernel
theorem dX7_worth_138 : decode cX7_worth 138 = .ok (.ifCond .eq 7, 3) := by decide +kernel
theorem dX7_worth_141 : decode cX7_worth 141 = .ok (.iconst 1, 1) := by decide +kernel
theorem dX7_worth_142 : decode cX7_worth 142 = .ok (.goto 4, 3) := by decide +kernel
theorem dX7_worth_145 : decode cX7_worth 145 = .ok (.iconst 0, 1) := by decide +kernel
theorem dX7_worth_146 : decode cX7_worth 146 = .ok (.iadd, 1) := by decide +kernel
theorem dX7_worth_147 : decode cX7_worth 147 = .ok (.istore_n 3, 1) := by decide +kernel
theorem dX7_worth_148 : decode cX7_worth 148 = .ok (.iinc 4 1, 3) := by decide +kernel
theorem dX7_worth_151 : decode cX7_worth 151 = .ok (.goto (-100), 3) := by decide +kernel
theorem dX7_worth_154 : decode cX7_worth 154 = .ok (.aload_n 0, 1) := by decide +kernel
theorem dX7_worth_155 : decode cX7_worth 155 = .ok (.invokevirtual 321, 3) := by decide +kernel
theorem dX7_worth_158 : decode cX7_worth 158 = .ok (.iload_n 3, 1) := by decide +kernel
theorem dX7_worth_159 : decode cX7_worth 159 = .ok (.ireturn, 1) := by decide +kernel
theorem dX7_pairs_0 : decode cX7_pairs 0 = .ok (.aload_n 0, 1) := by decide +kernel
theorem dX7_pairs_1 : decode cX7_pairs 1 = .ok (.iconst 0, 1) := by decide +kernel
theorem dX7_pairs_2 : decode cX7_pairs 2 = .ok (.putfield 111, 3) := by decide +kernel
theorem dX7_pairs_5 : decode cX7_pairs 5 = .ok (.aload_n 0, 1) := by decide +kernel
theorem dX7_pairs_6 : decode cX7_pairs 6 = .ok (.getfield 114, 3) := by decide +kernel
theorem dX7_pairs_9 : decode cX7_pairs 9 = .ok (.iconst 4, 1) := by decide +kernel
theorem dX7_pairs_10 : decode cX7_pairs 10 = .ok (.if_icmp .ge 6, 3) := by decide +kernel
theorem dX7_pairs_13 : decode cX7_pairs 13 = .ok (.bipush (-3), 2) := by decide +kernel
theorem dX7_pairs_15 : decode cX7_pairs 15 = .ok (.ireturn, 1) := by decide +kernel
theorem dX7_pairs_16 : decode cX7_pairs 16 = .ok (.aload_n 0, 1) := by decide +kernel
theorem dX7_pairs_17 : decode cX7_pairs 17 = .ok (.invokevirtual 315, 3) := by decide +kernel
theorem dX7_pairs_20 : decode cX7_pairs 20 = .ok (.aload_n 0, 1) := by decide +kernel
theorem dX7_pairs_21 : decode cX7_pairs 21 = .ok (.invokevirtual 318, 3) := by decide +kernel
theorem dX7_pairs_24 : decode cX7_pairs 24 = .ok (.aload_n 0, 1) := by decide +kernel
theorem dX7_pairs_25 : decode cX7_pairs 25 = .ok (.iconst 0, 1) := by decide +kernel
theorem dX7_pairs_26 : decode cX7_pairs 26 = .ok (.invokevirtual 312, 3) := by decide +kernel
theorem dX7_pairs_29 : decode cX7_pairs 29 = .ok (.aload_n 0, 1) := by decide +kernel
theorem dX7_pairs_30 : decode cX7_pairs 30 = .ok (.iconst 1, 1) := by decide +kernel
theorem dX7_pairs_31 : decode cX7_pairs 31 = .ok (.invokevirtual 312, 3) := by decide +kernel
theorem dX7_pairs_34 : decode cX7_pairs 34 = .ok (.iadd, 1) := by decide +kernel
theorem dX7_pairs_35 : decode cX7_pairs 35 = .ok (.istore_n 1, 1) := by decide +kernel
theorem dX7_pairs_36 : decode cX7_pairs 36 = .ok (.aload_n 0, 1) := by decide +kernel
theorem dX7_pairs_37 : decode cX7_pairs 37 = .ok (.invokevirtual 321, 3) := by decide +kernel
theorem dX7_pairs_40 : decode cX7_pairs 40 = .ok (.iload_n 1, 1) := by decide +kernel
theorem dX7_pairs_41 : decode cX7_pairs 41 = .ok (.ireturn, 1) := by decide +kernel
theorem dX7_count_0 : decode cX7_count 0 = .ok (.aload_n 0, 1) := by decide +kernel
theorem dX7_count_1 : decode cX7_count 1 = .ok (.iconst 0, 1) := by decide +kernel
theorem dX7_count_2 : decode cX7_count 2 = .ok (.putfield 111, 3) := by decide +kernel
theorem dX7_count_5 : decode cX7_count 5 = .ok (.iconst 0, 1) := by decide +kernel
theorem dX7_count_6 : decode cX7_count 6 = .ok (.istore_n 2, 1) := by decide +kernel
theorem dX7_count_7 : decode cX7_count 7 = .ok (.iconst 0, 1) := by decide +kernel
theorem dX7_count_8 : decode cX7_count 8 = .ok (.istore_n 3, 1) := by decide +kernel
theorem dX7_count_9 : decode cX7_count 9 = .ok (.iconst 0, 1) := by decide +kernel
theorem dX7_count_10 : decode cX7_count 10 = .ok (.istore 4, 2) := by decide +kernel
theorem dX7_count_12 : decode cX7_count 12 = .ok (.iconst 0, 1) := by decide +kernel
theorem dX7_count_13 : decode cX7_count 13 = .ok (.istore 5, 2) := by decide +kernel
theorem dX7_count_15 : decode cX7_count 15 = .ok (.iload 5, 2) := by decide +kernel
theorem dX7_count_17 : decode cX7_count 17 = .ok (.aload_n 0, 1) := by decide +kernel
theorem dX7_count_18 : decode cX7_count 18 = .ok (.getfield 114, 3) := by decide +kernel
theorem dX7_count_21 : decode cX7_count 21 = .ok (.if_icmp .ge 55, 3) := by decide +kernel
theorem dX7_count_24 : decode cX7_count 24 = .ok (.iload_n 2, 1) := by decide +kernel
theorem dX7_count_25 : decode cX7_count 25 = .ok (.aload_n 0, 1) := by decide +kernel
theorem dX7_count_26 : decode cX7_count 26 = .ok (.iload 5, 2) := by decide +kernel
theorem dX7_count_28 : decode cX7_count 28 = .ok (.invokevirtual 171, 3) := by decide +kernel
theorem dX7_count_31 : decode cX7_count 31 = .ok (.ifCond .eq 7, 3) := by decide +kernel
theorem dX7_count_34 : decode cX7_count 34 = .ok (.iconst 1, 1) := by decide +kernel
theorem dX7_count_35 : decode cX7_count 35 = .ok (.goto 4, 3) := by decide +kernel
theorem dX7_count_38 : decode cX7_count 38 = .ok (.iconst 0, 1) := by decide +kernel
theorem dX7_count_39 : decode cX7_count 39 = .ok (.iadd, 1) := by decide +kernel
theorem dX7_count_40 : decode cX7_count 40 = .ok (.istore_n 2, 1) := by decide +kernel
theorem dX7_count_41 : decode cX7_count 41 = .ok (.iload_n 3, 1) := by decide +kernel
theorem dX7_count_42 : decode cX7_count 42 = .ok (.aload_n 0, 1) := by decide +kernel
theorem dX7_count_43 : decode cX7_count 43 = .ok (.getfield 50, 3) := by decide +kernel
theorem dX7_count_46 : decode cX7_count 46 = .ok (.iload 5, 2) := by decide +kernel
theorem dX7_count_48 : decode cX7_count 48 = .ok (.iaload, 1) := by decide +kernel
theorem dX7_count_49 : decode cX7_count 49 = .ok (.iadd, 1) := by decide +kernel
theorem dX7_count_50 : decode cX7_count 50 = .ok (.istore_n 3, 1) := by decide +kernel
theorem dX7_count_51 : decode cX7_count 51 = .ok (.iload 4, 2) := by decide +kernel
theorem dX7_count_53 : decode cX7_count 53 = .ok (.aload_n 0, 1) := by decide +kernel
theorem dX7_count_54 : decode cX7_count 54 = .ok (.iload 5, 2) := by decide +kernel
theorem dX7_count_56 : decode cX7_count 56 = .ok (.invokevirtual 191, 3) := by decide +kernel
theorem dX7_count_59 : decode cX7_count 59 = .ok (.ifCond .eq 7, 3) := by decide +kernel
theorem dX7_count_62 : decode cX7_count 62 = .ok (.iconst 1, 1) := by decide +kernel
theorem dX7_count_63 : decode cX7_count 63 = .ok (.goto 4, 3) := by decide +kernel
theorem dX7_count_66 : decode cX7_count 66 = .ok (.iconst 0, 1) := by decide +kernel
theorem dX7_count_67 : decode cX7_count 67 = .ok (.iadd, 1) := by decide +kernel
theorem dX7_count_68 : decode cX7_count 68 = .ok (.istore 4, 2) := by decide +kernel
theorem dX7_count_70 : decode cX7_count 70 = .ok (.iinc 5 1, 3) := by decide +kernel
theorem dX7_count_73 : decode cX7_count 73 = .ok (.goto (-58), 3) := by decide +kernel
theorem dX7_count_76 : decode cX7_count 76 = .ok (.iload_n 1, 1) := by decide +kernel
theorem dX7_count_77 : decode cX7_count 77 = .ok (.tableswitch 61 0 5 #[39, 44, 49, 51, 53, 56], 39) := by decide +kernel
theorem dX7_count_116 : decode cX7_count 116 = .ok (.aload_n 0, 1) := by decide +kernel
theorem dX7_count_117 : decode cX7_count 117 = .ok (.getfield 114, 3) := by decide +kernel
theorem dX7_count_120 : decode cX7_count 120 = .ok (.ireturn, 1) := by decide +kernel
theorem dX7_count_121 : decode cX7_count 121 = .ok (.aload_n 0, 1) := by decide +kernel
theorem dX7_count_122 : decode cX7_count 122 = .ok (.getfield 188, 3) := by decide +kernel
theorem dX7_count_125 : decode cX7_count 125 = .ok (.ireturn, 1) := by decide +kernel
theorem dX7_count_126 : decode cX7_count 126 = .ok (.iload_n 2, 1) := by decide +kernel
theorem dX7_count_127 : decode cX7_count 127 = .ok (.ireturn, 1) := by decide +kernel
theorem dX7_count_128 : decode cX7_count 128 = .ok (.iload_n 3, 1) := by decide +kernel
theorem dX7_count_129 : decode cX7_count 129 = .ok (.ireturn, 1) := by decide +kernel
theorem dX7_count_130 : decode cX7_count 130 = .ok (.iload 4, 2) := by decide +kernel
theorem dX7_count_132 : decode cX7_count 132 = .ok (.ireturn, 1) := by decide +kernel
theorem dX7_count_133 : decode cX7_count 133 = .ok (.aload_n 0, 1) := by decide +kernel
theorem dX7_count_134 : decode cX7_count 134 = .ok (.getfield 7, 3) := by decide +kernel
theorem dX7_count_137 : decode cX7_count 137 = .ok (.ireturn, 1) := by decide +kernel
theorem dX7_count_138 : decode cX7_count 138 = .ok (.iconst (-1), 1) := by decide +kernel
theorem dX7_count_139 : decode cX7_count 139 = .ok (.ireturn, 1) := by decide +kernel
theorem dX7_wrongSort_0 : decode cX7_wrongSort 0 = .ok (.aload_n 0, 1) := by decide +kernel
theorem dX7_wrongSort_1 : decode cX7_wrongSort 1 = .ok (.iload_n 1, 1) := by decide +kernel
theorem dX7_wrongSort_2 : decode cX7_wrongSort 2 = .ok (.invokevirtual 373, 3) := by decide +kernel
theorem dX7_wrongSort_5 : decode cX7_wrongSort 5 = .ok (.ifCond .ge 11, 3) := by decide +kernel
theorem dX7_wrongSort_8 : decode cX7_wrongSort 8 = .ok (.aload_n 0, 1) := by decide +kernel
theorem dX7_wrongSort_9 : decode cX7_wrongSort 9 = .ok (.iload_n 1, 1) := by decide +kernel
theorem dX7_wrongSort_10 : decode cX7_wrongSort 10 = .ok (.invokevirtual 373, 3) := by decide +kernel
theorem dX7_wrongSort_13 : decode cX7_wrongSort 13 = .ok (.goto 19, 3) := by decide +kernel
theorem dX7_wrongSort_16 : decode cX7_wrongSort 16 = .ok (.aload_n 0, 1) := by decide +kernel
theorem dX7_wrongSort_17 : decode cX7_wrongSort 17 = .ok (.getfield 98, 3) := by decide +kernel
theorem dX7_wrongSort_20 : decode cX7_wrongSort 20 = .ok (.iload_n 1, 1) := by decide +kernel
theorem dX7_wrongSort_21 : decode cX7_wrongSort 21 = .ok (.iaload, 1) := by decide +kernel
theorem dX7_wrongSort_22 : decode cX7_wrongSort 22 = .ok (.iload_n 2, 1) := by decide +kernel
theorem dX7_wrongSort_23 : decode cX7_wrongSort 23 = .ok (.if_icmp .eq 8, 3) := by decide +kernel
theorem dX7_wrongSort_26 : decode cX7_wrongSort 26 = .ok (.bipush (-12), 2) := by decide +kernel
theorem dX7_wrongSort_28 : decode cX7_wrongSort 28 = .ok (.goto 4, 3) := by decide +kernel
theorem dX7_wrongSort_31 : decode cX7_wrongSort 31 = .ok (.iconst 0, 1) := by decide +kernel
theorem dX7_wrongSort_32 : decode cX7_wrongSort 32 = .ok (.ireturn, 1) := by decide +kernel
theorem dX7_wrongSailor_0 : decode cX7_wrongSailor 0 = .ok (.iload_n 1, 1) := by decide +kernel
theorem dX7_wrongSailor_1 : decode cX7_wrongSailor 1 = .ok (.i2l, 1) := by decide +kernel
theorem dX7_wrongSailor_2 : decode cX7_wrongSailor 2 = .ok (.lconst 0, 1) := by decide +kernel
theorem dX7_wrongSailor_3 : decode cX7_wrongSailor 3 = .ok (.ldc2_w 297, 3) := by decide +kernel
theorem dX7_wrongSailor_6 : decode cX7_wrongSailor 6 = .ok (.invokestatic 117, 3) := by decide +kernel
theorem dX7_wrongSailor_9 : decode cX7_wrongSailor 9 = .ok (.ifCond .ne 7, 3) := by decide +kernel
theorem dX7_wrongSailor_12 : decode cX7_wrongSailor 12 = .ok (.iconst (-1), 1) := by decide +kernel
theorem dX7_wrongSailor_13 : decode cX7_wrongSailor 13 = .ok (.goto 33, 3) := by decide +kernel
theorem dX7_wrongSailor_16 : decode cX7_wrongSailor 16 = .ok (.aload_n 0, 1) := by decide +kernel
theorem dX7_wrongSailor_17 : decode cX7_wrongSailor 17 = .ok (.getfield 86, 3) := by decide +kernel
theorem dX7_wrongSailor_20 : decode cX7_wrongSailor 20 = .ok (.iload_n 1, 1) := by decide +kernel
theorem dX7_wrongSailor_21 : decode cX7_wrongSailor 21 = .ok (.iaload, 1) := by decide +kernel
theorem dX7_wrongSailor_22 : decode cX7_wrongSailor 22 = .ok (.ifCond .ne 8, 3) := by decide +kernel
theorem dX7_wrongSailor_25 : decode cX7_wrongSailor 25 = .ok (.bipush (-11), 2) := by decide +kernel
theorem dX7_wrongSailor_27 : decode cX7_wrongSailor 27 = .ok (.goto 19, 3) := by decide +kernel
theorem dX7_wrongSailor_30 : decode cX7_wrongSailor 30 = .ok (.aload_n 0, 1) := by decide +kernel
theorem dX7_wrongSailor_31 : decode cX7_wrongSailor 31 = .ok (.getfield 86, 3) := by decide +kernel
theorem dX7_wrongSailor_34 : decode cX7_wrongSailor 34 = .ok (.iload_n 1, 1) := by decide +kernel
theorem dX7_wrongSailor_35 : decode cX7_wrongSailor 35 = .ok (.iaload, 1) := by decide +kernel
theorem dX7_wrongSailor_36 : decode cX7_wrongSailor 36 = .ok (.iconst 1, 1) := by decide +kernel
theorem dX7_wrongSailor_37 : decode cX7_wrongSailor 37 = .ok (.if_icmp .eq 8, 3) := by decide +kernel
theorem dX7_wrongSailor_40 : decode cX7_wrongSailor 40 = .ok (.bipush (-12), 2) := by decide +kernel
theorem dX7_wrongSailor_42 : decode cX7_wrongSailor 42 = .ok (.goto 4, 3) := by decide +kernel
theorem dX7_wrongSailor_45 : decode cX7_wrongSailor 45 = .ok (.iconst 0, 1) := by decide +kernel
theorem dX7_wrongSailor_46 : decode cX7_wrongSailor 46 = .ok (.ireturn, 1) := by decide +kernel
theorem dX7_keep_0 : decode cX7_keep 0 = .ok (.aload_n 0, 1) := by decide +kernel
theorem dX7_keep_1 : decode cX7_keep 1 = .ok (.iconst 0, 1) := by decide +kernel
theorem dX7_keep_2 : decode cX7_keep 2 = .ok (.putfield 111, 3) := by decide +kernel
theorem dX7_keep_5 : decode cX7_keep 5 = .ok (.iload_n 1, 1) := by decide +kernel
theorem dX7_keep_6 : decode cX7_keep 6 = .ok (.i2l, 1) := by decide +kernel
theorem dX7_keep_7 : decode cX7_keep 7 = .ok (.lconst 0, 1) := by decide +kernel
theorem dX7_keep_8 : decode cX7_keep 8 = .ok (.ldc2_w 297, 3) := by decide +kernel
theorem dX7_keep_11 : decode cX7_keep 11 = .ok (.invokestatic 117, 3) := by decide +kernel
theorem dX7_keep_14 : decode cX7_keep 14 = .ok (.ifCond .eq 26, 3) := by decide +kernel
theorem dX7_keep_17 : decode cX7_keep 17 = .ok (.iload_n 2, 1) := by decide +kernel
theorem dX7_keep_18 : decode cX7_keep 18 = .ok (.i2l, 1) := by decide +kernel
theorem dX7_keep_19 : decode cX7_keep 19 = .ok (.lconst 0, 1) := by decide +kernel
theorem dX7_keep_20 : decode cX7_keep 20 = .ok (.lconst 1, 1) := by decide +kernel
theorem dX7_keep_21 : decode cX7_keep 21 = .ok (.invokestatic 117, 3) := by decide +kernel
theorem dX7_keep_24 : decode cX7_keep 24 = .ok (.ifCond .eq 16, 3) := by decide +kernel
theorem dX7_keep_27 : decode cX7_keep 27 = .ok (.iload_n 2, 1) := by decide +kernel
theorem dX7_keep_28 : decode cX7_keep 28 = .ok (.iconst 1, 1) := by decide +kernel
theorem dX7_keep_29 : decode cX7_keep 29 = .ok (.if_icmp .ne 13, 3) := by decide +kernel
theorem dX7_keep_32 : decode cX7_keep 32 = .ok (.aload_n 0, 1) := by decide +kernel
theorem dX7_keep_33 : decode cX7_keep 33 = .ok (.iload_n 3, 1) := by decide +kernel
theorem dX7_keep_34 : decode cX7_keep 34 = .ok (.invokevirtual 307, 3) := by decide +kernel
theorem dX7_keep_37 : decode cX7_keep 37 = .ok (.ifCond .ne 5, 3) := by decide +kernel
theorem dX7_keep_40 : decode cX7_keep 40 = .ok (.iconst (-1), 1) := by decide +kernel
theorem dX7_keep_41 : decode cX7_keep 41 = .ok (.ireturn, 1) := by decide +kernel
theorem dX7_keep_42 : decode cX7_keep 42 = .ok (.aload_n 0, 1) := by decide +kernel
theorem dX7_keep_43 : decode cX7_keep 43 = .ok (.getfield 86, 3) := by decide +kernel
theorem dX7_keep_46 : decode cX7_keep 46 = .ok (.iload_n 1, 1) := by decide +kernel
theorem dX7_keep_47 : decode cX7_keep 47 = .ok (.iload_n 2, 1) := by decide +kernel
theorem dX7_keep_48 : decode cX7_keep 48 = .ok (.iastore, 1) := by decide +kernel
theorem dX7_keep_49 : decode cX7_keep 49 = .ok (.aload_n 0, 1) := by decide +kernel
theorem dX7_keep_50 : decode cX7_keep 50 = .ok (.getfield 89, 3) := by decide +kernel
theorem dX7_keep_53 : decode cX7_keep 53 = .ok (.iload_n 1, 1) := by decide +kernel
theorem dX7_keep_54 : decode cX7_keep 54 = .ok (.iload_n 2, 1) := by decide +kernel
theorem dX7_keep_55 : decode cX7_keep 55 = .ok (.iconst 1, 1) := by decide +kernel
theorem dX7_keep_56 : decode cX7_keep 56 = .ok (.if_icmp .ne 12, 3) := by decide +kernel
theorem dX7_keep_59 : decode cX7_keep 59 = .ok (.aload_n 0, 1) := by decide +kernel
theorem dX7_keep_60 : decode cX7_keep 60 = .ok (.getfield 23, 3) := by decide +kernel
theorem dX7_keep_63 : decode cX7_keep 63 = .ok (.iload_n 3, 1) := by decide +kernel
theorem dX7_keep_64 : decode cX7_keep 64 = .ok (.iaload, 1) := by decide +kernel
theorem dX7_keep_65 : decode cX7_keep 65 = .ok (.goto 4, 3) := by decide +kernel
theorem dX7_keep_68 : decode cX7_keep 68 = .ok (.iconst 0, 1) := by decide +kernel
theorem dX7_keep_69 : decode cX7_keep 69 = .ok (.iastore, 1) := by decide +kernel
theorem dX7_keep_70 : decode cX7_keep 70 = .ok (.aload_n 0, 1) := by decide +kernel
theorem dX7_keep_71 : decode cX7_keep 71 = .ok (.getfield 92, 3) := by decide +kernel
theorem dX7_keep_74 : decode cX7_keep 74 = .ok (.iload_n 1, 1) := by decide +kernel
theorem dX7_keep_75 : decode cX7_keep 75 = .ok (.iload_n 2, 1) := by decide +kernel
theorem dX7_keep_76 : decode cX7_keep 76 = .ok (.iconst 1, 1) := by decide +kernel
theorem dX7_keep_77 : decode cX7_keep 77 = .ok (.if_icmp .ne 12, 3) := by decide +kernel
theorem dX7_keep_80 : decode cX7_keep 80 = .ok (.aload_n 0, 1) := by decide +kernel
theorem dX7_keep_81 : decode cX7_keep 81 = .ok (.getfield 32, 3) := by decide +kernel
theorem dX7_keep_84 : decode cX7_keep 84 = .ok (.iload_n 3, 1) := by decide +kernel
theorem dX7_keep_85 : decode cX7_keep 85 = .ok (.iaload, 1) := by decide +kernel
theorem dX7_keep_86 : decode cX7_keep 86 = .ok (.goto 4, 3) := by decide +kernel
theorem dX7_keep_89 : decode cX7_keep 89 = .ok (.iconst 0, 1) := by decide +kernel
theorem dX7_keep_90 : decode cX7_keep 90 = .ok (.iastore, 1) := by decide +kernel
theorem dX7_keep_91 : decode cX7_keep 91 = .ok (.aload_n 0, 1) := by decide +kernel
theorem dX7_keep_92 : decode cX7_keep 92 = .ok (.getfield 95, 3) := by decide +kernel
theorem dX7_keep_95 : decode cX7_keep 95 = .ok (.iload_n 1, 1) := by decide +kernel
theorem dX7_keep_96 : decode cX7_keep 96 = .ok (.iload_n 2, 1) := by decide +kernel
theorem dX7_keep_97 : decode cX7_keep 97 = .ok (.iconst 1, 1) := by decide +kernel
theorem dX7_keep_98 : decode cX7_keep 98 = .ok (.if_icmp .ne 7, 3) := by decide +kernel
theorem dX7_keep_101 : decode cX7_keep 101 = .ok (.iload_n 3, 1) := by decide +kernel
theorem dX7_keep_102 : decode cX7_keep 102 = .ok (.goto 4, 3) := by decide +kernel
theorem dX7_keep_105 : decode cX7_keep 105 = .ok (.iconst 0, 1) := by decide +kernel
theorem dX7_keep_106 : decode cX7_keep 106 = .ok (.iastore, 1) := by decide +kernel
theorem dX7_keep_107 : decode cX7_keep 107 = .ok (.iconst 0, 1) := by decide +kernel
theorem dX7_keep_108 : decode cX7_keep 108 = .ok (.ireturn, 1) := by decide +kernel
theorem dX7_wrongRow_0 : decode cX7_wrongRow 0 = .ok (.iload_n 1, 1) := by decide +kernel
theorem dX7_wrongRow_1 : decode cX7_wrongRow 1 = .ok (.i2l, 1) := by decide +kernel
theorem dX7_wrongRow_2 : decode cX7_wrongRow 2 = .ok (.lconst 0, 1) := by decide +kernel
theorem dX7_wrongRow_3 : decode cX7_wrongRow 3 = .ok (.ldc2_w 297, 3) := by decide +kernel
theorem dX7_wrongRow_6 : decode cX7_wrongRow 6 = .ok (.invokestatic 117, 3) := by decide +kernel
theorem dX7_wrongRow_9 : decode cX7_wrongRow 9 = .ok (.ifCond .ne 7, 3) := by decide +kernel
theorem dX7_wrongRow_12 : decode cX7_wrongRow 12 = .ok (.iconst (-1), 1) := by decide +kernel
theorem dX7_wrongRow_13 : decode cX7_wrongRow 13 = .ok (.goto 33, 3) := by decide +kernel
theorem dX7_wrongRow_16 : decode cX7_wrongRow 16 = .ok (.aload_n 0, 1) := by decide +kernel
theorem dX7_wrongRow_17 : decode cX7_wrongRow 17 = .ok (.getfield 86, 3) := by decide +kernel
theorem dX7_wrongRow_20 : decode cX7_wrongRow 20 = .ok (.iload_n 1, 1) := by decide +kernel
theorem dX7_wrongRow_21 : decode cX7_wrongRow 21 = .ok (.iaload, 1) := by decide +kernel
theorem dX7_wrongRow_22 : decode cX7_wrongRow 22 = .ok (.ifCond .ne 8, 3) := by decide +kernel
theorem dX7_wrongRow_25 : decode cX7_wrongRow 25 = .ok (.bipush (-11), 2) := by decide +kernel
theorem dX7_wrongRow_27 : decode cX7_wrongRow 27 = .ok (.goto 19, 3) := by decide +kernel
theorem dX7_wrongRow_30 : decode cX7_wrongRow 30 = .ok (.aload_n 0, 1) := by decide +kernel
theorem dX7_wrongRow_31 : decode cX7_wrongRow 31 = .ok (.getfield 86, 3) := by decide +kernel
theorem dX7_wrongRow_34 : decode cX7_wrongRow 34 = .ok (.iload_n 1, 1) := by decide +kernel
theorem dX7_wrongRow_35 : decode cX7_wrongRow 35 = .ok (.iaload, 1) := by decide +kernel
theorem dX7_wrongRow_36 : decode cX7_wrongRow 36 = .ok (.iconst 2, 1) := by decide +kernel
theorem dX7_wrongRow_37 : decode cX7_wrongRow 37 = .ok (.if_icmp .eq 8, 3) := by decide +kernel
theorem dX7_wrongRow_40 : decode cX7_wrongRow 40 = .ok (.bipush (-12), 2) := by decide +kernel
theorem dX7_wrongRow_42 : decode cX7_wrongRow 42 = .ok (.goto 4, 3) := by decide +kernel
theorem dX7_wrongRow_45 : decode cX7_wrongRow 45 = .ok (.iconst 0, 1) := by decide +kernel
theorem dX7_wrongRow_46 : decode cX7_wrongRow 46 = .ok (.ireturn, 1) := by decide +kernel
theorem dX7_narrowed_0 : decode cX7_narrowed 0 = .ok (.iload_n 1, 1) := by decide +kernel
theorem dX7_narrowed_1 : decode cX7_narrowed 1 = .ok (.ifCond .ne 9, 3) := by decide +kernel
theorem dX7_narrowed_4 : decode cX7_narrowed 4 = .ok (.iload_n 0, 1) := by decide +kernel
theorem dX7_narrowed_5 : decode cX7_narrowed 5 = .ok (.i2b, 1) := by decide +kernel
theorem dX7_narrowed_6 : decode cX7_narrowed 6 = .ok (.i2l, 1) := by decide +kernel
theorem dX7_narrowed_7 : decode cX7_narrowed 7 = .ok (.goto 16, 3) := by decide +kernel
theorem dX7_narrowed_10 : decode cX7_narrowed 10 = .ok (.iload_n 1, 1) := by decide +kernel
theorem dX7_narrowed_11 : decode cX7_narrowed 11 = .ok (.iconst 1, 1) := by decide +kernel
theorem dX7_narrowed_12 : decode cX7_narrowed 12 = .ok (.if_icmp .ne 9, 3) := by decide +kernel
theorem dX7_narrowed_15 : decode cX7_narrowed 15 = .ok (.iload_n 0, 1) := by decide +kernel
theorem dX7_narrowed_16 : decode cX7_narrowed 16 = .ok (.i2s, 1) := by decide +kernel
theorem dX7_narrowed_17 : decode cX7_narrowed 17 = .ok (.i2l, 1) := by decide +kernel
theorem dX7_narrowed_18 : decode cX7_narrowed 18 = .ok (.goto 5, 3) := by decide +kernel
theorem dX7_narrowed_21 : decode cX7_narrowed 21 = .ok (.iload_n 0, 1) := by decide +kernel
theorem dX7_narrowed_22 : decode cX7_narrowed 22 = .ok (.i2l, 1) := by decide +kernel
theorem dX7_narrowed_23 : decode cX7_narrowed 23 = .ok (.lreturn, 1) := by decide +kernel
theorem dX7_row_0 : decode cX7_row 0 = .ok (.aload_n 0, 1) := by decide +kernel
theorem dX7_row_1 : decode cX7_row 1 = .ok (.iconst 0, 1) := by decide +kernel
theorem dX7_row_2 : decode cX7_row 2 = .ok (.putfield 111, 3) := by decide +kernel
theorem dX7_row_5 : decode cX7_row 5 = .ok (.iload_n 1, 1) := by decide +kernel
theorem dX7_row_6 : decode cX7_row 6 = .ok (.i2l, 1) := by decide +kernel
theorem dX7_row_7 : decode cX7_row 7 = .ok (.lconst 0, 1) := by decide +kernel
theorem dX7_row_8 : decode cX7_row 8 = .ok (.ldc2_w 297, 3) := by decide +kernel
theorem dX7_row_11 : decode cX7_row 11 = .ok (.invokestatic 117, 3) := by decide +kernel
theorem dX7_row_14 : decode cX7_row 14 = .ok (.ifCond .eq 21, 3) := by decide +kernel
theorem dX7_row_17 : decode cX7_row 17 = .ok (.iload_n 2, 1) := by decide +kernel
theorem dX7_row_18 : decode cX7_row 18 = .ok (.i2l, 1) := by decide +kernel
theorem dX7_row_19 : decode cX7_row 19 = .ok (.lconst 0, 1) := by decide +kernel
theorem dX7_row_20 : decode cX7_row 20 = .ok (.ldc2_w 386, 3) := by decide +kernel
theorem dX7_row_23 : decode cX7_row 23 = .ok (.invokestatic 117, 3) := by decide +kernel
theorem dX7_row_26 : decode cX7_row 26 = .ok (.ifCond .eq 9, 3) := by decide +kernel
theorem dX7_row_29 : decode cX7_row 29 = .ok (.iload_n 3, 1) := by decide +kernel
theorem dX7_row_30 : decode cX7_row 30 = .ok (.bipush 100, 2) := by decide +kernel
theorem dX7_row_32 : decode cX7_row 32 = .ok (.if_icmp .le 5, 3) := by decide +kernel
theorem dX7_row_35 : decode cX7_row 35 = .ok (.iconst (-1), 1) := by decide +kernel
theorem dX7_row_36 : decode cX7_row 36 = .ok (.ireturn, 1) := by decide +kernel
theorem dX7_row_37 : decode cX7_row 37 = .ok (.iload_n 3, 1) := by decide +kernel
theorem dX7_row_38 : decode cX7_row 38 = .ok (.ifCond .ge 6, 3) := by decide +kernel
theorem dX7_row_41 : decode cX7_row 41 = .ok (.bipush (-14), 2) := by decide +kernel
theorem dX7_row_43 : decode cX7_row 43 = .ok (.ireturn, 1) := by decide +kernel
theorem dX7_row_44 : decode cX7_row 44 = .ok (.aload_n 0, 1) := by decide +kernel
theorem dX7_row_45 : decode cX7_row 45 = .ok (.getfield 86, 3) := by decide +kernel
theorem dX7_row_48 : decode cX7_row 48 = .ok (.iload_n 1, 1) := by decide +kernel
theorem dX7_row_49 : decode cX7_row 49 = .ok (.iconst 2, 1) := by decide +kernel
theorem dX7_row_50 : decode cX7_row 50 = .ok (.iastore, 1) := by decide +kernel
theorem dX7_row_51 : decode cX7_row 51 = .ok (.aload_n 0, 1) := by decide +kernel
theorem dX7_row_52 : decode cX7_row 52 = .ok (.getfield 98, 3) := by decide +kernel
theorem dX7_row_55 : decode cX7_row 55 = .ok (.iload_n 1, 1) := by decide +kernel
theorem dX7_row_56 : decode cX7_row 56 = .ok (.iload_n 2, 1) := by decide +kernel
theorem dX7_row_57 : decode cX7_row 57 = .ok (.iastore, 1) := by decide +kernel
theorem dX7_row_58 : decode cX7_row 58 = .ok (.aload_n 0, 1) := by decide +kernel
theorem dX7_row_59 : decode cX7_row 59 = .ok (.getfield 101, 3) := by decide +kernel
theorem dX7_row_62 : decode cX7_row 62 = .ok (.iload_n 1, 1) := by decide +kernel
theorem dX7_row_63 : decode cX7_row 63 = .ok (.iload_n 3, 1) := by decide +kernel
theorem dX7_row_64 : decode cX7_row 64 = .ok (.iastore, 1) := by decide +kernel
theorem dX7_row_65 : decode cX7_row 65 = .ok (.iconst 0, 1) := by decide +kernel
theorem dX7_row_66 : decode cX7_row 66 = .ok (.istore 4, 2) := by decide +kernel
theorem dX7_row_68 : decode cX7_row 68 = .ok (.iload 4, 2) := by decide +kernel
theorem dX7_row_70 : decode cX7_row 70 = .ok (.bipush 100, 2) := by decide +kernel
theorem dX7_row_72 : decode cX7_row 72 = .ok (.if_icmp .ge 22, 3) := by decide +kernel
theorem dX7_row_75 : decode cX7_row 75 = .ok (.aload_n 0, 1) := by decide +kernel
theorem dX7_row_76 : decode cX7_row 76 = .ok (.getfield 104, 3) := by decide +kernel
theorem dX7_row_79 : decode cX7_row 79 = .ok (.bipush 100, 2) := by decide +kernel
theorem dX7_row_81 : decode cX7_row 81 = .ok (.iload_n 1, 1) := by decide +kernel
theorem dX7_row_82 : decode cX7_row 82 = .ok (.imul, 1) := by decide +kernel
theorem dX7_row_83 : decode cX7_row 83 = .ok (.iload 4, 2) := by decide +kernel
theorem dX7_row_85 : decode cX7_row 85 = .ok (.iadd, 1) := by decide +kernel
theorem dX7_row_86 : decode cX7_row 86 = .ok (.lconst 0, 1) := by decide +kernel
theorem dX7_row_87 : decode cX7_row 87 = .ok (.lastore, 1) := by decide +kernel
theorem dX7_row_88 : decode cX7_row 88 = .ok (.iinc 4 1, 3) := by decide +kernel
theorem dX7_row_91 : decode cX7_row 91 = .ok (.goto (-23), 3) := by decide +kernel
theorem dX7_row_94 : decode cX7_row 94 = .ok (.iconst 0, 1) := by decide +kernel
theorem dX7_row_95 : decode cX7_row 95 = .ok (.ireturn, 1) := by decide +kernel
theorem dX7_put_0 : decode cX7_put 0 = .ok (.aload_n 0, 1) := by decide +kernel
theorem dX7_put_1 : decode cX7_put 1 = .ok (.iconst 0, 1) := by decide +kernel
theorem dX7_put_2 : decode cX7_put 2 = .ok (.putfield 111, 3) := by decide +kernel
theorem dX7_put_5 : decode cX7_put 5 = .ok (.aload_n 0, 1) := by decide +kernel
theorem dX7_put_6 : decode cX7_put 6 = .ok (.iload_n 1, 1) := by decide +kernel
theorem dX7_put_7 : decode cX7_put 7 = .ok (.invokevirtual 373, 3) := by decide +kernel
theorem dX7_put_10 : decode cX7_put 10 = .ok (.istore 4, 2) := by decide +kernel
theorem dX7_put_12 : decode cX7_put 12 = .ok (.iload 4, 2) := by decide +kernel
theorem dX7_put_14 : decode cX7_put 14 = .ok (.ifCond .ge 6, 3) := by decide +kernel
theorem dX7_put_17 : decode cX7_put 17 = .ok (.iload 4, 2) := by decide +kernel
theorem dX7_put_19 : decode cX7_put 19 = .ok (.ireturn, 1) := by decide +kernel
theorem dX7_put_20 : decode cX7_put 20 = .ok (.iload_n 2, 1) := by decide +kernel
theorem dX7_put_21 : decode cX7_put 21 = .ok (.i2l, 1) := by decide +kernel
theorem dX7_put_22 : decode cX7_put 22 = .ok (.lconst 0, 1) := by decide +kernel
theorem dX7_put_23 : decode cX7_put 23 = .ok (.aload_n 0, 1) := by decide +kernel
theorem dX7_put_24 : decode cX7_put 24 = .ok (.getfield 101, 3) := by decide +kernel
theorem dX7_put_27 : decode cX7_put 27 = .ok (.iload_n 1, 1) := by decide +kernel
theorem dX7_put_28 : decode cX7_put 28 = .ok (.iaload, 1) := by decide +kernel
theorem dX7_put_29 : decode cX7_put 29 = .ok (.iconst 1, 1) := by decide +kernel
theorem dX7_put_30 : decode cX7_put 30 = .ok (.isub, 1) := by decide +kernel
theorem dX7_put_31 : decode cX7_put 31 = .ok (.i2l, 1) := by decide +kernel
theorem dX7_put_32 : decode cX7_put 32 = .ok (.invokestatic 117, 3) := by decide +kernel
theorem dX7_put_35 : decode cX7_put 35 = .ok (.ifCond .ne 6, 3) := by decide +kernel
theorem dX7_put_38 : decode cX7_put 38 = .ok (.bipush (-13), 2) := by decide +kernel
theorem dX7_put_40 : decode cX7_put 40 = .ok (.ireturn, 1) := by decide +kernel
theorem dX7_put_41 : decode cX7_put 41 = .ok (.aload_n 0, 1) := by decide +kernel
theorem dX7_put_42 : decode cX7_put 42 = .ok (.getfield 104, 3) := by decide +kernel
theorem dX7_put_45 : decode cX7_put 45 = .ok (.bipush 100, 2) := by decide +kernel
theorem dX7_put_47 : decode cX7_put 47 = .ok (.iload_n 1, 1) := by decide +kernel
theorem dX7_put_48 : decode cX7_put 48 = .ok (.imul, 1) := by decide +kernel
theorem dX7_put_49 : decode cX7_put 49 = .ok (.iload_n 2, 1) := by decide +kernel
theorem dX7_put_50 : decode cX7_put 50 = .ok (.iadd, 1) := by decide +kernel
theorem dX7_put_51 : decode cX7_put 51 = .ok (.iload_n 3, 1) := by decide +kernel
theorem dX7_put_52 : decode cX7_put 52 = .ok (.aload_n 0, 1) := by decide +kernel
theorem dX7_put_53 : decode cX7_put 53 = .ok (.getfield 98, 3) := by decide +kernel
theorem dX7_put_56 : decode cX7_put 56 = .ok (.iload_n 1, 1) := by decide +kernel
theorem dX7_put_57 : decode cX7_put 57 = .ok (.iaload, 1) := by decide +kernel
theorem dX7_put_58 : decode cX7_put 58 = .ok (.invokestatic 388, 3) := by decide +kernel
theorem dX7_put_61 : decode cX7_put 61 = .ok (.lastore, 1) := by decide +kernel
theorem dX7_put_62 : decode cX7_put 62 = .ok (.iconst 0, 1) := by decide +kernel
theorem dX7_put_63 : decode cX7_put 63 = .ok (.ireturn, 1) := by decide +kernel
theorem dX7_element_0 : decode cX7_element 0 = .ok (.aload_n 0, 1) := by decide +kernel
theorem dX7_element_1 : decode cX7_element 1 = .ok (.iload_n 1, 1) := by decide +kernel
theorem dX7_element_2 : decode cX7_element 2 = .ok (.invokevirtual 373, 3) := by decide +kernel
theorem dX7_element_5 : decode cX7_element 5 = .ok (.istore_n 3, 1) := by decide +kernel
theorem dX7_element_6 : decode cX7_element 6 = .ok (.aload_n 0, 1) := by decide +kernel
theorem dX7_element_7 : decode cX7_element 7 = .ok (.iload_n 3, 1) := by decide +kernel
theorem dX7_element_8 : decode cX7_element 8 = .ok (.iconst (-1), 1) := by decide +kernel
theorem dX7_element_9 : decode cX7_element 9 = .ok (.if_icmp .ne 7, 3) := by decide +kernel
theorem dX7_element_12 : decode cX7_element 12 = .ok (.iconst 1, 1) := by decide +kernel
theorem dX7_element_13 : decode cX7_element 13 = .ok (.goto 30, 3) := by decide +kernel
theorem dX7_element_16 : decode cX7_element 16 = .ok (.iload_n 3, 1) := by decide +kernel
theorem dX7_element_17 : decode cX7_element 17 = .ok (.ifCond .lt 21, 3) := by decide +kernel
theorem dX7_element_20 : decode cX7_element 20 = .ok (.iload_n 2, 1) := by decide +kernel
theorem dX7_element_21 : decode cX7_element 21 = .ok (.i2l, 1) := by decide +kernel
theorem dX7_element_22 : decode cX7_element 22 = .ok (.lconst 0, 1) := by decide +kernel
theorem dX7_element_23 : decode cX7_element 23 = .ok (.aload_n 0, 1) := by decide +kernel
theorem dX7_element_24 : decode cX7_element 24 = .ok (.getfield 101, 3) := by decide +kernel
theorem dX7_element_27 : decode cX7_element 27 = .ok (.iload_n 1, 1) := by decide +kernel
theorem dX7_element_28 : decode cX7_element 28 = .ok (.iaload, 1) := by decide +kernel
theorem dX7_element_29 : decode cX7_element 29 = .ok (.iconst 1, 1) := by decide +kernel
theorem dX7_element_30 : decode cX7_element 30 = .ok (.isub, 1) := by decide +kernel
theorem dX7_element_31 : decode cX7_element 31 = .ok (.i2l, 1) := by decide +kernel
theorem dX7_element_32 : decode cX7_element 32 = .ok (.invokestatic 117, 3) := by decide +kernel
theorem dX7_element_35 : decode cX7_element 35 = .ok (.ifCond .ne 7, 3) := by decide +kernel
theorem dX7_element_38 : decode cX7_element 38 = .ok (.iconst 2, 1) := by decide +kernel
theorem dX7_element_39 : decode cX7_element 39 = .ok (.goto 4, 3) := by decide +kernel
theorem dX7_element_42 : decode cX7_element 42 = .ok (.iconst 0, 1) := by decide +kernel
theorem dX7_element_43 : decode cX7_element 43 = .ok (.putfield 111, 3) := by decide +kernel
theorem dX7_element_46 : decode cX7_element 46 = .ok (.aload_n 0, 1) := by decide +kernel
theorem dX7_element_47 : decode cX7_element 47 = .ok (.getfield 111, 3) := by decide +kernel
theorem dX7_element_50 : decode cX7_element 50 = .ok (.ifCond .le 7, 3) := by decide +kernel
theorem dX7_element_53 : decode cX7_element 53 = .ok (.lconst 0, 1) := by decide +kernel
theorem dX7_element_54 : decode cX7_element 54 = .ok (.goto 14, 3) := by decide +kernel
theorem dX7_element_57 : decode cX7_element 57 = .ok (.aload_n 0, 1) := by decide +kernel
theorem dX7_element_58 : decode cX7_element 58 = .ok (.getfield 104, 3) := by decide +kernel
theorem dX7_element_61 : decode cX7_element 61 = .ok (.bipush 100, 2) := by decide +kernel
theorem dX7_element_63 : decode cX7_element 63 = .ok (.iload_n 1, 1) := by decide +kernel
theorem dX7_element_64 : decode cX7_element 64 = .ok (.imul, 1) := by decide +kernel
theorem dX7_element_65 : decode cX7_element 65 = .ok (.iload_n 2, 1) := by decide +kernel
theorem dX7_element_66 : decode cX7_element 66 = .ok (.iadd, 1) := by decide +kernel
theorem dX7_element_67 : decode cX7_element 67 = .ok (.laload, 1) := by decide +kernel
theorem dX7_element_68 : decode cX7_element 68 = .ok (.lreturn, 1) := by decide +kernel
theorem dX7_copy_0 : decode cX7_copy 0 = .ok (.aload_n 0, 1) := by decide +kernel
theorem dX7_copy_1 : decode cX7_copy 1 = .ok (.iconst 0, 1) := by decide +kernel
theorem dX7_copy_2 : decode cX7_copy 2 = .ok (.putfield 111, 3) := by decide +kernel
theorem dX7_copy_5 : decode cX7_copy 5 = .ok (.iload_n 1, 1) := by decide +kernel
theorem dX7_copy_6 : decode cX7_copy 6 = .ok (.i2l, 1) := by decide +kernel
theorem dX7_copy_7 : decode cX7_copy 7 = .ok (.lconst 0, 1) := by decide +kernel
theorem dX7_copy_8 : decode cX7_copy 8 = .ok (.ldc2_w 297, 3) := by decide +kernel
theorem dX7_copy_11 : decode cX7_copy 11 = .ok (.invokestatic 117, 3) := by decide +kernel
theorem dX7_copy_14 : decode cX7_copy 14 = .ok (.ifCond .eq 15, 3) := by decide +kernel
theorem dX7_copy_17 : decode cX7_copy 17 = .ok (.iload_n 3, 1) := by decide +kernel
theorem dX7_copy_18 : decode cX7_copy 18 = .ok (.i2l, 1) := by decide +kernel
theorem dX7_copy_19 : decode cX7_copy 19 = .ok (.lconst 0, 1) := by decide +kernel
theorem dX7_copy_20 : decode cX7_copy 20 = .ok (.ldc2_w 297, 3) := by decide +kernel
theorem dX7_copy_23 : decode cX7_copy 23 = .ok (.invokestatic 117, 3) := by decide +kernel
theorem dX7_copy_26 : decode cX7_copy 26 = .ok (.ifCond .ne 5, 3) := by decide +kernel
theorem dX7_copy_29 : decode cX7_copy 29 = .ok (.iconst (-1), 1) := by decide +kernel
theorem dX7_copy_30 : decode cX7_copy 30 = .ok (.ireturn, 1) := by decide +kernel
theorem dX7_copy_31 : decode cX7_copy 31 = .ok (.aload_n 0, 1) := by decide +kernel
theorem dX7_copy_32 : decode cX7_copy 32 = .ok (.getfield 86, 3) := by decide +kernel
theorem dX7_copy_35 : decode cX7_copy 35 = .ok (.iload_n 1, 1) := by decide +kernel
theorem dX7_copy_36 : decode cX7_copy 36 = .ok (.iaload, 1) := by decide +kernel
theorem dX7_copy_37 : decode cX7_copy 37 = .ok (.ifCond .eq 12, 3) := by decide +kernel
theorem dX7_copy_40 : decode cX7_copy 40 = .ok (.aload_n 0, 1) := by decide +kernel
theorem dX7_copy_41 : decode cX7_copy 41 = .ok (.getfield 86, 3) := by decide +kernel
theorem dX7_copy_44 : decode cX7_copy 44 = .ok (.iload_n 3, 1) := by decide +kernel
theorem dX7_copy_45 : decode cX7_copy 45 = .ok (.iaload, 1) := by decide +kernel
theorem dX7_copy_46 : decode cX7_copy 46 = .ok (.ifCond .ne 6, 3) := by decide +kernel
theorem dX7_copy_49 : decode cX7_copy 49 = .ok (.bipush (-11), 2) := by decide +kernel
theorem dX7_copy_51 : decode cX7_copy 51 = .ok (.ireturn, 1) := by decide +kernel
theorem dX7_copy_52 : decode cX7_copy 52 = .ok (.aload_n 0, 1) := by decide +kernel
theorem dX7_copy_53 : decode cX7_copy 53 = .ok (.getfield 86, 3) := by decide +kernel
theorem dX7_copy_56 : decode cX7_copy 56 = .ok (.iload_n 1, 1) := by decide +kernel
theorem dX7_copy_57 : decode cX7_copy 57 = .ok (.iaload, 1) := by decide +kernel
theorem dX7_copy_58 : decode cX7_copy 58 = .ok (.iconst 2, 1) := by decide +kernel
theorem dX7_copy_59 : decode cX7_copy 59 = .ok (.if_icmp .ne 28, 3) := by decide +kernel
theorem dX7_copy_62 : decode cX7_copy 62 = .ok (.aload_n 0, 1) := by decide +kernel
theorem dX7_copy_63 : decode cX7_copy 63 = .ok (.getfield 86, 3) := by decide +kernel
theorem dX7_copy_66 : decode cX7_copy 66 = .ok (.iload_n 3, 1) := by decide +kernel
theorem dX7_copy_67 : decode cX7_copy 67 = .ok (.iaload, 1) := by decide +kernel
theorem dX7_copy_68 : decode cX7_copy 68 = .ok (.iconst 2, 1) := by decide +kernel
theorem dX7_copy_69 : decode cX7_copy 69 = .ok (.if_icmp .ne 18, 3) := by decide +kernel
theorem dX7_copy_72 : decode cX7_copy 72 = .ok (.aload_n 0, 1) := by decide +kernel
theorem dX7_copy_73 : decode cX7_copy 73 = .ok (.getfield 98, 3) := by decide +kernel
theorem dX7_copy_76 : decode cX7_copy 76 = .ok (.iload_n 1, 1) := by decide +kernel
theorem dX7_copy_77 : decode cX7_copy 77 = .ok (.iaload, 1) := by decide +kernel
theorem dX7_copy_78 : decode cX7_copy 78 = .ok (.aload_n 0, 1) := by decide +kernel
theorem dX7_copy_79 : decode cX7_copy 79 = .ok (.getfield 98, 3) := by decide +kernel
theorem dX7_copy_82 : decode cX7_copy 82 = .ok (.iload_n 3, 1) := by decide +kernel
theorem dX7_copy_83 : decode cX7_copy 83 = .ok (.iaload, 1) := by decide +kernel
theorem dX7_copy_84 : decode cX7_copy 84 = .ok (.if_icmp .eq 6, 3) := by decide +kernel
theorem dX7_copy_87 : decode cX7_copy 87 = .ok (.bipush (-12), 2) := by decide +kernel
theorem dX7_copy_89 : decode cX7_copy 89 = .ok (.ireturn, 1) := by decide +kernel
theorem dX7_copy_90 : decode cX7_copy 90 = .ok (.iload 5, 2) := by decide +kernel
theorem dX7_copy_92 : decode cX7_copy 92 = .ok (.ifCond .lt 39, 3) := by decide +kernel
theorem dX7_copy_95 : decode cX7_copy 95 = .ok (.iload_n 2, 1) := by decide +kernel
theorem dX7_copy_96 : decode cX7_copy 96 = .ok (.ifCond .lt 35, 3) := by decide +kernel
theorem dX7_copy_99 : decode cX7_copy 99 = .ok (.iload 4, 2) := by decide +kernel
theorem dX7_copy_101 : decode cX7_copy 101 = .ok (.ifCond .lt 30, 3) := by decide +kernel
theorem dX7_copy_104 : decode cX7_copy 104 = .ok (.iload_n 2, 1) := by decide +kernel
theorem dX7_copy_105 : decode cX7_copy 105 = .ok (.aload_n 0, 1) := by decide +kernel
theorem dX7_copy_106 : decode cX7_copy 106 = .ok (.getfield 101, 3) := by decide +kernel
theorem dX7_copy_109 : decode cX7_copy 109 = .ok (.iload_n 1, 1) := by decide +kernel
theorem dX7_copy_110 : decode cX7_copy 110 = .ok (.iaload, 1) := by decide +kernel
theorem dX7_copy_111 : decode cX7_copy 111 = .ok (.iload 5, 2) := by decide +kernel
theorem dX7_copy_113 : decode cX7_copy 113 = .ok (.isub, 1) := by decide +kernel
theorem dX7_copy_114 : decode cX7_copy 114 = .ok (.if_icmp .gt 17, 3) := by decide +kernel
theorem dX7_copy_117 : decode cX7_copy 117 = .ok (.iload 4, 2) := by decide +kernel
theorem dX7_copy_119 : decode cX7_copy 119 = .ok (.aload_n 0, 1) := by decide +kernel
theorem dX7_copy_120 : decode cX7_copy 120 = .ok (.getfield 101, 3) := by decide +kernel
theorem dX7_copy_123 : decode cX7_copy 123 = .ok (.iload_n 3, 1) := by decide +kernel
theorem dX7_copy_124 : decode cX7_copy 124 = .ok (.iaload, 1) := by decide +kernel
theorem dX7_copy_125 : decode cX7_copy 125 = .ok (.iload 5, 2) := by decide +kernel
theorem dX7_copy_127 : decode cX7_copy 127 = .ok (.isub, 1) := by decide +kernel
theorem dX7_copy_128 : decode cX7_copy 128 = .ok (.if_icmp .le 6, 3) := by decide +kernel
theorem dX7_copy_131 : decode cX7_copy 131 = .ok (.bipush (-13), 2) := by decide +kernel
theorem dX7_copy_133 : decode cX7_copy 133 = .ok (.ireturn, 1) := by decide +kernel
theorem dX7_copy_134 : decode cX7_copy 134 = .ok (.iconst 0, 1) := by decide +kernel
theorem dX7_copy_135 : decode cX7_copy 135 = .ok (.istore 6, 2) := by decide +kernel
theorem dX7_copy_137 : decode cX7_copy 137 = .ok (.iload 6, 2) := by decide +kernel
theorem dX7_copy_139 : decode cX7_copy 139 = .ok (.iload 5, 2) := by decide +kernel
theorem dX7_copy_141 : decode cX7_copy 141 = .ok (.if_icmp .ge 30, 3) := by decide +kernel
theorem dX7_copy_144 : decode cX7_copy 144 = .ok (.aload_n 0, 1) := by decide +kernel
theorem dX7_copy_145 : decode cX7_copy 145 = .ok (.getfield 108, 3) := by decide +kernel
theorem dX7_copy_148 : decode cX7_copy 148 = .ok (.iload 6, 2) := by decide +kernel
theorem dX7_copy_150 : decode cX7_copy 150 = .ok (.aload_n 0, 1) := by decide +kernel
theorem dX7_copy_151 : decode cX7_copy 151 = .ok (.getfield 104, 3) := by decide +kernel
theorem dX7_copy_154 : decode cX7_copy 154 = .ok (.bipush 100, 2) := by decide +kernel
theorem dX7_copy_156 : decode cX7_copy 156 = .ok (.iload_n 1, 1) := by decide +kernel
theorem dX7_copy_157 : decode cX7_copy 157 = .ok (.imul, 1) := by decide +kernel
theorem dX7_copy_158 : decode cX7_copy 158 = .ok (.iload_n 2, 1) := by decide +kernel
theorem dX7_copy_159 : decode cX7_copy 159 = .ok (.iadd, 1) := by decide +kernel
theorem dX7_copy_160 : decode cX7_copy 160 = .ok (.iload 6, 2) := by decide +kernel
theorem dX7_copy_162 : decode cX7_copy 162 = .ok (.iadd, 1) := by decide +kernel
theorem dX7_copy_163 : decode cX7_copy 163 = .ok (.laload, 1) := by decide +kernel
theorem dX7_copy_164 : decode cX7_copy 164 = .ok (.lastore, 1) := by decide +kernel
theorem dX7_copy_165 : decode cX7_copy 165 = .ok (.iinc 6 1, 3) := by decide +kernel
theorem dX7_copy_168 : decode cX7_copy 168 = .ok (.goto (-31), 3) := by decide +kernel
theorem dX7_copy_171 : decode cX7_copy 171 = .ok (.iconst 0, 1) := by decide +kernel
theorem dX7_copy_172 : decode cX7_copy 172 = .ok (.istore 6, 2) := by decide +kernel
theorem dX7_copy_174 : decode cX7_copy 174 = .ok (.iload 6, 2) := by decide +kernel
theorem dX7_copy_176 : decode cX7_copy 176 = .ok (.iload 5, 2) := by decide +kernel
theorem dX7_copy_178 : decode cX7_copy 178 = .ok (.if_icmp .ge 31, 3) := by decide +kernel
theorem dX7_copy_181 : decode cX7_copy 181 = .ok (.aload_n 0, 1) := by decide +kernel
theorem dX7_copy_182 : decode cX7_copy 182 = .ok (.getfield 104, 3) := by decide +kernel
theorem dX7_copy_185 : decode cX7_copy 185 = .ok (.bipush 100, 2) := by decide +kernel
theorem dX7_copy_187 : decode cX7_copy 187 = .ok (.iload_n 3, 1) := by decide +kernel
theorem dX7_copy_188 : decode cX7_copy 188 = .ok (.imul, 1) := by decide +kernel
theorem dX7_copy_189 : decode cX7_copy 189 = .ok (.iload 4, 2) := by decide +kernel
theorem dX7_copy_191 : decode cX7_copy 191 = .ok (.iadd, 1) := by decide +kernel
theorem dX7_copy_192 : decode cX7_copy 192 = .ok (.iload 6, 2) := by decide +kernel
theorem dX7_copy_194 : decode cX7_copy 194 = .ok (.iadd, 1) := by decide +kernel
theorem dX7_copy_195 : decode cX7_copy 195 = .ok (.aload_n 0, 1) := by decide +kernel
theorem dX7_copy_196 : decode cX7_copy 196 = .ok (.getfield 108, 3) := by decide +kernel
theorem dX7_copy_199 : decode cX7_copy 199 = .ok (.iload 6, 2) := by decide +kernel
theorem dX7_copy_201 : decode cX7_copy 201 = .ok (.laload, 1) := by decide +kernel
theorem dX7_copy_202 : decode cX7_copy 202 = .ok (.lastore, 1) := by decide +kernel
theorem dX7_copy_203 : decode cX7_copy 203 = .ok (.iinc 6 1, 3) := by decide +kernel
theorem dX7_copy_206 : decode cX7_copy 206 = .ok (.goto (-32), 3) := by decide +kernel
theorem dX7_copy_209 : decode cX7_copy 209 = .ok (.iload 5, 2) := by decide +kernel
theorem dX7_copy_211 : decode cX7_copy 211 = .ok (.ireturn, 1) := by decide +kernel
theorem dX7_skillOf_0 : decode cX7_skillOf 0 = .ok (.iload_n 0, 1) := by decide +kernel
theorem dX7_skillOf_1 : decode cX7_skillOf 1 = .ok (.tableswitch 70 0 6 #[43, 46, 51, 54, 57, 62, 65], 43) := by decide +kernel
theorem dX7_skillOf_44 : decode cX7_skillOf 44 = .ok (.bipush 10, 2) := by decide +kernel
theorem dX7_skillOf_46 : decode cX7_skillOf 46 = .ok (.ireturn, 1) := by decide +kernel
theorem dX7_skillOf_47 : decode cX7_skillOf 47 = .ok (.bipush 10, 2) := by decide +kernel
theorem dX7_skillOf_49 : decode cX7_skillOf 49 = .ok (.iload_n 1, 1) := by decide +kernel
theorem dX7_skillOf_50 : decode cX7_skillOf 50 = .ok (.iadd, 1) := by decide +kernel
theorem dX7_skillOf_51 : decode cX7_skillOf 51 = .ok (.ireturn, 1) := by decide +kernel
theorem dX7_skillOf_52 : decode cX7_skillOf 52 = .ok (.bipush 13, 2) := by decide +kernel
theorem dX7_skillOf_54 : decode cX7_skillOf 54 = .ok (.ireturn, 1) := by decide +kernel
theorem dX7_skillOf_55 : decode cX7_skillOf 55 = .ok (.bipush 26, 2) := by decide +kernel
theorem dX7_skillOf_57 : decode cX7_skillOf 57 = .ok (.ireturn, 1) := by decide +kernel
theorem dX7_skillOf_58 : decode cX7_skillOf 58 = .ok (.bipush 10, 2) := by decide +kernel
theorem dX7_skillOf_60 : decode cX7_skillOf 60 = .ok (.iload_n 1, 1) := by decide +kernel
theorem dX7_skillOf_61 : decode cX7_skillOf 61 = .ok (.isub, 1) := by decide +kernel
theorem dX7_skillOf_62 : decode cX7_skillOf 62 = .ok (.ireturn, 1) := by decide +kernel
theorem dX7_skillOf_63 : decode cX7_skillOf 63 = .ok (.bipush 15, 2) := by decide +kernel
theorem dX7_skillOf_65 : decode cX7_skillOf 65 = .ok (.ireturn, 1) := by decide +kernel
theorem dX7_skillOf_66 : decode cX7_skillOf 66 = .ok (.bipush 15, 2) := by decide +kernel
theorem dX7_skillOf_68 : decode cX7_skillOf 68 = .ok (.iload_n 1, 1) := by decide +kernel
theorem dX7_skillOf_69 : decode cX7_skillOf 69 = .ok (.iadd, 1) := by decide +kernel
theorem dX7_skillOf_70 : decode cX7_skillOf 70 = .ok (.ireturn, 1) := by decide +kernel
theorem dX7_skillOf_71 : decode cX7_skillOf 71 = .ok (.bipush 10, 2) := by decide +kernel
theorem dX7_skillOf_73 : decode cX7_skillOf 73 = .ok (.iload_n 1, 1) := by decide +kernel
theorem dX7_skillOf_74 : decode cX7_skillOf 74 = .ok (.iadd, 1) := by decide +kernel
theorem dX7_skillOf_75 : decode cX7_skillOf 75 = .ok (.iconst 2, 1) := by decide +kernel
theorem dX7_skillOf_76 : decode cX7_skillOf 76 = .ok (.idiv, 1) := by decide +kernel
theorem dX7_skillOf_77 : decode cX7_skillOf 77 = .ok (.ireturn, 1) := by decide +kernel
theorem dX7_skill_0 : decode cX7_skill 0 = .ok (.aload_n 0, 1) := by decide +kernel
theorem dX7_skill_1 : decode cX7_skill 1 = .ok (.iconst 0, 1) := by decide +kernel
theorem dX7_skill_2 : decode cX7_skill 2 = .ok (.putfield 111, 3) := by decide +kernel
theorem dX7_skill_5 : decode cX7_skill 5 = .ok (.aload_n 0, 1) := by decide +kernel
theorem dX7_skill_6 : decode cX7_skill 6 = .ok (.iload_n 1, 1) := by decide +kernel
theorem dX7_skill_7 : decode cX7_skill 7 = .ok (.invokevirtual 392, 3) := by decide +kernel
theorem dX7_skill_10 : decode cX7_skill 10 = .ok (.ifCond .ge 15, 3) := by decide +kernel
theorem dX7_skill_13 : decode cX7_skill 13 = .ok (.aload_n 0, 1) := by decide +kernel
theorem dX7_skill_14 : decode cX7_skill 14 = .ok (.iload_n 1, 1) := by decide +kernel
theorem dX7_skill_15 : decode cX7_skill 15 = .ok (.invokevirtual 392, 3) := by decide +kernel
theorem dX7_skill_18 : decode cX7_skill 18 = .ok (.ldc_w 369, 3) := by decide +kernel
theorem dX7_skill_21 : decode cX7_skill 21 = .ok (.isub, 1) := by decide +kernel
theorem dX7_skill_22 : decode cX7_skill 22 = .ok (.goto 18, 3) := by decide +kernel
theorem dX7_skill_25 : decode cX7_skill 25 = .ok (.aload_n 0, 1) := by decide +kernel
theorem dX7_skill_26 : decode cX7_skill 26 = .ok (.getfield 89, 3) := by decide +kernel
theorem dX7_skill_29 : decode cX7_skill 29 = .ok (.iload_n 1, 1) := by decide +kernel
theorem dX7_skill_30 : decode cX7_skill 30 = .ok (.iaload, 1) := by decide +kernel
theorem dX7_skill_31 : decode cX7_skill 31 = .ok (.aload_n 0, 1) := by decide +kernel
theorem dX7_skill_32 : decode cX7_skill 32 = .ok (.getfield 92, 3) := by decide +kernel
theorem dX7_skill_35 : decode cX7_skill 35 = .ok (.iload_n 1, 1) := by decide +kernel
theorem dX7_skill_36 : decode cX7_skill 36 = .ok (.iaload, 1) := by decide +kernel
theorem dX7_skill_37 : decode cX7_skill 37 = .ok (.invokestatic 395, 3) := by decide +kernel
theorem dX7_skill_40 : decode cX7_skill 40 = .ok (.ireturn, 1) := by decide +kernel
theorem dX7_toss_0 : decode cX7_toss 0 = .ok (.aload_n 0, 1) := by decide +kernel
theorem dX7_toss_1 : decode cX7_toss 1 = .ok (.iconst 0, 1) := by decide +kernel
theorem dX7_toss_2 : decode cX7_toss 2 = .ok (.putfield 111, 3) := by decide +kernel
theorem dX7_toss_5 : decode cX7_toss 5 = .ok (.aload_n 0, 1) := by decide +kernel
theorem dX7_toss_6 : decode cX7_toss 6 = .ok (.iload_n 1, 1) := by decide +kernel
theorem dX7_toss_7 : decode cX7_toss 7 = .ok (.invokevirtual 392, 3) := by decide +kernel
theorem dX7_toss_10 : decode cX7_toss 10 = .ok (.ifCond .ge 9, 3) := by decide +kernel
theorem dX7_toss_13 : decode cX7_toss 13 = .ok (.aload_n 0, 1) := by decide +kernel
theorem dX7_toss_14 : decode cX7_toss 14 = .ok (.iload_n 1, 1) := by decide +kernel
theorem dX7_toss_15 : decode cX7_toss 15 = .ok (.invokevirtual 392, 3) := by decide +kernel
theorem dX7_toss_18 : decode cX7_toss 18 = .ok (.ireturn, 1) := by decide +kernel
theorem dX7_toss_19 : decode cX7_toss 19 = .ok (.aload_n 0, 1) := by decide +kernel
theorem dX7_toss_20 : decode cX7_toss 20 = .ok (.getfield 89, 3) := by decide +kernel
theorem dX7_toss_23 : decode cX7_toss 23 = .ok (.iload_n 1, 1) := by decide +kernel
theorem dX7_toss_24 : decode cX7_toss 24 = .ok (.iaload, 1) := by decide +kernel
theorem dX7_toss_25 : decode cX7_toss 25 = .ok (.istore_n 2, 1) := by decide +kernel
theorem dX7_toss_26 : decode cX7_toss 26 = .ok (.aload_n 0, 1) := by decide +kernel
theorem dX7_toss_27 : decode cX7_toss 27 = .ok (.getfield 92, 3) := by decide +kernel
theorem dX7_toss_30 : decode cX7_toss 30 = .ok (.iload_n 1, 1) := by decide +kernel
theorem dX7_toss_31 : decode cX7_toss 31 = .ok (.iaload, 1) := by decide +kernel
theorem dX7_toss_32 : decode cX7_toss 32 = .ok (.istore_n 3, 1) := by decide +kernel
theorem dX7_toss_33 : decode cX7_toss 33 = .ok (.iload_n 2, 1) := by decide +kernel
theorem dX7_toss_34 : decode cX7_toss 34 = .ok (.iconst 4, 1) := by decide +kernel
theorem dX7_toss_35 : decode cX7_toss 35 = .ok (.if_icmp .eq 7, 3) := by decide +kernel
theorem dX7_toss_38 : decode cX7_toss 38 = .ok (.iload_n 3, 1) := by decide +kernel
theorem dX7_toss_39 : decode cX7_toss 39 = .ok (.ifCond .ne 6, 3) := by decide +kernel
theorem dX7_toss_42 : decode cX7_toss 42 = .ok (.bipush (-15), 2) := by decide +kernel
theorem dX7_toss_44 : decode cX7_toss 44 = .ok (.ireturn, 1) := by decide +kernel
theorem dX7_toss_45 : decode cX7_toss 45 = .ok (.iload_n 2, 1) := by decide +kernel
theorem dX7_toss_46 : decode cX7_toss 46 = .ok (.iconst 3, 1) := by decide +kernel
theorem dX7_toss_47 : decode cX7_toss 47 = .ok (.if_icmp .ne 15, 3) := by decide +kernel
theorem dX7_toss_50 : decode cX7_toss 50 = .ok (.bipush 100, 2) := by decide +kernel
theorem dX7_toss_52 : decode cX7_toss 52 = .ok (.aload_n 0, 1) := by decide +kernel
theorem dX7_toss_53 : decode cX7_toss 53 = .ok (.getfield 95, 3) := by decide +kernel
theorem dX7_toss_56 : decode cX7_toss 56 = .ok (.iload_n 1, 1) := by decide +kernel
theorem dX7_toss_57 : decode cX7_toss 57 = .ok (.iaload, 1) := by decide +kernel
theorem dX7_toss_58 : decode cX7_toss 58 = .ok (.iadd, 1) := by decide +kernel
theorem dX7_toss_59 : decode cX7_toss 59 = .ok (.goto 27, 3) := by decide +kernel
theorem dX7_toss_62 : decode cX7_toss 62 = .ok (.iload_n 2, 1) := by decide +kernel
theorem dX7_toss_63 : decode cX7_toss 63 = .ok (.bipush 6, 2) := by decide +kernel
theorem dX7_toss_65 : decode cX7_toss 65 = .ok (.if_icmp .ne 15, 3) := by decide +kernel
theorem dX7_toss_68 : decode cX7_toss 68 = .ok (.sipush 200, 3) := by decide +kernel
theorem dX7_toss_71 : decode cX7_toss 71 = .ok (.iload_n 2, 1) := by decide +kernel
theorem dX7_toss_72 : decode cX7_toss 72 = .ok (.iload_n 3, 1) := by decide +kernel
theorem dX7_toss_73 : decode cX7_toss 73 = .ok (.invokestatic 395, 3) := by decide +kernel
theorem dX7_toss_76 : decode cX7_toss 76 = .ok (.iadd, 1) := by decide +kernel
theorem dX7_toss_77 : decode cX7_toss 77 = .ok (.goto 9, 3) := by decide +kernel
theorem dX7_toss_80 : decode cX7_toss 80 = .ok (.aload_n 0, 1) := by decide +kernel
theorem dX7_toss_81 : decode cX7_toss 81 = .ok (.getfield 95, 3) := by decide +kernel
theorem dX7_toss_84 : decode cX7_toss 84 = .ok (.iload_n 1, 1) := by decide +kernel
theorem dX7_toss_85 : decode cX7_toss 85 = .ok (.iaload, 1) := by decide +kernel
theorem dX7_toss_86 : decode cX7_toss 86 = .ok (.ireturn, 1) := by decide +kernel
theorem dJ6_compare_7cf53_0 : decode cJ6_compare_7cf53 0 = .ok (.iload_n 0, 1) := by decide +kernel
theorem dJ6_compare_7cf53_1 : decode cJ6_compare_7cf53 1 = .ok (.iload_n 1, 1) := by decide +kernel
theorem dJ6_compare_7cf53_2 : decode cJ6_compare_7cf53 2 = .ok (.if_icmp .ge 7, 3) := by decide +kernel
theorem dJ6_compare_7cf53_5 : decode cJ6_compare_7cf53 5 = .ok (.iconst (-1), 1) := by decide +kernel
theorem dJ6_compare_7cf53_6 : decode cJ6_compare_7cf53 6 = .ok (.goto 13, 3) := by decide +kernel
theorem dJ6_compare_7cf53_9 : decode cJ6_compare_7cf53 9 = .ok (.iload_n 0, 1) := by decide +kernel
theorem dJ6_compare_7cf53_10 : decode cJ6_compare_7cf53 10 = .ok (.iload_n 1, 1) := by decide +kernel
theorem dJ6_compare_7cf53_11 : decode cJ6_compare_7cf53 11 = .ok (.if_icmp .ne 7, 3) := by decide +kernel
theorem dJ6_compare_7cf53_14 : decode cJ6_compare_7cf53 14 = .ok (.iconst 0, 1) := by decide +kernel
theorem dJ6_compare_7cf53_15 : decode cJ6_compare_7cf53 15 = .ok (.goto 4, 3) := by decide +kernel
theorem dJ6_compare_7cf53_18 : decode cJ6_compare_7cf53 18 = .ok (.iconst 1, 1) := by decide +kernel
theorem dJ6_compare_7cf53_19 : decode cJ6_compare_7cf53 19 = .ok (.ireturn, 1) := by decide +kernel
theorem dJ9_floorDiv_7cf53_0 : decode cJ9_floorDiv_7cf53 0 = .ok (.iload_n 0, 1) := by decide +kernel
theorem dJ9_floorDiv_7cf53_1 : decode cJ9_floorDiv_7cf53 1 = .ok (.iload_n 1, 1) := by decide +kernel
theorem dJ9_floorDiv_7cf53_2 : decode cJ9_floorDiv_7cf53 2 = .ok (.idiv, 1) := by decide +kernel
theorem dJ9_floorDiv_7cf53_3 : decode cJ9_floorDiv_7cf53 3 = .ok (.istore_n 2, 1) := by decide +kernel
theorem dJ9_floorDiv_7cf53_4 : decode cJ9_floorDiv_7cf53 4 = .ok (.iload_n 0, 1) := by decide +kernel
theorem dJ9_floorDiv_7cf53_5 : decode cJ9_floorDiv_7cf53 5 = .ok (.iload_n 1, 1) := by decide +kernel
theorem dJ9_floorDiv_7cf53_6 : decode cJ9_floorDiv_7cf53 6 = .ok (.ixor, 1) := by decide +kernel
theorem dJ9_floorDiv_7cf53_7 : decode cJ9_floorDiv_7cf53 7 = .ok (.ifCond .ge 14, 3) := by decide +kernel
theorem dJ9_floorDiv_7cf53_10 : decode cJ9_floorDiv_7cf53 10 = .ok (.iload_n 2, 1) := by decide +kernel
theorem dJ9_floorDiv_7cf53_11 : decode cJ9_floorDiv_7cf53 11 = .ok (.iload_n 1, 1) := by decide +kernel
theorem dJ9_floorDiv_7cf53_12 : decode cJ9_floorDiv_7cf53 12 = .ok (.imul, 1) := by decide +kernel
theorem dJ9_floorDiv_7cf53_13 : decode cJ9_floorDiv_7cf53 13 = .ok (.iload_n 0, 1) := by decide +kernel
theorem dJ9_floorDiv_7cf53_14 : decode cJ9_floorDiv_7cf53 14 = .ok (.if_icmp .eq 7, 3) := by decide +kernel
theorem dJ9_floorDiv_7cf53_17 : decode cJ9_floorDiv_7cf53 17 = .ok (.iload_n 2, 1) := by decide +kernel
theorem dJ9_floorDiv_7cf53_18 : decode cJ9_floorDiv_7cf53 18 = .ok (.iconst 1, 1) := by decide +kernel
theorem dJ9_floorDiv_7cf53_19 : decode cJ9_floorDiv_7cf53 19 = .ok (.isub, 1) := by decide +kernel
theorem dJ9_floorDiv_7cf53_20 : decode cJ9_floorDiv_7cf53 20 = .ok (.ireturn, 1) := by decide +kernel
theorem dJ9_floorDiv_7cf53_21 : decode cJ9_floorDiv_7cf53 21 = .ok (.iload_n 2, 1) := by decide +kernel
theorem dJ9_floorDiv_7cf53_22 : decode cJ9_floorDiv_7cf53 22 = .ok (.ireturn, 1) := by decide +kernel
theorem dJ9_floorMod_7cf53_0 : decode cJ9_floorMod_7cf53 0 = .ok (.iload_n 0, 1) := by decide +kernel
theorem dJ9_floorMod_7cf53_1 : decode cJ9_floorMod_7cf53 1 = .ok (.iload_n 1, 1) := by decide +kernel
theorem dJ9_floorMod_7cf53_2 : decode cJ9_floorMod_7cf53 2 = .ok (.irem, 1) := by decide +kernel
theorem dJ9_floorMod_7cf53_3 : decode cJ9_floorMod_7cf53 3 = .ok (.istore_n 2, 1) := by decide +kernel
theorem dJ9_floorMod_7cf53_4 : decode cJ9_floorMod_7cf53 4 = .ok (.iload_n 0, 1) := by decide +kernel
theorem dJ9_floorMod_7cf53_5 : decode cJ9_floorMod_7cf53 5 = .ok (.iload_n 1, 1) := by decide +kernel
theorem dJ9_floorMod_7cf53_6 : decode cJ9_floorMod_7cf53 6 = .ok (.ixor, 1) := by decide +kernel
theorem dJ9_floorMod_7cf53_7 : decode cJ9_floorMod_7cf53 7 = .ok (.ifCond .ge 11, 3) := by decide +kernel
theorem dJ9_floorMod_7cf53_10 : decode cJ9_floorMod_7cf53 10 = .ok (.iload_n 2, 1) := by decide +kernel
theorem dJ9_floorMod_7cf53_11 : decode cJ9_floorMod_7cf53 11 = .ok (.ifCond .eq 7, 3) := by decide +kernel
theorem dJ9_floorMod_7cf53_14 : decode cJ9_floorMod_7cf53 14 = .ok (.iload_n 2, 1) := by decide +kernel
theorem dJ9_floorMod_7cf53_15 : decode cJ9_floorMod_7cf53 15 = .ok (.iload_n 1, 1) := by decide +kernel
theorem dJ9_floorMod_7cf53_16 : decode cJ9_floorMod_7cf53 16 = .ok (.iadd, 1) := by decide +kernel
theorem dJ9_floorMod_7cf53_17 : decode cJ9_floorMod_7cf53 17 = .ok (.ireturn, 1) := by decide +kernel
theorem dJ9_floorMod_7cf53_18 : decode cJ9_floorMod_7cf53 18 = .ok (.iload_n 2, 1) := by decide +kernel
theorem dJ9_floorMod_7cf53_19 : decode cJ9_floorMod_7cf53 19 = .ok (.ireturn, 1) := by decide +kernel
theorem dJ9_abs_0f7a4_0 : decode cJ9_abs_0f7a4 0 = .ok (.iload_n 0, 1) := by decide +kernel
theorem dJ9_abs_0f7a4_1 : decode cJ9_abs_0f7a4 1 = .ok (.ifCond .ge 8, 3) := by decide +kernel
theorem dJ9_abs_0f7a4_4 : decode cJ9_abs_0f7a4 4 = .ok (.iload_n 0, 1) := by decide +kernel
theorem dJ9_abs_0f7a4_5 : decode cJ9_abs_0f7a4 5 = .ok (.ineg, 1) := by decide +kernel
theorem dJ9_abs_0f7a4_6 : decode cJ9_abs_0f7a4 6 = .ok (.goto 4, 3) := by decide +kernel
theorem dJ9_abs_0f7a4_9 : decode cJ9_abs_0f7a4 9 = .ok (.iload_n 0, 1) := by decide +kernel
theorem dJ9_abs_0f7a4_10 : decode cJ9_abs_0f7a4 10 = .ok (.ireturn, 1) := by decide +kernel
theorem dJ9_max_7cf53_0 : decode cJ9_max_7cf53 0 = .ok (.iload_n 0, 1) := by decide +kernel
theorem dJ9_max_7cf53_1 : decode cJ9_max_7cf53 1 = .ok (.iload_n 1, 1) := by decide +kernel
theorem dJ9_max_7cf53_2 : decode cJ9_max_7cf53 2 = .ok (.if_icmp .lt 7, 3) := by decide +kernel
theorem dJ9_max_7cf53_5 : decode cJ9_max_7cf53 5 = .ok (.iload_n 0, 1) := by decide +kernel
theorem dJ9_max_7cf53_6 : decode cJ9_max_7cf53 6 = .ok (.goto 4, 3) := by decide +kernel
theorem dJ9_max_7cf53_9 : decode cJ9_max_7cf53 9 = .ok (.iload_n 1, 1) := by decide +kernel
theorem dJ9_max_7cf53_10 : decode cJ9_max_7cf53 10 = .ok (.ireturn, 1) := by decide +kernel
theorem dJ9_min_7cf53_0 : decode cJ9_min_7cf53 0 = .ok (.iload_n 0, 1) := by decide +kernel
theorem dJ9_min_7cf53_1 : decode cJ9_min_7cf53 1 = .ok (.iload_n 1, 1) := by decide +kernel
theorem dJ9_min_7cf53_2 : decode cJ9_min_7cf53 2 = .ok (.if_icmp .gt 7, 3) := by decide +kernel
theorem dJ9_min_7cf53_5 : decode cJ9_min_7cf53 5 = .ok (.iload_n 0, 1) := by decide +kernel
theorem dJ9_min_7cf53_6 : decode cJ9_min_7cf53 6 = .ok (.goto 4, 3) := by decide +kernel
theorem dJ9_min_7cf53_9 : decode cJ9_min_7cf53 9 = .ok (.iload_n 1, 1) := by decide +kernel
theorem dJ9_min_7cf53_10 : decode cJ9_min_7cf53 10 = .ok (.ireturn, 1) := by decide +kernel
theorem dJ7_fill_53178_0 : decode cJ7_fill_53178 0 = .ok (.iconst 0, 1) := by decide +kernel
theorem dJ7_fill_53178_1 : decode cJ7_fill_53178 1 = .ok (.istore_n 2, 1) := by decide +kernel
theorem dJ7_fill_53178_2 : decode cJ7_fill_53178 2 = .ok (.aload_n 0, 1) := by decide +kernel
theorem dJ7_fill_53178_3 : decode cJ7_fill_53178 3 = .ok (.arraylength, 1) := by decide +kernel
theorem dJ7_fill_53178_4 : decode cJ7_fill_53178 4 = .ok (.istore_n 3, 1) := by decide +kernel
theorem dJ7_fill_53178_5 : decode cJ7_fill_53178 5 = .ok (.iload_n 2, 1) := by decide +kernel
theorem dJ7_fill_53178_6 : decode cJ7_fill_53178 6 = .ok (.iload_n 3, 1) := by decide +kernel
theorem dJ7_fill_53178_7 : decode cJ7_fill_53178 7 = .ok (.if_icmp .ge 13, 3) := by decide +kernel
theorem dJ7_fill_53178_10 : decode cJ7_fill_53178 10 = .ok (.aload_n 0, 1) := by decide +kernel
theorem dJ7_fill_53178_11 : decode cJ7_fill_53178 11 = .ok (.iload_n 2, 1) := by decide +kernel
theorem dJ7_fill_53178_12 : decode cJ7_fill_53178 12 = .ok (.iload_n 1, 1) := by decide +kernel
theorem dJ7_fill_53178_13 : decode cJ7_fill_53178 13 = .ok (.iastore, 1) := by decide +kernel
theorem dJ7_fill_53178_14 : decode cJ7_fill_53178 14 = .ok (.iinc 2 1, 3) := by decide +kernel
theorem dJ7_fill_53178_17 : decode cJ7_fill_53178 17 = .ok (.goto (-12), 3) := by decide +kernel
theorem dJ7_fill_53178_20 : decode cJ7_fill_53178 20 = .ok (.return_, 1) := by decide +kernel
theorem dL_element_0 : decode cL_element 0 = .ok (.aload_n 3, 1) := by decide +kernel
theorem dL_element_1 : decode cL_element 1 = .ok (.iconst 0, 1) := by decide +kernel
theorem dL_element_2 : decode cL_element 2 = .ok (.aload_n 0, 1) := by decide +kernel
theorem dL_element_3 : decode cL_element 3 = .ok (.iload_n 1, 1) := by decide +kernel
theorem dL_element_4 : decode cL_element 4 = .ok (.iload_n 2, 1) := by decide +kernel
theorem dL_element_5 : decode cL_element 5 = .ok (.invokevirtual 7, 3) := by decide +kernel
theorem dL_element_8 : decode cL_element 8 = .ok (.lastore, 1) := by decide +kernel
theorem dL_element_9 : decode cL_element 9 = .ok (.goto 11, 3) := by decide +kernel
theorem dL_element_12 : decode cL_element 12 = .ok (.astore 4, 2) := by decide +kernel
theorem dL_element_14 : decode cL_element 14 = .ok (.iconst 1, 1) := by decide +kernel
theorem dL_element_15 : decode cL_element 15 = .ok (.ireturn, 1) := by decide +kernel
theorem dL_element_16 : decode cL_element 16 = .ok (.astore 4, 2) := by decide +kernel
theorem dL_element_18 : decode cL_element 18 = .ok (.iconst 2, 1) := by decide +kernel
theorem dL_element_19 : decode cL_element 19 = .ok (.ireturn, 1) := by decide +kernel
theorem dL_element_20 : decode cL_element 20 = .ok (.iconst 0, 1) := by decide +kernel
theorem dL_element_21 : decode cL_element 21 = .ok (.ireturn, 1) := by decide +kernel
theorem dL_law_0 : decode cL_law 0 = .ok (.new 8, 3) := by decide +kernel
theorem dL_law_3 : decode cL_law 3 = .ok (.dup, 1) := by decide +kernel
theorem dL_law_4 : decode cL_law 4 = .ok (.invokespecial 17, 3) := by decide +kernel
theorem dL_law_7 : decode cL_law 7 = .ok (.astore_n 1, 1) := by decide +kernel
theorem dL_law_8 : decode cL_law 8 = .ok (.new 18, 3) := by decide +kernel
theorem dL_law_11 : decode cL_law 11 = .ok (.dup, 1) := by decide +kernel
theorem dL_law_12 : decode cL_law 12 = .ok (.invokespecial 20, 3) := by decide +kernel
theorem dL_law_15 : decode cL_law 15 = .ok (.astore_n 2, 1) := by decide +kernel
theorem dL_law_16 : decode cL_law 16 = .ok (.iconst 1, 1) := by decide +kernel
theorem dL_law_17 : decode cL_law 17 = .ok (.newarray .long, 2) := by decide +kernel
theorem dL_law_19 : decode cL_law 19 = .ok (.astore_n 3, 1) := by decide +kernel
theorem dL_law_20 : decode cL_law 20 = .ok (.iconst 0, 1) := by decide +kernel
theorem dL_law_21 : decode cL_law 21 = .ok (.istore 4, 2) := by decide +kernel
theorem dL_law_23 : decode cL_law 23 = .ok (.iload 4, 2) := by decide +kernel
theorem dL_law_25 : decode cL_law 25 = .ok (.aload_n 0, 1) := by decide +kernel
theorem dL_law_26 : decode cL_law 26 = .ok (.arraylength, 1) := by decide +kernel
theorem dL_law_27 : decode cL_law 27 = .ok (.bipush 6, 2) := by decide +kernel
theorem dL_law_29 : decode cL_law 29 = .ok (.isub, 1) := by decide +kernel
theorem dL_law_30 : decode cL_law 30 = .ok (.if_icmp .gt 1427, 3) := by decide +kernel
theorem dL_law_33 : decode cL_law 33 = .ok (.aload_n 0, 1) := by decide +kernel
theorem dL_law_34 : decode cL_law 34 = .ok (.iload 4, 2) := by decide +kernel
theorem dL_law_36 : decode cL_law 36 = .ok (.iaload, 1) := by decide +kernel
theorem dL_law_37 : decode cL_law 37 = .ok (.bipush 63, 2) := by decide +kernel
theorem dL_law_39 : decode cL_law 39 = .ok (.iand, 1) := by decide +kernel
theorem dL_law_40 : decode cL_law 40 = .ok (.tableswitch 1411 0 32 #[148, 185, 210, 235, 260, 337, 374, 399, 424, 449, 462, 487, 512, 577, 642, 655, 728, 789, 850, 911, 936, 973, 1010, 1023, 1036, 1049, 1074, 1123, 1172, 1221, 1288, 1361, 1386], 148) := by decide +kernel
theorem dL_law_188 : decode cL_law 188 = .ok (.aload_n 1, 1) := by decide +kernel
theorem dL_law_189 : decode cL_law 189 = .ok (.aload_n 0, 1) := by decide +kernel
theorem dL_law_190 : decode cL_law 190 = .ok (.iload 4, 2) := by decide +kernel
theorem dL_law_192 : decode cL_law 192 = .ok (.iconst 1, 1) := by decide +kernel
theorem dL_law_193 : decode cL_law 193 = .ok (.iadd, 1) := by decide +kernel
theorem dL_law_194 : decode cL_law 194 = .ok (.iaload, 1) := by decide +kernel
theorem dL_law_195 : decode cL_law 195 = .ok (.aload_n 0, 1) := by decide +kernel
theorem dL_law_196 : decode cL_law 196 = .ok (.iload 4, 2) := by decide +kernel
theorem dL_law_198 : decode cL_law 198 = .ok (.iconst 2, 1) := by decide +kernel
theorem dL_law_199 : decode cL_law 199 = .ok (.iadd, 1) := by decide +kernel
theorem dL_law_200 : decode cL_law 200 = .ok (.iaload, 1) := by decide +kernel
theorem dL_law_201 : decode cL_law 201 = .ok (.invokevirtual 21, 3) := by decide +kernel
theorem dL_law_204 : decode cL_law 204 = .ok (.aload_n 2, 1) := by decide +kernel
theorem dL_law_205 : decode cL_law 205 = .ok (.aload_n 0, 1) := by decide +kernel
theorem dL_law_206 : decode cL_law 206 = .ok (.iload 4, 2) := by decide +kernel
theorem dL_law_208 : decode cL_law 208 = .ok (.iconst 1, 1) := by decide +kernel
theorem dL_law_209 : decode cL_law 209 = .ok (.iadd, 1) := by decide +kernel
theorem dL_law_210 : decode cL_law 210 = .ok (.iaload, 1) := by decide +kernel
theorem dL_law_211 : decode cL_law 211 = .ok (.aload_n 0, 1) := by decide +kernel
theorem dL_law_212 : decode cL_law 212 = .ok (.iload 4, 2) := by decide +kernel
theorem dL_law_214 : decode cL_law 214 = .ok (.iconst 2, 1) := by decide +kernel
theorem dL_law_215 : decode cL_law 215 = .ok (.iadd, 1) := by decide +kernel
theorem dL_law_216 : decode cL_law 216 = .ok (.iaload, 1) := by decide +kernel
theorem dL_law_217 : decode cL_law 217 = .ok (.invokevirtual 25, 3) := by decide +kernel
theorem dL_law_220 : decode cL_law 220 = .ok (.if_icmp .eq 1231, 3) := by decide +kernel
theorem dL_law_223 : decode cL_law 223 = .ok (.iconst 0, 1) := by decide +kernel
theorem dL_law_224 : decode cL_law 224 = .ok (.ireturn, 1) := by decide +kernel
theorem dL_law_225 : decode cL_law 225 = .ok (.aload_n 1, 1) := by decide +kernel
theorem dL_law_226 : decode cL_law 226 = .ok (.aload_n 0, 1) := by decide +kernel
theorem dL_law_227 : decode cL_law 227 = .ok (.iload 4, 2) := by decide +kernel
theorem dL_law_229 : decode cL_law 229 = .ok (.iconst 1, 1) := by decide +kernel
theorem dL_law_230 : decode cL_law 230 = .ok (.iadd, 1) := by decide +kernel
theorem dL_law_231 : decode cL_law 231 = .ok (.iaload, 1) := by decide +kernel
theorem dL_law_232 : decode cL_law 232 = .ok (.invokevirtual 26, 3) := by decide +kernel
theorem dL_law_235 : decode cL_law 235 = .ok (.aload_n 2, 1) := by decide +kernel
theorem dL_law_236 : decode cL_law 236 = .ok (.aload_n 0, 1) := by decide +kernel
theorem dL_law_237 : decode cL_law 237 = .ok (.iload 4, 2) := by decide +kernel
theorem dL_law_239 : decode cL_law 239 = .ok (.iconst 1, 1) := by decide +kernel
theorem dL_law_240 : decode cL_law 240 = .ok (.iadd, 1) := by decide +kernel
theorem dL_law_241 : decode cL_law 241 = .ok (.iaload, 1) := by decide +kernel
theorem dL_law_242 : decode cL_law 242 = .ok (.invokevirtual 30, 3) := by decide +kernel
theorem dL_law_245 : decode cL_law 245 = .ok (.if_icmp .eq 1206, 3) := by decide +kernel
theorem dL_law_248 : decode cL_law 248 = .ok (.iconst 0, 1) := by decide +kernel
theorem dL_law_249 : decode cL_law 249 = .ok (.ireturn, 1) := by decide +kernel
theorem dL_law_250 : decode cL_law 250 = .ok (.aload_n 1, 1) := by decide +kernel
theorem dL_law_251 : decode cL_law 251 = .ok (.aload_n 0, 1) := by decide +kernel
theorem dL_law_252 : decode cL_law 252 = .ok (.iload 4, 2) := by decide +kernel
theorem dL_law_254 : decode cL_law 254 = .ok (.iconst 1, 1) := by decide +kernel
theorem dL_law_255 : decode cL_law 255 = .ok (.iadd, 1) := by decide +kernel
theorem dL_law_256 : decode cL_law 256 = .ok (.iaload, 1) := by decide +kernel
theorem dL_law_257 : decode cL_law 257 = .ok (.invokevirtual 31, 3) := by decide +kernel
theorem dL_law_260 : decode cL_law 260 = .ok (.aload_n 2, 1) := by decide +kernel
theorem dL_law_261 : decode cL_law 261 = .ok (.aload_n 0, 1) := by decide +kernel
theorem dL_law_262 : decode cL_law 262 = .ok (.iload 4, 2) := by decide +kernel
theorem dL_law_264 : decode cL_law 264 = .ok (.iconst 1, 1) := by decide +kernel
theorem dL_law_265 : decode cL_law 265 = .ok (.iadd, 1) := by decide +kernel
theorem dL_law_266 : decode cL_law 266 = .ok (.iaload, 1) := by decide +kernel
theorem dL_law_267 : decode cL_law 267 = .ok (.invokevirtual 34, 3) := by decide +kernel
theorem dL_law_270 : decode cL_law 270 = .ok (.if_icmp .eq 1181, 3) := by decide +kernel
theorem dL_law_273 : decode cL_law 273 = .ok (.iconst 0, 1) := by decide +kernel
theorem dL_law_274 : decode cL_law 274 = .ok (.ireturn, 1) := by decide +kernel
theorem dL_law_275 : decode cL_law 275 = .ok (.aload_n 1, 1) := by decide +kernel
theorem dL_law_276 : decode cL_law 276 = .ok (.aload_n 0, 1) := by decide +kernel
theorem dL_law_277 : decode cL_law 277 = .ok (.iload 4, 2) := by decide +kernel
theorem dL_law_279 : decode cL_law 279 = .ok (.iconst 1, 1) := by decide +kernel
theorem dL_law_280 : decode cL_law 280 = .ok (.iadd, 1) := by decide +kernel
theorem dL_law_281 : decode cL_law 281 = .ok (.iaload, 1) := by decide +kernel
theorem dL_law_282 : decode cL_law 282 = .ok (.invokevirtual 35, 3) := by decide +kernel
theorem dL_law_285 : decode cL_law 285 = .ok (.aload_n 2, 1) := by decide +kernel
theorem dL_law_286 : decode cL_law 286 = .ok (.aload_n 0, 1) := by decide +kernel
theorem dL_law_287 : decode cL_law 287 = .ok (.iload 4, 2) := by decide +kernel
theorem dL_law_289 : decode cL_law 289 = .ok (.iconst 1, 1) := by decide +kernel
theorem dL_law_290 : decode cL_law 290 = .ok (.iadd, 1) := by decide +kernel
theorem dL_law_291 : decode cL_law 291 = .ok (.iaload, 1) := by decide +kernel
theorem dL_law_292 : decode cL_law 292 = .ok (.invokevirtual 38, 3) := by decide +kernel
theorem dL_law_295 : decode cL_law 295 = .ok (.if_icmp .eq 1156, 3) := by decide +kernel
theorem dL_law_298 : decode cL_law 298 = .ok (.iconst 0, 1) := by decide +kernel
theorem dL_law_299 : decode cL_law 299 = .ok (.ireturn, 1) := by decide +kernel
theorem dL_law_300 : decode cL_law 300 = .ok (.aload_n 1, 1) := by decide +kernel
theorem dL_law_301 : decode cL_law 301 = .ok (.aload_n 0, 1) := by decide +kernel
theorem dL_law_302 : decode cL_law 302 = .ok (.iload 4, 2) := by decide +kernel
theorem dL_law_304 : decode cL_law 304 = .ok (.iconst 1, 1) := by decide +kernel
theorem dL_law_305 : decode cL_law 305 = .ok (.iadd, 1) := by decide +kernel
theorem dL_law_306 : decode cL_law 306 = .ok (.iaload, 1) := by decide +kernel
theorem dL_law_307 : decode cL_law 307 = .ok (.aload_n 0, 1) := by decide +kernel
theorem dL_law_308 : decode cL_law 308 = .ok (.iload 4, 2) := by decide +kernel
theorem dL_law_310 : decode cL_law 310 = .ok (.iconst 2, 1) := by decide +kernel
theorem dL_law_311 : decode cL_law 311 = .ok (.iadd, 1) := by decide +kernel
theorem dL_law_312 : decode cL_law 312 = .ok (.iaload, 1) := by decide +kernel
theorem dL_law_313 : decode cL_law 313 = .ok (.aload_n 0, 1) := by decide +kernel
theorem dL_law_314 : decode cL_law 314 = .ok (.iload 4, 2) := by decide +kernel
theorem dL_law_316 : decode cL_law 316 = .ok (.iconst 3, 1) := by decide +kernel
theorem dL_law_317 : decode cL_law 317 = .ok (.iadd, 1) := by decide +kernel
theorem dL_law_318 : decode cL_law 318 = .ok (.iaload, 1) := by decide +kernel
theorem dL_law_319 : decode cL_law 319 = .ok (.ifCond .eq 7, 3) := by decide +kernel
theorem dL_law_322 : decode cL_law 322 = .ok (.iconst 1, 1) := by decide +kernel
theorem dL_law_323 : decode cL_law 323 = .ok (.goto 4, 3) := by decide +kernel
theorem dL_law_326 : decode cL_law 326 = .ok (.iconst 0, 1) := by decide +kernel
theorem dL_law_327 : decode cL_law 327 = .ok (.aload_n 0, 1) := by decide +kernel
theorem dL_law_328 : decode cL_law 328 = .ok (.iload 4, 2) := by decide +kernel
theorem dL_law_330 : decode cL_law 330 = .ok (.iconst 4, 1) := by decide +kernel
theorem dL_law_331 : decode cL_law 331 = .ok (.iadd, 1) := by decide +kernel
theorem dL_law_332 : decode cL_law 332 = .ok (.iaload, 1) := by decide +kernel
theorem dL_law_333 : decode cL_law 333 = .ok (.invokevirtual 39, 3) := by decide +kernel
theorem dL_law_336 : decode cL_law 336 = .ok (.aload_n 2, 1) := by decide +kernel
theorem dL_law_337 : decode cL_law 337 = .ok (.aload_n 0, 1) := by decide +kernel
theorem dL_law_338 : decode cL_law 338 = .ok (.iload 4, 2) := by decide +kernel
theorem dL_law_340 : decode cL_law 340 = .ok (.iconst 1, 1) := by decide +kernel
theorem dL_law_341 : decode cL_law 341 = .ok (.iadd, 1) := by decide +kernel
theorem dL_law_342 : decode cL_law 342 = .ok (.iaload, 1) := by decide +kernel
theorem dL_law_343 : decode cL_law 343 = .ok (.aload_n 0, 1) := by decide +kernel
theorem dL_law_344 : decode cL_law 344 = .ok (.iload 4, 2) := by decide +kernel
theorem dL_law_346 : decode cL_law 346 = .ok (.iconst 2, 1) := by decide +kernel
theorem dL_law_347 : decode cL_law 347 = .ok (.iadd, 1) := by decide +kernel
theorem dL_law_348 : decode cL_law 348 = .ok (.iaload, 1) := by decide +kernel
theorem dL_law_349 : decode cL_law 349 = .ok (.aload_n 0, 1) := by decide +kernel
theorem dL_law_350 : decode cL_law 350 = .ok (.iload 4, 2) := by decide +kernel
theorem dL_law_352 : decode cL_law 352 = .ok (.iconst 3, 1) := by decide +kernel
theorem dL_law_353 : decode cL_law 353 = .ok (.iadd, 1) := by decide +kernel
theorem dL_law_354 : decode cL_law 354 = .ok (.iaload, 1) := by decide +kernel
theorem dL_law_355 : decode cL_law 355 = .ok (.ifCond .eq 7, 3) := by decide +kernel
theorem dL_law_358 : decode cL_law 358 = .ok (.iconst 1, 1) := by decide +kernel
theorem dL_law_359 : decode cL_law 359 = .ok (.goto 4, 3) := by decide +kernel
theorem dL_law_362 : decode cL_law 362 = .ok (.iconst 0, 1) := by decide +kernel
theorem dL_law_363 : decode cL_law 363 = .ok (.aload_n 0, 1) := by decide +kernel
theorem dL_law_364 : decode cL_law 364 = .ok (.iload 4, 2) := by decide +kernel
theorem dL_law_366 : decode cL_law 366 = .ok (.iconst 4, 1) := by decide +kernel
theorem dL_law_367 : decode cL_law 367 = .ok (.iadd, 1) := by decide +kernel
theorem dL_law_368 : decode cL_law 368 = .ok (.iaload, 1) := by decide +kernel
theorem dL_law_369 : decode cL_law 369 = .ok (.invokevirtual 43, 3) := by decide +kernel
theorem dL_law_372 : decode cL_law 372 = .ok (.if_icmp .eq 1079, 3) := by decide +kernel
theorem dL_law_375 : decode cL_law 375 = .ok (.iconst 0, 1) := by decide +kernel
theorem dL_law_376 : decode cL_law 376 = .ok (.ireturn, 1) := by decide +kernel
theorem dL_law_377 : decode cL_law 377 = .ok (.aload_n 1, 1) := by decide +kernel
theorem dL_law_378 : decode cL_law 378 = .ok (.aload_n 0, 1) := by decide +kernel
theorem dL_law_379 : decode cL_law 379 = .ok (.iload 4, 2) := by decide +kernel
theorem dL_law_381 : decode cL_law 381 = .ok (.iconst 1, 1) := by decide +kernel
theorem dL_law_382 : decode cL_law 382 = .ok (.iadd, 1) := by decide +kernel
theorem dL_law_383 : decode cL_law 383 = .ok (.iaload, 1) := by decide +kernel
theorem dL_law_384 : decode cL_law 384 = .ok (.aload_n 0, 1) := by decide +kernel
theorem dL_law_385 : decode cL_law 385 = .ok (.iload 4, 2) := by decide +kernel
theorem dL_law_387 : decode cL_law 387 = .ok (.iconst 2, 1) := by decide +kernel
theorem dL_law_388 : decode cL_law 388 = .ok (.iadd, 1) := by decide +kernel
theorem dL_law_389 : decode cL_law 389 = .ok (.iaload, 1) := by decide +kernel
theorem dL_law_390 : decode cL_law 390 = .ok (.invokevirtual 44, 3) := by decide +kernel
theorem dL_law_393 : decode cL_law 393 = .ok (.aload_n 2, 1) := by decide +kernel
theorem dL_law_394 : decode cL_law 394 = .ok (.aload_n 0, 1) := by decide +kernel
theorem dL_law_395 : decode cL_law 395 = .ok (.iload 4, 2) := by decide +kernel
theorem dL_law_397 : decode cL_law 397 = .ok (.iconst 1, 1) := by decide +kernel
theorem dL_law_398 : decode cL_law 398 = .ok (.iadd, 1) := by decide +kernel
theorem dL_law_399 : decode cL_law 399 = .ok (.iaload, 1) := by decide +kernel
theorem dL_law_400 : decode cL_law 400 = .ok (.aload_n 0, 1) := by decide +kernel
theorem dL_law_401 : decode cL_law 401 = .ok (.iload 4, 2) := by decide +kernel
theorem dL_law_403 : decode cL_law 403 = .ok (.iconst 2, 1) := by decide +kernel
theorem dL_law_404 : decode cL_law 404 = .ok (.iadd, 1) := by decide +kernel
theorem dL_law_405 : decode cL_law 405 = .ok (.iaload, 1) := by decide +kernel
theorem dL_law_406 : decode cL_law 406 = .ok (.invokevirtual 47, 3) := by decide +kernel
theorem dL_law_409 : decode cL_law 409 = .ok (.if_icmp .eq 1042, 3) := by decide +kernel
theorem dL_law_412 : decode cL_law 412 = .ok (.iconst 0, 1) := by decide +kernel
theorem dL_law_413 : decode cL_law 413 = .ok (.ireturn, 1) := by decide +kernel
theorem dL_law_414 : decode cL_law 414 = .ok (.aload_n 1, 1) := by decide +kernel
theorem dL_law_415 : decode cL_law 415 = .ok (.aload_n 0, 1) := by decide +kernel
theorem dL_law_416 : decode cL_law 416 = .ok (.iload 4, 2) := by decide +kernel
theorem dL_law_418 : decode cL_law 418 = .ok (.iconst 1, 1) := by decide +kernel
theorem dL_law_419 : decode cL_law 419 = .ok (.iadd, 1) := by decide +kernel
theorem dL_law_420 : decode cL_law 420 = .ok (.iaload, 1) := by decide +kernel
theorem dL_law_421 : decode cL_law 421 = .ok (.invokevirtual 48, 3) := by decide +kernel
theorem dL_law_424 : decode cL_law 424 = .ok (.aload_n 2, 1) := by decide +kernel
theorem dL_law_425 : decode cL_law 425 = .ok (.aload_n 0, 1) := by decide +kernel
theorem dL_law_426 : decode cL_law 426 = .ok (.iload 4, 2) := by decide +kernel
theorem dL_law_428 : decode cL_law 428 = .ok (.iconst 1, 1) := by decide +kernel
theorem dL_law_429 : decode cL_law 429 = .ok (.iadd, 1) := by decide +kernel
theorem dL_law_430 : decode cL_law 430 = .ok (.iaload, 1) := by decide +kernel
theorem dL_law_431 : decode cL_law 431 = .ok (.invokevirtual 51, 3) := by decide +kernel
theorem dL_law_434 : decode cL_law 434 = .ok (.if_icmp .eq 1017, 3) := by decide +kernel
theorem dL_law_437 : decode cL_law 437 = .ok (.iconst 0, 1) := by decide +kernel
theorem dL_law_438 : decode cL_law 438 = .ok (.ireturn, 1) := by decide +kernel
theorem dL_law_439 : decode cL_law 439 = .ok (.aload_n 1, 1) := by decide +kernel
theorem dL_law_440 : decode cL_law 440 = .ok (.aload_n 0, 1) := by decide +kernel
theorem dL_law_441 : decode cL_law 441 = .ok (.iload 4, 2) := by decide +kernel
theorem dL_law_443 : decode cL_law 443 = .ok (.iconst 1, 1) := by decide +kernel
theorem dL_law_444 : decode cL_law 444 = .ok (.iadd, 1) := by decide +kernel
theorem dL_law_445 : decode cL_law 445 = .ok (.iaload, 1) := by decide +kernel
theorem dL_law_446 : decode cL_law 446 = .ok (.invokevirtual 52, 3) := by decide +kernel
theorem dL_law_449 : decode cL_law 449 = .ok (.aload_n 2, 1) := by decide +kernel
theorem dL_law_450 : decode cL_law 450 = .ok (.aload_n 0, 1) := by decide +kernel
theorem dL_law_451 : decode cL_law 451 = .ok (.iload 4, 2) := by decide +kernel
theorem dL_law_453 : decode cL_law 453 = .ok (.iconst 1, 1) := by decide +kernel
theorem dL_law_454 : decode cL_law 454 = .ok (.iadd, 1) := by decide +kernel
theorem dL_law_455 : decode cL_law 455 = .ok (.iaload, 1) := by decide +kernel
theorem dL_law_456 : decode cL_law 456 = .ok (.invokevirtual 55, 3) := by decide +kernel
theorem dL_law_459 : decode cL_law 459 = .ok (.if_icmp .eq 992, 3) := by decide +kernel
theorem dL_law_462 : decode cL_law 462 = .ok (.iconst 0, 1) := by decide +kernel
theorem dL_law_463 : decode cL_law 463 = .ok (.ireturn, 1) := by decide +kernel
theorem dL_law_464 : decode cL_law 464 = .ok (.aload_n 1, 1) := by decide +kernel
theorem dL_law_465 : decode cL_law 465 = .ok (.aload_n 0, 1) := by decide +kernel
theorem dL_law_466 : decode cL_law 466 = .ok (.iload 4, 2) := by decide +kernel
theorem dL_law_468 : decode cL_law 468 = .ok (.iconst 1, 1) := by decide +kernel
theorem dL_law_469 : decode cL_law 469 = .ok (.iadd, 1) := by decide +kernel
theorem dL_law_470 : decode cL_law 470 = .ok (.iaload, 1) := by decide +kernel
theorem dL_law_471 : decode cL_law 471 = .ok (.invokevirtual 56, 3) := by decide +kernel
theorem dL_law_474 : decode cL_law 474 = .ok (.aload_n 2, 1) := by decide +kernel
theorem dL_law_475 : decode cL_law 475 = .ok (.aload_n 0, 1) := by decide +kernel
theorem dL_law_476 : decode cL_law 476 = .ok (.iload 4, 2) := by decide +kernel
theorem dL_law_478 : decode cL_law 478 = .ok (.iconst 1, 1) := by decide +kernel
theorem dL_law_479 : decode cL_law 479 = .ok (.iadd, 1) := by decide +kernel
theorem dL_law_480 : decode cL_law 480 = .ok (.iaload, 1) := by decide +kernel
theorem dL_law_481 : decode cL_law 481 = .ok (.invokevirtual 59, 3) := by decide +kernel
theorem dL_law_484 : decode cL_law 484 = .ok (.if_icmp .eq 967, 3) := by decide +kernel
theorem dL_law_487 : decode cL_law 487 = .ok (.iconst 0, 1) := by decide +kernel
theorem dL_law_488 : decode cL_law 488 = .ok (.ireturn, 1) := by decide +kernel
theorem dL_law_489 : decode cL_law 489 = .ok (.aload_n 1, 1) := by decide +kernel
theorem dL_law_490 : decode cL_law 490 = .ok (.invokevirtual 60, 3) := by decide +kernel
theorem dL_law_493 : decode cL_law 493 = .ok (.aload_n 2, 1) := by decide +kernel
theorem dL_law_494 : decode cL_law 494 = .ok (.invokevirtual 64, 3) := by decide +kernel
theorem dL_law_497 : decode cL_law 497 = .ok (.if_icmp .eq 954, 3) := by decide +kernel
theorem dL_law_500 : decode cL_law 500 = .ok (.iconst 0, 1) := by decide +kernel
theorem dL_law_501 : decode cL_law 501 = .ok (.ireturn, 1) := by decide +kernel
theorem dL_law_502 : decode cL_law 502 = .ok (.aload_n 1, 1) := by decide +kernel
theorem dL_law_503 : decode cL_law 503 = .ok (.aload_n 0, 1) := by decide +kernel
theorem dL_law_504 : decode cL_law 504 = .ok (.iload 4, 2) := by decide +kernel
theorem dL_law_506 : decode cL_law 506 = .ok (.iconst 1, 1) := by decide +kernel
theorem dL_law_507 : decode cL_law 507 = .ok (.iadd, 1) := by decide +kernel
theorem dL_law_508 : decode cL_law 508 = .ok (.iaload, 1) := by decide +kernel
theorem dL_law_509 : decode cL_law 509 = .ok (.invokevirtual 65, 3) := by decide +kernel
theorem dL_law_512 : decode cL_law 512 = .ok (.aload_n 2, 1) := by decide +kernel
theorem dL_law_513 : decode cL_law 513 = .ok (.aload_n 0, 1) := by decide +kernel
theorem dL_law_514 : decode cL_law 514 = .ok (.iload 4, 2) := by decide +kernel
theorem dL_law_516 : decode cL_law 516 = .ok (.iconst 1, 1) := by decide +kernel
theorem dL_law_517 : decode cL_law 517 = .ok (.iadd, 1) := by decide +kernel
theorem dL_law_518 : decode cL_law 518 = .ok (.iaload, 1) := by decide +kernel
theorem dL_law_519 : decode cL_law 519 = .ok (.invokevirtual 68, 3) := by decide +kernel
theorem dL_law_522 : decode cL_law 522 = .ok (.if_icmp .eq 929, 3) := by decide +kernel
theorem dL_law_525 : decode cL_law 525 = .ok (.iconst 0, 1) := by decide +kernel
theorem dL_law_526 : decode cL_law 526 = .ok (.ireturn, 1) := by decide +kernel
theorem dL_law_527 : decode cL_law 527 = .ok (.aload_n 1, 1) := by decide +kernel
theorem dL_law_528 : decode cL_law 528 = .ok (.aload_n 0, 1) := by decide +kernel
theorem dL_law_529 : decode cL_law 529 = .ok (.iload 4, 2) := by decide +kernel
theorem dL_law_531 : decode cL_law 531 = .ok (.iconst 1, 1) := by decide +kernel
theorem dL_law_532 : decode cL_law 532 = .ok (.iadd, 1) := by decide +kernel
theorem dL_law_533 : decode cL_law 533 = .ok (.iaload, 1) := by decide +kernel
theorem dL_law_534 : decode cL_law 534 = .ok (.invokevirtual 69, 3) := by decide +kernel
theorem dL_law_537 : decode cL_law 537 = .ok (.aload_n 2, 1) := by decide +kernel
theorem dL_law_538 : decode cL_law 538 = .ok (.aload_n 0, 1) := by decide +kernel
theorem dL_law_539 : decode cL_law 539 = .ok (.iload 4, 2) := by decide +kernel
theorem dL_law_541 : decode cL_law 541 = .ok (.iconst 1, 1) := by decide +kernel
theorem dL_law_542 : decode cL_law 542 = .ok (.iadd, 1) := by decide +kernel
theorem dL_law_543 : decode cL_law 543 = .ok (.iaload, 1) := by decide +kernel
theorem dL_law_544 : decode cL_law 544 = .ok (.invokevirtual 72, 3) := by decide +kernel
theorem dL_law_547 : decode cL_law 547 = .ok (.if_icmp .eq 904, 3) := by decide +kernel
theorem dL_law_550 : decode cL_law 550 = .ok (.iconst 0, 1) := by decide +kernel
theorem dL_law_551 : decode cL_law 551 = .ok (.ireturn, 1) := by decide +kernel
theorem dL_law_552 : decode cL_law 552 = .ok (.aload_n 1, 1) := by decide +kernel
theorem dL_law_553 : decode cL_law 553 = .ok (.aload_n 0, 1) := by decide +kernel
theorem dL_law_554 : decode cL_law 554 = .ok (.iload 4, 2) := by decide +kernel
theorem dL_law_556 : decode cL_law 556 = .ok (.iconst 1, 1) := by decide +kernel
theorem dL_law_557 : decode cL_law 557 = .ok (.iadd, 1) := by decide +kernel
theorem dL_law_558 : decode cL_law 558 = .ok (.iaload, 1) := by decide +kernel
theorem dL_law_559 : decode cL_law 559 = .ok (.aload_n 0, 1) := by decide +kernel
theorem dL_law_560 : decode cL_law 560 = .ok (.iload 4, 2) := by decide +kernel
theorem dL_law_562 : decode cL_law 562 = .ok (.iconst 2, 1) := by decide +kernel
theorem dL_law_563 : decode cL_law 563 = .ok (.iadd, 1) := by decide +kernel
theorem dL_law_564 : decode cL_law 564 = .ok (.iaload, 1) := by decide +kernel
theorem dL_law_565 : decode cL_law 565 = .ok (.ifCond .eq 7, 3) := by decide +kernel
theorem dL_law_568 : decode cL_law 568 = .ok (.iconst 1, 1) := by decide +kernel
theorem dL_law_569 : decode cL_law 569 = .ok (.goto 4, 3) := by decide +kernel
theorem dL_law_572 : decode cL_law 572 = .ok (.iconst 0, 1) := by decide +kernel
theorem dL_law_573 : decode cL_law 573 = .ok (.aload_n 0, 1) := by decide +kernel
theorem dL_law_574 : decode cL_law 574 = .ok (.iload 4, 2) := by decide +kernel
theorem dL_law_576 : decode cL_law 576 = .ok (.iconst 3, 1) := by decide +kernel
theorem dL_law_577 : decode cL_law 577 = .ok (.iadd, 1) := by decide +kernel
theorem dL_law_578 : decode cL_law 578 = .ok (.iaload, 1) := by decide +kernel
theorem dL_law_579 : decode cL_law 579 = .ok (.invokevirtual 73, 3) := by decide +kernel
theorem dL_law_582 : decode cL_law 582 = .ok (.aload_n 2, 1) := by decide +kernel
theorem dL_law_583 : decode cL_law 583 = .ok (.aload_n 0, 1) := by decide +kernel
theorem dL_law_584 : decode cL_law 584 = .ok (.iload 4, 2) := by decide +kernel
theorem dL_law_586 : decode cL_law 586 = .ok (.iconst 1, 1) := by decide +kernel
theorem dL_law_587 : decode cL_law 587 = .ok (.iadd, 1) := by decide +kernel
theorem dL_law_588 : decode cL_law 588 = .ok (.iaload, 1) := by decide +kernel
theorem dL_law_589 : decode cL_law 589 = .ok (.aload_n 0, 1) := by decide +kernel
theorem dL_law_590 : decode cL_law 590 = .ok (.iload 4, 2) := by decide +kernel
theorem dL_law_592 : decode cL_law 592 = .ok (.iconst 2, 1) := by decide +kernel
theorem dL_law_593 : decode cL_law 593 = .ok (.iadd, 1) := by decide +kernel
theorem dL_law_594 : decode cL_law 594 = .ok (.iaload, 1) := by decide +kernel
theorem dL_law_595 : decode cL_law 595 = .ok (.ifCond .eq 7, 3) := by decide +kernel
theorem dL_law_598 : decode cL_law 598 = .ok (.iconst 1, 1) := by decide +kernel
theorem dL_law_599 : decode cL_law 599 = .ok (.goto 4, 3) := by decide +kernel
theorem dL_law_602 : decode cL_law 602 = .ok (.iconst 0, 1) := by decide +kernel
theorem dL_law_603 : decode cL_law 603 = .ok (.aload_n 0, 1) := by decide +kernel
theorem dL_law_604 : decode cL_law 604 = .ok (.iload 4, 2) := by decide +kernel
theorem dL_law_606 : decode cL_law 606 = .ok (.iconst 3, 1) := by decide +kernel
theorem dL_law_607 : decode cL_law 607 = .ok (.iadd, 1) := by decide +kernel
theorem dL_law_608 : decode cL_law 608 = .ok (.iaload, 1) := by decide +kernel
theorem dL_law_609 : decode cL_law 609 = .ok (.invokevirtual 77, 3) := by decide +kernel
theorem dL_law_612 : decode cL_law 612 = .ok (.if_icmp .eq 839, 3) := by decide +kernel
theorem dL_law_615 : decode cL_law 615 = .ok (.iconst 0, 1) := by decide +kernel
theorem dL_law_616 : decode cL_law 616 = .ok (.ireturn, 1) := by decide +kernel
theorem dL_law_617 : decode cL_law 617 = .ok (.aload_n 1, 1) := by decide +kernel
theorem dL_law_618 : decode cL_law 618 = .ok (.aload_n 0, 1) := by decide +kernel
theorem dL_law_619 : decode cL_law 619 = .ok (.iload 4, 2) := by decide +kernel
theorem dL_law_621 : decode cL_law 621 = .ok (.iconst 1, 1) := by decide +kernel
theorem dL_law_622 : decode cL_law 622 = .ok (.iadd, 1) := by decide +kernel
theorem dL_law_623 : decode cL_law 623 = .ok (.iaload, 1) := by decide +kernel
theorem dL_law_624 : decode cL_law 624 = .ok (.aload_n 0, 1) := by decide +kernel
theorem dL_law_625 : decode cL_law 625 = .ok (.iload 4, 2) := by decide +kernel
theorem dL_law_627 : decode cL_law 627 = .ok (.iconst 2, 1) := by decide +kernel
theorem dL_law_628 : decode cL_law 628 = .ok (.iadd, 1) := by decide +kernel
theorem dL_law_629 : decode cL_law 629 = .ok (.iaload, 1) := by decide +kernel
theorem dL_law_630 : decode cL_law 630 = .ok (.ifCond .eq 7, 3) := by decide +kernel
theorem dL_law_633 : decode cL_law 633 = .ok (.iconst 1, 1) := by decide +kernel
theorem dL_law_634 : decode cL_law 634 = .ok (.goto 4, 3) := by decide +kernel
theorem dL_law_637 : decode cL_law 637 = .ok (.iconst 0, 1) := by decide +kernel
theorem dL_law_638 : decode cL_law 638 = .ok (.aload_n 0, 1) := by decide +kernel
theorem dL_law_639 : decode cL_law 639 = .ok (.iload 4, 2) := by decide +kernel
theorem dL_law_641 : decode cL_law 641 = .ok (.iconst 3, 1) := by decide +kernel
theorem dL_law_642 : decode cL_law 642 = .ok (.iadd, 1) := by decide +kernel
theorem dL_law_643 : decode cL_law 643 = .ok (.iaload, 1) := by decide +kernel
theorem dL_law_644 : decode cL_law 644 = .ok (.invokevirtual 78, 3) := by decide +kernel
theorem dL_law_647 : decode cL_law 647 = .ok (.aload_n 2, 1) := by decide +kernel
theorem dL_law_648 : decode cL_law 648 = .ok (.aload_n 0, 1) := by decide +kernel
theorem dL_law_649 : decode cL_law 649 = .ok (.iload 4, 2) := by decide +kernel
theorem dL_law_651 : decode cL_law 651 = .ok (.iconst 1, 1) := by decide +kernel
theorem dL_law_652 : decode cL_law 652 = .ok (.iadd, 1) := by decide +kernel
theorem dL_law_653 : decode cL_law 653 = .ok (.iaload, 1) := by decide +kernel
theorem dL_law_654 : decode cL_law 654 = .ok (.aload_n 0, 1) := by decide +kernel
theorem dL_law_655 : decode cL_law 655 = .ok (.iload 4, 2) := by decide +kernel
theorem dL_law_657 : decode cL_law 657 = .ok (.iconst 2, 1) := by decide +kernel
theorem dL_law_658 : decode cL_law 658 = .ok (.iadd, 1) := by decide +kernel
theorem dL_law_659 : decode cL_law 659 = .ok (.iaload, 1) := by decide +kernel
theorem dL_law_660 : decode cL_law 660 = .ok (.ifCond .eq 7, 3) := by decide +kernel
theorem dL_law_663 : decode cL_law 663 = .ok (.iconst 1, 1) := by decide +kernel
theorem dL_law_664 : decode cL_law 664 = .ok (.goto 4, 3) := by decide +kernel
theorem dL_law_667 : decode cL_law 667 = .ok (.iconst 0, 1) := by decide +kernel
theorem dL_law_668 : decode cL_law 668 = .ok (.aload_n 0, 1) := by decide +kernel
theorem dL_law_669 : decode cL_law 669 = .ok (.iload 4, 2) := by decide +kernel
theorem dL_law_671 : decode cL_law 671 = .ok (.iconst 3, 1) := by decide +kernel
theorem dL_law_672 : decode cL_law 672 = .ok (.iadd, 1) := by decide +kernel
theorem dL_law_673 : decode cL_law 673 = .ok (.iaload, 1) := by decide +kernel
theorem dL_law_674 : decode cL_law 674 = .ok (.invokevirtual 81, 3) := by decide +kernel
theorem dL_law_677 : decode cL_law 677 = .ok (.if_icmp .eq 774, 3) := by decide +kernel
theorem dL_law_680 : decode cL_law 680 = .ok (.iconst 0, 1) := by decide +kernel
theorem dL_law_681 : decode cL_law 681 = .ok (.ireturn, 1) := by decide +kernel
theorem dL_law_682 : decode cL_law 682 = .ok (.aload_n 1, 1) := by decide +kernel
theorem dL_law_683 : decode cL_law 683 = .ok (.invokevirtual 82, 3) := by decide +kernel
theorem dL_law_686 : decode cL_law 686 = .ok (.aload_n 2, 1) := by decide +kernel
theorem dL_law_687 : decode cL_law 687 = .ok (.invokevirtual 85, 3) := by decide +kernel
theorem dL_law_690 : decode cL_law 690 = .ok (.if_icmp .eq 761, 3) := by decide +kernel
theorem dL_law_693 : decode cL_law 693 = .ok (.iconst 0, 1) := by decide +kernel
theorem dL_law_694 : decode cL_law 694 = .ok (.ireturn, 1) := by decide +kernel
theorem dL_law_695 : decode cL_law 695 = .ok (.aload_n 1, 1) := by decide +kernel
theorem dL_law_696 : decode cL_law 696 = .ok (.aload_n 0, 1) := by decide +kernel
theorem dL_law_697 : decode cL_law 697 = .ok (.iload 4, 2) := by decide +kernel
theorem dL_law_699 : decode cL_law 699 = .ok (.iconst 1, 1) := by decide +kernel
theorem dL_law_700 : decode cL_law 700 = .ok (.iadd, 1) := by decide +kernel
theorem dL_law_701 : decode cL_law 701 = .ok (.iaload, 1) := by decide +kernel
theorem dL_law_702 : decode cL_law 702 = .ok (.aload_n 0, 1) := by decide +kernel
theorem dL_law_703 : decode cL_law 703 = .ok (.iload 4, 2) := by decide +kernel
theorem dL_law_705 : decode cL_law 705 = .ok (.iconst 2, 1) := by decide +kernel
theorem dL_law_706 : decode cL_law 706 = .ok (.iadd, 1) := by decide +kernel
theorem dL_law_707 : decode cL_law 707 = .ok (.iaload, 1) := by decide +kernel
theorem dL_law_708 : decode cL_law 708 = .ok (.aload_n 0, 1) := by decide +kernel
theorem dL_law_709 : decode cL_law 709 = .ok (.iload 4, 2) := by decide +kernel
theorem dL_law_711 : decode cL_law 711 = .ok (.iconst 3, 1) := by decide +kernel
theorem dL_law_712 : decode cL_law 712 = .ok (.iadd, 1) := by decide +kernel
theorem dL_law_713 : decode cL_law 713 = .ok (.iaload, 1) := by decide +kernel
theorem dL_law_714 : decode cL_law 714 = .ok (.aload_n 0, 1) := by decide +kernel
theorem dL_law_715 : decode cL_law 715 = .ok (.iload 4, 2) := by decide +kernel
theorem dL_law_717 : decode cL_law 717 = .ok (.iconst 4, 1) := by decide +kernel
theorem dL_law_718 : decode cL_law 718 = .ok (.iadd, 1) := by decide +kernel
theorem dL_law_719 : decode cL_law 719 = .ok (.iaload, 1) := by decide +kernel
theorem dL_law_720 : decode cL_law 720 = .ok (.aload_n 0, 1) := by decide +kernel
theorem dL_law_721 : decode cL_law 721 = .ok (.iload 4, 2) := by decide +kernel
theorem dL_law_723 : decode cL_law 723 = .ok (.iconst 5, 1) := by decide +kernel
theorem dL_law_724 : decode cL_law 724 = .ok (.iadd, 1) := by decide +kernel
theorem dL_law_725 : decode cL_law 725 = .ok (.iaload, 1) := by decide +kernel
theorem dL_law_726 : decode cL_law 726 = .ok (.invokevirtual 86, 3) := by decide +kernel
theorem dL_law_729 : decode cL_law 729 = .ok (.aload_n 2, 1) := by decide +kernel
theorem dL_law_730 : decode cL_law 730 = .ok (.aload_n 0, 1) := by decide +kernel
theorem dL_law_731 : decode cL_law 731 = .ok (.iload 4, 2) := by decide +kernel
theorem dL_law_733 : decode cL_law 733 = .ok (.iconst 1, 1) := by decide +kernel
theorem dL_law_734 : decode cL_law 734 = .ok (.iadd, 1) := by decide +kernel
theorem dL_law_735 : decode cL_law 735 = .ok (.iaload, 1) := by decide +kernel
theorem dL_law_736 : decode cL_law 736 = .ok (.aload_n 0, 1) := by decide +kernel
theorem dL_law_737 : decode cL_law 737 = .ok (.iload 4, 2) := by decide +kernel
theorem dL_law_739 : decode cL_law 739 = .ok (.iconst 2, 1) := by decide +kernel
theorem dL_law_740 : decode cL_law 740 = .ok (.iadd, 1) := by decide +kernel
theorem dL_law_741 : decode cL_law 741 = .ok (.iaload, 1) := by decide +kernel
theorem dL_law_742 : decode cL_law 742 = .ok (.aload_n 0, 1) := by decide +kernel
theorem dL_law_743 : decode cL_law 743 = .ok (.iload 4, 2) := by decide +kernel
theorem dL_law_745 : decode cL_law 745 = .ok (.iconst 3, 1) := by decide +kernel
theorem dL_law_746 : decode cL_law 746 = .ok (.iadd, 1) := by decide +kernel
theorem dL_law_747 : decode cL_law 747 = .ok (.iaload, 1) := by decide +kernel
theorem dL_law_748 : decode cL_law 748 = .ok (.aload_n 0, 1) := by decide +kernel
theorem dL_law_749 : decode cL_law 749 = .ok (.iload 4, 2) := by decide +kernel
theorem dL_law_751 : decode cL_law 751 = .ok (.iconst 4, 1) := by decide +kernel
theorem dL_law_752 : decode cL_law 752 = .ok (.iadd, 1) := by decide +kernel
theorem dL_law_753 : decode cL_law 753 = .ok (.iaload, 1) := by decide +kernel
theorem dL_law_754 : decode cL_law 754 = .ok (.aload_n 0, 1) := by decide +kernel
theorem dL_law_755 : decode cL_law 755 = .ok (.iload 4, 2) := by decide +kernel
theorem dL_law_757 : decode cL_law 757 = .ok (.iconst 5, 1) := by decide +kernel
theorem dL_law_758 : decode cL_law 758 = .ok (.iadd, 1) := by decide +kernel
theorem dL_law_759 : decode cL_law 759 = .ok (.iaload, 1) := by decide +kernel
theorem dL_law_760 : decode cL_law 760 = .ok (.invokevirtual 90, 3) := by decide +kernel
theorem dL_law_763 : decode cL_law 763 = .ok (.if_icmp .eq 688, 3) := by decide +kernel
theorem dL_law_766 : decode cL_law 766 = .ok (.iconst 0, 1) := by decide +kernel
theorem dL_law_767 : decode cL_law 767 = .ok (.ireturn, 1) := by decide +kernel
theorem dL_law_768 : decode cL_law 768 = .ok (.aload_n 1, 1) := by decide +kernel
theorem dL_law_769 : decode cL_law 769 = .ok (.aload_n 0, 1) := by decide +kernel
theorem dL_law_770 : decode cL_law 770 = .ok (.iload 4, 2) := by decide +kernel
theorem dL_law_772 : decode cL_law 772 = .ok (.iconst 1, 1) := by decide +kernel
theorem dL_law_773 : decode cL_law 773 = .ok (.iadd, 1) := by decide +kernel
theorem dL_law_774 : decode cL_law 774 = .ok (.iaload, 1) := by decide +kernel
theorem dL_law_775 : decode cL_law 775 = .ok (.aload_n 0, 1) := by decide +kernel
theorem dL_law_776 : decode cL_law 776 = .ok (.iload 4, 2) := by decide +kernel
theorem dL_law_778 : decode cL_law 778 = .ok (.iconst 2, 1) := by decide +kernel
theorem dL_law_779 : decode cL_law 779 = .ok (.iadd, 1) := by decide +kernel
theorem dL_law_780 : decode cL_law 780 = .ok (.iaload, 1) := by decide +kernel
theorem dL_law_781 : decode cL_law 781 = .ok (.aload_n 0, 1) := by decide +kernel
theorem dL_law_782 : decode cL_law 782 = .ok (.iload 4, 2) := by decide +kernel
theorem dL_law_784 : decode cL_law 784 = .ok (.iconst 3, 1) := by decide +kernel
theorem dL_law_785 : decode cL_law 785 = .ok (.iadd, 1) := by decide +kernel
theorem dL_law_786 : decode cL_law 786 = .ok (.iaload, 1) := by decide +kernel
theorem dL_law_787 : decode cL_law 787 = .ok (.aload_n 0, 1) := by decide +kernel
theorem dL_law_788 : decode cL_law 788 = .ok (.iload 4, 2) := by decide +kernel
theorem dL_law_790 : decode cL_law 790 = .ok (.iconst 4, 1) := by decide +kernel
theorem dL_law_791 : decode cL_law 791 = .ok (.iadd, 1) := by decide +kernel
theorem dL_law_792 : decode cL_law 792 = .ok (.iaload, 1) := by decide +kernel
theorem dL_law_793 : decode cL_law 793 = .ok (.invokevirtual 91, 3) := by decide +kernel
theorem dL_law_796 : decode cL_law 796 = .ok (.aload_n 2, 1) := by decide +kernel
theorem dL_law_797 : decode cL_law 797 = .ok (.aload_n 0, 1) := by decide +kernel
theorem dL_law_798 : decode cL_law 798 = .ok (.iload 4, 2) := by decide +kernel
theorem dL_law_800 : decode cL_law 800 = .ok (.iconst 1, 1) := by decide +kernel
theorem dL_law_801 : decode cL_law 801 = .ok (.iadd, 1) := by decide +kernel
theorem dL_law_802 : decode cL_law 802 = .ok (.iaload, 1) := by decide +kernel
theorem dL_law_803 : decode cL_law 803 = .ok (.aload_n 0, 1) := by decide +kernel
theorem dL_law_804 : decode cL_law 804 = .ok (.iload 4, 2) := by decide +kernel
theorem dL_law_806 : decode cL_law 806 = .ok (.iconst 2, 1) := by decide +kernel
theorem dL_law_807 : decode cL_law 807 = .ok (.iadd, 1) := by decide +kernel
theorem dL_law_808 : decode cL_law 808 = .ok (.iaload, 1) := by decide +kernel
theorem dL_law_809 : decode cL_law 809 = .ok (.aload_n 0, 1) := by decide +kernel
theorem dL_law_810 : decode cL_law 810 = .ok (.iload 4, 2) := by decide +kernel
theorem dL_law_812 : decode cL_law 812 = .ok (.iconst 3, 1) := by decide +kernel
theorem dL_law_813 : decode cL_law 813 = .ok (.iadd, 1) := by decide +kernel
theorem dL_law_814 : decode cL_law 814 = .ok (.iaload, 1) := by decide +kernel
theorem dL_law_815 : decode cL_law 815 = .ok (.aload_n 0, 1) := by decide +kernel
theorem dL_law_816 : decode cL_law 816 = .ok (.iload 4, 2) := by decide +kernel
theorem dL_law_818 : decode cL_law 818 = .ok (.iconst 4, 1) := by decide +kernel
theorem dL_law_819 : decode cL_law 819 = .ok (.iadd, 1) := by decide +kernel
theorem dL_law_820 : decode cL_law 820 = .ok (.iaload, 1) := by decide +kernel
theorem dL_law_821 : decode cL_law 821 = .ok (.invokevirtual 95, 3) := by decide +kernel
theorem dL_law_824 : decode cL_law 824 = .ok (.if_icmp .eq 627, 3) := by decide +kernel
theorem dL_law_827 : decode cL_law 827 = .ok (.iconst 0, 1) := by decide +kernel
theorem dL_law_828 : decode cL_law 828 = .ok (.ireturn, 1) := by decide +kernel
theorem dL_law_829 : decode cL_law 829 = .ok (.aload_n 1, 1) := by decide +kernel
theorem dL_law_830 : decode cL_law 830 = .ok (.aload_n 0, 1) := by decide +kernel
theorem dL_law_831 : decode cL_law 831 = .ok (.iload 4, 2) := by decide +kernel
theorem dL_law_833 : decode cL_law 833 = .ok (.iconst 1, 1) := by decide +kernel
theorem dL_law_834 : decode cL_law 834 = .ok (.iadd, 1) := by decide +kernel
theorem dL_law_835 : decode cL_law 835 = .ok (.iaload, 1) := by decide +kernel
theorem dL_law_836 : decode cL_law 836 = .ok (.aload_n 0, 1) := by decide +kernel
theorem dL_law_837 : decode cL_law 837 = .ok (.iload 4, 2) := by decide +kernel
theorem dL_law_839 : decode cL_law 839 = .ok (.iconst 2, 1) := by decide +kernel
theorem dL_law_840 : decode cL_law 840 = .ok (.iadd, 1) := by decide +kernel
theorem dL_law_841 : decode cL_law 841 = .ok (.iaload, 1) := by decide +kernel
theorem dL_law_842 : decode cL_law 842 = .ok (.aload_n 0, 1) := by decide +kernel
theorem dL_law_843 : decode cL_law 843 = .ok (.iload 4, 2) := by decide +kernel
theorem dL_law_845 : decode cL_law 845 = .ok (.iconst 3, 1) := by decide +kernel
theorem dL_law_846 : decode cL_law 846 = .ok (.iadd, 1) := by decide +kernel
theorem dL_law_847 : decode cL_law 847 = .ok (.iaload, 1) := by decide +kernel
theorem dL_law_848 : decode cL_law 848 = .ok (.aload_n 0, 1) := by decide +kernel
theorem dL_law_849 : decode cL_law 849 = .ok (.iload 4, 2) := by decide +kernel
theorem dL_law_851 : decode cL_law 851 = .ok (.iconst 4, 1) := by decide +kernel
theorem dL_law_852 : decode cL_law 852 = .ok (.iadd, 1) := by decide +kernel
theorem dL_law_853 : decode cL_law 853 = .ok (.iaload, 1) := by decide +kernel
theorem dL_law_854 : decode cL_law 854 = .ok (.invokevirtual 96, 3) := by decide +kernel
theorem dL_law_857 : decode cL_law 857 = .ok (.aload_n 2, 1) := by decide +kernel
theorem dL_law_858 : decode cL_law 858 = .ok (.aload_n 0, 1) := by decide +kernel
theorem dL_law_859 : decode cL_law 859 = .ok (.iload 4, 2) := by decide +kernel
theorem dL_law_861 : decode cL_law 861 = .ok (.iconst 1, 1) := by decide +kernel
theorem dL_law_862 : decode cL_law 862 = .ok (.iadd, 1) := by decide +kernel
theorem dL_law_863 : decode cL_law 863 = .ok (.iaload, 1) := by decide +kernel
theorem dL_law_864 : decode cL_law 864 = .ok (.aload_n 0, 1) := by decide +kernel
theorem dL_law_865 : decode cL_law 865 = .ok (.iload 4, 2) := by decide +kernel
theorem dL_law_867 : decode cL_law 867 = .ok (.iconst 2, 1) := by decide +kernel
theorem dL_law_868 : decode cL_law 868 = .ok (.iadd, 1) := by decide +kernel
theorem dL_law_869 : decode cL_law 869 = .ok (.iaload, 1) := by decide +kernel
theorem dL_law_870 : decode cL_law 870 = .ok (.aload_n 0, 1) := by decide +kernel
theorem dL_law_871 : decode cL_law 871 = .ok (.iload 4, 2) := by decide +kernel
theorem dL_law_873 : decode cL_law 873 = .ok (.iconst 3, 1) := by decide +kernel
theorem dL_law_874 : decode cL_law 874 = .ok (.iadd, 1) := by decide +kernel
theorem dL_law_875 : decode cL_law 875 = .ok (.iaload, 1) := by decide +kernel
theorem dL_law_876 : decode cL_law 876 = .ok (.aload_n 0, 1) := by decide +kernel
theorem dL_law_877 : decode cL_law 877 = .ok (.iload 4, 2) := by decide +kernel
theorem dL_law_879 : decode cL_law 879 = .ok (.iconst 4, 1) := by decide +kernel
theorem dL_law_880 : decode cL_law 880 = .ok (.iadd, 1) := by decide +kernel
theorem dL_law_881 : decode cL_law 881 = .ok (.iaload, 1) := by decide +kernel
theorem dL_law_882 : decode cL_law 882 = .ok (.invokevirtual 99, 3) := by decide +kernel
theorem dL_law_885 : decode cL_law 885 = .ok (.if_icmp .eq 566, 3) := by decide +kernel
theorem dL_law_888 : decode cL_law 888 = .ok (.iconst 0, 1) := by decide +kernel
theorem dL_law_889 : decode cL_law 889 = .ok (.ireturn, 1) := by decide +kernel
theorem dL_law_890 : decode cL_law 890 = .ok (.aload_n 1, 1) := by decide +kernel
theorem dL_law_891 : decode cL_law 891 = .ok (.aload_n 0, 1) := by decide +kernel
theorem dL_law_892 : decode cL_law 892 = .ok (.iload 4, 2) := by decide +kernel
theorem dL_law_894 : decode cL_law 894 = .ok (.iconst 1, 1) := by decide +kernel
theorem dL_law_895 : decode cL_law 895 = .ok (.iadd, 1) := by decide +kernel
theorem dL_law_896 : decode cL_law 896 = .ok (.iaload, 1) := by decide +kernel
theorem dL_law_897 : decode cL_law 897 = .ok (.aload_n 0, 1) := by decide +kernel
theorem dL_law_898 : decode cL_law 898 = .ok (.iload 4, 2) := by decide +kernel
theorem dL_law_900 : decode cL_law 900 = .ok (.iconst 2, 1) := by decide +kernel
theorem dL_law_901 : decode cL_law 901 = .ok (.iadd, 1) := by decide +kernel
theorem dL_law_902 : decode cL_law 902 = .ok (.iaload, 1) := by decide +kernel
theorem dL_law_903 : decode cL_law 903 = .ok (.aload_n 0, 1) := by decide +kernel
theorem dL_law_904 : decode cL_law 904 = .ok (.iload 4, 2) := by decide +kernel
theorem dL_law_906 : decode cL_law 906 = .ok (.iconst 3, 1) := by decide +kernel
theorem dL_law_907 : decode cL_law 907 = .ok (.iadd, 1) := by decide +kernel
theorem dL_law_908 : decode cL_law 908 = .ok (.iaload, 1) := by decide +kernel
theorem dL_law_909 : decode cL_law 909 = .ok (.aload_n 0, 1) := by decide +kernel
theorem dL_law_910 : decode cL_law 910 = .ok (.iload 4, 2) := by decide +kernel
theorem dL_law_912 : decode cL_law 912 = .ok (.iconst 4, 1) := by decide +kernel
theorem dL_law_913 : decode cL_law 913 = .ok (.iadd, 1) := by decide +kernel
theorem dL_law_914 : decode cL_law 914 = .ok (.iaload, 1) := by decide +kernel
theorem dL_law_915 : decode cL_law 915 = .ok (.invokevirtual 100, 3) := by decide +kernel
theorem dL_law_918 : decode cL_law 918 = .ok (.aload_n 2, 1) := by decide +kernel
theorem dL_law_919 : decode cL_law 919 = .ok (.aload_n 0, 1) := by decide +kernel
theorem dL_law_920 : decode cL_law 920 = .ok (.iload 4, 2) := by decide +kernel
theorem dL_law_922 : decode cL_law 922 = .ok (.iconst 1, 1) := by decide +kernel
theorem dL_law_923 : decode cL_law 923 = .ok (.iadd, 1) := by decide +kernel
theorem dL_law_924 : decode cL_law 924 = .ok (.iaload, 1) := by decide +kernel
theorem dL_law_925 : decode cL_law 925 = .ok (.aload_n 0, 1) := by decide +kernel
theorem dL_law_926 : decode cL_law 926 = .ok (.iload 4, 2) := by decide +kernel
theorem dL_law_928 : decode cL_law 928 = .ok (.iconst 2, 1) := by decide +kernel
theorem dL_law_929 : decode cL_law 929 = .ok (.iadd, 1) := by decide +kernel
theorem dL_law_930 : decode cL_law 930 = .ok (.iaload, 1) := by decide +kernel
theorem dL_law_931 : decode cL_law 931 = .ok (.aload_n 0, 1) := by decide +kernel
theorem dL_law_932 : decode cL_law 932 = .ok (.iload 4, 2) := by decide +kernel
theorem dL_law_934 : decode cL_law 934 = .ok (.iconst 3, 1) := by decide +kernel
theorem dL_law_935 : decode cL_law 935 = .ok (.iadd, 1) := by decide +kernel
theorem dL_law_936 : decode cL_law 936 = .ok (.iaload, 1) := by decide +kernel
theorem dL_law_937 : decode cL_law 937 = .ok (.aload_n 0, 1) := by decide +kernel
theorem dL_law_938 : decode cL_law 938 = .ok (.iload 4, 2) := by decide +kernel
theorem dL_law_940 : decode cL_law 940 = .ok (.iconst 4, 1) := by decide +kernel
theorem dL_law_941 : decode cL_law 941 = .ok (.iadd, 1) := by decide +kernel
theorem dL_law_942 : decode cL_law 942 = .ok (.iaload, 1) := by decide +kernel
theorem dL_law_943 : decode cL_law 943 = .ok (.invokevirtual 103, 3) := by decide +kernel
theorem dL_law_946 : decode cL_law 946 = .ok (.if_icmp .eq 505, 3) := by decide +kernel
theorem dL_law_949 : decode cL_law 949 = .ok (.iconst 0, 1) := by decide +kernel
theorem dL_law_950 : decode cL_law 950 = .ok (.ireturn, 1) := by decide +kernel
theorem dL_law_951 : decode cL_law 951 = .ok (.aload_n 1, 1) := by decide +kernel
theorem dL_law_952 : decode cL_law 952 = .ok (.aload_n 0, 1) := by decide +kernel
theorem dL_law_953 : decode cL_law 953 = .ok (.iload 4, 2) := by decide +kernel
theorem dL_law_955 : decode cL_law 955 = .ok (.iconst 1, 1) := by decide +kernel
theorem dL_law_956 : decode cL_law 956 = .ok (.iadd, 1) := by decide +kernel
theorem dL_law_957 : decode cL_law 957 = .ok (.iaload, 1) := by decide +kernel
theorem dL_law_958 : decode cL_law 958 = .ok (.invokevirtual 104, 3) := by decide +kernel
theorem dL_law_961 : decode cL_law 961 = .ok (.aload_n 2, 1) := by decide +kernel
theorem dL_law_962 : decode cL_law 962 = .ok (.aload_n 0, 1) := by decide +kernel
theorem dL_law_963 : decode cL_law 963 = .ok (.iload 4, 2) := by decide +kernel
theorem dL_law_965 : decode cL_law 965 = .ok (.iconst 1, 1) := by decide +kernel
theorem dL_law_966 : decode cL_law 966 = .ok (.iadd, 1) := by decide +kernel
theorem dL_law_967 : decode cL_law 967 = .ok (.iaload, 1) := by decide +kernel
theorem dL_law_968 : decode cL_law 968 = .ok (.invokevirtual 107, 3) := by decide +kernel
theorem dL_law_971 : decode cL_law 971 = .ok (.if_icmp .eq 480, 3) := by decide +kernel
theorem dL_law_974 : decode cL_law 974 = .ok (.iconst 0, 1) := by decide +kernel
theorem dL_law_975 : decode cL_law 975 = .ok (.ireturn, 1) := by decide +kernel
theorem dL_law_976 : decode cL_law 976 = .ok (.aload_n 1, 1) := by decide +kernel
theorem dL_law_977 : decode cL_law 977 = .ok (.aload_n 0, 1) := by decide +kernel
theorem dL_law_978 : decode cL_law 978 = .ok (.iload 4, 2) := by decide +kernel
theorem dL_law_980 : decode cL_law 980 = .ok (.iconst 1, 1) := by decide +kernel
theorem dL_law_981 : decode cL_law 981 = .ok (.iadd, 1) := by decide +kernel
theorem dL_law_982 : decode cL_law 982 = .ok (.iaload, 1) := by decide +kernel
theorem dL_law_983 : decode cL_law 983 = .ok (.aload_n 0, 1) := by decide +kernel
theorem dL_law_984 : decode cL_law 984 = .ok (.iload 4, 2) := by decide +kernel
theorem dL_law_986 : decode cL_law 986 = .ok (.iconst 2, 1) := by decide +kernel
theorem dL_law_987 : decode cL_law 987 = .ok (.iadd, 1) := by decide +kernel
theorem dL_law_988 : decode cL_law 988 = .ok (.iaload, 1) := by decide +kernel
theorem dL_law_989 : decode cL_law 989 = .ok (.invokevirtual 108, 3) := by decide +kernel
theorem dL_law_992 : decode cL_law 992 = .ok (.aload_n 2, 1) := by decide +kernel
theorem dL_law_993 : decode cL_law 993 = .ok (.aload_n 0, 1) := by decide +kernel
theorem dL_law_994 : decode cL_law 994 = .ok (.iload 4, 2) := by decide +kernel
theorem dL_law_996 : decode cL_law 996 = .ok (.iconst 1, 1) := by decide +kernel
theorem dL_law_997 : decode cL_law 997 = .ok (.iadd, 1) := by decide +kernel
theorem dL_law_998 : decode cL_law 998 = .ok (.iaload, 1) := by decide +kernel
theorem dL_law_999 : decode cL_law 999 = .ok (.aload_n 0, 1) := by decide +kernel
theorem dL_law_1000 : decode cL_law 1000 = .ok (.iload 4, 2) := by decide +kernel
theorem dL_law_1002 : decode cL_law 1002 = .ok (.iconst 2, 1) := by decide +kernel
theorem dL_law_1003 : decode cL_law 1003 = .ok (.iadd, 1) := by decide +kernel
theorem dL_law_1004 : decode cL_law 1004 = .ok (.iaload, 1) := by decide +kernel
theorem dL_law_1005 : decode cL_law 1005 = .ok (.invokevirtual 111, 3) := by decide +kernel
theorem dL_law_1008 : decode cL_law 1008 = .ok (.if_icmp .eq 443, 3) := by decide +kernel
theorem dL_law_1011 : decode cL_law 1011 = .ok (.iconst 0, 1) := by decide +kernel
theorem dL_law_1012 : decode cL_law 1012 = .ok (.ireturn, 1) := by decide +kernel
theorem dL_law_1013 : decode cL_law 1013 = .ok (.aload_n 1, 1) := by decide +kernel
theorem dL_law_1014 : decode cL_law 1014 = .ok (.aload_n 0, 1) := by decide +kernel
theorem dL_law_1015 : decode cL_law 1015 = .ok (.iload 4, 2) := by decide +kernel
theorem dL_law_1017 : decode cL_law 1017 = .ok (.iconst 1, 1) := by decide +kernel
theorem dL_law_1018 : decode cL_law 1018 = .ok (.iadd, 1) := by decide +kernel
theorem dL_law_1019 : decode cL_law 1019 = .ok (.iaload, 1) := by decide +kernel
theorem dL_law_1020 : decode cL_law 1020 = .ok (.aload_n 0, 1) := by decide +kernel
theorem dL_law_1021 : decode cL_law 1021 = .ok (.iload 4, 2) := by decide +kernel
theorem dL_law_1023 : decode cL_law 1023 = .ok (.iconst 2, 1) := by decide +kernel
theorem dL_law_1024 : decode cL_law 1024 = .ok (.iadd, 1) := by decide +kernel
theorem dL_law_1025 : decode cL_law 1025 = .ok (.iaload, 1) := by decide +kernel
theorem dL_law_1026 : decode cL_law 1026 = .ok (.invokevirtual 112, 3) := by decide +kernel
theorem dL_law_1029 : decode cL_law 1029 = .ok (.aload_n 2, 1) := by decide +kernel
theorem dL_law_1030 : decode cL_law 1030 = .ok (.aload_n 0, 1) := by decide +kernel
theorem dL_law_1031 : decode cL_law 1031 = .ok (.iload 4, 2) := by decide +kernel
theorem dL_law_1033 : decode cL_law 1033 = .ok (.iconst 1, 1) := by decide +kernel
theorem dL_law_1034 : decode cL_law 1034 = .ok (.iadd, 1) := by decide +kernel
theorem dL_law_1035 : decode cL_law 1035 = .ok (.iaload, 1) := by decide +kernel
theorem dL_law_1036 : decode cL_law 1036 = .ok (.aload_n 0, 1) := by decide +kernel
theorem dL_law_1037 : decode cL_law 1037 = .ok (.iload 4, 2) := by decide +kernel
theorem dL_law_1039 : decode cL_law 1039 = .ok (.iconst 2, 1) := by decide +kernel
theorem dL_law_1040 : decode cL_law 1040 = .ok (.iadd, 1) := by decide +kernel
theorem dL_law_1041 : decode cL_law 1041 = .ok (.iaload, 1) := by decide +kernel
theorem dL_law_1042 : decode cL_law 1042 = .ok (.invokevirtual 115, 3) := by decide +kernel
theorem dL_law_1045 : decode cL_law 1045 = .ok (.if_icmp .eq 406, 3) := by decide +kernel
theorem dL_law_1048 : decode cL_law 1048 = .ok (.iconst 0, 1) := by decide +kernel
theorem dL_law_1049 : decode cL_law 1049 = .ok (.ireturn, 1) := by decide +kernel
theorem dL_law_1050 : decode cL_law 1050 = .ok (.aload_n 1, 1) := by decide +kernel
theorem dL_law_1051 : decode cL_law 1051 = .ok (.invokevirtual 116, 3) := by decide +kernel
theorem dL_law_1054 : decode cL_law 1054 = .ok (.aload_n 2, 1) := by decide +kernel
theorem dL_law_1055 : decode cL_law 1055 = .ok (.invokevirtual 119, 3) := by decide +kernel
theorem dL_law_1058 : decode cL_law 1058 = .ok (.if_icmp .eq 393, 3) := by decide +kernel
theorem dL_law_1061 : decode cL_law 1061 = .ok (.iconst 0, 1) := by decide +kernel
theorem dL_law_1062 : decode cL_law 1062 = .ok (.ireturn, 1) := by decide +kernel
theorem dL_law_1063 : decode cL_law 1063 = .ok (.aload_n 1, 1) := by decide +kernel
theorem dL_law_1064 : decode cL_law 1064 = .ok (.invokevirtual 120, 3) := by decide +kernel
theorem dL_law_1067 : decode cL_law 1067 = .ok (.aload_n 2, 1) := by decide +kernel
theorem dL_law_1068 : decode cL_law 1068 = .ok (.invokevirtual 123, 3) := by decide +kernel
theorem dL_law_1071 : decode cL_law 1071 = .ok (.if_icmp .eq 380, 3) := by decide +kernel
theorem dL_law_1074 : decode cL_law 1074 = .ok (.iconst 0, 1) := by decide +kernel
theorem dL_law_1075 : decode cL_law 1075 = .ok (.ireturn, 1) := by decide +kernel
theorem dL_law_1076 : decode cL_law 1076 = .ok (.aload_n 1, 1) := by decide +kernel
theorem dL_law_1077 : decode cL_law 1077 = .ok (.invokevirtual 124, 3) := by decide +kernel
theorem dL_law_1080 : decode cL_law 1080 = .ok (.aload_n 2, 1) := by decide +kernel
theorem dL_law_1081 : decode cL_law 1081 = .ok (.invokevirtual 127, 3) := by decide +kernel
theorem dL_law_1084 : decode cL_law 1084 = .ok (.if_icmp .eq 367, 3) := by decide +kernel
theorem dL_law_1087 : decode cL_law 1087 = .ok (.iconst 0, 1) := by decide +kernel
theorem dL_law_1088 : decode cL_law 1088 = .ok (.ireturn, 1) := by decide +kernel
theorem dL_law_1089 : decode cL_law 1089 = .ok (.aload_n 1, 1) := by decide +kernel
theorem dL_law_1090 : decode cL_law 1090 = .ok (.aload_n 0, 1) := by decide +kernel
theorem dL_law_1091 : decode cL_law 1091 = .ok (.iload 4, 2) := by decide +kernel
theorem dL_law_1093 : decode cL_law 1093 = .ok (.iconst 1, 1) := by decide +kernel
theorem dL_law_1094 : decode cL_law 1094 = .ok (.iadd, 1) := by decide +kernel
theorem dL_law_1095 : decode cL_law 1095 = .ok (.iaload, 1) := by decide +kernel
theorem dL_law_1096 : decode cL_law 1096 = .ok (.invokevirtual 128, 3) := by decide +kernel
theorem dL_law_1099 : decode cL_law 1099 = .ok (.aload_n 2, 1) := by decide +kernel
theorem dL_law_1100 : decode cL_law 1100 = .ok (.aload_n 0, 1) := by decide +kernel
theorem dL_law_1101 : decode cL_law 1101 = .ok (.iload 4, 2) := by decide +kernel
theorem dL_law_1103 : decode cL_law 1103 = .ok (.iconst 1, 1) := by decide +kernel
theorem dL_law_1104 : decode cL_law 1104 = .ok (.iadd, 1) := by decide +kernel
theorem dL_law_1105 : decode cL_law 1105 = .ok (.iaload, 1) := by decide +kernel
theorem dL_law_1106 : decode cL_law 1106 = .ok (.invokevirtual 131, 3) := by decide +kernel
theorem dL_law_1109 : decode cL_law 1109 = .ok (.if_icmp .eq 342, 3) := by decide +kernel
theorem dL_law_1112 : decode cL_law 1112 = .ok (.iconst 0, 1) := by decide +kernel
theorem dL_law_1113 : decode cL_law 1113 = .ok (.ireturn, 1) := by decide +kernel
theorem dL_law_1114 : decode cL_law 1114 = .ok (.aload_n 1, 1) := by decide +kernel
theorem dL_law_1115 : decode cL_law 1115 = .ok (.aload_n 0, 1) := by decide +kernel
theorem dL_law_1116 : decode cL_law 1116 = .ok (.iload 4, 2) := by decide +kernel
theorem dL_law_1118 : decode cL_law 1118 = .ok (.iconst 1, 1) := by decide +kernel
theorem dL_law_1119 : decode cL_law 1119 = .ok (.iadd, 1) := by decide +kernel
theorem dL_law_1120 : decode cL_law 1120 = .ok (.iaload, 1) := by decide +kernel
theorem dL_law_1121 : decode cL_law 1121 = .ok (.aload_n 0, 1) := by decide +kernel
theorem dL_law_1122 : decode cL_law 1122 = .ok (.iload 4, 2) := by decide +kernel
theorem dL_law_1124 : decode cL_law 1124 = .ok (.iconst 2, 1) := by decide +kernel
theorem dL_law_1125 : decode cL_law 1125 = .ok (.iadd, 1) := by decide +kernel
theorem dL_law_1126 : decode cL_law 1126 = .ok (.iaload, 1) := by decide +kernel
theorem dL_law_1127 : decode cL_law 1127 = .ok (.aload_n 0, 1) := by decide +kernel
theorem dL_law_1128 : decode cL_law 1128 = .ok (.iload 4, 2) := by decide +kernel
theorem dL_law_1130 : decode cL_law 1130 = .ok (.iconst 3, 1) := by decide +kernel
theorem dL_law_1131 : decode cL_law 1131 = .ok (.iadd, 1) := by decide +kernel
theorem dL_law_1132 : decode cL_law 1132 = .ok (.iaload, 1) := by decide +kernel
theorem dL_law_1133 : decode cL_law 1133 = .ok (.invokevirtual 132, 3) := by decide +kernel
theorem dL_law_1136 : decode cL_law 1136 = .ok (.aload_n 2, 1) := by decide +kernel
theorem dL_law_1137 : decode cL_law 1137 = .ok (.aload_n 0, 1) := by decide +kernel
theorem dL_law_1138 : decode cL_law 1138 = .ok (.iload 4, 2) := by decide +kernel
theorem dL_law_1140 : decode cL_law 1140 = .ok (.iconst 1, 1) := by decide +kernel
theorem dL_law_1141 : decode cL_law 1141 = .ok (.iadd, 1) := by decide +kernel
theorem dL_law_1142 : decode cL_law 1142 = .ok (.iaload, 1) := by decide +kernel
theorem dL_law_1143 : decode cL_law 1143 = .ok (.aload_n 0, 1) := by decide +kernel
theorem dL_law_1144 : decode cL_law 1144 = .ok (.iload 4, 2) := by decide +kernel
theorem dL_law_1146 : decode cL_law 1146 = .ok (.iconst 2, 1) := by decide +kernel
theorem dL_law_1147 : decode cL_law 1147 = .ok (.iadd, 1) := by decide +kernel
theorem dL_law_1148 : decode cL_law 1148 = .ok (.iaload, 1) := by decide +kernel
theorem dL_law_1149 : decode cL_law 1149 = .ok (.aload_n 0, 1) := by decide +kernel
theorem dL_law_1150 : decode cL_law 1150 = .ok (.iload 4, 2) := by decide +kernel
theorem dL_law_1152 : decode cL_law 1152 = .ok (.iconst 3, 1) := by decide +kernel
theorem dL_law_1153 : decode cL_law 1153 = .ok (.iadd, 1) := by decide +kernel
theorem dL_law_1154 : decode cL_law 1154 = .ok (.iaload, 1) := by decide +kernel
theorem dL_law_1155 : decode cL_law 1155 = .ok (.invokevirtual 136, 3) := by decide +kernel
theorem dL_law_1158 : decode cL_law 1158 = .ok (.if_icmp .eq 293, 3) := by decide +kernel
theorem dL_law_1161 : decode cL_law 1161 = .ok (.iconst 0, 1) := by decide +kernel
theorem dL_law_1162 : decode cL_law 1162 = .ok (.ireturn, 1) := by decide +kernel
theorem dL_law_1163 : decode cL_law 1163 = .ok (.aload_n 1, 1) := by decide +kernel
theorem dL_law_1164 : decode cL_law 1164 = .ok (.aload_n 0, 1) := by decide +kernel
theorem dL_law_1165 : decode cL_law 1165 = .ok (.iload 4, 2) := by decide +kernel
theorem dL_law_1167 : decode cL_law 1167 = .ok (.iconst 1, 1) := by decide +kernel
theorem dL_law_1168 : decode cL_law 1168 = .ok (.iadd, 1) := by decide +kernel
theorem dL_law_1169 : decode cL_law 1169 = .ok (.iaload, 1) := by decide +kernel
theorem dL_law_1170 : decode cL_law 1170 = .ok (.aload_n 0, 1) := by decide +kernel
theorem dL_law_1171 : decode cL_law 1171 = .ok (.iload 4, 2) := by decide +kernel
theorem dL_law_1173 : decode cL_law 1173 = .ok (.iconst 2, 1) := by decide +kernel
theorem dL_law_1174 : decode cL_law 1174 = .ok (.iadd, 1) := by decide +kernel
theorem dL_law_1175 : decode cL_law 1175 = .ok (.iaload, 1) := by decide +kernel
theorem dL_law_1176 : decode cL_law 1176 = .ok (.aload_n 0, 1) := by decide +kernel
theorem dL_law_1177 : decode cL_law 1177 = .ok (.iload 4, 2) := by decide +kernel
theorem dL_law_1179 : decode cL_law 1179 = .ok (.iconst 3, 1) := by decide +kernel
theorem dL_law_1180 : decode cL_law 1180 = .ok (.iadd, 1) := by decide +kernel
theorem dL_law_1181 : decode cL_law 1181 = .ok (.iaload, 1) := by decide +kernel
theorem dL_law_1182 : decode cL_law 1182 = .ok (.invokevirtual 137, 3) := by decide +kernel
theorem dL_law_1185 : decode cL_law 1185 = .ok (.aload_n 2, 1) := by decide +kernel
theorem dL_law_1186 : decode cL_law 1186 = .ok (.aload_n 0, 1) := by decide +kernel
theorem dL_law_1187 : decode cL_law 1187 = .ok (.iload 4, 2) := by decide +kernel
theorem dL_law_1189 : decode cL_law 1189 = .ok (.iconst 1, 1) := by decide +kernel
theorem dL_law_1190 : decode cL_law 1190 = .ok (.iadd, 1) := by decide +kernel
theorem dL_law_1191 : decode cL_law 1191 = .ok (.iaload, 1) := by decide +kernel
theorem dL_law_1192 : decode cL_law 1192 = .ok (.aload_n 0, 1) := by decide +kernel
theorem dL_law_1193 : decode cL_law 1193 = .ok (.iload 4, 2) := by decide +kernel
theorem dL_law_1195 : decode cL_law 1195 = .ok (.iconst 2, 1) := by decide +kernel
theorem dL_law_1196 : decode cL_law 1196 = .ok (.iadd, 1) := by decide +kernel
theorem dL_law_1197 : decode cL_law 1197 = .ok (.iaload, 1) := by decide +kernel
theorem dL_law_1198 : decode cL_law 1198 = .ok (.aload_n 0, 1) := by decide +kernel
theorem dL_law_1199 : decode cL_law 1199 = .ok (.iload 4, 2) := by decide +kernel
theorem dL_law_1201 : decode cL_law 1201 = .ok (.iconst 3, 1) := by decide +kernel
theorem dL_law_1202 : decode cL_law 1202 = .ok (.iadd, 1) := by decide +kernel
theorem dL_law_1203 : decode cL_law 1203 = .ok (.iaload, 1) := by decide +kernel
theorem dL_law_1204 : decode cL_law 1204 = .ok (.invokevirtual 140, 3) := by decide +kernel
theorem dL_law_1207 : decode cL_law 1207 = .ok (.if_icmp .eq 244, 3) := by decide +kernel
theorem dL_law_1210 : decode cL_law 1210 = .ok (.iconst 0, 1) := by decide +kernel
theorem dL_law_1211 : decode cL_law 1211 = .ok (.ireturn, 1) := by decide +kernel
theorem dL_law_1212 : decode cL_law 1212 = .ok (.aload_n 1, 1) := by decide +kernel
theorem dL_law_1213 : decode cL_law 1213 = .ok (.aload_n 0, 1) := by decide +kernel
theorem dL_law_1214 : decode cL_law 1214 = .ok (.iload 4, 2) := by decide +kernel
theorem dL_law_1216 : decode cL_law 1216 = .ok (.iconst 1, 1) := by decide +kernel
theorem dL_law_1217 : decode cL_law 1217 = .ok (.iadd, 1) := by decide +kernel
theorem dL_law_1218 : decode cL_law 1218 = .ok (.iaload, 1) := by decide +kernel
theorem dL_law_1219 : decode cL_law 1219 = .ok (.aload_n 0, 1) := by decide +kernel
theorem dL_law_1220 : decode cL_law 1220 = .ok (.iload 4, 2) := by decide +kernel
theorem dL_law_1222 : decode cL_law 1222 = .ok (.iconst 2, 1) := by decide +kernel
theorem dL_law_1223 : decode cL_law 1223 = .ok (.iadd, 1) := by decide +kernel
theorem dL_law_1224 : decode cL_law 1224 = .ok (.iaload, 1) := by decide +kernel
theorem dL_law_1225 : decode cL_law 1225 = .ok (.aload_n 0, 1) := by decide +kernel
theorem dL_law_1226 : decode cL_law 1226 = .ok (.iload 4, 2) := by decide +kernel
theorem dL_law_1228 : decode cL_law 1228 = .ok (.iconst 3, 1) := by decide +kernel
theorem dL_law_1229 : decode cL_law 1229 = .ok (.iadd, 1) := by decide +kernel
theorem dL_law_1230 : decode cL_law 1230 = .ok (.iaload, 1) := by decide +kernel
theorem dL_law_1231 : decode cL_law 1231 = .ok (.invokevirtual 141, 3) := by decide +kernel
theorem dL_law_1234 : decode cL_law 1234 = .ok (.aload_n 2, 1) := by decide +kernel
theorem dL_law_1235 : decode cL_law 1235 = .ok (.aload_n 0, 1) := by decide +kernel
theorem dL_law_1236 : decode cL_law 1236 = .ok (.iload 4, 2) := by decide +kernel
theorem dL_law_1238 : decode cL_law 1238 = .ok (.iconst 1, 1) := by decide +kernel
theorem dL_law_1239 : decode cL_law 1239 = .ok (.iadd, 1) := by decide +kernel
theorem dL_law_1240 : decode cL_law 1240 = .ok (.iaload, 1) := by decide +kernel
theorem dL_law_1241 : decode cL_law 1241 = .ok (.aload_n 0, 1) := by decide +kernel
theorem dL_law_1242 : decode cL_law 1242 = .ok (.iload 4, 2) := by decide +kernel
theorem dL_law_1244 : decode cL_law 1244 = .ok (.iconst 2, 1) := by decide +kernel
theorem dL_law_1245 : decode cL_law 1245 = .ok (.iadd, 1) := by decide +kernel
theorem dL_law_1246 : decode cL_law 1246 = .ok (.iaload, 1) := by decide +kernel
theorem dL_law_1247 : decode cL_law 1247 = .ok (.aload_n 0, 1) := by decide +kernel
theorem dL_law_1248 : decode cL_law 1248 = .ok (.iload 4, 2) := by decide +kernel
theorem dL_law_1250 : decode cL_law 1250 = .ok (.iconst 3, 1) := by decide +kernel
theorem dL_law_1251 : decode cL_law 1251 = .ok (.iadd, 1) := by decide +kernel
theorem dL_law_1252 : decode cL_law 1252 = .ok (.iaload, 1) := by decide +kernel
theorem dL_law_1253 : decode cL_law 1253 = .ok (.invokevirtual 144, 3) := by decide +kernel
theorem dL_law_1256 : decode cL_law 1256 = .ok (.if_icmp .eq 195, 3) := by decide +kernel
theorem dL_law_1259 : decode cL_law 1259 = .ok (.iconst 0, 1) := by decide +kernel
theorem dL_law_1260 : decode cL_law 1260 = .ok (.ireturn, 1) := by decide +kernel
theorem dL_law_1261 : decode cL_law 1261 = .ok (.aload_n 1, 1) := by decide +kernel
theorem dL_law_1262 : decode cL_law 1262 = .ok (.aload_n 0, 1) := by decide +kernel
theorem dL_law_1263 : decode cL_law 1263 = .ok (.iload 4, 2) := by decide +kernel
theorem dL_law_1265 : decode cL_law 1265 = .ok (.iconst 1, 1) := by decide +kernel
theorem dL_law_1266 : decode cL_law 1266 = .ok (.iadd, 1) := by decide +kernel
theorem dL_law_1267 : decode cL_law 1267 = .ok (.iaload, 1) := by decide +kernel
theorem dL_law_1268 : decode cL_law 1268 = .ok (.aload_n 0, 1) := by decide +kernel
theorem dL_law_1269 : decode cL_law 1269 = .ok (.iload 4, 2) := by decide +kernel
theorem dL_law_1271 : decode cL_law 1271 = .ok (.iconst 2, 1) := by decide +kernel
theorem dL_law_1272 : decode cL_law 1272 = .ok (.iadd, 1) := by decide +kernel
theorem dL_law_1273 : decode cL_law 1273 = .ok (.iaload, 1) := by decide +kernel
theorem dL_law_1274 : decode cL_law 1274 = .ok (.aload_n 3, 1) := by decide +kernel
theorem dL_law_1275 : decode cL_law 1275 = .ok (.invokestatic 145, 3) := by decide +kernel
theorem dL_law_1278 : decode cL_law 1278 = .ok (.istore 5, 2) := by decide +kernel
theorem dL_law_1280 : decode cL_law 1280 = .ok (.aload_n 2, 1) := by decide +kernel
theorem dL_law_1281 : decode cL_law 1281 = .ok (.aload_n 0, 1) := by decide +kernel
theorem dL_law_1282 : decode cL_law 1282 = .ok (.iload 4, 2) := by decide +kernel
theorem dL_law_1284 : decode cL_law 1284 = .ok (.iconst 1, 1) := by decide +kernel
theorem dL_law_1285 : decode cL_law 1285 = .ok (.iadd, 1) := by decide +kernel
theorem dL_law_1286 : decode cL_law 1286 = .ok (.iaload, 1) := by decide +kernel
theorem dL_law_1287 : decode cL_law 1287 = .ok (.aload_n 0, 1) := by decide +kernel
theorem dL_law_1288 : decode cL_law 1288 = .ok (.iload 4, 2) := by decide +kernel
theorem dL_law_1290 : decode cL_law 1290 = .ok (.iconst 2, 1) := by decide +kernel
theorem dL_law_1291 : decode cL_law 1291 = .ok (.iadd, 1) := by decide +kernel
theorem dL_law_1292 : decode cL_law 1292 = .ok (.iaload, 1) := by decide +kernel
theorem dL_law_1293 : decode cL_law 1293 = .ok (.invokevirtual 150, 3) := by decide +kernel
theorem dL_law_1296 : decode cL_law 1296 = .ok (.lstore 6, 2) := by decide +kernel
theorem dL_law_1298 : decode cL_law 1298 = .ok (.aload_n 2, 1) := by decide +kernel
theorem dL_law_1299 : decode cL_law 1299 = .ok (.invokevirtual 151, 3) := by decide +kernel
theorem dL_law_1302 : decode cL_law 1302 = .ok (.iload 5, 2) := by decide +kernel
theorem dL_law_1304 : decode cL_law 1304 = .ok (.if_icmp .eq 5, 3) := by decide +kernel
theorem dL_law_1307 : decode cL_law 1307 = .ok (.iconst 0, 1) := by decide +kernel
theorem dL_law_1308 : decode cL_law 1308 = .ok (.ireturn, 1) := by decide +kernel
theorem dL_law_1309 : decode cL_law 1309 = .ok (.iload 5, 2) := by decide +kernel
theorem dL_law_1311 : decode cL_law 1311 = .ok (.ifCond .ne 14, 3) := by decide +kernel
theorem dL_law_1314 : decode cL_law 1314 = .ok (.aload_n 3, 1) := by decide +kernel
theorem dL_law_1315 : decode cL_law 1315 = .ok (.iconst 0, 1) := by decide +kernel
theorem dL_law_1316 : decode cL_law 1316 = .ok (.laload, 1) := by decide +kernel
theorem dL_law_1317 : decode cL_law 1317 = .ok (.lload 6, 2) := by decide +kernel
theorem dL_law_1319 : decode cL_law 1319 = .ok (.lcmp, 1) := by decide +kernel
theorem dL_law_1320 : decode cL_law 1320 = .ok (.ifCond .eq 5, 3) := by decide +kernel
theorem dL_law_1323 : decode cL_law 1323 = .ok (.iconst 0, 1) := by decide +kernel
theorem dL_law_1324 : decode cL_law 1324 = .ok (.ireturn, 1) := by decide +kernel
theorem dL_law_1325 : decode cL_law 1325 = .ok (.goto 126, 3) := by decide +kernel
theorem dL_law_1328 : decode cL_law 1328 = .ok (.aload_n 1, 1) := by decide +kernel
theorem dL_law_1329 : decode cL_law 1329 = .ok (.aload_n 0, 1) := by decide +kernel
theorem dL_law_1330 : decode cL_law 1330 = .ok (.iload 4, 2) := by decide +kernel
theorem dL_law_1332 : decode cL_law 1332 = .ok (.iconst 1, 1) := by decide +kernel
theorem dL_law_1333 : decode cL_law 1333 = .ok (.iadd, 1) := by decide +kernel
theorem dL_law_1334 : decode cL_law 1334 = .ok (.iaload, 1) := by decide +kernel
theorem dL_law_1335 : decode cL_law 1335 = .ok (.aload_n 0, 1) := by decide +kernel
theorem dL_law_1336 : decode cL_law 1336 = .ok (.iload 4, 2) := by decide +kernel
theorem dL_law_1338 : decode cL_law 1338 = .ok (.iconst 2, 1) := by decide +kernel
theorem dL_law_1339 : decode cL_law 1339 = .ok (.iadd, 1) := by decide +kernel
theorem dL_law_1340 : decode cL_law 1340 = .ok (.iaload, 1) := by decide +kernel
theorem dL_law_1341 : decode cL_law 1341 = .ok (.aload_n 0, 1) := by decide +kernel
theorem dL_law_1342 : decode cL_law 1342 = .ok (.iload 4, 2) := by decide +kernel
theorem dL_law_1344 : decode cL_law 1344 = .ok (.iconst 3, 1) := by decide +kernel
theorem dL_law_1345 : decode cL_law 1345 = .ok (.iadd, 1) := by decide +kernel
theorem dL_law_1346 : decode cL_law 1346 = .ok (.iaload, 1) := by decide +kernel
theorem dL_law_1347 : decode cL_law 1347 = .ok (.aload_n 0, 1) := by decide +kernel
theorem dL_law_1348 : decode cL_law 1348 = .ok (.iload 4, 2) := by decide +kernel
theorem dL_law_1350 : decode cL_law 1350 = .ok (.iconst 4, 1) := by decide +kernel
theorem dL_law_1351 : decode cL_law 1351 = .ok (.iadd, 1) := by decide +kernel
theorem dL_law_1352 : decode cL_law 1352 = .ok (.iaload, 1) := by decide +kernel
theorem dL_law_1353 : decode cL_law 1353 = .ok (.aload_n 0, 1) := by decide +kernel
theorem dL_law_1354 : decode cL_law 1354 = .ok (.iload 4, 2) := by decide +kernel
theorem dL_law_1356 : decode cL_law 1356 = .ok (.iconst 5, 1) := by decide +kernel
theorem dL_law_1357 : decode cL_law 1357 = .ok (.iadd, 1) := by decide +kernel
theorem dL_law_1358 : decode cL_law 1358 = .ok (.iaload, 1) := by decide +kernel
theorem dL_law_1359 : decode cL_law 1359 = .ok (.invokevirtual 154, 3) := by decide +kernel
theorem dL_law_1362 : decode cL_law 1362 = .ok (.aload_n 2, 1) := by decide +kernel
theorem dL_law_1363 : decode cL_law 1363 = .ok (.aload_n 0, 1) := by decide +kernel
theorem dL_law_1364 : decode cL_law 1364 = .ok (.iload 4, 2) := by decide +kernel
theorem dL_law_1366 : decode cL_law 1366 = .ok (.iconst 1, 1) := by decide +kernel
theorem dL_law_1367 : decode cL_law 1367 = .ok (.iadd, 1) := by decide +kernel
theorem dL_law_1368 : decode cL_law 1368 = .ok (.iaload, 1) := by decide +kernel
theorem dL_law_1369 : decode cL_law 1369 = .ok (.aload_n 0, 1) := by decide +kernel
theorem dL_law_1370 : decode cL_law 1370 = .ok (.iload 4, 2) := by decide +kernel
theorem dL_law_1372 : decode cL_law 1372 = .ok (.iconst 2, 1) := by decide +kernel
theorem dL_law_1373 : decode cL_law 1373 = .ok (.iadd, 1) := by decide +kernel
theorem dL_law_1374 : decode cL_law 1374 = .ok (.iaload, 1) := by decide +kernel
theorem dL_law_1375 : decode cL_law 1375 = .ok (.aload_n 0, 1) := by decide +kernel
theorem dL_law_1376 : decode cL_law 1376 = .ok (.iload 4, 2) := by decide +kernel
theorem dL_law_1378 : decode cL_law 1378 = .ok (.iconst 3, 1) := by decide +kernel
theorem dL_law_1379 : decode cL_law 1379 = .ok (.iadd, 1) := by decide +kernel
theorem dL_law_1380 : decode cL_law 1380 = .ok (.iaload, 1) := by decide +kernel
theorem dL_law_1381 : decode cL_law 1381 = .ok (.aload_n 0, 1) := by decide +kernel
theorem dL_law_1382 : decode cL_law 1382 = .ok (.iload 4, 2) := by decide +kernel
theorem dL_law_1384 : decode cL_law 1384 = .ok (.iconst 4, 1) := by decide +kernel
theorem dL_law_1385 : decode cL_law 1385 = .ok (.iadd, 1) := by decide +kernel
theorem dL_law_1386 : decode cL_law 1386 = .ok (.iaload, 1) := by decide +kernel
theorem dL_law_1387 : decode cL_law 1387 = .ok (.aload_n 0, 1) := by decide +kernel
theorem dL_law_1388 : decode cL_law 1388 = .ok (.iload 4, 2) := by decide +kernel
theorem dL_law_1390 : decode cL_law 1390 = .ok (.iconst 5, 1) := by decide +kernel
theorem dL_law_1391 : decode cL_law 1391 = .ok (.iadd, 1) := by decide +kernel
theorem dL_law_1392 : decode cL_law 1392 = .ok (.iaload, 1) := by decide +kernel
theorem dL_law_1393 : decode cL_law 1393 = .ok (.invokevirtual 157, 3) := by decide +kernel
theorem dL_law_1396 : decode cL_law 1396 = .ok (.if_icmp .eq 55, 3) := by decide +kernel
theorem dL_law_1399 : decode cL_law 1399 = .ok (.iconst 0, 1) := by decide +kernel
theorem dL_law_1400 : decode cL_law 1400 = .ok (.ireturn, 1) := by decide +kernel
theorem dL_law_1401 : decode cL_law 1401 = .ok (.aload_n 1, 1) := by decide +kernel
theorem dL_law_1402 : decode cL_law 1402 = .ok (.aload_n 0, 1) := by decide +kernel
theorem dL_law_1403 : decode cL_law 1403 = .ok (.iload 4, 2) := by decide +kernel
theorem dL_law_1405 : decode cL_law 1405 = .ok (.iconst 1, 1) := by decide +kernel
theorem dL_law_1406 : decode cL_law 1406 = .ok (.iadd, 1) := by decide +kernel
theorem dL_law_1407 : decode cL_law 1407 = .ok (.iaload, 1) := by decide +kernel
theorem dL_law_1408 : decode cL_law 1408 = .ok (.invokevirtual 158, 3) := by decide +kernel
theorem dL_law_1411 : decode cL_law 1411 = .ok (.aload_n 2, 1) := by decide +kernel
theorem dL_law_1412 : decode cL_law 1412 = .ok (.aload_n 0, 1) := by decide +kernel
theorem dL_law_1413 : decode cL_law 1413 = .ok (.iload 4, 2) := by decide +kernel
theorem dL_law_1415 : decode cL_law 1415 = .ok (.iconst 1, 1) := by decide +kernel
theorem dL_law_1416 : decode cL_law 1416 = .ok (.iadd, 1) := by decide +kernel
theorem dL_law_1417 : decode cL_law 1417 = .ok (.iaload, 1) := by decide +kernel
theorem dL_law_1418 : decode cL_law 1418 = .ok (.invokevirtual 161, 3) := by decide +kernel
theorem dL_law_1421 : decode cL_law 1421 = .ok (.if_icmp .eq 30, 3) := by decide +kernel
theorem dL_law_1424 : decode cL_law 1424 = .ok (.iconst 0, 1) := by decide +kernel
theorem dL_law_1425 : decode cL_law 1425 = .ok (.ireturn, 1) := by decide +kernel
theorem dL_law_1426 : decode cL_law 1426 = .ok (.aload_n 1, 1) := by decide +kernel
theorem dL_law_1427 : decode cL_law 1427 = .ok (.aload_n 0, 1) := by decide +kernel
theorem dL_law_1428 : decode cL_law 1428 = .ok (.iload 4, 2) := by decide +kernel
theorem dL_law_1430 : decode cL_law 1430 = .ok (.iconst 1, 1) := by decide +kernel
theorem dL_law_1431 : decode cL_law 1431 = .ok (.iadd, 1) := by decide +kernel
theorem dL_law_1432 : decode cL_law 1432 = .ok (.iaload, 1) := by decide +kernel
theorem dL_law_1433 : decode cL_law 1433 = .ok (.invokevirtual 162, 3) := by decide +kernel
theorem dL_law_1436 : decode cL_law 1436 = .ok (.aload_n 2, 1) := by decide +kernel
theorem dL_law_1437 : decode cL_law 1437 = .ok (.aload_n 0, 1) := by decide +kernel
theorem dL_law_1438 : decode cL_law 1438 = .ok (.iload 4, 2) := by decide +kernel
theorem dL_law_1440 : decode cL_law 1440 = .ok (.iconst 1, 1) := by decide +kernel
theorem dL_law_1441 : decode cL_law 1441 = .ok (.iadd, 1) := by decide +kernel
theorem dL_law_1442 : decode cL_law 1442 = .ok (.iaload, 1) := by decide +kernel
theorem dL_law_1443 : decode cL_law 1443 = .ok (.invokevirtual 165, 3) := by decide +kernel
theorem dL_law_1446 : decode cL_law 1446 = .ok (.if_icmp .eq 5, 3) := by decide +kernel
theorem dL_law_1449 : decode cL_law 1449 = .ok (.iconst 0, 1) := by decide +kernel
theorem dL_law_1450 : decode cL_law 1450 = .ok (.ireturn, 1) := by decide +kernel
theorem dL_law_1451 : decode cL_law 1451 = .ok (.iinc 4 6, 3) := by decide +kernel
theorem dL_law_1454 : decode cL_law 1454 = .ok (.goto (-1431), 3) := by decide +kernel
theorem dL_law_1457 : decode cL_law 1457 = .ok (.iconst 1, 1) := by decide +kernel
theorem dL_law_1458 : decode cL_law 1458 = .ok (.ireturn, 1) := by decide +kernel
