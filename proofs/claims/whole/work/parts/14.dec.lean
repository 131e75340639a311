theorem dX7_isBad_30 : decode cX7_isBad 30 = .ok (.invokestatic 117, 3) := by decide +kernel
theorem dX7_isBad_33 : decode cX7_isBad 33 = .ok (.ifCond .eq 33, 3) := by decide +kernel
theorem dX7_isBad_36 : decode cX7_isBad 36 = .ok (.aload_n 0, 1) := by decide +kernel
theorem dX7_isBad_37 : decode cX7_isBad 37 = .ok (.getfield 35, 3) := by decide +kernel
theorem dX7_isBad_40 : decode cX7_isBad 40 = .ok (.iload_n 3, 1) := by decide +kernel
theorem dX7_isBad_41 : decode cX7_isBad 41 = .ok (.iaload, 1) := by decide +kernel
theorem dX7_isBad_42 : decode cX7_isBad 42 = .ok (.aload_n 0, 1) := by decide +kernel
theorem dX7_isBad_43 : decode cX7_isBad 43 = .ok (.getfield 35, 3) := by decide +kernel
theorem dX7_isBad_46 : decode cX7_isBad 46 = .ok (.iload_n 1, 1) := by decide +kernel
theorem dX7_isBad_47 : decode cX7_isBad 47 = .ok (.iaload, 1) := by decide +kernel
theorem dX7_isBad_48 : decode cX7_isBad 48 = .ok (.isub, 1) := by decide +kernel
theorem dX7_isBad_49 : decode cX7_isBad 49 = .ok (.i2l, 1) := by decide +kernel
theorem dX7_isBad_50 : decode cX7_isBad 50 = .ok (.ldc2_w 167, 3) := by decide +kernel
theorem dX7_isBad_53 : decode cX7_isBad 53 = .ok (.ldc2_w 169, 3) := by decide +kernel
theorem dX7_isBad_56 : decode cX7_isBad 56 = .ok (.invokestatic 117, 3) := by decide +kernel
theorem dX7_isBad_59 : decode cX7_isBad 59 = .ok (.ifCond .eq 7, 3) := by decide +kernel
theorem dX7_isBad_62 : decode cX7_isBad 62 = .ok (.iconst 1, 1) := by decide +kernel
theorem dX7_isBad_63 : decode cX7_isBad 63 = .ok (.goto 4, 3) := by decide +kernel
theorem dX7_isBad_66 : decode cX7_isBad 66 = .ok (.iconst 0, 1) := by decide +kernel
theorem dX7_isBad_67 : decode cX7_isBad 67 = .ok (.istore 4, 2) := by decide +kernel
theorem dX7_isBad_69 : decode cX7_isBad 69 = .ok (.iload_n 2, 1) := by decide +kernel
theorem dX7_isBad_70 : decode cX7_isBad 70 = .ok (.ifCond .ne 21, 3) := by decide +kernel
theorem dX7_isBad_73 : decode cX7_isBad 73 = .ok (.iload_n 3, 1) := by decide +kernel
theorem dX7_isBad_74 : decode cX7_isBad 74 = .ok (.iload_n 1, 1) := by decide +kernel
theorem dX7_isBad_75 : decode cX7_isBad 75 = .ok (.if_icmp .eq 20, 3) := by decide +kernel
theorem dX7_isBad_78 : decode cX7_isBad 78 = .ok (.aload_n 0, 1) := by decide +kernel
theorem dX7_isBad_79 : decode cX7_isBad 79 = .ok (.iload_n 3, 1) := by decide +kernel
theorem dX7_isBad_80 : decode cX7_isBad 80 = .ok (.invokevirtual 171, 3) := by decide +kernel
theorem dX7_isBad_83 : decode cX7_isBad 83 = .ok (.ifCond .ne 12, 3) := by decide +kernel
theorem dX7_isBad_86 : decode cX7_isBad 86 = .ok (.iload 4, 2) := by decide +kernel
theorem dX7_isBad_88 : decode cX7_isBad 88 = .ok (.ifCond .eq 7, 3) := by decide +kernel
theorem dX7_isBad_91 : decode cX7_isBad 91 = .ok (.iconst 1, 1) := by decide +kernel
theorem dX7_isBad_92 : decode cX7_isBad 92 = .ok (.goto 4, 3) := by decide +kernel
theorem dX7_isBad_95 : decode cX7_isBad 95 = .ok (.iconst 0, 1) := by decide +kernel
theorem dX7_isBad_96 : decode cX7_isBad 96 = .ok (.istore_n 2, 1) := by decide +kernel
theorem dX7_isBad_97 : decode cX7_isBad 97 = .ok (.iinc 3 1, 3) := by decide +kernel
theorem dX7_isBad_100 : decode cX7_isBad 100 = .ok (.goto (-96), 3) := by decide +kernel
theorem dX7_isBad_103 : decode cX7_isBad 103 = .ok (.iload_n 2, 1) := by decide +kernel
theorem dX7_isBad_104 : decode cX7_isBad 104 = .ok (.ifCond .eq 15, 3) := by decide +kernel
theorem dX7_isBad_107 : decode cX7_isBad 107 = .ok (.aload_n 0, 1) := by decide +kernel
theorem dX7_isBad_108 : decode cX7_isBad 108 = .ok (.iload_n 1, 1) := by decide +kernel
theorem dX7_isBad_109 : decode cX7_isBad 109 = .ok (.invokevirtual 171, 3) := by decide +kernel
theorem dX7_isBad_112 : decode cX7_isBad 112 = .ok (.ifCond .ne 7, 3) := by decide +kernel
theorem dX7_isBad_115 : decode cX7_isBad 115 = .ok (.iconst 1, 1) := by decide +kernel
theorem dX7_isBad_116 : decode cX7_isBad 116 = .ok (.goto 4, 3) := by decide +kernel
theorem dX7_isBad_119 : decode cX7_isBad 119 = .ok (.iconst 0, 1) := by decide +kernel
theorem dX7_isBad_120 : decode cX7_isBad 120 = .ok (.ireturn, 1) := by decide +kernel
theorem dX7_tideAt_0 : decode cX7_tideAt 0 = .ok (.iload_n 1, 1) := by decide +kernel
theorem dX7_tideAt_1 : decode cX7_tideAt 1 = .ok (.invokestatic 175, 3) := by decide +kernel
theorem dX7_tideAt_4 : decode cX7_tideAt 4 = .ok (.aload_n 0, 1) := by decide +kernel
theorem dX7_tideAt_5 : decode cX7_tideAt 5 = .ok (.getfield 13, 3) := by decide +kernel
theorem dX7_tideAt_8 : decode cX7_tideAt 8 = .ok (.if_icmp .gt 10, 3) := by decide +kernel
theorem dX7_tideAt_11 : decode cX7_tideAt 11 = .ok (.aload_n 0, 1) := by decide +kernel
theorem dX7_tideAt_12 : decode cX7_tideAt 12 = .ok (.getfield 179, 3) := by decide +kernel
theorem dX7_tideAt_15 : decode cX7_tideAt 15 = .ok (.goto 9, 3) := by decide +kernel
theorem dX7_tideAt_18 : decode cX7_tideAt 18 = .ok (.aload_n 0, 1) := by decide +kernel
theorem dX7_tideAt_19 : decode cX7_tideAt 19 = .ok (.getfield 179, 3) := by decide +kernel
theorem dX7_tideAt_22 : decode cX7_tideAt 22 = .ok (.iconst 2, 1) := by decide +kernel
theorem dX7_tideAt_23 : decode cX7_tideAt 23 = .ok (.idiv, 1) := by decide +kernel
theorem dX7_tideAt_24 : decode cX7_tideAt 24 = .ok (.ireturn, 1) := by decide +kernel
theorem dX7_moveOne_0 : decode cX7_moveOne 0 = .ok (.aload_n 0, 1) := by decide +kernel
theorem dX7_moveOne_1 : decode cX7_moveOne 1 = .ok (.getfield 35, 3) := by decide +kernel
theorem dX7_moveOne_4 : decode cX7_moveOne 4 = .ok (.iload_n 1, 1) := by decide +kernel
theorem dX7_moveOne_5 : decode cX7_moveOne 5 = .ok (.iaload, 1) := by decide +kernel
theorem dX7_moveOne_6 : decode cX7_moveOne 6 = .ok (.istore_n 3, 1) := by decide +kernel
theorem dX7_moveOne_7 : decode cX7_moveOne 7 = .ok (.aload_n 0, 1) := by decide +kernel
theorem dX7_moveOne_8 : decode cX7_moveOne 8 = .ok (.iload_n 1, 1) := by decide +kernel
theorem dX7_moveOne_9 : decode cX7_moveOne 9 = .ok (.invokevirtual 182, 3) := by decide +kernel
theorem dX7_moveOne_12 : decode cX7_moveOne 12 = .ok (.ifCond .eq 39, 3) := by decide +kernel
theorem dX7_moveOne_15 : decode cX7_moveOne 15 = .ok (.aload_n 0, 1) := by decide +kernel
theorem dX7_moveOne_16 : decode cX7_moveOne 16 = .ok (.getfield 35, 3) := by decide +kernel
theorem dX7_moveOne_19 : decode cX7_moveOne 19 = .ok (.iload_n 1, 1) := by decide +kernel
theorem dX7_moveOne_20 : decode cX7_moveOne 20 = .ok (.iload_n 3, 1) := by decide +kernel
theorem dX7_moveOne_21 : decode cX7_moveOne 21 = .ok (.bipush 8, 2) := by decide +kernel
theorem dX7_moveOne_23 : decode cX7_moveOne 23 = .ok (.if_icmp .le 10, 3) := by decide +kernel
theorem dX7_moveOne_26 : decode cX7_moveOne 26 = .ok (.iload_n 3, 1) := by decide +kernel
theorem dX7_moveOne_27 : decode cX7_moveOne 27 = .ok (.bipush 8, 2) := by decide +kernel
theorem dX7_moveOne_29 : decode cX7_moveOne 29 = .ok (.isub, 1) := by decide +kernel
theorem dX7_moveOne_30 : decode cX7_moveOne 30 = .ok (.goto 17, 3) := by decide +kernel
theorem dX7_moveOne_33 : decode cX7_moveOne 33 = .ok (.iload_n 3, 1) := by decide +kernel
theorem dX7_moveOne_34 : decode cX7_moveOne 34 = .ok (.bipush (-8), 2) := by decide +kernel
theorem dX7_moveOne_36 : decode cX7_moveOne 36 = .ok (.if_icmp .ge 10, 3) := by decide +kernel
theorem dX7_moveOne_39 : decode cX7_moveOne 39 = .ok (.iload_n 3, 1) := by decide +kernel
theorem dX7_moveOne_40 : decode cX7_moveOne 40 = .ok (.bipush 8, 2) := by decide +kernel
theorem dX7_moveOne_42 : decode cX7_moveOne 42 = .ok (.iadd, 1) := by decide +kernel
theorem dX7_moveOne_43 : decode cX7_moveOne 43 = .ok (.goto 4, 3) := by decide +kernel
theorem dX7_moveOne_46 : decode cX7_moveOne 46 = .ok (.iconst 0, 1) := by decide +kernel
theorem dX7_moveOne_47 : decode cX7_moveOne 47 = .ok (.iastore, 1) := by decide +kernel
theorem dX7_moveOne_48 : decode cX7_moveOne 48 = .ok (.goto 162, 3) := by decide +kernel
theorem dX7_moveOne_51 : decode cX7_moveOne 51 = .ok (.aload_n 0, 1) := by decide +kernel
theorem dX7_moveOne_52 : decode cX7_moveOne 52 = .ok (.getfield 44, 3) := by decide +kernel
theorem dX7_moveOne_55 : decode cX7_moveOne 55 = .ok (.iload_n 1, 1) := by decide +kernel
theorem dX7_moveOne_56 : decode cX7_moveOne 56 = .ok (.iaload, 1) := by decide +kernel
theorem dX7_moveOne_57 : decode cX7_moveOne 57 = .ok (.ifCond .le 47, 3) := by decide +kernel
theorem dX7_moveOne_60 : decode cX7_moveOne 60 = .ok (.aload_n 0, 1) := by decide +kernel
theorem dX7_moveOne_61 : decode cX7_moveOne 61 = .ok (.getfield 38, 3) := by decide +kernel
theorem dX7_moveOne_64 : decode cX7_moveOne 64 = .ok (.iload_n 1, 1) := by decide +kernel
theorem dX7_moveOne_65 : decode cX7_moveOne 65 = .ok (.iaload, 1) := by decide +kernel
theorem dX7_moveOne_66 : decode cX7_moveOne 66 = .ok (.aload_n 0, 1) := by decide +kernel
theorem dX7_moveOne_67 : decode cX7_moveOne 67 = .ok (.iload_n 3, 1) := by decide +kernel
theorem dX7_moveOne_68 : decode cX7_moveOne 68 = .ok (.invokevirtual 185, 3) := by decide +kernel
theorem dX7_moveOne_71 : decode cX7_moveOne 71 = .ok (.isub, 1) := by decide +kernel
theorem dX7_moveOne_72 : decode cX7_moveOne 72 = .ok (.istore 4, 2) := by decide +kernel
theorem dX7_moveOne_74 : decode cX7_moveOne 74 = .ok (.aload_n 0, 1) := by decide +kernel
theorem dX7_moveOne_75 : decode cX7_moveOne 75 = .ok (.getfield 38, 3) := by decide +kernel
theorem dX7_moveOne_78 : decode cX7_moveOne 78 = .ok (.iload_n 1, 1) := by decide +kernel
theorem dX7_moveOne_79 : decode cX7_moveOne 79 = .ok (.iload 4, 2) := by decide +kernel
theorem dX7_moveOne_81 : decode cX7_moveOne 81 = .ok (.ifCond .ge 7, 3) := by decide +kernel
theorem dX7_moveOne_84 : decode cX7_moveOne 84 = .ok (.iconst 0, 1) := by decide +kernel
theorem dX7_moveOne_85 : decode cX7_moveOne 85 = .ok (.goto 5, 3) := by decide +kernel
theorem dX7_moveOne_88 : decode cX7_moveOne 88 = .ok (.iload 4, 2) := by decide +kernel
theorem dX7_moveOne_90 : decode cX7_moveOne 90 = .ok (.iastore, 1) := by decide +kernel
theorem dX7_moveOne_91 : decode cX7_moveOne 91 = .ok (.aload_n 0, 1) := by decide +kernel
theorem dX7_moveOne_92 : decode cX7_moveOne 92 = .ok (.getfield 44, 3) := by decide +kernel
theorem dX7_moveOne_95 : decode cX7_moveOne 95 = .ok (.iload_n 1, 1) := by decide +kernel
theorem dX7_moveOne_96 : decode cX7_moveOne 96 = .ok (.dup2, 1) := by decide +kernel
theorem dX7_moveOne_97 : decode cX7_moveOne 97 = .ok (.iaload, 1) := by decide +kernel
theorem dX7_moveOne_98 : decode cX7_moveOne 98 = .ok (.iconst 1, 1) := by decide +kernel
theorem dX7_moveOne_99 : decode cX7_moveOne 99 = .ok (.isub, 1) := by decide +kernel
theorem dX7_moveOne_100 : decode cX7_moveOne 100 = .ok (.iastore, 1) := by decide +kernel
theorem dX7_moveOne_101 : decode cX7_moveOne 101 = .ok (.goto 109, 3) := by decide +kernel
theorem dX7_moveOne_104 : decode cX7_moveOne 104 = .ok (.bipush 6, 2) := by decide +kernel
theorem dX7_moveOne_106 : decode cX7_moveOne 106 = .ok (.aload_n 0, 1) := by decide +kernel
theorem dX7_moveOne_107 : decode cX7_moveOne 107 = .ok (.getfield 41, 3) := by decide +kernel
theorem dX7_moveOne_110 : decode cX7_moveOne 110 = .ok (.iload_n 1, 1) := by decide +kernel
theorem dX7_moveOne_111 : decode cX7_moveOne 111 = .ok (.iaload, 1) := by decide +kernel
theorem dX7_moveOne_112 : decode cX7_moveOne 112 = .ok (.iload_n 2, 1) := by decide +kernel
theorem dX7_moveOne_113 : decode cX7_moveOne 113 = .ok (.iconst 5, 1) := by decide +kernel
theorem dX7_moveOne_114 : decode cX7_moveOne 114 = .ok (.idiv, 1) := by decide +kernel
theorem dX7_moveOne_115 : decode cX7_moveOne 115 = .ok (.imul, 1) := by decide +kernel
theorem dX7_moveOne_116 : decode cX7_moveOne 116 = .ok (.isub, 1) := by decide +kernel
theorem dX7_moveOne_117 : decode cX7_moveOne 117 = .ok (.aload_n 0, 1) := by decide +kernel
theorem dX7_moveOne_118 : decode cX7_moveOne 118 = .ok (.getfield 71, 3) := by decide +kernel
theorem dX7_moveOne_121 : decode cX7_moveOne 121 = .ok (.iload_n 1, 1) := by decide +kernel
theorem dX7_moveOne_122 : decode cX7_moveOne 122 = .ok (.iaload, 1) := by decide +kernel
theorem dX7_moveOne_123 : decode cX7_moveOne 123 = .ok (.iconst 1, 1) := by decide +kernel
theorem dX7_moveOne_124 : decode cX7_moveOne 124 = .ok (.if_icmp .ne 7, 3) := by decide +kernel
theorem dX7_moveOne_127 : decode cX7_moveOne 127 = .ok (.iconst 2, 1) := by decide +kernel
theorem dX7_moveOne_128 : decode cX7_moveOne 128 = .ok (.goto 4, 3) := by decide +kernel
theorem dX7_moveOne_131 : decode cX7_moveOne 131 = .ok (.iconst 0, 1) := by decide +kernel
theorem dX7_moveOne_132 : decode cX7_moveOne 132 = .ok (.isub, 1) := by decide +kernel
theorem dX7_moveOne_133 : decode cX7_moveOne 133 = .ok (.aload_n 0, 1) := by decide +kernel
theorem dX7_moveOne_134 : decode cX7_moveOne 134 = .ok (.iload_n 3, 1) := by decide +kernel
theorem dX7_moveOne_135 : decode cX7_moveOne 135 = .ok (.invokevirtual 185, 3) := by decide +kernel
theorem dX7_moveOne_138 : decode cX7_moveOne 138 = .ok (.isub, 1) := by decide +kernel
theorem dX7_moveOne_139 : decode cX7_moveOne 139 = .ok (.istore 4, 2) := by decide +kernel
theorem dX7_moveOne_141 : decode cX7_moveOne 141 = .ok (.iload_n 3, 1) := by decide +kernel
theorem dX7_moveOne_142 : decode cX7_moveOne 142 = .ok (.bipush 8, 2) := by decide +kernel
theorem dX7_moveOne_144 : decode cX7_moveOne 144 = .ok (.aload_n 0, 1) := by decide +kernel
theorem dX7_moveOne_145 : decode cX7_moveOne 145 = .ok (.getfield 41, 3) := by decide +kernel
theorem dX7_moveOne_148 : decode cX7_moveOne 148 = .ok (.iload_n 1, 1) := by decide +kernel
theorem dX7_moveOne_149 : decode cX7_moveOne 149 = .ok (.iaload, 1) := by decide +kernel
theorem dX7_moveOne_150 : decode cX7_moveOne 150 = .ok (.imul, 1) := by decide +kernel
theorem dX7_moveOne_151 : decode cX7_moveOne 151 = .ok (.iadd, 1) := by decide +kernel
theorem dX7_moveOne_152 : decode cX7_moveOne 152 = .ok (.istore 5, 2) := by decide +kernel
theorem dX7_moveOne_154 : decode cX7_moveOne 154 = .ok (.aload_n 0, 1) := by decide +kernel
theorem dX7_moveOne_155 : decode cX7_moveOne 155 = .ok (.getfield 38, 3) := by decide +kernel
theorem dX7_moveOne_158 : decode cX7_moveOne 158 = .ok (.iload_n 1, 1) := by decide +kernel
theorem dX7_moveOne_159 : decode cX7_moveOne 159 = .ok (.dup2, 1) := by decide +kernel
theorem dX7_moveOne_160 : decode cX7_moveOne 160 = .ok (.iaload, 1) := by decide +kernel
theorem dX7_moveOne_161 : decode cX7_moveOne 161 = .ok (.iload 4, 2) := by decide +kernel
theorem dX7_moveOne_163 : decode cX7_moveOne 163 = .ok (.ifCond .ge 7, 3) := by decide +kernel
theorem dX7_moveOne_166 : decode cX7_moveOne 166 = .ok (.iconst 0, 1) := by decide +kernel
theorem dX7_moveOne_167 : decode cX7_moveOne 167 = .ok (.goto 5, 3) := by decide +kernel
theorem dX7_moveOne_170 : decode cX7_moveOne 170 = .ok (.iload 4, 2) := by decide +kernel
theorem dX7_moveOne_172 : decode cX7_moveOne 172 = .ok (.iadd, 1) := by decide +kernel
theorem dX7_moveOne_173 : decode cX7_moveOne 173 = .ok (.iastore, 1) := by decide +kernel
theorem dX7_moveOne_174 : decode cX7_moveOne 174 = .ok (.aload_n 0, 1) := by decide +kernel
theorem dX7_moveOne_175 : decode cX7_moveOne 175 = .ok (.getfield 35, 3) := by decide +kernel
theorem dX7_moveOne_178 : decode cX7_moveOne 178 = .ok (.iload_n 1, 1) := by decide +kernel
theorem dX7_moveOne_179 : decode cX7_moveOne 179 = .ok (.iload 5, 2) := by decide +kernel
theorem dX7_moveOne_181 : decode cX7_moveOne 181 = .ok (.sipush 200, 3) := by decide +kernel
theorem dX7_moveOne_184 : decode cX7_moveOne 184 = .ok (.if_icmp .le 9, 3) := by decide +kernel
theorem dX7_moveOne_187 : decode cX7_moveOne 187 = .ok (.sipush 200, 3) := by decide +kernel
theorem dX7_moveOne_190 : decode cX7_moveOne 190 = .ok (.goto 19, 3) := by decide +kernel
theorem dX7_moveOne_193 : decode cX7_moveOne 193 = .ok (.iload 5, 2) := by decide +kernel
theorem dX7_moveOne_195 : decode cX7_moveOne 195 = .ok (.sipush (-200), 3) := by decide +kernel
theorem dX7_moveOne_198 : decode cX7_moveOne 198 = .ok (.if_icmp .ge 9, 3) := by decide +kernel
theorem dX7_moveOne_201 : decode cX7_moveOne 201 = .ok (.sipush (-200), 3) := by decide +kernel
theorem dX7_moveOne_204 : decode cX7_moveOne 204 = .ok (.goto 5, 3) := by decide +kernel
theorem dX7_moveOne_207 : decode cX7_moveOne 207 = .ok (.iload 5, 2) := by decide +kernel
theorem dX7_moveOne_209 : decode cX7_moveOne 209 = .ok (.iastore, 1) := by decide +kernel
theorem dX7_moveOne_210 : decode cX7_moveOne 210 = .ok (.aload_n 0, 1) := by decide +kernel
theorem dX7_moveOne_211 : decode cX7_moveOne 211 = .ok (.getfield 35, 3) := by decide +kernel
theorem dX7_moveOne_214 : decode cX7_moveOne 214 = .ok (.iload_n 1, 1) := by decide +kernel
theorem dX7_moveOne_215 : decode cX7_moveOne 215 = .ok (.iaload, 1) := by decide +kernel
theorem dX7_moveOne_216 : decode cX7_moveOne 216 = .ok (.ifCond .ne 23, 3) := by decide +kernel
theorem dX7_moveOne_219 : decode cX7_moveOne 219 = .ok (.aload_n 0, 1) := by decide +kernel
theorem dX7_moveOne_220 : decode cX7_moveOne 220 = .ok (.iload_n 1, 1) := by decide +kernel
theorem dX7_moveOne_221 : decode cX7_moveOne 221 = .ok (.invokevirtual 182, 3) := by decide +kernel
theorem dX7_moveOne_224 : decode cX7_moveOne 224 = .ok (.ifCond .eq 15, 3) := by decide +kernel
theorem dX7_moveOne_227 : decode cX7_moveOne 227 = .ok (.aload_n 0, 1) := by decide +kernel
theorem dX7_moveOne_228 : decode cX7_moveOne 228 = .ok (.getfield 47, 3) := by decide +kernel
theorem dX7_moveOne_231 : decode cX7_moveOne 231 = .ok (.iload_n 1, 1) := by decide +kernel
theorem dX7_moveOne_232 : decode cX7_moveOne 232 = .ok (.aload_n 0, 1) := by decide +kernel
theorem dX7_moveOne_233 : decode cX7_moveOne 233 = .ok (.getfield 188, 3) := by decide +kernel
theorem dX7_moveOne_236 : decode cX7_moveOne 236 = .ok (.iconst 1, 1) := by decide +kernel
theorem dX7_moveOne_237 : decode cX7_moveOne 237 = .ok (.iadd, 1) := by decide +kernel
theorem dX7_moveOne_238 : decode cX7_moveOne 238 = .ok (.iastore, 1) := by decide +kernel
theorem dX7_moveOne_239 : decode cX7_moveOne 239 = .ok (.return_, 1) := by decide +kernel
theorem dX7_moveAll_0 : decode cX7_moveAll 0 = .ok (.iconst 0, 1) := by decide +kernel
theorem dX7_moveAll_1 : decode cX7_moveAll 1 = .ok (.istore_n 1, 1) := by decide +kernel
theorem dX7_moveAll_2 : decode cX7_moveAll 2 = .ok (.iload_n 1, 1) := by decide +kernel
theorem dX7_moveAll_3 : decode cX7_moveAll 3 = .ok (.aload_n 0, 1) := by decide +kernel
theorem dX7_moveAll_4 : decode cX7_moveAll 4 = .ok (.getfield 114, 3) := by decide +kernel
theorem dX7_moveAll_7 : decode cX7_moveAll 7 = .ok (.if_icmp .ge 28, 3) := by decide +kernel
theorem dX7_moveAll_10 : decode cX7_moveAll 10 = .ok (.aload_n 0, 1) := by decide +kernel
theorem dX7_moveAll_11 : decode cX7_moveAll 11 = .ok (.getfield 71, 3) := by decide +kernel
theorem dX7_moveAll_14 : decode cX7_moveAll 14 = .ok (.iload_n 1, 1) := by decide +kernel
theorem dX7_moveAll_15 : decode cX7_moveAll 15 = .ok (.aload_n 0, 1) := by decide +kernel
theorem dX7_moveAll_16 : decode cX7_moveAll 16 = .ok (.iload_n 1, 1) := by decide +kernel
theorem dX7_moveAll_17 : decode cX7_moveAll 17 = .ok (.invokevirtual 191, 3) := by decide +kernel
theorem dX7_moveAll_20 : decode cX7_moveAll 20 = .ok (.ifCond .eq 7, 3) := by decide +kernel
theorem dX7_moveAll_23 : decode cX7_moveAll 23 = .ok (.iconst 1, 1) := by decide +kernel
theorem dX7_moveAll_24 : decode cX7_moveAll 24 = .ok (.goto 4, 3) := by decide +kernel
theorem dX7_moveAll_27 : decode cX7_moveAll 27 = .ok (.iconst 0, 1) := by decide +kernel
theorem dX7_moveAll_28 : decode cX7_moveAll 28 = .ok (.iastore, 1) := by decide +kernel
theorem dX7_moveAll_29 : decode cX7_moveAll 29 = .ok (.iinc 1 1, 3) := by decide +kernel
theorem dX7_moveAll_32 : decode cX7_moveAll 32 = .ok (.goto (-30), 3) := by decide +kernel
theorem dX7_moveAll_35 : decode cX7_moveAll 35 = .ok (.iconst 0, 1) := by decide +kernel
theorem dX7_moveAll_36 : decode cX7_moveAll 36 = .ok (.istore_n 1, 1) := by decide +kernel
theorem dX7_moveAll_37 : decode cX7_moveAll 37 = .ok (.iload_n 1, 1) := by decide +kernel
theorem dX7_moveAll_38 : decode cX7_moveAll 38 = .ok (.aload_n 0, 1) := by decide +kernel
theorem dX7_moveAll_39 : decode cX7_moveAll 39 = .ok (.getfield 114, 3) := by decide +kernel
theorem dX7_moveAll_42 : decode cX7_moveAll 42 = .ok (.if_icmp .ge 31, 3) := by decide +kernel
theorem dX7_moveAll_45 : decode cX7_moveAll 45 = .ok (.aload_n 0, 1) := by decide +kernel
theorem dX7_moveAll_46 : decode cX7_moveAll 46 = .ok (.iload_n 1, 1) := by decide +kernel
theorem dX7_moveAll_47 : decode cX7_moveAll 47 = .ok (.invokevirtual 171, 3) := by decide +kernel
theorem dX7_moveAll_50 : decode cX7_moveAll 50 = .ok (.ifCond .ne 17, 3) := by decide +kernel
theorem dX7_moveAll_53 : decode cX7_moveAll 53 = .ok (.aload_n 0, 1) := by decide +kernel
theorem dX7_moveAll_54 : decode cX7_moveAll 54 = .ok (.iload_n 1, 1) := by decide +kernel
theorem dX7_moveAll_55 : decode cX7_moveAll 55 = .ok (.aload_n 0, 1) := by decide +kernel
theorem dX7_moveAll_56 : decode cX7_moveAll 56 = .ok (.getfield 68, 3) := by decide +kernel
theorem dX7_moveAll_59 : decode cX7_moveAll 59 = .ok (.aload_n 0, 1) := by decide +kernel
theorem dX7_moveAll_60 : decode cX7_moveAll 60 = .ok (.getfield 188, 3) := by decide +kernel
theorem dX7_moveAll_63 : decode cX7_moveAll 63 = .ok (.iaload, 1) := by decide +kernel
theorem dX7_moveAll_64 : decode cX7_moveAll 64 = .ok (.invokevirtual 194, 3) := by decide +kernel
theorem dX7_moveAll_67 : decode cX7_moveAll 67 = .ok (.iinc 1 1, 3) := by decide +kernel
theorem dX7_moveAll_70 : decode cX7_moveAll 70 = .ok (.goto (-33), 3) := by decide +kernel
theorem dX7_moveAll_73 : decode cX7_moveAll 73 = .ok (.aload_n 0, 1) := by decide +kernel
theorem dX7_moveAll_74 : decode cX7_moveAll 74 = .ok (.dup, 1) := by decide +kernel
theorem dX7_moveAll_75 : decode cX7_moveAll 75 = .ok (.getfield 188, 3) := by decide +kernel
theorem dX7_moveAll_78 : decode cX7_moveAll 78 = .ok (.iconst 1, 1) := by decide +kernel
theorem dX7_moveAll_79 : decode cX7_moveAll 79 = .ok (.iadd, 1) := by decide +kernel
theorem dX7_moveAll_80 : decode cX7_moveAll 80 = .ok (.putfield 188, 3) := by decide +kernel
theorem dX7_moveAll_83 : decode cX7_moveAll 83 = .ok (.return_, 1) := by decide +kernel
theorem dX7_turnOne_0 : decode cX7_turnOne 0 = .ok (.aload_n 0, 1) := by decide +kernel
theorem dX7_turnOne_1 : decode cX7_turnOne 1 = .ok (.getfield 41, 3) := by decide +kernel
theorem dX7_turnOne_4 : decode cX7_turnOne 4 = .ok (.iload_n 1, 1) := by decide +kernel
theorem dX7_turnOne_5 : decode cX7_turnOne 5 = .ok (.aload_n 0, 1) := by decide +kernel
theorem dX7_turnOne_6 : decode cX7_turnOne 6 = .ok (.getfield 41, 3) := by decide +kernel
theorem dX7_turnOne_9 : decode cX7_turnOne 9 = .ok (.iload_n 1, 1) := by decide +kernel
theorem dX7_turnOne_10 : decode cX7_turnOne 10 = .ok (.iaload, 1) := by decide +kernel
theorem dX7_turnOne_11 : decode cX7_turnOne 11 = .ok (.ineg, 1) := by decide +kernel
theorem dX7_turnOne_12 : decode cX7_turnOne 12 = .ok (.iastore, 1) := by decide +kernel
theorem dX7_turnOne_13 : decode cX7_turnOne 13 = .ok (.aload_n 0, 1) := by decide +kernel
theorem dX7_turnOne_14 : decode cX7_turnOne 14 = .ok (.getfield 44, 3) := by decide +kernel
theorem dX7_turnOne_17 : decode cX7_turnOne 17 = .ok (.iload_n 1, 1) := by decide +kernel
theorem dX7_turnOne_18 : decode cX7_turnOne 18 = .ok (.aload_n 0, 1) := by decide +kernel
theorem dX7_turnOne_19 : decode cX7_turnOne 19 = .ok (.getfield 16, 3) := by decide +kernel
theorem dX7_turnOne_22 : decode cX7_turnOne 22 = .ok (.iastore, 1) := by decide +kernel
theorem dX7_turnOne_23 : decode cX7_turnOne 23 = .ok (.aload_n 0, 1) := by decide +kernel
theorem dX7_turnOne_24 : decode cX7_turnOne 24 = .ok (.getfield 50, 3) := by decide +kernel
theorem dX7_turnOne_27 : decode cX7_turnOne 27 = .ok (.iload_n 1, 1) := by decide +kernel
theorem dX7_turnOne_28 : decode cX7_turnOne 28 = .ok (.dup2, 1) := by decide +kernel
theorem dX7_turnOne_29 : decode cX7_turnOne 29 = .ok (.iaload, 1) := by decide +kernel
theorem dX7_turnOne_30 : decode cX7_turnOne 30 = .ok (.iconst 1, 1) := by decide +kernel
theorem dX7_turnOne_31 : decode cX7_turnOne 31 = .ok (.iadd, 1) := by decide +kernel
theorem dX7_turnOne_32 : decode cX7_turnOne 32 = .ok (.iastore, 1) := by decide +kernel
theorem dX7_turnOne_33 : decode cX7_turnOne 33 = .ok (.return_, 1) := by decide +kernel
theorem dX7_mayTurn_0 : decode cX7_mayTurn 0 = .ok (.aload_n 0, 1) := by decide +kernel
theorem dX7_mayTurn_1 : decode cX7_mayTurn 1 = .ok (.iload_n 1, 1) := by decide +kernel
theorem dX7_mayTurn_2 : decode cX7_mayTurn 2 = .ok (.invokevirtual 171, 3) := by decide +kernel
theorem dX7_mayTurn_5 : decode cX7_mayTurn 5 = .ok (.ifCond .ne 24, 3) := by decide +kernel
theorem dX7_mayTurn_8 : decode cX7_mayTurn 8 = .ok (.aload_n 0, 1) := by decide +kernel
theorem dX7_mayTurn_9 : decode cX7_mayTurn 9 = .ok (.iload_n 1, 1) := by decide +kernel
theorem dX7_mayTurn_10 : decode cX7_mayTurn 10 = .ok (.invokevirtual 182, 3) := by decide +kernel
theorem dX7_mayTurn_13 : decode cX7_mayTurn 13 = .ok (.ifCond .ne 16, 3) := by decide +kernel
theorem dX7_mayTurn_16 : decode cX7_mayTurn 16 = .ok (.aload_n 0, 1) := by decide +kernel
theorem dX7_mayTurn_17 : decode cX7_mayTurn 17 = .ok (.getfield 44, 3) := by decide +kernel
theorem dX7_mayTurn_20 : decode cX7_mayTurn 20 = .ok (.iload_n 1, 1) := by decide +kernel
theorem dX7_mayTurn_21 : decode cX7_mayTurn 21 = .ok (.iaload, 1) := by decide +kernel
theorem dX7_mayTurn_22 : decode cX7_mayTurn 22 = .ok (.ifCond .ne 7, 3) := by decide +kernel
theorem dX7_mayTurn_25 : decode cX7_mayTurn 25 = .ok (.iconst 1, 1) := by decide +kernel
theorem dX7_mayTurn_26 : decode cX7_mayTurn 26 = .ok (.goto 4, 3) := by decide +kernel
theorem dX7_mayTurn_29 : decode cX7_mayTurn 29 = .ok (.iconst 0, 1) := by decide +kernel
theorem dX7_mayTurn_30 : decode cX7_mayTurn 30 = .ok (.ireturn, 1) := by decide +kernel
theorem dX7_isOut_0 : decode cX7_isOut 0 = .ok (.aload_n 0, 1) := by decide +kernel
theorem dX7_isOut_1 : decode cX7_isOut 1 = .ok (.getfield 35, 3) := by decide +kernel
theorem dX7_isOut_4 : decode cX7_isOut 4 = .ok (.iload_n 1, 1) := by decide +kernel
theorem dX7_isOut_5 : decode cX7_isOut 5 = .ok (.iaload, 1) := by decide +kernel
theorem dX7_isOut_6 : decode cX7_isOut 6 = .ok (.aload_n 0, 1) := by decide +kernel
theorem dX7_isOut_7 : decode cX7_isOut 7 = .ok (.getfield 41, 3) := by decide +kernel
theorem dX7_isOut_10 : decode cX7_isOut 10 = .ok (.iload_n 1, 1) := by decide +kernel
theorem dX7_isOut_11 : decode cX7_isOut 11 = .ok (.iaload, 1) := by decide +kernel
theorem dX7_isOut_12 : decode cX7_isOut 12 = .ok (.imul, 1) := by decide +kernel
theorem dX7_isOut_13 : decode cX7_isOut 13 = .ok (.sipush 200, 3) := by decide +kernel
theorem dX7_isOut_16 : decode cX7_isOut 16 = .ok (.if_icmp .ne 7, 3) := by decide +kernel
theorem dX7_isOut_19 : decode cX7_isOut 19 = .ok (.iconst 1, 1) := by decide +kernel
theorem dX7_isOut_20 : decode cX7_isOut 20 = .ok (.goto 4, 3) := by decide +kernel
theorem dX7_isOut_23 : decode cX7_isOut 23 = .ok (.iconst 0, 1) := by decide +kernel
theorem dX7_isOut_24 : decode cX7_isOut 24 = .ok (.ireturn, 1) := by decide +kernel
theorem dX7_isHeaded_0 : decode cX7_isHeaded 0 = .ok (.aload_n 0, 1) := by decide +kernel
theorem dX7_isHeaded_1 : decode cX7_isHeaded 1 = .ok (.getfield 41, 3) := by decide +kernel
theorem dX7_isHeaded_4 : decode cX7_isHeaded 4 = .ok (.iload_n 1, 1) := by decide +kernel
theorem dX7_isHeaded_5 : decode cX7_isHeaded 5 = .ok (.iaload, 1) := by decide +kernel
theorem dX7_isHeaded_6 : decode cX7_isHeaded 6 = .ok (.aload_n 0, 1) := by decide +kernel
theorem dX7_isHeaded_7 : decode cX7_isHeaded 7 = .ok (.getfield 68, 3) := by decide +kernel
theorem dX7_isHeaded_10 : decode cX7_isHeaded 10 = .ok (.aload_n 0, 1) := by decide +kernel
theorem dX7_isHeaded_11 : decode cX7_isHeaded 11 = .ok (.getfield 188, 3) := by decide +kernel
theorem dX7_isHeaded_14 : decode cX7_isHeaded 14 = .ok (.iaload, 1) := by decide +kernel
theorem dX7_isHeaded_15 : decode cX7_isHeaded 15 = .ok (.iconst 5, 1) := by decide +kernel
theorem dX7_isHeaded_16 : decode cX7_isHeaded 16 = .ok (.idiv, 1) := by decide +kernel
theorem dX7_isHeaded_17 : decode cX7_isHeaded 17 = .ok (.imul, 1) := by decide +kernel
theorem dX7_isHeaded_18 : decode cX7_isHeaded 18 = .ok (.aload_n 0, 1) := by decide +kernel
theorem dX7_isHeaded_19 : decode cX7_isHeaded 19 = .ok (.getfield 32, 3) := by decide +kernel
theorem dX7_isHeaded_22 : decode cX7_isHeaded 22 = .ok (.iload_n 1, 1) := by decide +kernel
theorem dX7_isHeaded_23 : decode cX7_isHeaded 23 = .ok (.iaload, 1) := by decide +kernel
theorem dX7_isHeaded_24 : decode cX7_isHeaded 24 = .ok (.iconst 5, 1) := by decide +kernel
theorem dX7_isHeaded_25 : decode cX7_isHeaded 25 = .ok (.idiv, 1) := by decide +kernel
theorem dX7_isHeaded_26 : decode cX7_isHeaded 26 = .ok (.if_icmp .le 7, 3) := by decide +kernel
theorem dX7_isHeaded_29 : decode cX7_isHeaded 29 = .ok (.iconst 1, 1) := by decide +kernel
theorem dX7_isHeaded_30 : decode cX7_isHeaded 30 = .ok (.goto 4, 3) := by decide +kernel
theorem dX7_isHeaded_33 : decode cX7_isHeaded 33 = .ok (.iconst 0, 1) := by decide +kernel
theorem dX7_isHeaded_34 : decode cX7_isHeaded 34 = .ok (.ireturn, 1) := by decide +kernel
theorem dX7_isTurnTime_0 : decode cX7_isTurnTime 0 = .ok (.aload_n 0, 1) := by decide +kernel
theorem dX7_isTurnTime_1 : decode cX7_isTurnTime 1 = .ok (.getfield 32, 3) := by decide +kernel
theorem dX7_isTurnTime_4 : decode cX7_isTurnTime 4 = .ok (.iload_n 1, 1) := by decide +kernel
theorem dX7_isTurnTime_5 : decode cX7_isTurnTime 5 = .ok (.iaload, 1) := by decide +kernel
theorem dX7_isTurnTime_6 : decode cX7_isTurnTime 6 = .ok (.ifCond .le 23, 3) := by decide +kernel
theorem dX7_isTurnTime_9 : decode cX7_isTurnTime 9 = .ok (.aload_n 0, 1) := by decide +kernel
theorem dX7_isTurnTime_10 : decode cX7_isTurnTime 10 = .ok (.getfield 188, 3) := by decide +kernel
theorem dX7_isTurnTime_13 : decode cX7_isTurnTime 13 = .ok (.iconst 5, 1) := by decide +kernel
theorem dX7_isTurnTime_14 : decode cX7_isTurnTime 14 = .ok (.aload_n 0, 1) := by decide +kernel
theorem dX7_isTurnTime_15 : decode cX7_isTurnTime 15 = .ok (.getfield 32, 3) := by decide +kernel
theorem dX7_isTurnTime_18 : decode cX7_isTurnTime 18 = .ok (.iload_n 1, 1) := by decide +kernel
theorem dX7_isTurnTime_19 : decode cX7_isTurnTime 19 = .ok (.iaload, 1) := by decide +kernel
theorem dX7_isTurnTime_20 : decode cX7_isTurnTime 20 = .ok (.imul, 1) := by decide +kernel
theorem dX7_isTurnTime_21 : decode cX7_isTurnTime 21 = .ok (.irem, 1) := by decide +kernel
theorem dX7_isTurnTime_22 : decode cX7_isTurnTime 22 = .ok (.ifCond .ne 7, 3) := by decide +kernel
theorem dX7_isTurnTime_25 : decode cX7_isTurnTime 25 = .ok (.iconst 1, 1) := by decide +kernel
theorem dX7_isTurnTime_26 : decode cX7_isTurnTime 26 = .ok (.goto 4, 3) := by decide +kernel
theorem dX7_isTurnTime_29 : decode cX7_isTurnTime 29 = .ok (.iconst 0, 1) := by decide +kernel
theorem dX7_isTurnTime_30 : decode cX7_isTurnTime 30 = .ok (.ireturn, 1) := by decide +kernel
theorem dX7_isCovering_0 : decode cX7_isCovering 0 = .ok (.iload_n 1, 1) := by decide +kernel
theorem dX7_isCovering_1 : decode cX7_isCovering 1 = .ok (.ifCond .ne 12, 3) := by decide +kernel
theorem dX7_isCovering_4 : decode cX7_isCovering 4 = .ok (.aload_n 0, 1) := by decide +kernel
theorem dX7_isCovering_5 : decode cX7_isCovering 5 = .ok (.getfield 114, 3) := by decide +kernel
theorem dX7_isCovering_8 : decode cX7_isCovering 8 = .ok (.iconst 1, 1) := by decide +kernel
theorem dX7_isCovering_9 : decode cX7_isCovering 9 = .ok (.isub, 1) := by decide +kernel
theorem dX7_isCovering_10 : decode cX7_isCovering 10 = .ok (.goto 6, 3) := by decide +kernel
theorem dX7_isCovering_13 : decode cX7_isCovering 13 = .ok (.iload_n 1, 1) := by decide +kernel
theorem dX7_isCovering_14 : decode cX7_isCovering 14 = .ok (.iconst 1, 1) := by decide +kernel
theorem dX7_isCovering_15 : decode cX7_isCovering 15 = .ok (.isub, 1) := by decide +kernel
theorem dX7_isCovering_16 : decode cX7_isCovering 16 = .ok (.istore_n 2, 1) := by decide +kernel
theorem dX7_isCovering_17 : decode cX7_isCovering 17 = .ok (.iload_n 2, 1) := by decide +kernel
theorem dX7_isCovering_18 : decode cX7_isCovering 18 = .ok (.iload_n 1, 1) := by decide +kernel
theorem dX7_isCovering_19 : decode cX7_isCovering 19 = .ok (.if_icmp .eq 37, 3) := by decide +kernel
theorem dX7_isCovering_22 : decode cX7_isCovering 22 = .ok (.aload_n 0, 1) := by decide +kernel
theorem dX7_isCovering_23 : decode cX7_isCovering 23 = .ok (.getfield 41, 3) := by decide +kernel
theorem dX7_isCovering_26 : decode cX7_isCovering 26 = .ok (.iload_n 2, 1) := by decide +kernel
theorem dX7_isCovering_27 : decode cX7_isCovering 27 = .ok (.iaload, 1) := by decide +kernel
theorem dX7_isCovering_28 : decode cX7_isCovering 28 = .ok (.aload_n 0, 1) := by decide +kernel
theorem dX7_isCovering_29 : decode cX7_isCovering 29 = .ok (.getfield 41, 3) := by decide +kernel
theorem dX7_isCovering_32 : decode cX7_isCovering 32 = .ok (.iload_n 1, 1) := by decide +kernel
theorem dX7_isCovering_33 : decode cX7_isCovering 33 = .ok (.iaload, 1) := by decide +kernel
theorem dX7_isCovering_34 : decode cX7_isCovering 34 = .ok (.if_icmp .eq 22, 3) := by decide +kernel
theorem dX7_isCovering_37 : decode cX7_isCovering 37 = .ok (.aload_n 0, 1) := by decide +kernel
theorem dX7_isCovering_38 : decode cX7_isCovering 38 = .ok (.getfield 38, 3) := by decide +kernel
theorem dX7_isCovering_41 : decode cX7_isCovering 41 = .ok (.iload_n 2, 1) := by decide +kernel
theorem dX7_isCovering_42 : decode cX7_isCovering 42 = .ok (.iaload, 1) := by decide +kernel
theorem dX7_isCovering_43 : decode cX7_isCovering 43 = .ok (.aload_n 0, 1) := by decide +kernel
theorem dX7_isCovering_44 : decode cX7_isCovering 44 = .ok (.getfield 38, 3) := by decide +kernel
theorem dX7_isCovering_47 : decode cX7_isCovering 47 = .ok (.iload_n 1, 1) := by decide +kernel
theorem dX7_isCovering_48 : decode cX7_isCovering 48 = .ok (.iaload, 1) := by decide +kernel
theorem dX7_isCovering_49 : decode cX7_isCovering 49 = .ok (.if_icmp .ge 7, 3) := by decide +kernel
theorem dX7_isCovering_52 : decode cX7_isCovering 52 = .ok (.iconst 1, 1) := by decide +kernel
theorem dX7_isCovering_53 : decode cX7_isCovering 53 = .ok (.goto 4, 3) := by decide +kernel
theorem dX7_isCovering_56 : decode cX7_isCovering 56 = .ok (.iconst 0, 1) := by decide +kernel
theorem dX7_isCovering_57 : decode cX7_isCovering 57 = .ok (.ireturn, 1) := by decide +kernel
theorem dX7_isSide_0 : decode cX7_isSide 0 = .ok (.aload_n 0, 1) := by decide +kernel
theorem dX7_isSide_1 : decode cX7_isSide 1 = .ok (.getfield 35, 3) := by decide +kernel
theorem dX7_isSide_4 : decode cX7_isSide 4 = .ok (.iload_n 1, 1) := by decide +kernel
theorem dX7_isSide_5 : decode cX7_isSide 5 = .ok (.iaload, 1) := by decide +kernel
theorem dX7_isSide_6 : decode cX7_isSide 6 = .ok (.aload_n 0, 1) := by decide +kernel
theorem dX7_isSide_7 : decode cX7_isSide 7 = .ok (.getfield 41, 3) := by decide +kernel
theorem dX7_isSide_10 : decode cX7_isSide 10 = .ok (.iload_n 1, 1) := by decide +kernel
theorem dX7_isSide_11 : decode cX7_isSide 11 = .ok (.iaload, 1) := by decide +kernel
theorem dX7_isSide_12 : decode cX7_isSide 12 = .ok (.imul, 1) := by decide +kernel
theorem dX7_isSide_13 : decode cX7_isSide 13 = .ok (.iconst 5, 1) := by decide +kernel
theorem dX7_isSide_14 : decode cX7_isSide 14 = .ok (.aload_n 0, 1) := by decide +kernel
theorem dX7_isSide_15 : decode cX7_isSide 15 = .ok (.getfield 32, 3) := by decide +kernel
theorem dX7_isSide_18 : decode cX7_isSide 18 = .ok (.iload_n 1, 1) := by decide +kernel
theorem dX7_isSide_19 : decode cX7_isSide 19 = .ok (.iaload, 1) := by decide +kernel
theorem dX7_isSide_20 : decode cX7_isSide 20 = .ok (.imul, 1) := by decide +kernel
theorem dX7_isSide_21 : decode cX7_isSide 21 = .ok (.if_icmp .lt 7, 3) := by decide +kernel
theorem dX7_isSide_24 : decode cX7_isSide 24 = .ok (.iconst 1, 1) := by decide +kernel
theorem dX7_isSide_25 : decode cX7_isSide 25 = .ok (.goto 4, 3) := by decide +kernel
theorem dX7_isSide_28 : decode cX7_isSide 28 = .ok (.iconst 0, 1) := by decide +kernel
theorem dX7_isSide_29 : decode cX7_isSide 29 = .ok (.ireturn, 1) := by decide +kernel
theorem dX7_isLast_0 : decode cX7_isLast 0 = .ok (.aload_n 0, 1) := by decide +kernel
theorem dX7_isLast_1 : decode cX7_isLast 1 = .ok (.getfield 35, 3) := by decide +kernel
theorem dX7_isLast_4 : decode cX7_isLast 4 = .ok (.iload_n 1, 1) := by decide +kernel
theorem dX7_isLast_5 : decode cX7_isLast 5 = .ok (.iaload, 1) := by decide +kernel
theorem dX7_isLast_6 : decode cX7_isLast 6 = .ok (.aload_n 0, 1) := by decide +kernel
theorem dX7_isLast_7 : decode cX7_isLast 7 = .ok (.getfield 41, 3) := by decide +kernel
theorem dX7_isLast_10 : decode cX7_isLast 10 = .ok (.iload_n 1, 1) := by decide +kernel
theorem dX7_isLast_11 : decode cX7_isLast 11 = .ok (.iaload, 1) := by decide +kernel
theorem dX7_isLast_12 : decode cX7_isLast 12 = .ok (.imul, 1) := by decide +kernel
theorem dX7_isLast_13 : decode cX7_isLast 13 = .ok (.ifCond .le 36, 3) := by decide +kernel
theorem dX7_isLast_16 : decode cX7_isLast 16 = .ok (.bipush 8, 2) := by decide +kernel
theorem dX7_isLast_18 : decode cX7_isLast 18 = .ok (.aload_n 0, 1) := by decide +kernel
theorem dX7_isLast_19 : decode cX7_isLast 19 = .ok (.getfield 7, 3) := by decide +kernel
theorem dX7_isLast_22 : decode cX7_isLast 22 = .ok (.aload_n 0, 1) := by decide +kernel
theorem dX7_isLast_23 : decode cX7_isLast 23 = .ok (.getfield 38, 3) := by decide +kernel
theorem dX7_isLast_26 : decode cX7_isLast 26 = .ok (.iload_n 1, 1) := by decide +kernel
theorem dX7_isLast_27 : decode cX7_isLast 27 = .ok (.iaload, 1) := by decide +kernel
theorem dX7_isLast_28 : decode cX7_isLast 28 = .ok (.isub, 1) := by decide +kernel
theorem dX7_isLast_29 : decode cX7_isLast 29 = .ok (.imul, 1) := by decide +kernel
theorem dX7_isLast_30 : decode cX7_isLast 30 = .ok (.bipush 6, 2) := by decide +kernel
theorem dX7_isLast_32 : decode cX7_isLast 32 = .ok (.idiv, 1) := by decide +kernel
theorem dX7_isLast_33 : decode cX7_isLast 33 = .ok (.aload_n 0, 1) := by decide +kernel
theorem dX7_isLast_34 : decode cX7_isLast 34 = .ok (.getfield 35, 3) := by decide +kernel
theorem dX7_isLast_37 : decode cX7_isLast 37 = .ok (.iload_n 1, 1) := by decide +kernel
theorem dX7_isLast_38 : decode cX7_isLast 38 = .ok (.iaload, 1) := by decide +kernel
theorem dX7_isLast_39 : decode cX7_isLast 39 = .ok (.invokestatic 175, 3) := by decide +kernel
theorem dX7_isLast_42 : decode cX7_isLast 42 = .ok (.if_icmp .gt 7, 3) := by decide +kernel
theorem dX7_isLast_45 : decode cX7_isLast 45 = .ok (.iconst 1, 1) := by decide +kernel
theorem dX7_isLast_46 : decode cX7_isLast 46 = .ok (.goto 4, 3) := by decide +kernel
theorem dX7_isLast_49 : decode cX7_isLast 49 = .ok (.iconst 0, 1) := by decide +kernel
theorem dX7_isLast_50 : decode cX7_isLast 50 = .ok (.ireturn, 1) := by decide +kernel
theorem dX7_turnsByKind_0 : decode cX7_turnsByKind 0 = .ok (.aload_n 0, 1) := by decide +kernel
theorem dX7_turnsByKind_1 : decode cX7_turnsByKind 1 = .ok (.getfield 23, 3) := by decide +kernel
theorem dX7_turnsByKind_4 : decode cX7_turnsByKind 4 = .ok (.iload_n 1, 1) := by decide +kernel
theorem dX7_turnsByKind_5 : decode cX7_turnsByKind 5 = .ok (.iaload, 1) := by decide +kernel
theorem dX7_turnsByKind_6 : decode cX7_turnsByKind 6 = .ok (.tableswitch 143 0 6 #[42, 48, 54, 60, 82, 115, 121], 42) := by decide +kernel
theorem dX7_turnsByKind_48 : decode cX7_turnsByKind 48 = .ok (.aload_n 0, 1) := by decide +kernel
theorem dX7_turnsByKind_49 : decode cX7_turnsByKind 49 = .ok (.iload_n 1, 1) := by decide +kernel
theorem dX7_turnsByKind_50 : decode cX7_turnsByKind 50 = .ok (.invokevirtual 198, 3) := by decide +kernel
theorem dX7_turnsByKind_53 : decode cX7_turnsByKind 53 = .ok (.ireturn, 1) := by decide +kernel
theorem dX7_turnsByKind_54 : decode cX7_turnsByKind 54 = .ok (.aload_n 0, 1) := by decide +kernel
theorem dX7_turnsByKind_55 : decode cX7_turnsByKind 55 = .ok (.iload_n 1, 1) := by decide +kernel
theorem dX7_turnsByKind_56 : decode cX7_turnsByKind 56 = .ok (.invokevirtual 201, 3) := by decide +kernel
theorem dX7_turnsByKind_59 : decode cX7_turnsByKind 59 = .ok (.ireturn, 1) := by decide +kernel
theorem dX7_turnsByKind_60 : decode cX7_turnsByKind 60 = .ok (.aload_n 0, 1) := by decide +kernel
theorem dX7_turnsByKind_61 : decode cX7_turnsByKind 61 = .ok (.iload_n 1, 1) := by decide +kernel
theorem dX7_turnsByKind_62 : decode cX7_turnsByKind 62 = .ok (.invokevirtual 191, 3) := by decide +kernel
theorem dX7_turnsByKind_65 : decode cX7_turnsByKind 65 = .ok (.ireturn, 1) := by decide +kernel
theorem dX7_turnsByKind_66 : decode cX7_turnsByKind 66 = .ok (.aload_n 0, 1) := by decide +kernel
theorem dX7_turnsByKind_67 : decode cX7_turnsByKind 67 = .ok (.iload_n 1, 1) := by decide +kernel
theorem dX7_turnsByKind_68 : decode cX7_turnsByKind 68 = .ok (.invokevirtual 191, 3) := by decide +kernel
theorem dX7_turnsByKind_71 : decode cX7_turnsByKind 71 = .ok (.ifCond .ne 11, 3) := by decide +kernel
theorem dX7_turnsByKind_74 : decode cX7_turnsByKind 74 = .ok (.aload_n 0, 1) := by decide +kernel
theorem dX7_turnsByKind_75 : decode cX7_turnsByKind 75 = .ok (.iload_n 1, 1) := by decide +kernel
theorem dX7_turnsByKind_76 : decode cX7_turnsByKind 76 = .ok (.invokevirtual 204, 3) := by decide +kernel
theorem dX7_turnsByKind_79 : decode cX7_turnsByKind 79 = .ok (.ifCond .eq 7, 3) := by decide +kernel
theorem dX7_turnsByKind_82 : decode cX7_turnsByKind 82 = .ok (.iconst 1, 1) := by decide +kernel
theorem dX7_turnsByKind_83 : decode cX7_turnsByKind 83 = .ok (.goto 4, 3) := by decide +kernel
theorem dX7_turnsByKind_86 : decode cX7_turnsByKind 86 = .ok (.iconst 0, 1) := by decide +kernel
theorem dX7_turnsByKind_87 : decode cX7_turnsByKind 87 = .ok (.ireturn, 1) := by decide +kernel
theorem dX7_turnsByKind_88 : decode cX7_turnsByKind 88 = .ok (.aload_n 0, 1) := by decide +kernel
theorem dX7_turnsByKind_89 : decode cX7_turnsByKind 89 = .ok (.iload_n 1, 1) := by decide +kernel
theorem dX7_turnsByKind_90 : decode cX7_turnsByKind 90 = .ok (.invokevirtual 198, 3) := by decide +kernel
theorem dX7_turnsByKind_93 : decode cX7_turnsByKind 93 = .ok (.ifCond .eq 26, 3) := by decide +kernel
theorem dX7_turnsByKind_96 : decode cX7_turnsByKind 96 = .ok (.aload_n 0, 1) := by decide +kernel
theorem dX7_turnsByKind_97 : decode cX7_turnsByKind 97 = .ok (.getfield 188, 3) := by decide +kernel
theorem dX7_turnsByKind_100 : decode cX7_turnsByKind 100 = .ok (.iconst 5, 1) := by decide +kernel
theorem dX7_turnsByKind_101 : decode cX7_turnsByKind 101 = .ok (.aload_n 0, 1) := by decide +kernel
theorem dX7_turnsByKind_102 : decode cX7_turnsByKind 102 = .ok (.getfield 32, 3) := by decide +kernel
theorem dX7_turnsByKind_105 : decode cX7_turnsByKind 105 = .ok (.iload_n 1, 1) := by decide +kernel
theorem dX7_turnsByKind_106 : decode cX7_turnsByKind 106 = .ok (.iaload, 1) := by decide +kernel
theorem dX7_turnsByKind_107 : decode cX7_turnsByKind 107 = .ok (.imul, 1) := by decide +kernel
theorem dX7_turnsByKind_108 : decode cX7_turnsByKind 108 = .ok (.idiv, 1) := by decide +kernel
theorem dX7_turnsByKind_109 : decode cX7_turnsByKind 109 = .ok (.iconst 2, 1) := by decide +kernel
theorem dX7_turnsByKind_110 : decode cX7_turnsByKind 110 = .ok (.irem, 1) := by decide +kernel
theorem dX7_turnsByKind_111 : decode cX7_turnsByKind 111 = .ok (.iconst 1, 1) := by decide +kernel
theorem dX7_turnsByKind_112 : decode cX7_turnsByKind 112 = .ok (.if_icmp .ne 7, 3) := by decide +kernel
theorem dX7_turnsByKind_115 : decode cX7_turnsByKind 115 = .ok (.iconst 1, 1) := by decide +kernel
theorem dX7_turnsByKind_116 : decode cX7_turnsByKind 116 = .ok (.goto 4, 3) := by decide +kernel
theorem dX7_turnsByKind_119 : decode cX7_turnsByKind 119 = .ok (.iconst 0, 1) := by decide +kernel
theorem dX7_turnsByKind_120 : decode cX7_turnsByKind 120 = .ok (.ireturn, 1) := by decide +kernel
theorem dX7_turnsByKind_121 : decode cX7_turnsByKind 121 = .ok (.aload_n 0, 1) := by decide +kernel
theorem dX7_turnsByKind_122 : decode cX7_turnsByKind 122 = .ok (.iload_n 1, 1) := by decide +kernel
theorem dX7_turnsByKind_123 : decode cX7_turnsByKind 123 = .ok (.invokevirtual 207, 3) := by decide +kernel
theorem dX7_turnsByKind_126 : decode cX7_turnsByKind 126 = .ok (.ireturn, 1) := by decide +kernel
theorem dX7_turnsByKind_127 : decode cX7_turnsByKind 127 = .ok (.aload_n 0, 1) := by decide +kernel
theorem dX7_turnsByKind_128 : decode cX7_turnsByKind 128 = .ok (.iload_n 1, 1) := by decide +kernel
theorem dX7_turnsByKind_129 : decode cX7_turnsByKind 129 = .ok (.invokevirtual 207, 3) := by decide +kernel
theorem dX7_turnsByKind_132 : decode cX7_turnsByKind 132 = .ok (.ifCond .ne 11, 3) := by decide +kernel
theorem dX7_turnsByKind_135 : decode cX7_turnsByKind 135 = .ok (.aload_n 0, 1) := by decide +kernel
theorem dX7_turnsByKind_136 : decode cX7_turnsByKind 136 = .ok (.iload_n 1, 1) := by decide +kernel
theorem dX7_turnsByKind_137 : decode cX7_turnsByKind 137 = .ok (.invokevirtual 210, 3) := by decide +kernel
theorem dX7_turnsByKind_140 : decode cX7_turnsByKind 140 = .ok (.ifCond .eq 7, 3) := by decide +kernel
theorem dX7_turnsByKind_143 : decode cX7_turnsByKind 143 = .ok (.iconst 1, 1) := by decide +kernel
theorem dX7_turnsByKind_144 : decode cX7_turnsByKind 144 = .ok (.goto 4, 3) := by decide +kernel
theorem dX7_turnsByKind_147 : decode cX7_turnsByKind 147 = .ok (.iconst 0, 1) := by decide +kernel
theorem dX7_turnsByKind_148 : decode cX7_turnsByKind 148 = .ok (.ireturn, 1) := by decide +kernel
theorem dX7_turnsByKind_149 : decode cX7_turnsByKind 149 = .ok (.aload_n 0, 1) := by decide +kernel
theorem dX7_turnsByKind_150 : decode cX7_turnsByKind 150 = .ok (.iload_n 1, 1) := by decide +kernel
theorem dX7_turnsByKind_151 : decode cX7_turnsByKind 151 = .ok (.invokevirtual 201, 3) := by decide +kernel
theorem dX7_turnsByKind_154 : decode cX7_turnsByKind 154 = .ok (.ifCond .eq 25, 3) := by decide +kernel
theorem dX7_turnsByKind_157 : decode cX7_turnsByKind 157 = .ok (.aload_n 0, 1) := by decide +kernel
theorem dX7_turnsByKind_158 : decode cX7_turnsByKind 158 = .ok (.getfield 16, 3) := by decide +kernel
theorem dX7_turnsByKind_161 : decode cX7_turnsByKind 161 = .ok (.iconst 2, 1) := by decide +kernel
theorem dX7_turnsByKind_162 : decode cX7_turnsByKind 162 = .ok (.if_icmp .le 13, 3) := by decide +kernel
theorem dX7_turnsByKind_165 : decode cX7_turnsByKind 165 = .ok (.aload_n 0, 1) := by decide +kernel
theorem dX7_turnsByKind_166 : decode cX7_turnsByKind 166 = .ok (.getfield 188, 3) := by decide +kernel
theorem dX7_turnsByKind_169 : decode cX7_turnsByKind 169 = .ok (.bipush 10, 2) := by decide +kernel
theorem dX7_turnsByKind_171 : decode cX7_turnsByKind 171 = .ok (.irem, 1) := by decide +kernel
theorem dX7_turnsByKind_172 : decode cX7_turnsByKind 172 = .ok (.ifCond .ne 7, 3) := by decide +kernel
theorem dX7_turnsByKind_175 : decode cX7_turnsByKind 175 = .ok (.iconst 1, 1) := by decide +kernel
theorem dX7_turnsByKind_176 : decode cX7_turnsByKind 176 = .ok (.goto 4, 3) := by decide +kernel
theorem dX7_turnsByKind_179 : decode cX7_turnsByKind 179 = .ok (.iconst 0, 1) := by decide +kernel
theorem dX7_turnsByKind_180 : decode cX7_turnsByKind 180 = .ok (.ireturn, 1) := by decide +kernel
theorem dX7_raceOn_0 : decode cX7_raceOn 0 = .ok (.aload_n 0, 1) := by decide +kernel
theorem dX7_raceOn_1 : decode cX7_raceOn 1 = .ok (.invokevirtual 213, 3) := by decide +kernel
theorem dX7_raceOn_4 : decode cX7_raceOn 4 = .ok (.iconst 0, 1) := by decide +kernel
theorem dX7_raceOn_5 : decode cX7_raceOn 5 = .ok (.istore_n 1, 1) := by decide +kernel
theorem dX7_raceOn_6 : decode cX7_raceOn 6 = .ok (.iload_n 1, 1) := by decide +kernel
theorem dX7_raceOn_7 : decode cX7_raceOn 7 = .ok (.aload_n 0, 1) := by decide +kernel
theorem dX7_raceOn_8 : decode cX7_raceOn 8 = .ok (.getfield 114, 3) := by decide +kernel
theorem dX7_raceOn_11 : decode cX7_raceOn 11 = .ok (.if_icmp .ge 44, 3) := by decide +kernel
theorem dX7_raceOn_14 : decode cX7_raceOn 14 = .ok (.aload_n 0, 1) := by decide +kernel
theorem dX7_raceOn_15 : decode cX7_raceOn 15 = .ok (.getfield 74, 3) := by decide +kernel
theorem dX7_raceOn_18 : decode cX7_raceOn 18 = .ok (.iload_n 1, 1) := by decide +kernel
theorem dX7_raceOn_19 : decode cX7_raceOn 19 = .ok (.aload_n 0, 1) := by decide +kernel
theorem dX7_raceOn_20 : decode cX7_raceOn 20 = .ok (.iload_n 1, 1) := by decide +kernel
theorem dX7_raceOn_21 : decode cX7_raceOn 21 = .ok (.invokevirtual 216, 3) := by decide +kernel
theorem dX7_raceOn_24 : decode cX7_raceOn 24 = .ok (.ifCond .eq 23, 3) := by decide +kernel
theorem dX7_raceOn_27 : decode cX7_raceOn 27 = .ok (.aload_n 0, 1) := by decide +kernel
theorem dX7_raceOn_28 : decode cX7_raceOn 28 = .ok (.iload_n 1, 1) := by decide +kernel
theorem dX7_raceOn_29 : decode cX7_raceOn 29 = .ok (.invokevirtual 219, 3) := by decide +kernel
theorem dX7_raceOn_32 : decode cX7_raceOn 32 = .ok (.ifCond .ne 11, 3) := by decide +kernel
theorem dX7_raceOn_35 : decode cX7_raceOn 35 = .ok (.aload_n 0, 1) := by decide +kernel
theorem dX7_raceOn_36 : decode cX7_raceOn 36 = .ok (.iload_n 1, 1) := by decide +kernel
theorem dX7_raceOn_37 : decode cX7_raceOn 37 = .ok (.invokevirtual 222, 3) := by decide +kernel
theorem dX7_raceOn_40 : decode cX7_raceOn 40 = .ok (.ifCond .eq 7, 3) := by decide +kernel
theorem dX7_raceOn_43 : decode cX7_raceOn 43 = .ok (.iconst 1, 1) := by decide +kernel
theorem dX7_raceOn_44 : decode cX7_raceOn 44 = .ok (.goto 4, 3) := by decide +kernel
theorem dX7_raceOn_47 : decode cX7_raceOn 47 = .ok (.iconst 0, 1) := by decide +kernel
theorem dX7_raceOn_48 : decode cX7_raceOn 48 = .ok (.iastore, 1) := by decide +kernel
theorem dX7_raceOn_49 : decode cX7_raceOn 49 = .ok (.iinc 1 1, 3) := by decide +kernel
theorem dX7_raceOn_52 : decode cX7_raceOn 52 = .ok (.goto (-46), 3) := by decide +kernel
theorem dX7_raceOn_55 : decode cX7_raceOn 55 = .ok (.aload_n 0, 1) := by decide +kernel
theorem dX7_raceOn_56 : decode cX7_raceOn 56 = .ok (.invokevirtual 225, 3) := by decide +kernel
theorem dX7_raceOn_59 : decode cX7_raceOn 59 = .ok (.return_, 1) := by decide +kernel
theorem dX7_turnAll_0 : decode cX7_turnAll 0 = .ok (.iconst 0, 1) := by decide +kernel
theorem dX7_turnAll_1 : decode cX7_turnAll 1 = .ok (.istore_n 1, 1) := by decide +kernel
theorem dX7_turnAll_2 : decode cX7_turnAll 2 = .ok (.iload_n 1, 1) := by decide +kernel
theorem dX7_turnAll_3 : decode cX7_turnAll 3 = .ok (.aload_n 0, 1) := by decide +kernel
theorem dX7_turnAll_4 : decode cX7_turnAll 4 = .ok (.getfield 114, 3) := by decide +kernel
theorem dX7_turnAll_7 : decode cX7_turnAll 7 = .ok (.if_icmp .ge 24, 3) := by decide +kernel
theorem dX7_turnAll_10 : decode cX7_turnAll 10 = .ok (.aload_n 0, 1) := by decide +kernel
theorem dX7_turnAll_11 : decode cX7_turnAll 11 = .ok (.getfield 74, 3) := by decide +kernel
theorem dX7_turnAll_14 : decode cX7_turnAll 14 = .ok (.iload_n 1, 1) := by decide +kernel
theorem dX7_turnAll_15 : decode cX7_turnAll 15 = .ok (.iaload, 1) := by decide +kernel
theorem dX7_turnAll_16 : decode cX7_turnAll 16 = .ok (.iconst 1, 1) := by decide +kernel
theorem dX7_turnAll_17 : decode cX7_turnAll 17 = .ok (.if_icmp .ne 8, 3) := by decide +kernel
theorem dX7_turnAll_20 : decode cX7_turnAll 20 = .ok (.aload_n 0, 1) := by decide +kernel
theorem dX7_turnAll_21 : decode cX7_turnAll 21 = .ok (.iload_n 1, 1) := by decide +kernel
theorem dX7_turnAll_22 : decode cX7_turnAll 22 = .ok (.invokevirtual 228, 3) := by decide +kernel
theorem dX7_turnAll_25 : decode cX7_turnAll 25 = .ok (.iinc 1 1, 3) := by decide +kernel
theorem dX7_turnAll_28 : decode cX7_turnAll 28 = .ok (.goto (-26), 3) := by decide +kernel
theorem dX7_turnAll_31 : decode cX7_turnAll 31 = .ok (.return_, 1) := by decide +kernel
theorem dX7_isEnded_0 : decode cX7_isEnded 0 = .ok (.iconst 1, 1) := by decide +kernel
theorem dX7_isEnded_1 : decode cX7_isEnded 1 = .ok (.istore_n 1, 1) := by decide +kernel
theorem dX7_isEnded_2 : decode cX7_isEnded 2 = .ok (.iconst 0, 1) := by decide +kernel
theorem dX7_isEnded_3 : decode cX7_isEnded 3 = .ok (.istore_n 2, 1) := by decide +kernel
theorem dX7_isEnded_4 : decode cX7_isEnded 4 = .ok (.iload_n 2, 1) := by decide +kernel
theorem dX7_isEnded_5 : decode cX7_isEnded 5 = .ok (.aload_n 0, 1) := by decide +kernel
theorem dX7_isEnded_6 : decode cX7_isEnded 6 = .ok (.getfield 114, 3) := by decide +kernel
theorem dX7_isEnded_9 : decode cX7_isEnded 9 = .ok (.if_icmp .ge 27, 3) := by decide +kernel
theorem dX7_isEnded_12 : decode cX7_isEnded 12 = .ok (.iload_n 1, 1) := by decide +kernel
theorem dX7_isEnded_13 : decode cX7_isEnded 13 = .ok (.ifCond .eq 15, 3) := by decide +kernel
theorem dX7_isEnded_16 : decode cX7_isEnded 16 = .ok (.aload_n 0, 1) := by decide +kernel
theorem dX7_isEnded_17 : decode cX7_isEnded 17 = .ok (.iload_n 2, 1) := by decide +kernel
theorem dX7_isEnded_18 : decode cX7_isEnded 18 = .ok (.invokevirtual 171, 3) := by decide +kernel
theorem dX7_isEnded_21 : decode cX7_isEnded 21 = .ok (.ifCond .eq 7, 3) := by decide +kernel
theorem dX7_isEnded_24 : decode cX7_isEnded 24 = .ok (.iconst 1, 1) := by decide +kernel
theorem dX7_isEnded_25 : decode cX7_isEnded 25 = .ok (.goto 4, 3) := by decide +kernel
theorem dX7_isEnded_28 : decode cX7_isEnded 28 = .ok (.iconst 0, 1) := by decide +kernel
theorem dX7_isEnded_29 : decode cX7_isEnded 29 = .ok (.istore_n 1, 1) := by decide +kernel
theorem dX7_isEnded_30 : decode cX7_isEnded 30 = .ok (.iinc 2 1, 3) := by decide +kernel
theorem dX7_isEnded_33 : decode cX7_isEnded 33 = .ok (.goto (-29), 3) := by decide +kernel
theorem dX7_isEnded_36 : decode cX7_isEnded 36 = .ok (.iload_n 1, 1) := by decide +kernel
theorem dX7_isEnded_37 : decode cX7_isEnded 37 = .ok (.ifCond .ne 13, 3) := by decide +kernel
theorem dX7_isEnded_40 : decode cX7_isEnded 40 = .ok (.aload_n 0, 1) := by decide +kernel
theorem dX7_isEnded_41 : decode cX7_isEnded 41 = .ok (.getfield 188, 3) := by decide +kernel
theorem dX7_isEnded_44 : decode cX7_isEnded 44 = .ok (.sipush 400, 3) := by decide +kernel
theorem dX7_isEnded_47 : decode cX7_isEnded 47 = .ok (.if_icmp .lt 7, 3) := by decide +kernel
theorem dX7_isEnded_50 : decode cX7_isEnded 50 = .ok (.iconst 1, 1) := by decide +kernel
theorem dX7_isEnded_51 : decode cX7_isEnded 51 = .ok (.goto 4, 3) := by decide +kernel
theorem dX7_isEnded_54 : decode cX7_isEnded 54 = .ok (.iconst 0, 1) := by decide +kernel
theorem dX7_isEnded_55 : decode cX7_isEnded 55 = .ok (.ireturn, 1) := by decide +kernel
theorem dX7_raceToEnd_0 : decode cX7_raceToEnd 0 = .ok (.aload_n 0, 1) := by decide +kernel
theorem dX7_raceToEnd_1 : decode cX7_raceToEnd 1 = .ok (.invokevirtual 231, 3) := by decide +kernel
theorem dX7_raceToEnd_4 : decode cX7_raceToEnd 4 = .ok (.aload_n 0, 1) := by decide +kernel
theorem dX7_raceToEnd_5 : decode cX7_raceToEnd 5 = .ok (.invokevirtual 234, 3) := by decide +kernel
theorem dX7_raceToEnd_8 : decode cX7_raceToEnd 8 = .ok (.ifCond .ne 10, 3) := by decide +kernel
theorem dX7_raceToEnd_11 : decode cX7_raceToEnd 11 = .ok (.aload_n 0, 1) := by decide +kernel
theorem dX7_raceToEnd_12 : decode cX7_raceToEnd 12 = .ok (.invokevirtual 238, 3) := by decide +kernel
theorem dX7_raceToEnd_15 : decode cX7_raceToEnd 15 = .ok (.goto (-11), 3) := by decide +kernel
theorem dX7_raceToEnd_18 : decode cX7_raceToEnd 18 = .ok (.return_, 1) := by decide +kernel
theorem dX7_worthOf_0 : decode cX7_worthOf 0 = .ok (.aload_n 0, 1) := by decide +kernel
theorem dX7_worthOf_1 : decode cX7_worthOf 1 = .ok (.getfield 38, 3) := by decide +kernel
theorem dX7_worthOf_4 : decode cX7_worthOf 4 = .ok (.iload_n 1, 1) := by decide +kernel
theorem dX7_worthOf_5 : decode cX7_worthOf 5 = .ok (.iaload, 1) := by decide +kernel
theorem dX7_worthOf_6 : decode cX7_worthOf 6 = .ok (.aload_n 0, 1) := by decide +kernel
theorem dX7_worthOf_7 : decode cX7_worthOf 7 = .ok (.getfield 35, 3) := by decide +kernel
theorem dX7_worthOf_10 : decode cX7_worthOf 10 = .ok (.iload_n 1, 1) := by decide +kernel
theorem dX7_worthOf_11 : decode cX7_worthOf 11 = .ok (.iaload, 1) := by decide +kernel
theorem dX7_worthOf_12 : decode cX7_worthOf 12 = .ok (.invokestatic 175, 3) := by decide +kernel
theorem dX7_worthOf_15 : decode cX7_worthOf 15 = .ok (.iconst 2, 1) := by decide +kernel
theorem dX7_worthOf_16 : decode cX7_worthOf 16 = .ok (.idiv, 1) := by decide +kernel
theorem dX7_worthOf_17 : decode cX7_worthOf 17 = .ok (.isub, 1) := by decide +kernel
theorem dX7_worthOf_18 : decode cX7_worthOf 18 = .ok (.ireturn, 1) := by decide +kernel
theorem dX7_isAhead_0 : decode cX7_isAhead 0 = .ok (.aload_n 0, 1) := by decide +kernel
theorem dX7_isAhead_1 : decode cX7_isAhead 1 = .ok (.iload_n 1, 1) := by decide +kernel
theorem dX7_isAhead_2 : decode cX7_isAhead 2 = .ok (.invokevirtual 171, 3) := by decide +kernel
theorem dX7_isAhead_5 : decode cX7_isAhead 5 = .ok (.aload_n 0, 1) := by decide +kernel
theorem dX7_isAhead_6 : decode cX7_isAhead 6 = .ok (.iload_n 2, 1) := by decide +kernel
theorem dX7_isAhead_7 : decode cX7_isAhead 7 = .ok (.invokevirtual 171, 3) := by decide +kernel
theorem dX7_isAhead_10 : decode cX7_isAhead 10 = .ok (.if_icmp .ne 26, 3) := by decide +kernel
theorem dX7_isAhead_13 : decode cX7_isAhead 13 = .ok (.aload_n 0, 1) := by decide +kernel
theorem dX7_isAhead_14 : decode cX7_isAhead 14 = .ok (.iload_n 1, 1) := by decide +kernel
theorem dX7_isAhead_15 : decode cX7_isAhead 15 = .ok (.invokevirtual 171, 3) := by decide +kernel
theorem dX7_isAhead_18 : decode cX7_isAhead 18 = .ok (.ifCond .eq 55, 3) := by decide +kernel
theorem dX7_isAhead_21 : decode cX7_isAhead 21 = .ok (.aload_n 0, 1) := by decide +kernel
theorem dX7_isAhead_22 : decode cX7_isAhead 22 = .ok (.getfield 47, 3) := by decide +kernel
theorem dX7_isAhead_25 : decode cX7_isAhead 25 = .ok (.iload_n 1, 1) := by decide +kernel
theorem dX7_isAhead_26 : decode cX7_isAhead 26 = .ok (.iaload, 1) := by decide +kernel
theorem dX7_isAhead_27 : decode cX7_isAhead 27 = .ok (.aload_n 0, 1) := by decide +kernel
theorem dX7_isAhead_28 : decode cX7_isAhead 28 = .ok (.getfield 47, 3) := by decide +kernel
theorem dX7_isAhead_31 : decode cX7_isAhead 31 = .ok (.iload_n 2, 1) := by decide +kernel
theorem dX7_isAhead_32 : decode cX7_isAhead 32 = .ok (.iaload, 1) := by decide +kernel
theorem dX7_isAhead_33 : decode cX7_isAhead 33 = .ok (.if_icmp .eq 40, 3) := by decide +kernel
theorem dX7_isAhead_36 : decode cX7_isAhead 36 = .ok (.aload_n 0, 1) := by decide +kernel
theorem dX7_isAhead_37 : decode cX7_isAhead 37 = .ok (.iload_n 1, 1) := by decide +kernel
theorem dX7_isAhead_38 : decode cX7_isAhead 38 = .ok (.invokevirtual 171, 3) := by decide +kernel
theorem dX7_isAhead_41 : decode cX7_isAhead 41 = .ok (.ifCond .eq 30, 3) := by decide +kernel
theorem dX7_isAhead_44 : decode cX7_isAhead 44 = .ok (.aload_n 0, 1) := by decide +kernel
theorem dX7_isAhead_45 : decode cX7_isAhead 45 = .ok (.iload_n 2, 1) := by decide +kernel
theorem dX7_isAhead_46 : decode cX7_isAhead 46 = .ok (.invokevirtual 171, 3) := by decide +kernel
theorem dX7_isAhead_49 : decode cX7_isAhead 49 = .ok (.ifCond .eq 18, 3) := by decide +kernel
theorem dX7_isAhead_52 : decode cX7_isAhead 52 = .ok (.aload_n 0, 1) := by decide +kernel
theorem dX7_isAhead_53 : decode cX7_isAhead 53 = .ok (.getfield 47, 3) := by decide +kernel
theorem dX7_isAhead_56 : decode cX7_isAhead 56 = .ok (.iload_n 1, 1) := by decide +kernel
theorem dX7_isAhead_57 : decode cX7_isAhead 57 = .ok (.iaload, 1) := by decide +kernel
theorem dX7_isAhead_58 : decode cX7_isAhead 58 = .ok (.aload_n 0, 1) := by decide +kernel
theorem dX7_isAhead_59 : decode cX7_isAhead 59 = .ok (.getfield 47, 3) := by decide +kernel
theorem dX7_isAhead_62 : decode cX7_isAhead 62 = .ok (.iload_n 2, 1) := by decide +kernel
theorem dX7_isAhead_63 : decode cX7_isAhead 63 = .ok (.iaload, 1) := by decide +kernel
theorem dX7_isAhead_64 : decode cX7_isAhead 64 = .ok (.if_icmp .ge 7, 3) := by decide +kernel
theorem dX7_isAhead_67 : decode cX7_isAhead 67 = .ok (.iconst 1, 1) := by decide +kernel
theorem dX7_isAhead_68 : decode cX7_isAhead 68 = .ok (.goto 4, 3) := by decide +kernel
theorem dX7_isAhead_71 : decode cX7_isAhead 71 = .ok (.iconst 0, 1) := by decide +kernel
theorem dX7_isAhead_72 : decode cX7_isAhead 72 = .ok (.ireturn, 1) := by decide +kernel
theorem dX7_isAhead_73 : decode cX7_isAhead 73 = .ok (.aload_n 0, 1) := by decide +kernel
theorem dX7_isAhead_74 : decode cX7_isAhead 74 = .ok (.iload_n 1, 1) := by decide +kernel
theorem dX7_isAhead_75 : decode cX7_isAhead 75 = .ok (.invokevirtual 241, 3) := by decide +kernel
theorem dX7_isAhead_78 : decode cX7_isAhead 78 = .ok (.aload_n 0, 1) := by decide +kernel
theorem dX7_isAhead_79 : decode cX7_isAhead 79 = .ok (.iload_n 2, 1) := by decide +kernel
theorem dX7_isAhead_80 : decode cX7_isAhead 80 = .ok (.invokevirtual 241, 3) := by decide +kernel
theorem dX7_isAhead_83 : decode cX7_isAhead 83 = .ok (.if_icmp .eq 24, 3) := by decide +kernel
theorem dX7_isAhead_86 : decode cX7_isAhead 86 = .ok (.aload_n 0, 1) := by decide +kernel
theorem dX7_isAhead_87 : decode cX7_isAhead 87 = .ok (.iload_n 1, 1) := by decide +kernel
theorem dX7_isAhead_88 : decode cX7_isAhead 88 = .ok (.invokevirtual 241, 3) := by decide +kernel
theorem dX7_isAhead_91 : decode cX7_isAhead 91 = .ok (.aload_n 0, 1) := by decide +kernel
theorem dX7_isAhead_92 : decode cX7_isAhead 92 = .ok (.iload_n 2, 1) := by decide +kernel
theorem dX7_isAhead_93 : decode cX7_isAhead 93 = .ok (.invokevirtual 241, 3) := by decide +kernel
theorem dX7_isAhead_96 : decode cX7_isAhead 96 = .ok (.if_icmp .le 7, 3) := by decide +kernel
theorem dX7_isAhead_99 : decode cX7_isAhead 99 = .ok (.iconst 1, 1) := by decide +kernel
theorem dX7_isAhead_100 : decode cX7_isAhead 100 = .ok (.goto 17, 3) := by decide +kernel
theorem dX7_isAhead_103 : decode cX7_isAhead 103 = .ok (.iconst 0, 1) := by decide +kernel
theorem dX7_isAhead_104 : decode cX7_isAhead 104 = .ok (.goto 13, 3) := by decide +kernel
theorem dX7_isAhead_107 : decode cX7_isAhead 107 = .ok (.iload_n 1, 1) := by decide +kernel
theorem dX7_isAhead_108 : decode cX7_isAhead 108 = .ok (.iload_n 2, 1) := by decide +kernel
theorem dX7_isAhead_109 : decode cX7_isAhead 109 = .ok (.if_icmp .ge 7, 3) := by decide +kernel
theorem dX7_isAhead_112 : decode cX7_isAhead 112 = .ok (.iconst 1, 1) := by decide +kernel
theorem dX7_isAhead_113 : decode cX7_isAhead 113 = .ok (.goto 4, 3) := by decide +kernel
theorem dX7_isAhead_116 : decode cX7_isAhead 116 = .ok (.iconst 0, 1) := by decide +kernel
theorem dX7_isAhead_117 : decode cX7_isAhead 117 = .ok (.ireturn, 1) := by decide +kernel
theorem dX7_placeOf_0 : decode cX7_placeOf 0 = .ok (.iconst 1, 1) := by decide +kernel
theorem dX7_placeOf_1 : decode cX7_placeOf 1 = .ok (.istore_n 2, 1) := by decide +kernel
theorem dX7_placeOf_2 : decode cX7_placeOf 2 = .ok (.iconst 0, 1) := by decide +kernel
theorem dX7_placeOf_3 : decode cX7_placeOf 3 = .ok (.istore_n 3, 1) := by decide +kernel
theorem dX7_placeOf_4 : decode cX7_placeOf 4 = .ok (.iload_n 3, 1) := by decide +kernel
theorem dX7_placeOf_5 : decode cX7_placeOf 5 = .ok (.aload_n 0, 1) := by decide +kernel
theorem dX7_placeOf_6 : decode cX7_placeOf 6 = .ok (.getfield 114, 3) := by decide +kernel
theorem dX7_placeOf_9 : decode cX7_placeOf 9 = .ok (.if_icmp .ge 31, 3) := by decide +kernel
theorem dX7_placeOf_12 : decode cX7_placeOf 12 = .ok (.iload_n 2, 1) := by decide +kernel
theorem dX7_placeOf_13 : decode cX7_placeOf 13 = .ok (.iload_n 3, 1) := by decide +kernel
theorem dX7_placeOf_14 : decode cX7_placeOf 14 = .ok (.iload_n 1, 1) := by decide +kernel
theorem dX7_placeOf_15 : decode cX7_placeOf 15 = .ok (.if_icmp .eq 16, 3) := by decide +kernel
theorem dX7_placeOf_18 : decode cX7_placeOf 18 = .ok (.aload_n 0, 1) := by decide +kernel
theorem dX7_placeOf_19 : decode cX7_placeOf 19 = .ok (.iload_n 3, 1) := by decide +kernel
theorem dX7_placeOf_20 : decode cX7_placeOf 20 = .ok (.iload_n 1, 1) := by decide +kernel
theorem dX7_placeOf_21 : decode cX7_placeOf 21 = .ok (.invokevirtual 244, 3) := by decide +kernel
theorem dX7_placeOf_24 : decode cX7_placeOf 24 = .ok (.ifCond .eq 7, 3) := by decide +kernel
theorem dX7_placeOf_27 : decode cX7_placeOf 27 = .ok (.iconst 1, 1) := by decide +kernel
theorem dX7_placeOf_28 : decode cX7_placeOf 28 = .ok (.goto 4, 3) := by decide +kernel
theorem dX7_placeOf_31 : decode cX7_placeOf 31 = .ok (.iconst 0, 1) := by decide +kernel
theorem dX7_placeOf_32 : decode cX7_placeOf 32 = .ok (.iadd, 1) := by decide +kernel
theorem dX7_placeOf_33 : decode cX7_placeOf 33 = .ok (.istore_n 2, 1) := by decide +kernel
theorem dX7_placeOf_34 : decode cX7_placeOf 34 = .ok (.iinc 3 1, 3) := by decide +kernel
theorem dX7_placeOf_37 : decode cX7_placeOf 37 = .ok (.goto (-33), 3) := by decide +kernel
theorem dX7_placeOf_40 : decode cX7_placeOf 40 = .ok (.iload_n 2, 1) := by decide +kernel
theorem dX7_placeOf_41 : decode cX7_placeOf 41 = .ok (.ireturn, 1) := by decide +kernel
theorem dX7_carry_0 : decode cX7_carry 0 = .ok (.aload_n 0, 1) := by decide +kernel
theorem dX7_carry_1 : decode cX7_carry 1 = .ok (.getfield 248, 3) := by decide +kernel
theorem dX7_carry_4 : decode cX7_carry 4 = .ok (.ifCond .eq 13, 3) := by decide +kernel
theorem dX7_carry_7 : decode cX7_carry 7 = .ok (.aload_n 0, 1) := by decide +kernel
theorem dX7_carry_8 : decode cX7_carry 8 = .ok (.getfield 251, 3) := by decide +kernel
theorem dX7_carry_11 : decode cX7_carry 11 = .ok (.aload_n 0, 1) := by decide +kernel
theorem dX7_carry_12 : decode cX7_carry 12 = .ok (.getfield 254, 3) := by decide +kernel
theorem dX7_carry_15 : decode cX7_carry 15 = .ok (.iload_n 1, 1) := by decide +kernel
theorem dX7_carry_16 : decode cX7_carry 16 = .ok (.iastore, 1) := by decide +kernel
theorem dX7_carry_17 : decode cX7_carry 17 = .ok (.aload_n 0, 1) := by decide +kernel
theorem dX7_carry_18 : decode cX7_carry 18 = .ok (.dup, 1) := by decide +kernel
theorem dX7_carry_19 : decode cX7_carry 19 = .ok (.getfield 254, 3) := by decide +kernel
theorem dX7_carry_22 : decode cX7_carry 22 = .ok (.iconst 1, 1) := by decide +kernel
theorem dX7_carry_23 : decode cX7_carry 23 = .ok (.iadd, 1) := by decide +kernel
theorem dX7_carry_24 : decode cX7_carry 24 = .ok (.putfield 254, 3) := by decide +kernel
theorem dX7_carry_27 : decode cX7_carry 27 = .ok (.aload_n 0, 1) := by decide +kernel
theorem dX7_carry_28 : decode cX7_carry 28 = .ok (.getfield 251, 3) := by decide +kernel
theorem dX7_carry_31 : decode cX7_carry 31 = .ok (.aload_n 0, 1) := by decide +kernel
theorem dX7_carry_32 : decode cX7_carry 32 = .ok (.getfield 254, 3) := by decide +kernel
theorem dX7_carry_35 : decode cX7_carry 35 = .ok (.iconst 1, 1) := by decide +kernel
theorem dX7_carry_36 : decode cX7_carry 36 = .ok (.isub, 1) := by decide +kernel
theorem dX7_carry_37 : decode cX7_carry 37 = .ok (.iaload, 1) := by decide +kernel
theorem dX7_carry_38 : decode cX7_carry 38 = .ok (.ireturn, 1) := by decide +kernel
theorem dX7_carryBoats_0 : decode cX7_carryBoats 0 = .ok (.iconst 0, 1) := by decide +kernel
theorem dX7_carryBoats_1 : decode cX7_carryBoats 1 = .ok (.istore_n 1, 1) := by decide +kernel
theorem dX7_carryBoats_2 : decode cX7_carryBoats 2 = .ok (.iload_n 1, 1) := by decide +kernel
theorem dX7_carryBoats_3 : decode cX7_carryBoats 3 = .ok (.iconst 4, 1) := by decide +kernel
theorem dX7_carryBoats_4 : decode cX7_carryBoats 4 = .ok (.if_icmp .ge 169, 3) := by decide +kernel
theorem dX7_carryBoats_7 : decode cX7_carryBoats 7 = .ok (.aload_n 0, 1) := by decide +kernel
theorem dX7_carryBoats_8 : decode cX7_carryBoats 8 = .ok (.getfield 23, 3) := by decide +kernel
theorem dX7_carryBoats_11 : decode cX7_carryBoats 11 = .ok (.iload_n 1, 1) := by decide +kernel
theorem dX7_carryBoats_12 : decode cX7_carryBoats 12 = .ok (.aload_n 0, 1) := by decide +kernel
theorem dX7_carryBoats_13 : decode cX7_carryBoats 13 = .ok (.aload_n 0, 1) := by decide +kernel
theorem dX7_carryBoats_14 : decode cX7_carryBoats 14 = .ok (.getfield 23, 3) := by decide +kernel
theorem dX7_carryBoats_17 : decode cX7_carryBoats 17 = .ok (.iload_n 1, 1) := by decide +kernel
theorem dX7_carryBoats_18 : decode cX7_carryBoats 18 = .ok (.iaload, 1) := by decide +kernel
theorem dX7_carryBoats_19 : decode cX7_carryBoats 19 = .ok (.invokevirtual 257, 3) := by decide +kernel
theorem dX7_carryBoats_22 : decode cX7_carryBoats 22 = .ok (.iastore, 1) := by decide +kernel
theorem dX7_carryBoats_23 : decode cX7_carryBoats 23 = .ok (.aload_n 0, 1) := by decide +kernel
theorem dX7_carryBoats_24 : decode cX7_carryBoats 24 = .ok (.getfield 26, 3) := by decide +kernel
theorem dX7_carryBoats_27 : decode cX7_carryBoats 27 = .ok (.iload_n 1, 1) := by decide +kernel
theorem dX7_carryBoats_28 : decode cX7_carryBoats 28 = .ok (.aload_n 0, 1) := by decide +kernel
theorem dX7_carryBoats_29 : decode cX7_carryBoats 29 = .ok (.aload_n 0, 1) := by decide +kernel
theorem dX7_carryBoats_30 : decode cX7_carryBoats 30 = .ok (.getfield 26, 3) := by decide +kernel
theorem dX7_carryBoats_33 : decode cX7_carryBoats 33 = .ok (.iload_n 1, 1) := by decide +kernel
theorem dX7_carryBoats_34 : decode cX7_carryBoats 34 = .ok (.iaload, 1) := by decide +kernel
theorem dX7_carryBoats_35 : decode cX7_carryBoats 35 = .ok (.invokevirtual 257, 3) := by decide +kernel
theorem dX7_carryBoats_38 : decode cX7_carryBoats 38 = .ok (.iastore, 1) := by decide +kernel
theorem dX7_carryBoats_39 : decode cX7_carryBoats 39 = .ok (.aload_n 0, 1) := by decide +kernel
theorem dX7_carryBoats_40 : decode cX7_carryBoats 40 = .ok (.getfield 29, 3) := by decide +kernel
theorem dX7_carryBoats_43 : decode cX7_carryBoats 43 = .ok (.iload_n 1, 1) := by decide +kernel
theorem dX7_carryBoats_44 : decode cX7_carryBoats 44 = .ok (.aload_n 0, 1) := by decide +kernel
theorem dX7_carryBoats_45 : decode cX7_carryBoats 45 = .ok (.aload_n 0, 1) := by decide +kernel
theorem dX7_carryBoats_46 : decode cX7_carryBoats 46 = .ok (.getfield 29, 3) := by decide +kernel
theorem dX7_carryBoats_49 : decode cX7_carryBoats 49 = .ok (.iload_n 1, 1) := by decide +kernel
theorem dX7_carryBoats_50 : decode cX7_carryBoats 50 = .ok (.iaload, 1) := by decide +kernel
theorem dX7_carryBoats_51 : decode cX7_carryBoats 51 = .ok (.invokevirtual 257, 3) := by decide +kernel
theorem dX7_carryBoats_54 : decode cX7_carryBoats 54 = .ok (.iastore, 1) := by decide +kernel
theorem dX7_carryBoats_55 : decode cX7_carryBoats 55 = .ok (.aload_n 0, 1) := by decide +kernel
theorem dX7_carryBoats_56 : decode cX7_carryBoats 56 = .ok (.getfield 32, 3) := by decide +kernel
theorem dX7_carryBoats_59 : decode cX7_carryBoats 59 = .ok (.iload_n 1, 1) := by decide +kernel
theorem dX7_carryBoats_60 : decode cX7_carryBoats 60 = .ok (.aload_n 0, 1) := by decide +kernel
theorem dX7_carryBoats_61 : decode cX7_carryBoats 61 = .ok (.aload_n 0, 1) := by decide +kernel
theorem dX7_carryBoats_62 : decode cX7_carryBoats 62 = .ok (.getfield 32, 3) := by decide +kernel
theorem dX7_carryBoats_65 : decode cX7_carryBoats 65 = .ok (.iload_n 1, 1) := by decide +kernel
theorem dX7_carryBoats_66 : decode cX7_carryBoats 66 = .ok (.iaload, 1) := by decide +kernel
theorem dX7_carryBoats_67 : decode cX7_carryBoats 67 = .ok (.invokevirtual 257, 3) := by decide +kernel
theorem dX7_carryBoats_70 : decode cX7_carryBoats 70 = .ok (.iastore, 1) := by decide +kernel
theorem dX7_carryBoats_71 : decode cX7_carryBoats 71 = .ok (.aload_n 0, 1) := by decide +kernel
theorem dX7_carryBoats_72 : decode cX7_carryBoats 72 = .ok (.getfield 35, 3) := by decide +kernel
theorem dX7_carryBoats_75 : decode cX7_carryBoats 75 = .ok (.iload_n 1, 1) := by decide +kernel
theorem dX7_carryBoats_76 : decode cX7_carryBoats 76 = .ok (.aload_n 0, 1) := by decide +kernel
theorem dX7_carryBoats_77 : decode cX7_carryBoats 77 = .ok (.aload_n 0, 1) := by decide +kernel
theorem dX7_carryBoats_78 : decode cX7_carryBoats 78 = .ok (.getfield 35, 3) := by decide +kernel
theorem dX7_carryBoats_81 : decode cX7_carryBoats 81 = .ok (.iload_n 1, 1) := by decide +kernel
theorem dX7_carryBoats_82 : decode cX7_carryBoats 82 = .ok (.iaload, 1) := by decide +kernel
theorem dX7_carryBoats_83 : decode cX7_carryBoats 83 = .ok (.invokevirtual 257, 3) := by decide +kernel
theorem dX7_carryBoats_86 : decode cX7_carryBoats 86 = .ok (.iastore, 1) := by decide +kernel
theorem dX7_carryBoats_87 : decode cX7_carryBoats 87 = .ok (.aload_n 0, 1) := by decide +kernel
theorem dX7_carryBoats_88 : decode cX7_carryBoats 88 = .ok (.getfield 38, 3) := by decide +kernel
theorem dX7_carryBoats_91 : decode cX7_carryBoats 91 = .ok (.iload_n 1, 1) := by decide +kernel
theorem dX7_carryBoats_92 : decode cX7_carryBoats 92 = .ok (.aload_n 0, 1) := by decide +kernel
theorem dX7_carryBoats_93 : decode cX7_carryBoats 93 = .ok (.aload_n 0, 1) := by decide +kernel
theorem dX7_carryBoats_94 : decode cX7_carryBoats 94 = .ok (.getfield 38, 3) := by decide +kernel
theorem dX7_carryBoats_97 : decode cX7_carryBoats 97 = .ok (.iload_n 1, 1) := by decide +kernel
theorem dX7_carryBoats_98 : decode cX7_carryBoats 98 = .ok (.iaload, 1) := by decide +kernel
theorem dX7_carryBoats_99 : decode cX7_carryBoats 99 = .ok (.invokevirtual 257, 3) := by decide +kernel
theorem dX7_carryBoats_102 : decode cX7_carryBoats 102 = .ok (.iastore, 1) := by decide +kernel
theorem dX7_carryBoats_103 : decode cX7_carryBoats 103 = .ok (.aload_n 0, 1) := by decide +kernel
theorem dX7_carryBoats_104 : decode cX7_carryBoats 104 = .ok (.getfield 41, 3) := by decide +kernel
theorem dX7_carryBoats_107 : decode cX7_carryBoats 107 = .ok (.iload_n 1, 1) := by decide +kernel
theorem dX7_carryBoats_108 : decode cX7_carryBoats 108 = .ok (.aload_n 0, 1) := by decide +kernel
theorem dX7_carryBoats_109 : decode cX7_carryBoats 109 = .ok (.aload_n 0, 1) := by decide +kernel
theorem dX7_carryBoats_110 : decode cX7_carryBoats 110 = .ok (.getfield 41, 3) := by decide +kernel
theorem dX7_carryBoats_113 : decode cX7_carryBoats 113 = .ok (.iload_n 1, 1) := by decide +kernel
theorem dX7_carryBoats_114 : decode cX7_carryBoats 114 = .ok (.iaload, 1) := by decide +kernel
theorem dX7_carryBoats_115 : decode cX7_carryBoats 115 = .ok (.invokevirtual 257, 3) := by decide +kernel
theorem dX7_carryBoats_118 : decode cX7_carryBoats 118 = .ok (.iastore, 1) := by decide +kernel
theorem dX7_carryBoats_119 : decode cX7_carryBoats 119 = .ok (.aload_n 0, 1) := by decide +kernel
theorem dX7_carryBoats_120 : decode cX7_carryBoats 120 = .ok (.getfield 44, 3) := by decide +kernel
theorem dX7_carryBoats_123 : decode cX7_carryBoats 123 = .ok (.iload_n 1, 1) := by decide +kernel
theorem dX7_carryBoats_124 : decode cX7_carryBoats 124 = .ok (.aload_n 0, 1) := by decide +kernel
theorem dX7_carryBoats_125 : decode cX7_carryBoats 125 = .ok (.aload_n 0, 1) := by decide +kernel
theorem dX7_carryBoats_126 : decode cX7_carryBoats 126 = .ok (.getfield 44, 3) := by decide +kernel
theorem dX7_carryBoats_129 : decode cX7_carryBoats 129 = .ok (.iload_n 1, 1) := by decide +kernel
theorem dX7_carryBoats_130 : decode cX7_carryBoats 130 = .ok (.iaload, 1) := by decide +kernel
theorem dX7_carryBoats_131 : decode cX7_carryBoats 131 = .ok (.invokevirtual 257, 3) := by decide +kernel
theorem dX7_carryBoats_134 : decode cX7_carryBoats 134 = .ok (.iastore, 1) := by decide +kernel
theorem dX7_carryBoats_135 : decode cX7_carryBoats 135 = .ok (.aload_n 0, 1) := by decide +kernel
theorem dX7_carryBoats_136 : decode cX7_carryBoats 136 = .ok (.getfield 47, 3) := by decide +kernel
theorem dX7_carryBoats_139 : decode cX7_carryBoats 139 = .ok (.iload_n 1, 1) := by decide +kernel
theorem dX7_carryBoats_140 : decode cX7_carryBoats 140 = .ok (.aload_n 0, 1) := by decide +kernel
theorem dX7_carryBoats_141 : decode cX7_carryBoats 141 = .ok (.aload_n 0, 1) := by decide +kernel
theorem dX7_carryBoats_142 : decode cX7_carryBoats 142 = .ok (.getfield 47, 3) := by decide +kernel
theorem dX7_carryBoats_145 : decode cX7_carryBoats 145 = .ok (.iload_n 1, 1) := by decide +kernel
theorem dX7_carryBoats_146 : decode cX7_carryBoats 146 = .ok (.iaload, 1) := by decide +kernel
theorem dX7_carryBoats_147 : decode cX7_carryBoats 147 = .ok (.invokevirtual 257, 3) := by decide +kernel
theorem dX7_carryBoats_150 : decode cX7_carryBoats 150 = .ok (.iastore, 1) := by decide +kernel
theorem dX7_carryBoats_151 : decode cX7_carryBoats 151 = .ok (.aload_n 0, 1) := by decide +kernel
theorem dX7_carryBoats_152 : decode cX7_carryBoats 152 = .ok (.getfield 50, 3) := by decide +kernel
theorem dX7_carryBoats_155 : decode cX7_carryBoats 155 = .ok (.iload_n 1, 1) := by decide +kernel
theorem dX7_carryBoats_156 : decode cX7_carryBoats 156 = .ok (.aload_n 0, 1) := by decide +kernel
theorem dX7_carryBoats_157 : decode cX7_carryBoats 157 = .ok (.aload_n 0, 1) := by decide +kernel
theorem dX7_carryBoats_158 : decode cX7_carryBoats 158 = .ok (.getfield 50, 3) := by decide +kernel
theorem dX7_carryBoats_161 : decode cX7_carryBoats 161 = .ok (.iload_n 1, 1) := by decide +kernel
theorem dX7_carryBoats_162 : decode cX7_carryBoats 162 = .ok (.iaload, 1) := by decide +kernel
theorem dX7_carryBoats_163 : decode cX7_carryBoats 163 = .ok (.invokevirtual 257, 3) := by decide +kernel
theorem dX7_carryBoats_166 : decode cX7_carryBoats 166 = .ok (.iastore, 1) := by decide +kernel
theorem dX7_carryBoats_167 : decode cX7_carryBoats 167 = .ok (.iinc 1 1, 3) := by decide +kernel
theorem dX7_carryBoats_170 : decode cX7_carryBoats 170 = .ok (.goto (-168), 3) := by decide +kernel
theorem dX7_carryBoats_173 : decode cX7_carryBoats 173 = .ok (.return_, 1) := by decide +kernel
theorem dX7_carryAll_0 : decode cX7_carryAll 0 = .ok (.aload_n 0, 1) := by decide +kernel
theorem dX7_carryAll_1 : decode cX7_carryAll 1 = .ok (.aload_n 1, 1) := by decide +kernel
theorem dX7_carryAll_2 : decode cX7_carryAll 2 = .ok (.putfield 251, 3) := by decide +kernel
theorem dX7_carryAll_5 : decode cX7_carryAll 5 = .ok (.aload_n 0, 1) := by decide +kernel
theorem dX7_carryAll_6 : decode cX7_carryAll 6 = .ok (.iload_n 2, 1) := by decide +kernel
theorem dX7_carryAll_7 : decode cX7_carryAll 7 = .ok (.putfield 248, 3) := by decide +kernel
theorem dX7_carryAll_10 : decode cX7_carryAll 10 = .ok (.aload_n 0, 1) := by decide +kernel
theorem dX7_carryAll_11 : decode cX7_carryAll 11 = .ok (.iconst 0, 1) := by decide +kernel
theorem dX7_carryAll_12 : decode cX7_carryAll 12 = .ok (.putfield 254, 3) := by decide +kernel
theorem dX7_carryAll_15 : decode cX7_carryAll 15 = .ok (.aload_n 0, 1) := by decide +kernel
theorem dX7_carryAll_16 : decode cX7_carryAll 16 = .ok (.aload_n 0, 1) := by decide +kernel
theorem dX7_carryAll_17 : decode cX7_carryAll 17 = .ok (.aload_n 0, 1) := by decide +kernel
theorem dX7_carryAll_18 : decode cX7_carryAll 18 = .ok (.getfield 7, 3) := by decide +kernel
theorem dX7_carryAll_21 : decode cX7_carryAll 21 = .ok (.invokevirtual 257, 3) := by decide +kernel
theorem dX7_carryAll_24 : decode cX7_carryAll 24 = .ok (.putfield 7, 3) := by decide +kernel
theorem dX7_carryAll_27 : decode cX7_carryAll 27 = .ok (.aload_n 0, 1) := by decide +kernel
theorem dX7_carryAll_28 : decode cX7_carryAll 28 = .ok (.aload_n 0, 1) := by decide +kernel
theorem dX7_carryAll_29 : decode cX7_carryAll 29 = .ok (.aload_n 0, 1) := by decide +kernel
theorem dX7_carryAll_30 : decode cX7_carryAll 30 = .ok (.getfield 179, 3) := by decide +kernel
theorem dX7_carryAll_33 : decode cX7_carryAll 33 = .ok (.invokevirtual 257, 3) := by decide +kernel
theorem dX7_carryAll_36 : decode cX7_carryAll 36 = .ok (.putfield 179, 3) := by decide +kernel
theorem dX7_carryAll_39 : decode cX7_carryAll 39 = .ok (.aload_n 0, 1) := by decide +kernel
theorem dX7_carryAll_40 : decode cX7_carryAll 40 = .ok (.aload_n 0, 1) := by decide +kernel
theorem dX7_carryAll_41 : decode cX7_carryAll 41 = .ok (.aload_n 0, 1) := by decide +kernel
theorem dX7_carryAll_42 : decode cX7_carryAll 42 = .ok (.getfield 13, 3) := by decide +kernel
theorem dX7_carryAll_45 : decode cX7_carryAll 45 = .ok (.invokevirtual 257, 3) := by decide +kernel
theorem dX7_carryAll_48 : decode cX7_carryAll 48 = .ok (.putfield 13, 3) := by decide +kernel
theorem dX7_carryAll_51 : decode cX7_carryAll 51 = .ok (.aload_n 0, 1) := by decide +kernel
theorem dX7_carryAll_52 : decode cX7_carryAll 52 = .ok (.aload_n 0, 1) := by decide +kernel
theorem dX7_carryAll_53 : decode cX7_carryAll 53 = .ok (.aload_n 0, 1) := by decide +kernel
theorem dX7_carryAll_54 : decode cX7_carryAll 54 = .ok (.getfield 16, 3) := by decide +kernel
theorem dX7_carryAll_57 : decode cX7_carryAll 57 = .ok (.invokevirtual 257, 3) := by decide +kernel
theorem dX7_carryAll_60 : decode cX7_carryAll 60 = .ok (.putfield 16, 3) := by decide +kernel
theorem dX7_carryAll_63 : decode cX7_carryAll 63 = .ok (.aload_n 0, 1) := by decide +kernel
theorem dX7_carryAll_64 : decode cX7_carryAll 64 = .ok (.aload_n 0, 1) := by decide +kernel
theorem dX7_carryAll_65 : decode cX7_carryAll 65 = .ok (.aload_n 0, 1) := by decide +kernel
theorem dX7_carryAll_66 : decode cX7_carryAll 66 = .ok (.getfield 158, 3) := by decide +kernel
theorem dX7_carryAll_69 : decode cX7_carryAll 69 = .ok (.invokevirtual 257, 3) := by decide +kernel
theorem dX7_carryAll_72 : decode cX7_carryAll 72 = .ok (.putfield 158, 3) := by decide +kernel
theorem dX7_carryAll_75 : decode cX7_carryAll 75 = .ok (.aload_n 0, 1) := by decide +kernel
theorem dX7_carryAll_76 : decode cX7_carryAll 76 = .ok (.aload_n 0, 1) := by decide +kernel
theorem dX7_carryAll_77 : decode cX7_carryAll 77 = .ok (.aload_n 0, 1) := by decide +kernel
theorem dX7_carryAll_78 : decode cX7_carryAll 78 = .ok (.getfield 188, 3) := by decide +kernel
theorem dX7_carryAll_81 : decode cX7_carryAll 81 = .ok (.invokevirtual 257, 3) := by decide +kernel
theorem dX7_carryAll_84 : decode cX7_carryAll 84 = .ok (.putfield 188, 3) := by decide +kernel
theorem dX7_carryAll_87 : decode cX7_carryAll 87 = .ok (.aload_n 0, 1) := by decide +kernel
theorem dX7_carryAll_88 : decode cX7_carryAll 88 = .ok (.aload_n 0, 1) := by decide +kernel
theorem dX7_carryAll_89 : decode cX7_carryAll 89 = .ok (.aload_n 0, 1) := by decide +kernel
theorem dX7_carryAll_90 : decode cX7_carryAll 90 = .ok (.getfield 114, 3) := by decide +kernel
theorem dX7_carryAll_93 : decode cX7_carryAll 93 = .ok (.invokevirtual 257, 3) := by decide +kernel
theorem dX7_carryAll_96 : decode cX7_carryAll 96 = .ok (.putfield 114, 3) := by decide +kernel
theorem dX7_carryAll_99 : decode cX7_carryAll 99 = .ok (.aload_n 0, 1) := by decide +kernel
theorem dX7_carryAll_100 : decode cX7_carryAll 100 = .ok (.invokevirtual 260, 3) := by decide +kernel
theorem dX7_carryAll_103 : decode cX7_carryAll 103 = .ok (.aload_n 0, 1) := by decide +kernel
theorem dX7_carryAll_104 : decode cX7_carryAll 104 = .ok (.aload_n 0, 1) := by decide +kernel
theorem dX7_carryAll_105 : decode cX7_carryAll 105 = .ok (.aload_n 0, 1) := by decide +kernel
theorem dX7_carryAll_106 : decode cX7_carryAll 106 = .ok (.getfield 138, 3) := by decide +kernel
theorem dX7_carryAll_109 : decode cX7_carryAll 109 = .ok (.invokevirtual 257, 3) := by decide +kernel
theorem dX7_carryAll_112 : decode cX7_carryAll 112 = .ok (.putfield 138, 3) := by decide +kernel
theorem dX7_carryAll_115 : decode cX7_carryAll 115 = .ok (.iconst 0, 1) := by decide +kernel
theorem dX7_carryAll_116 : decode cX7_carryAll 116 = .ok (.istore_n 3, 1) := by decide +kernel
theorem dX7_carryAll_117 : decode cX7_carryAll 117 = .ok (.iload_n 3, 1) := by decide +kernel
theorem dX7_carryAll_118 : decode cX7_carryAll 118 = .ok (.bipush 100, 2) := by decide +kernel
theorem dX7_carryAll_120 : decode cX7_carryAll 120 = .ok (.if_icmp .ge 25, 3) := by decide +kernel
theorem dX7_carryAll_123 : decode cX7_carryAll 123 = .ok (.aload_n 0, 1) := by decide +kernel
theorem dX7_carryAll_124 : decode cX7_carryAll 124 = .ok (.getfield 19, 3) := by decide +kernel
theorem dX7_carryAll_127 : decode cX7_carryAll 127 = .ok (.iload_n 3, 1) := by decide +kernel
theorem dX7_carryAll_128 : decode cX7_carryAll 128 = .ok (.aload_n 0, 1) := by decide +kernel
theorem dX7_carryAll_129 : decode cX7_carryAll 129 = .ok (.aload_n 0, 1) := by decide +kernel
theorem dX7_carryAll_130 : decode cX7_carryAll 130 = .ok (.getfield 19, 3) := by decide +kernel
theorem dX7_carryAll_133 : decode cX7_carryAll 133 = .ok (.iload_n 3, 1) := by decide +kernel
theorem dX7_carryAll_134 : decode cX7_carryAll 134 = .ok (.iaload, 1) := by decide +kernel
theorem dX7_carryAll_135 : decode cX7_carryAll 135 = .ok (.invokevirtual 257, 3) := by decide +kernel
theorem dX7_carryAll_138 : decode cX7_carryAll 138 = .ok (.iastore, 1) := by decide +kernel
theorem dX7_carryAll_139 : decode cX7_carryAll 139 = .ok (.iinc 3 1, 3) := by decide +kernel
theorem dX7_carryAll_142 : decode cX7_carryAll 142 = .ok (.goto (-25), 3) := by decide +kernel
theorem dX7_carryAll_145 : decode cX7_carryAll 145 = .ok (.return_, 1) := by decide +kernel
theorem dX7_open_0 : decode cX7_open 0 = .ok (.aload_n 0, 1) := by decide +kernel
theorem dX7_open_1 : decode cX7_open 1 = .ok (.aload_n 0, 1) := by decide +kernel
theorem dX7_open_2 : decode cX7_open 2 = .ok (.getfield 77, 3) := by decide +kernel
theorem dX7_open_5 : decode cX7_open 5 = .ok (.iconst 1, 1) := by decide +kernel
theorem dX7_open_6 : decode cX7_open 6 = .ok (.invokevirtual 263, 3) := by decide +kernel
theorem dX7_open_9 : decode cX7_open 9 = .ok (.return_, 1) := by decide +kernel
theorem dX7_close_0 : decode cX7_close 0 = .ok (.aload_n 0, 1) := by decide +kernel
theorem dX7_close_1 : decode cX7_close 1 = .ok (.aload_n 0, 1) := by decide +kernel
theorem dX7_close_2 : decode cX7_close 2 = .ok (.getfield 77, 3) := by decide +kernel
theorem dX7_close_5 : decode cX7_close 5 = .ok (.iconst 0, 1) := by decide +kernel
theorem dX7_close_6 : decode cX7_close 6 = .ok (.invokevirtual 263, 3) := by decide +kernel
theorem dX7_close_9 : decode cX7_close 9 = .ok (.return_, 1) := by decide +kernel
theorem dX7_image_0 : decode cX7_image 0 = .ok (.aload_n 0, 1) := by decide +kernel
theorem dX7_image_1 : decode cX7_image 1 = .ok (.iconst 0, 1) := by decide +kernel
theorem dX7_image_2 : decode cX7_image 2 = .ok (.putfield 111, 3) := by decide +kernel
theorem dX7_image_5 : decode cX7_image 5 = .ok (.aload_n 0, 1) := by decide +kernel
theorem dX7_image_6 : decode cX7_image 6 = .ok (.iconst 1, 1) := by decide +kernel
theorem dX7_image_7 : decode cX7_image 7 = .ok (.putfield 267, 3) := by decide +kernel
theorem dX7_image_10 : decode cX7_image 10 = .ok (.aload_n 0, 1) := by decide +kernel
theorem dX7_image_11 : decode cX7_image 11 = .ok (.aload_n 0, 1) := by decide +kernel
theorem dX7_image_12 : decode cX7_image 12 = .ok (.getfield 80, 3) := by decide +kernel
theorem dX7_image_15 : decode cX7_image 15 = .ok (.iconst 1, 1) := by decide +kernel
theorem dX7_image_16 : decode cX7_image 16 = .ok (.invokevirtual 263, 3) := by decide +kernel
theorem dX7_image_19 : decode cX7_image 19 = .ok (.aload_n 0, 1) := by decide +kernel
theorem dX7_image_20 : decode cX7_image 20 = .ok (.getfield 188, 3) := by decide +kernel
theorem dX7_image_23 : decode cX7_image 23 = .ok (.ireturn, 1) := by decide +kernel
theorem dX7_restore_0 : decode cX7_restore 0 = .ok (.aload_n 0, 1) := by decide +kernel
theorem dX7_restore_1 : decode cX7_restore 1 = .ok (.iconst 0, 1) := by decide +kernel
theorem dX7_restore_2 : decode cX7_restore 2 = .ok (.putfield 111, 3) := by decide +kernel
theorem dX7_restore_5 : decode cX7_restore 5 = .ok (.aload_n 0, 1) := by decide +kernel
theorem dX7_restore_6 : decode cX7_restore 6 = .ok (.getfield 267, 3) := by decide +kernel
theorem dX7_restore_9 : decode cX7_restore 9 = .ok (.ifCond .ne 6, 3) := by decide +kernel
theorem dX7_restore_12 : decode cX7_restore 12 = .ok (.bipush (-3), 2) := by decide +kernel
theorem dX7_restore_14 : decode cX7_restore 14 = .ok (.ireturn, 1) := by decide +kernel
theorem dX7_restore_15 : decode cX7_restore 15 = .ok (.aload_n 0, 1) := by decide +kernel
theorem dX7_restore_16 : decode cX7_restore 16 = .ok (.aload_n 0, 1) := by decide +kernel
theorem dX7_restore_17 : decode cX7_restore 17 = .ok (.getfield 80, 3) := by decide +kernel
theorem dX7_restore_20 : decode cX7_restore 20 = .ok (.iconst 0, 1) := by decide +kernel
theorem dX7_restore_21 : decode cX7_restore 21 = .ok (.invokevirtual 263, 3) := by decide +kernel
theorem dX7_restore_24 : decode cX7_restore 24 = .ok (.aload_n 0, 1) := by decide +kernel
theorem dX7_restore_25 : decode cX7_restore 25 = .ok (.iconst 0, 1) := by decide +kernel
theorem dX7_restore_26 : decode cX7_restore 26 = .ok (.putfield 151, 3) := by decide +kernel
theorem dX7_restore_29 : decode cX7_restore 29 = .ok (.aload_n 0, 1) := by decide +kernel
theorem dX7_restore_30 : decode cX7_restore 30 = .ok (.getfield 188, 3) := by decide +kernel
theorem dX7_restore_33 : decode cX7_restore 33 = .ok (.ireturn, 1) := by decide +kernel
theorem dX7_leastOf_0 : decode cX7_leastOf 0 = .ok (.iload_n 0, 1) := by decide +kernel
theorem dX7_leastOf_1 : decode cX7_leastOf 1 = .ok (.ifCond .ne 8, 3) := by decide +kernel
theorem dX7_leastOf_4 : decode cX7_leastOf 4 = .ok (.bipush 40, 2) := by decide +kernel
theorem dX7_leastOf_6 : decode cX7_leastOf 6 = .ok (.goto 4, 3) := by decide +kernel
theorem dX7_leastOf_9 : decode cX7_leastOf 9 = .ok (.iconst 0, 1) := by decide +kernel
theorem dX7_leastOf_10 : decode cX7_leastOf 10 = .ok (.ireturn, 1) := by decide +kernel
theorem dX7_mostOf_0 : decode cX7_mostOf 0 = .ok (.iload_n 0, 1) := by decide +kernel
theorem dX7_mostOf_1 : decode cX7_mostOf 1 = .ok (.ifCond .ne 9, 3) := by decide +kernel
theorem dX7_mostOf_4 : decode cX7_mostOf 4 = .ok (.sipush 400, 3) := by decide +kernel
theorem dX7_mostOf_7 : decode cX7_mostOf 7 = .ok (.goto 36, 3) := by decide +kernel
theorem dX7_mostOf_10 : decode cX7_mostOf 10 = .ok (.iload_n 0, 1) := by decide +kernel
theorem dX7_mostOf_11 : decode cX7_mostOf 11 = .ok (.iconst 1, 1) := by decide +kernel
theorem dX7_mostOf_12 : decode cX7_mostOf 12 = .ok (.if_icmp .ne 7, 3) := by decide +kernel
theorem dX7_mostOf_15 : decode cX7_mostOf 15 = .ok (.iconst 3, 1) := by decide +kernel
theorem dX7_mostOf_16 : decode cX7_mostOf 16 = .ok (.goto 27, 3) := by decide +kernel
theorem dX7_mostOf_19 : decode cX7_mostOf 19 = .ok (.iload_n 0, 1) := by decide +kernel
theorem dX7_mostOf_20 : decode cX7_mostOf 20 = .ok (.iconst 2, 1) := by decide +kernel
theorem dX7_mostOf_21 : decode cX7_mostOf 21 = .ok (.if_icmp .ne 9, 3) := by decide +kernel
theorem dX7_mostOf_24 : decode cX7_mostOf 24 = .ok (.sipush 200, 3) := by decide +kernel
theorem dX7_mostOf_27 : decode cX7_mostOf 27 = .ok (.goto 16, 3) := by decide +kernel
theorem dX7_mostOf_30 : decode cX7_mostOf 30 = .ok (.iload_n 0, 1) := by decide +kernel
theorem dX7_mostOf_31 : decode cX7_mostOf 31 = .ok (.iconst 3, 1) := by decide +kernel
theorem dX7_mostOf_32 : decode cX7_mostOf 32 = .ok (.if_icmp .ne 8, 3) := by decide +kernel
theorem dX7_mostOf_35 : decode cX7_mostOf 35 = .ok (.bipush 9, 2) := by decide +kernel
theorem dX7_mostOf_37 : decode cX7_mostOf 37 = .ok (.goto 6, 3) := by decide +kernel
theorem dX7_mostOf_40 : decode cX7_mostOf 40 = .ok (.sipush 999, 3) := by decide +kernel
theorem dX7_mostOf_43 : decode cX7_mostOf 43 = .ok (.ireturn, 1) := by decide +kernel
theorem dX7_isSomeBeyond_0 : decode cX7_isSomeBeyond 0 = .ok (.iconst 0, 1) := by decide +kernel
theorem dX7_isSomeBeyond_1 : decode cX7_isSomeBeyond 1 = .ok (.istore_n 2, 1) := by decide +kernel
theorem dX7_isSomeBeyond_2 : decode cX7_isSomeBeyond 2 = .ok (.iconst 0, 1) := by decide +kernel
theorem dX7_isSomeBeyond_3 : decode cX7_isSomeBeyond 3 = .ok (.istore_n 3, 1) := by decide +kernel
theorem dX7_isSomeBeyond_4 : decode cX7_isSomeBeyond 4 = .ok (.iload_n 3, 1) := by decide +kernel
theorem dX7_isSomeBeyond_5 : decode cX7_isSomeBeyond 5 = .ok (.aload_n 0, 1) := by decide +kernel
theorem dX7_isSomeBeyond_6 : decode cX7_isSomeBeyond 6 = .ok (.getfield 114, 3) := by decide +kernel
theorem dX7_isSomeBeyond_9 : decode cX7_isSomeBeyond 9 = .ok (.if_icmp .ge 29, 3) := by decide +kernel
theorem dX7_isSomeBeyond_12 : decode cX7_isSomeBeyond 12 = .ok (.iload_n 2, 1) := by decide +kernel
theorem dX7_isSomeBeyond_13 : decode cX7_isSomeBeyond 13 = .ok (.ifCond .ne 13, 3) := by decide +kernel
theorem dX7_isSomeBeyond_16 : decode cX7_isSomeBeyond 16 = .ok (.aload_n 0, 1) := by decide +kernel
theorem dX7_isSomeBeyond_17 : decode cX7_isSomeBeyond 17 = .ok (.getfield 38, 3) := by decide +kernel
theorem dX7_isSomeBeyond_20 : decode cX7_isSomeBeyond 20 = .ok (.iload_n 3, 1) := by decide +kernel
theorem dX7_isSomeBeyond_21 : decode cX7_isSomeBeyond 21 = .ok (.iaload, 1) := by decide +kernel
theorem dX7_isSomeBeyond_22 : decode cX7_isSomeBeyond 22 = .ok (.iload_n 1, 1) := by decide +kernel
theorem dX7_isSomeBeyond_23 : decode cX7_isSomeBeyond 23 = .ok (.if_icmp .lt 7, 3) := by decide +kernel
theorem dX7_isSomeBeyond_26 : decode cX7_isSomeBeyond 26 = .ok (.iconst 1, 1) := by decide +kernel
theorem dX7_isSomeBeyond_27 : decode cX7_isSomeBeyond 27 = .ok (.goto 4, 3) := by decide +kernel
theorem dX7_isSomeBeyond_30 : decode cX7_isSomeBeyond 30 = .ok (.iconst 0, 1) := by decide +kernel
theorem dX7_isSomeBeyond_31 : decode cX7_isSomeBeyond 31 = .ok (.istore_n 2, 1) := by decide +kernel
theorem dX7_isSomeBeyond_32 : decode cX7_isSomeBeyond 32 = .ok (.iinc 3 1, 3) := by decide +kernel
theorem dX7_isSomeBeyond_35 : decode cX7_isSomeBeyond 35 = .ok (.goto (-31), 3) := by decide +kernel
theorem dX7_isSomeBeyond_38 : decode cX7_isSomeBeyond 38 = .ok (.iload_n 2, 1) := by decide +kernel
theorem dX7_isSomeBeyond_39 : decode cX7_isSomeBeyond 39 = .ok (.ireturn, 1) := by decide +kernel
theorem dX7_set_0 : decode cX7_set 0 = .ok (.aload_n 0, 1) := by decide +kernel
theorem dX7_set_1 : decode cX7_set 1 = .ok (.iconst 0, 1) := by decide +kernel
theorem dX7_set_2 : decode cX7_set 2 = .ok (.putfield 111, 3) := by decide +kernel
theorem dX7_set_5 : decode cX7_set 5 = .ok (.iload_n 1, 1) := by decide +kernel
theorem dX7_set_6 : decode cX7_set 6 = .ok (.i2l, 1) := by decide +kernel
theorem dX7_set_7 : decode cX7_set 7 = .ok (.lconst 0, 1) := by decide +kernel
theorem dX7_set_8 : decode cX7_set 8 = .ok (.ldc2_w 270, 3) := by decide +kernel
theorem dX7_set_11 : decode cX7_set 11 = .ok (.invokestatic 117, 3) := by decide +kernel
theorem dX7_set_14 : decode cX7_set 14 = .ok (.ifCond .eq 21, 3) := by decide +kernel
theorem dX7_set_17 : decode cX7_set 17 = .ok (.iload_n 2, 1) := by decide +kernel
theorem dX7_set_18 : decode cX7_set 18 = .ok (.i2l, 1) := by decide +kernel
theorem dX7_set_19 : decode cX7_set 19 = .ok (.iload_n 1, 1) := by decide +kernel
theorem dX7_set_20 : decode cX7_set 20 = .ok (.invokestatic 272, 3) := by decide +kernel
theorem dX7_set_23 : decode cX7_set 23 = .ok (.i2l, 1) := by decide +kernel
theorem dX7_set_24 : decode cX7_set 24 = .ok (.iload_n 1, 1) := by decide +kernel
theorem dX7_set_25 : decode cX7_set 25 = .ok (.invokestatic 275, 3) := by decide +kernel
theorem dX7_set_28 : decode cX7_set 28 = .ok (.i2l, 1) := by decide +kernel
theorem dX7_set_29 : decode cX7_set 29 = .ok (.invokestatic 117, 3) := by decide +kernel
theorem dX7_set_32 : decode cX7_set 32 = .ok (.ifCond .ne 5, 3) := by decide +kernel
theorem dX7_set_35 : decode cX7_set 35 = .ok (.iconst (-1), 1) := by decide +kernel
theorem dX7_set_36 : decode cX7_set 36 = .ok (.ireturn, 1) := by decide +kernel
theorem dX7_set_37 : decode cX7_set 37 = .ok (.iload_n 1, 1) := by decide +kernel
theorem dX7_set_38 : decode cX7_set 38 = .ok (.ifCond .ne 14, 3) := by decide +kernel
theorem dX7_set_41 : decode cX7_set 41 = .ok (.aload_n 0, 1) := by decide +kernel
theorem dX7_set_42 : decode cX7_set 42 = .ok (.iload_n 2, 1) := by decide +kernel
theorem dX7_set_43 : decode cX7_set 43 = .ok (.invokevirtual 278, 3) := by decide +kernel
theorem dX7_set_46 : decode cX7_set 46 = .ok (.ifCond .eq 6, 3) := by decide +kernel
theorem dX7_set_49 : decode cX7_set 49 = .ok (.bipush (-3), 2) := by decide +kernel
theorem dX7_set_51 : decode cX7_set 51 = .ok (.ireturn, 1) := by decide +kernel
theorem dX7_set_52 : decode cX7_set 52 = .ok (.iload_n 1, 1) := by decide +kernel
theorem dX7_set_53 : decode cX7_set 53 = .ok (.ifCond .ne 10, 3) := by decide +kernel
theorem dX7_set_56 : decode cX7_set 56 = .ok (.aload_n 0, 1) := by decide +kernel
theorem dX7_set_57 : decode cX7_set 57 = .ok (.getfield 7, 3) := by decide +kernel
theorem dX7_set_60 : decode cX7_set 60 = .ok (.goto 43, 3) := by decide +kernel
theorem dX7_set_63 : decode cX7_set 63 = .ok (.iload_n 1, 1) := by decide +kernel
theorem dX7_set_64 : decode cX7_set 64 = .ok (.iconst 1, 1) := by decide +kernel
theorem dX7_set_65 : decode cX7_set 65 = .ok (.if_icmp .ne 10, 3) := by decide +kernel
theorem dX7_set_68 : decode cX7_set 68 = .ok (.aload_n 0, 1) := by decide +kernel
theorem dX7_set_69 : decode cX7_set 69 = .ok (.getfield 179, 3) := by decide +kernel
theorem dX7_set_72 : decode cX7_set 72 = .ok (.goto 31, 3) := by decide +kernel
theorem dX7_set_75 : decode cX7_set 75 = .ok (.iload_n 1, 1) := by decide +kernel
theorem dX7_set_76 : decode cX7_set 76 = .ok (.iconst 2, 1) := by decide +kernel
theorem dX7_set_77 : decode cX7_set 77 = .ok (.if_icmp .ne 10, 3) := by decide +kernel
theorem dX7_set_80 : decode cX7_set 80 = .ok (.aload_n 0, 1) := by decide +kernel
theorem dX7_set_81 : decode cX7_set 81 = .ok (.getfield 13, 3) := by decide +kernel
theorem dX7_set_84 : decode cX7_set 84 = .ok (.goto 19, 3) := by decide +kernel
theorem dX7_set_87 : decode cX7_set 87 = .ok (.iload_n 1, 1) := by decide +kernel
theorem dX7_set_88 : decode cX7_set 88 = .ok (.iconst 3, 1) := by decide +kernel
theorem dX7_set_89 : decode cX7_set 89 = .ok (.if_icmp .ne 10, 3) := by decide +kernel
theorem dX7_set_92 : decode cX7_set 92 = .ok (.aload_n 0, 1) := by decide +kernel
theorem dX7_set_93 : decode cX7_set 93 = .ok (.getfield 16, 3) := by decide +kernel
theorem dX7_set_96 : decode cX7_set 96 = .ok (.goto 7, 3) := by decide +kernel
theorem dX7_set_99 : decode cX7_set 99 = .ok (.aload_n 0, 1) := by decide +kernel
theorem dX7_set_100 : decode cX7_set 100 = .ok (.getfield 158, 3) := by decide +kernel
theorem dX7_set_103 : decode cX7_set 103 = .ok (.istore_n 3, 1) := by decide +kernel
theorem dX7_set_104 : decode cX7_set 104 = .ok (.aload_n 0, 1) := by decide +kernel
theorem dX7_set_105 : decode cX7_set 105 = .ok (.iload_n 1, 1) := by decide +kernel
theorem dX7_set_106 : decode cX7_set 106 = .ok (.ifCond .ne 7, 3) := by decide +kernel
theorem dX7_set_109 : decode cX7_set 109 = .ok (.iload_n 2, 1) := by decide +kernel
theorem dX7_set_110 : decode cX7_set 110 = .ok (.goto 7, 3) := by decide +kernel
theorem dX7_set_113 : decode cX7_set 113 = .ok (.aload_n 0, 1) := by decide +kernel
theorem dX7_set_114 : decode cX7_set 114 = .ok (.getfield 7, 3) := by decide +kernel
theorem dX7_set_117 : decode cX7_set 117 = .ok (.putfield 7, 3) := by decide +kernel
theorem dX7_set_120 : decode cX7_set 120 = .ok (.aload_n 0, 1) := by decide +kernel
theorem dX7_set_121 : decode cX7_set 121 = .ok (.iload_n 1, 1) := by decide +kernel
theorem dX7_set_122 : decode cX7_set 122 = .ok (.iconst 1, 1) := by decide +kernel
theorem dX7_set_123 : decode cX7_set 123 = .ok (.if_icmp .ne 7, 3) := by decide +kernel
theorem dX7_set_126 : decode cX7_set 126 = .ok (.iload_n 2, 1) := by decide +kernel
theorem dX7_set_127 : decode cX7_set 127 = .ok (.goto 7, 3) := by decide +kernel
theorem dX7_set_130 : decode cX7_set 130 = .ok (.aload_n 0, 1) := by decide +kernel
theorem dX7_set_131 : decode cX7_set 131 = .ok (.getfield 179, 3) := by decide +kernel
theorem dX7_set_134 : decode cX7_set 134 = .ok (.putfield 179, 3) := by decide +kernel
theorem dX7_set_137 : decode cX7_set 137 = .ok (.aload_n 0, 1) := by decide +kernel
theorem dX7_set_138 : decode cX7_set 138 = .ok (.iload_n 1, 1) := by decide +kernel
theorem dX7_set_139 : decode cX7_set 139 = .ok (.iconst 2, 1) := by decide +kernel
theorem dX7_set_140 : decode cX7_set 140 = .ok (.if_icmp .ne 7, 3) := by decide +kernel
theorem dX7_set_143 : decode cX7_set 143 = .ok (.iload_n 2, 1) := by decide +kernel
theorem dX7_set_144 : decode cX7_set 144 = .ok (.goto 7, 3) := by decide +kernel
theorem dX7_set_147 : decode cX7_set 147 = .ok (.aload_n 0, 1) := by decide +kernel
theorem dX7_set_148 : decode cX7_set 148 = .ok (.getfield 13, 3) := by decide +kernel
theorem dX7_set_151 : decode cX7_set 151 = .ok (.putfield 13, 3) := by decide +kernel
theorem dX7_set_154 : decode cX7_set 154 = .ok (.aload_n 0, 1) := by decide +kernel
theorem dX7_set_155 : decode cX7_set 155 = .ok (.iload_n 1, 1) := by decide +kernel
theorem dX7_set_156 : decode cX7_set 156 = .ok (.iconst 3, 1) := by decide +kernel
theorem dX7_set_157 : decode cX7_set 157 = .ok (.if_icmp .ne 7, 3) := by decide +kernel
theorem dX7_set_160 : decode cX7_set 160 = .ok (.iload_n 2, 1) := by decide +kernel
theorem dX7_set_161 : decode cX7_set 161 = .ok (.goto 7, 3) := by decide +kernel
theorem dX7_set_164 : decode cX7_set 164 = .ok (.aload_n 0, 1) := by decide +kernel
theorem dX7_set_165 : decode cX7_set 165 = .ok (.getfield 16, 3) := by decide +kernel
theorem dX7_set_168 : decode cX7_set 168 = .ok (.putfield 16, 3) := by decide +kernel
theorem dX7_set_171 : decode cX7_set 171 = .ok (.aload_n 0, 1) := by decide +kernel
theorem dX7_set_172 : decode cX7_set 172 = .ok (.iload_n 1, 1) := by decide +kernel
theorem dX7_set_173 : decode cX7_set 173 = .ok (.iconst 4, 1) := by decide +kernel
theorem dX7_set_174 : decode cX7_set 174 = .ok (.if_icmp .ne 7, 3) := by decide +kernel
theorem dX7_set_177 : decode cX7_set 177 = .ok (.iload_n 2, 1) := by decide +kernel
theorem dX7_set_178 : decode cX7_set 178 = .ok (.goto 7, 3) := by decide +kernel
theorem dX7_set_181 : decode cX7_set 181 = .ok (.aload_n 0, 1) := by decide +kernel
theorem dX7_set_182 : decode cX7_set 182 = .ok (.getfield 158, 3) := by decide +kernel
theorem dX7_set_185 : decode cX7_set 185 = .ok (.putfield 158, 3) := by decide +kernel
theorem dX7_set_188 : decode cX7_set 188 = .ok (.iload_n 3, 1) := by decide +kernel
theorem dX7_set_189 : decode cX7_set 189 = .ok (.ireturn, 1) := by decide +kernel
theorem dX7_readText_0 : decode cX7_readText 0 = .ok (.aload_n 0, 1) := by decide +kernel
theorem dX7_readText_1 : decode cX7_readText 1 = .ok (.aload_n 0, 1) := by decide +kernel
theorem dX7_readText_2 : decode cX7_readText 2 = .ok (.getfield 101, 3) := by decide +kernel
theorem dX7_readText_5 : decode cX7_readText 5 = .ok (.iload_n 1, 1) := by decide +kernel
theorem dX7_readText_6 : decode cX7_readText 6 = .ok (.iaload, 1) := by decide +kernel
theorem dX7_readText_7 : decode cX7_readText 7 = .ok (.putfield 124, 3) := by decide +kernel
theorem dX7_readText_10 : decode cX7_readText 10 = .ok (.iconst 0, 1) := by decide +kernel
theorem dX7_readText_11 : decode cX7_readText 11 = .ok (.istore_n 2, 1) := by decide +kernel
theorem dX7_readText_12 : decode cX7_readText 12 = .ok (.iload_n 2, 1) := by decide +kernel
theorem dX7_readText_13 : decode cX7_readText 13 = .ok (.aload_n 0, 1) := by decide +kernel
theorem dX7_readText_14 : decode cX7_readText 14 = .ok (.getfield 124, 3) := by decide +kernel
theorem dX7_readText_17 : decode cX7_readText 17 = .ok (.if_icmp .ge 31, 3) := by decide +kernel
theorem dX7_readText_20 : decode cX7_readText 20 = .ok (.aload_n 0, 1) := by decide +kernel
theorem dX7_readText_21 : decode cX7_readText 21 = .ok (.getfield 53, 3) := by decide +kernel
theorem dX7_readText_24 : decode cX7_readText 24 = .ok (.iload_n 2, 1) := by decide +kernel
theorem dX7_readText_25 : decode cX7_readText 25 = .ok (.aload_n 0, 1) := by decide +kernel
theorem dX7_readText_26 : decode cX7_readText 26 = .ok (.getfield 104, 3) := by decide +kernel
theorem dX7_readText_29 : decode cX7_readText 29 = .ok (.bipush 100, 2) := by decide +kernel
theorem dX7_readText_31 : decode cX7_readText 31 = .ok (.iload_n 1, 1) := by decide +kernel
theorem dX7_readText_32 : decode cX7_readText 32 = .ok (.imul, 1) := by decide +kernel
theorem dX7_readText_33 : decode cX7_readText 33 = .ok (.iload_n 2, 1) := by decide +kernel
theorem dX7_readText_34 : decode cX7_readText 34 = .ok (.iadd, 1) := by decide +kernel
theorem dX7_readText_35 : decode cX7_readText 35 = .ok (.laload, 1) := by decide +kernel
theorem dX7_readText_36 : decode cX7_readText 36 = .ok (.l2i, 1) := by decide +kernel
theorem dX7_readText_37 : decode cX7_readText 37 = .ok (.sipush 255, 3) := by decide +kernel
theorem dX7_readText_40 : decode cX7_readText 40 = .ok (.iand, 1) := by decide +kernel
theorem dX7_readText_41 : decode cX7_readText 41 = .ok (.iastore, 1) := by decide +kernel
theorem dX7_readText_42 : decode cX7_readText 42 = .ok (.iinc 2 1, 3) := by decide +kernel
theorem dX7_readText_45 : decode cX7_readText 45 = .ok (.goto (-33), 3) := by decide +kernel
theorem dX7_readText_48 : decode cX7_readText 48 = .ok (.return_, 1) := by decide +kernel
theorem dX7_fault_0 : decode cX7_fault 0 = .ok (.aload_n 0, 1) := by decide +kernel
theorem dX7_fault_1 : decode cX7_fault 1 = .ok (.iconst 0, 1) := by decide +kernel
theorem dX7_fault_2 : decode cX7_fault 2 = .ok (.putfield 111, 3) := by decide +kernel
theorem dX7_fault_5 : decode cX7_fault 5 = .ok (.aload_n 0, 1) := by decide +kernel
theorem dX7_fault_6 : decode cX7_fault 6 = .ok (.iload_n 1, 1) := by decide +kernel
theorem dX7_fault_7 : decode cX7_fault 7 = .ok (.iconst 0, 1) := by decide +kernel
theorem dX7_fault_8 : decode cX7_fault 8 = .ok (.invokevirtual 281, 3) := by decide +kernel
theorem dX7_fault_11 : decode cX7_fault 11 = .ok (.istore_n 2, 1) := by decide +kernel
theorem dX7_fault_12 : decode cX7_fault 12 = .ok (.iload_n 2, 1) := by decide +kernel
theorem dX7_fault_13 : decode cX7_fault 13 = .ok (.ifCond .ge 5, 3) := by decide +kernel
theorem dX7_fault_16 : decode cX7_fault 16 = .ok (.iload_n 2, 1) := by decide +kernel
theorem dX7_fault_17 : decode cX7_fault 17 = .ok (.ireturn, 1) := by decide +kernel
theorem dX7_fault_18 : decode cX7_fault 18 = .ok (.aload_n 0, 1) := by decide +kernel
theorem dX7_fault_19 : decode cX7_fault 19 = .ok (.iload_n 1, 1) := by decide +kernel
theorem dX7_fault_20 : decode cX7_fault 20 = .ok (.invokevirtual 284, 3) := by decide +kernel
theorem dX7_fault_23 : decode cX7_fault 23 = .ok (.aload_n 0, 1) := by decide +kernel
theorem dX7_fault_24 : decode cX7_fault 24 = .ok (.invokevirtual 287, 3) := by decide +kernel
theorem dX7_fault_27 : decode cX7_fault 27 = .ok (.ireturn, 1) := by decide +kernel
theorem dX7_law_0 : decode cX7_law 0 = .ok (.aload_n 0, 1) := by decide +kernel
theorem dX7_law_1 : decode cX7_law 1 = .ok (.iconst 0, 1) := by decide +kernel
theorem dX7_law_2 : decode cX7_law 2 = .ok (.putfield 111, 3) := by decide +kernel
theorem dX7_law_5 : decode cX7_law 5 = .ok (.aload_n 0, 1) := by decide +kernel
theorem dX7_law_6 : decode cX7_law 6 = .ok (.iload_n 1, 1) := by decide +kernel
theorem dX7_law_7 : decode cX7_law 7 = .ok (.iconst 0, 1) := by decide +kernel
theorem dX7_law_8 : decode cX7_law 8 = .ok (.invokevirtual 281, 3) := by decide +kernel
theorem dX7_law_11 : decode cX7_law 11 = .ok (.istore_n 2, 1) := by decide +kernel
theorem dX7_law_12 : decode cX7_law 12 = .ok (.iload_n 2, 1) := by decide +kernel
theorem dX7_law_13 : decode cX7_law 13 = .ok (.ifCond .ge 5, 3) := by decide +kernel
theorem dX7_law_16 : decode cX7_law 16 = .ok (.iload_n 2, 1) := by decide +kernel
theorem dX7_law_17 : decode cX7_law 17 = .ok (.ireturn, 1) := by decide +kernel
theorem dX7_law_18 : decode cX7_law 18 = .ok (.aload_n 0, 1) := by decide +kernel
theorem dX7_law_19 : decode cX7_law 19 = .ok (.iload_n 1, 1) := by decide +kernel
theorem dX7_law_20 : decode cX7_law 20 = .ok (.invokevirtual 284, 3) := by decide +kernel
theorem dX7_law_23 : decode cX7_law 23 = .ok (.aload_n 0, 1) := by decide +kernel
theorem dX7_law_24 : decode cX7_law 24 = .ok (.invokevirtual 287, 3) := by decide +kernel
theorem dX7_law_27 : decode cX7_law 27 = .ok (.istore_n 3, 1) := by decide +kernel
theorem dX7_law_28 : decode cX7_law 28 = .ok (.iload_n 3, 1) := by decide +kernel
theorem dX7_law_29 : decode cX7_law 29 = .ok (.ifCond .lt 8, 3) := by decide +kernel
theorem dX7_law_32 : decode cX7_law 32 = .ok (.bipush (-100), 2) := by decide +kernel
theorem dX7_law_34 : decode cX7_law 34 = .ok (.iload_n 3, 1) := by decide +kernel
theorem dX7_law_35 : decode cX7_law 35 = .ok (.isub, 1) := by decide +kernel
theorem dX7_law_36 : decode cX7_law 36 = .ok (.ireturn, 1) := by decide +kernel
theorem dX7_law_37 : decode cX7_law 37 = .ok (.aload_n 0, 1) := by decide +kernel
theorem dX7_law_38 : decode cX7_law 38 = .ok (.aload_n 0, 1) := by decide +kernel
theorem dX7_law_39 : decode cX7_law 39 = .ok (.getfield 124, 3) := by decide +kernel
theorem dX7_law_42 : decode cX7_law 42 = .ok (.putfield 138, 3) := by decide +kernel
theorem dX7_law_45 : decode cX7_law 45 = .ok (.iconst 0, 1) := by decide +kernel
theorem dX7_law_46 : decode cX7_law 46 = .ok (.istore 4, 2) := by decide +kernel
theorem dX7_law_48 : decode cX7_law 48 = .ok (.iload 4, 2) := by decide +kernel
theorem dX7_law_50 : decode cX7_law 50 = .ok (.aload_n 0, 1) := by decide +kernel
theorem dX7_law_51 : decode cX7_law 51 = .ok (.getfield 124, 3) := by decide +kernel
theorem dX7_law_54 : decode cX7_law 54 = .ok (.if_icmp .ge 23, 3) := by decide +kernel
theorem dX7_law_57 : decode cX7_law 57 = .ok (.aload_n 0, 1) := by decide +kernel
theorem dX7_law_58 : decode cX7_law 58 = .ok (.getfield 19, 3) := by decide +kernel
theorem dX7_law_61 : decode cX7_law 61 = .ok (.iload 4, 2) := by decide +kernel
theorem dX7_law_63 : decode cX7_law 63 = .ok (.aload_n 0, 1) := by decide +kernel
theorem dX7_law_64 : decode cX7_law 64 = .ok (.getfield 53, 3) := by decide +kernel
theorem dX7_law_67 : decode cX7_law 67 = .ok (.iload 4, 2) := by decide +kernel
theorem dX7_law_69 : decode cX7_law 69 = .ok (.iaload, 1) := by decide +kernel
theorem dX7_law_70 : decode cX7_law 70 = .ok (.iastore, 1) := by decide +kernel
theorem dX7_law_71 : decode cX7_law 71 = .ok (.iinc 4 1, 3) := by decide +kernel
theorem dX7_law_74 : decode cX7_law 74 = .ok (.goto (-26), 3) := by decide +kernel
theorem dX7_law_77 : decode cX7_law 77 = .ok (.aload_n 0, 1) := by decide +kernel
theorem dX7_law_78 : decode cX7_law 78 = .ok (.iconst 0, 1) := by decide +kernel
theorem dX7_law_79 : decode cX7_law 79 = .ok (.putfield 151, 3) := by decide +kernel
theorem dX7_law_82 : decode cX7_law 82 = .ok (.iconst 1, 1) := by decide +kernel
theorem dX7_law_83 : decode cX7_law 83 = .ok (.ireturn, 1) := by decide +kernel
theorem dX7_wind_0 : decode cX7_wind 0 = .ok (.aload_n 0, 1) := by decide +kernel
theorem dX7_wind_1 : decode cX7_wind 1 = .ok (.iconst 0, 1) := by decide +kernel
theorem dX7_wind_2 : decode cX7_wind 2 = .ok (.putfield 111, 3) := by decide +kernel
theorem dX7_wind_5 : decode cX7_wind 5 = .ok (.iload_n 1, 1) := by decide +kernel
theorem dX7_wind_6 : decode cX7_wind 6 = .ok (.i2l, 1) := by decide +kernel
theorem dX7_wind_7 : decode cX7_wind 7 = .ok (.lconst 0, 1) := by decide +kernel
theorem dX7_wind_8 : decode cX7_wind 8 = .ok (.ldc2_w 290, 3) := by decide +kernel
theorem dX7_wind_11 : decode cX7_wind 11 = .ok (.invokestatic 117, 3) := by decide +kernel
theorem dX7_wind_14 : decode cX7_wind 14 = .ok (.ifCond .eq 15, 3) := by decide +kernel
theorem dX7_wind_17 : decode cX7_wind 17 = .ok (.aload_n 0, 1) := by decide +kernel
theorem dX7_wind_18 : decode cX7_wind 18 = .ok (.iload_n 1, 1) := by decide +kernel
theorem dX7_wind_19 : decode cX7_wind 19 = .ok (.aload_n 0, 1) := by decide +kernel
theorem dX7_wind_20 : decode cX7_wind 20 = .ok (.getfield 158, 3) := by decide +kernel
theorem dX7_wind_23 : decode cX7_wind 23 = .ok (.invokevirtual 161, 3) := by decide +kernel
theorem dX7_wind_26 : decode cX7_wind 26 = .ok (.goto 6, 3) := by decide +kernel
theorem dX7_wind_29 : decode cX7_wind 29 = .ok (.ldc_w 292, 3) := by decide +kernel
theorem dX7_wind_32 : decode cX7_wind 32 = .ok (.ireturn, 1) := by decide +kernel
theorem dX7_isPlace_0 : decode cX7_isPlace 0 = .ok (.iload_n 0, 1) := by decide +kernel
theorem dX7_isPlace_1 : decode cX7_isPlace 1 = .ok (.i2l, 1) := by decide +kernel
theorem dX7_isPlace_2 : decode cX7_isPlace 2 = .ok (.ldc2_w 293, 3) := by decide +kernel
theorem dX7_isPlace_5 : decode cX7_isPlace 5 = .ok (.ldc2_w 295, 3) := by decide +kernel
theorem dX7_isPlace_8 : decode cX7_isPlace 8 = .ok (.invokestatic 117, 3) := by decide +kernel
theorem dX7_isPlace_11 : decode cX7_isPlace 11 = .ok (.ireturn, 1) := by decide +kernel
theorem dX7_begin_0 : decode cX7_begin 0 = .ok (.aload_n 0, 1) := by decide +kernel
theorem dX7_begin_1 : decode cX7_begin 1 = .ok (.getfield 35, 3) := by decide +kernel
theorem dX7_begin_4 : decode cX7_begin 4 = .ok (.iload_n 1, 1) := by decide +kernel
theorem dX7_begin_5 : decode cX7_begin 5 = .ok (.aload_n 0, 1) := by decide +kernel
theorem dX7_begin_6 : decode cX7_begin 6 = .ok (.getfield 26, 3) := by decide +kernel
theorem dX7_begin_9 : decode cX7_begin 9 = .ok (.iload_n 1, 1) := by decide +kernel
theorem dX7_begin_10 : decode cX7_begin 10 = .ok (.iaload, 1) := by decide +kernel
theorem dX7_begin_11 : decode cX7_begin 11 = .ok (.iastore, 1) := by decide +kernel
theorem dX7_begin_12 : decode cX7_begin 12 = .ok (.aload_n 0, 1) := by decide +kernel
theorem dX7_begin_13 : decode cX7_begin 13 = .ok (.getfield 38, 3) := by decide +kernel
theorem dX7_begin_16 : decode cX7_begin 16 = .ok (.iload_n 1, 1) := by decide +kernel
theorem dX7_begin_17 : decode cX7_begin 17 = .ok (.iconst 0, 1) := by decide +kernel
theorem dX7_begin_18 : decode cX7_begin 18 = .ok (.iastore, 1) := by decide +kernel
theorem dX7_begin_19 : decode cX7_begin 19 = .ok (.aload_n 0, 1) := by decide +kernel
theorem dX7_begin_20 : decode cX7_begin 20 = .ok (.getfield 41, 3) := by decide +kernel
theorem dX7_begin_23 : decode cX7_begin 23 = .ok (.iload_n 1, 1) := by decide +kernel
theorem dX7_begin_24 : decode cX7_begin 24 = .ok (.aload_n 0, 1) := by decide +kernel
theorem dX7_begin_25 : decode cX7_begin 25 = .ok (.getfield 29, 3) := by decide +kernel
theorem dX7_begin_28 : decode cX7_begin 28 = .ok (.iload_n 1, 1) := by decide +kernel
theorem dX7_begin_29 : decode cX7_begin 29 = .ok (.iaload, 1) := by decide +kernel
theorem dX7_begin_30 : decode cX7_begin 30 = .ok (.iastore, 1) := by decide +kernel
theorem dX7_begin_31 : decode cX7_begin 31 = .ok (.aload_n 0, 1) := by decide +kernel
theorem dX7_begin_32 : decode cX7_begin 32 = .ok (.getfield 44, 3) := by decide +kernel
theorem dX7_begin_35 : decode cX7_begin 35 = .ok (.iload_n 1, 1) := by decide +kernel
theorem dX7_begin_36 : decode cX7_begin 36 = .ok (.iconst 0, 1) := by decide +kernel
theorem dX7_begin_37 : decode cX7_begin 37 = .ok (.iastore, 1) := by decide +kernel
theorem dX7_begin_38 : decode cX7_begin 38 = .ok (.aload_n 0, 1) := by decide +kernel
theorem dX7_begin_39 : decode cX7_begin 39 = .ok (.getfield 47, 3) := by decide +kernel
theorem dX7_begin_42 : decode cX7_begin 42 = .ok (.iload_n 1, 1) := by decide +kernel
theorem dX7_begin_43 : decode cX7_begin 43 = .ok (.bipush (-4), 2) := by decide +kernel
theorem dX7_begin_45 : decode cX7_begin 45 = .ok (.iastore, 1) := by decide +kernel
theorem dX7_begin_46 : decode cX7_begin 46 = .ok (.aload_n 0, 1) := by decide +kernel
theorem dX7_begin_47 : decode cX7_begin 47 = .ok (.getfield 50, 3) := by decide +kernel
theorem dX7_begin_50 : decode cX7_begin 50 = .ok (.iload_n 1, 1) := by decide +kernel
theorem dX7_begin_51 : decode cX7_begin 51 = .ok (.iconst 0, 1) := by decide +kernel
theorem dX7_begin_52 : decode cX7_begin 52 = .ok (.iastore, 1) := by decide +kernel
theorem dX7_begin_53 : decode cX7_begin 53 = .ok (.return_, 1) := by decide +kernel
theorem dX7_boat_0 : decode cX7_boat 0 = .ok (.aload_n 0, 1) := by decide +kernel
theorem dX7_boat_1 : decode cX7_boat 1 = .ok (.iconst 0, 1) := by decide +kernel
theorem dX7_boat_2 : decode cX7_boat 2 = .ok (.putfield 111, 3) := by decide +kernel
theorem dX7_boat_5 : decode cX7_boat 5 = .ok (.iload_n 1, 1) := by decide +kernel
theorem dX7_boat_6 : decode cX7_boat 6 = .ok (.i2l, 1) := by decide +kernel
theorem dX7_boat_7 : decode cX7_boat 7 = .ok (.lconst 0, 1) := by decide +kernel
theorem dX7_boat_8 : decode cX7_boat 8 = .ok (.ldc2_w 297, 3) := by decide +kernel
theorem dX7_boat_11 : decode cX7_boat 11 = .ok (.invokestatic 117, 3) := by decide +kernel
theorem dX7_boat_14 : decode cX7_boat 14 = .ok (.ifCond .eq 23, 3) := by decide +kernel
theorem dX7_boat_17 : decode cX7_boat 17 = .ok (.iload_n 2, 1) := by decide +kernel
theorem dX7_boat_18 : decode cX7_boat 18 = .ok (.invokestatic 299, 3) := by decide +kernel
theorem dX7_boat_21 : decode cX7_boat 21 = .ok (.ifCond .eq 16, 3) := by decide +kernel
theorem dX7_boat_24 : decode cX7_boat 24 = .ok (.iload 4, 2) := by decide +kernel
theorem dX7_boat_26 : decode cX7_boat 26 = .ok (.i2l, 1) := by decide +kernel
theorem dX7_boat_27 : decode cX7_boat 27 = .ok (.lconst 0, 1) := by decide +kernel
theorem dX7_boat_28 : decode cX7_boat 28 = .ok (.ldc2_w 302, 3) := by decide +kernel
theorem dX7_boat_31 : decode cX7_boat 31 = .ok (.invokestatic 117, 3) := by decide +kernel
theorem dX7_boat_34 : decode cX7_boat 34 = .ok (.ifCond .ne 5, 3) := by decide +kernel
theorem dX7_boat_37 : decode cX7_boat 37 = .ok (.iconst (-1), 1) := by decide +kernel
theorem dX7_boat_38 : decode cX7_boat 38 = .ok (.ireturn, 1) := by decide +kernel
theorem dX7_boat_39 : decode cX7_boat 39 = .ok (.aload_n 0, 1) := by decide +kernel
theorem dX7_boat_40 : decode cX7_boat 40 = .ok (.getfield 114, 3) := by decide +kernel
theorem dX7_boat_43 : decode cX7_boat 43 = .ok (.iconst 4, 1) := by decide +kernel
theorem dX7_boat_44 : decode cX7_boat 44 = .ok (.if_icmp .eq 10, 3) := by decide +kernel
theorem dX7_boat_47 : decode cX7_boat 47 = .ok (.aload_n 0, 1) := by decide +kernel
theorem dX7_boat_48 : decode cX7_boat 48 = .ok (.getfield 188, 3) := by decide +kernel
theorem dX7_boat_51 : decode cX7_boat 51 = .ok (.ifCond .le 19, 3) := by decide +kernel
theorem dX7_boat_54 : decode cX7_boat 54 = .ok (.aload_n 0, 1) := by decide +kernel
theorem dX7_boat_55 : decode cX7_boat 55 = .ok (.getfield 114, 3) := by decide +kernel
theorem dX7_boat_58 : decode cX7_boat 58 = .ok (.iconst 4, 1) := by decide +kernel
theorem dX7_boat_59 : decode cX7_boat 59 = .ok (.if_icmp .ne 8, 3) := by decide +kernel
theorem dX7_boat_62 : decode cX7_boat 62 = .ok (.bipush (-2), 2) := by decide +kernel
theorem dX7_boat_64 : decode cX7_boat 64 = .ok (.goto 5, 3) := by decide +kernel
theorem dX7_boat_67 : decode cX7_boat 67 = .ok (.bipush (-3), 2) := by decide +kernel
theorem dX7_boat_69 : decode cX7_boat 69 = .ok (.ireturn, 1) := by decide +kernel
theorem dX7_boat_70 : decode cX7_boat 70 = .ok (.aload_n 0, 1) := by decide +kernel
theorem dX7_boat_71 : decode cX7_boat 71 = .ok (.getfield 23, 3) := by decide +kernel
theorem dX7_boat_74 : decode cX7_boat 74 = .ok (.aload_n 0, 1) := by decide +kernel
theorem dX7_boat_75 : decode cX7_boat 75 = .ok (.getfield 114, 3) := by decide +kernel
theorem dX7_boat_78 : decode cX7_boat 78 = .ok (.iload_n 1, 1) := by decide +kernel
theorem dX7_boat_79 : decode cX7_boat 79 = .ok (.iastore, 1) := by decide +kernel
theorem dX7_boat_80 : decode cX7_boat 80 = .ok (.aload_n 0, 1) := by decide +kernel
theorem dX7_boat_81 : decode cX7_boat 81 = .ok (.getfield 26, 3) := by decide +kernel
theorem dX7_boat_84 : decode cX7_boat 84 = .ok (.aload_n 0, 1) := by decide +kernel
theorem dX7_boat_85 : decode cX7_boat 85 = .ok (.getfield 114, 3) := by decide +kernel
theorem dX7_boat_88 : decode cX7_boat 88 = .ok (.iload_n 2, 1) := by decide +kernel
theorem dX7_boat_89 : decode cX7_boat 89 = .ok (.iastore, 1) := by decide +kernel
theorem dX7_boat_90 : decode cX7_boat 90 = .ok (.aload_n 0, 1) := by decide +kernel
theorem dX7_boat_91 : decode cX7_boat 91 = .ok (.getfield 29, 3) := by decide +kernel
theorem dX7_boat_94 : decode cX7_boat 94 = .ok (.aload_n 0, 1) := by decide +kernel
theorem dX7_boat_95 : decode cX7_boat 95 = .ok (.getfield 114, 3) := by decide +kernel
theorem dX7_boat_98 : decode cX7_boat 98 = .ok (.iload_n 3, 1) := by decide +kernel
theorem dX7_boat_99 : decode cX7_boat 99 = .ok (.ifCond .eq 7, 3) := by decide +kernel
theorem dX7_boat_102 : decode cX7_boat 102 = .ok (.iconst 1, 1) := by decide +kernel
theorem dX7_boat_103 : decode cX7_boat 103 = .ok (.goto 4, 3) := by decide +kernel
theorem dX7_boat_106 : decode cX7_boat 106 = .ok (.iconst (-1), 1) := by decide +kernel
theorem dX7_boat_107 : decode cX7_boat 107 = .ok (.iastore, 1) := by decide +kernel
theorem dX7_boat_108 : decode cX7_boat 108 = .ok (.aload_n 0, 1) := by decide +kernel
theorem dX7_boat_109 : decode cX7_boat 109 = .ok (.getfield 32, 3) := by decide +kernel
theorem dX7_boat_112 : decode cX7_boat 112 = .ok (.aload_n 0, 1) := by decide +kernel
theorem dX7_boat_113 : decode cX7_boat 113 = .ok (.getfield 114, 3) := by decide +kernel
theorem dX7_boat_116 : decode cX7_boat 116 = .ok (.iload 4, 2) := by decide +kernel
theorem dX7_boat_118 : decode cX7_boat 118 = .ok (.iastore, 1) := by decide +kernel
theorem dX7_boat_119 : decode cX7_boat 119 = .ok (.aload_n 0, 1) := by decide +kernel
theorem dX7_boat_120 : decode cX7_boat 120 = .ok (.aload_n 0, 1) := by decide +kernel
theorem dX7_boat_121 : decode cX7_boat 121 = .ok (.getfield 114, 3) := by decide +kernel
theorem dX7_boat_124 : decode cX7_boat 124 = .ok (.invokevirtual 304, 3) := by decide +kernel
theorem dX7_boat_127 : decode cX7_boat 127 = .ok (.aload_n 0, 1) := by decide +kernel
theorem dX7_boat_128 : decode cX7_boat 128 = .ok (.dup, 1) := by decide +kernel
theorem dX7_boat_129 : decode cX7_boat 129 = .ok (.getfield 114, 3) := by decide +kernel
theorem dX7_boat_132 : decode cX7_boat 132 = .ok (.iconst 1, 1) := by decide +kernel
theorem dX7_boat_133 : decode cX7_boat 133 = .ok (.iadd, 1) := by decide +kernel
theorem dX7_boat_134 : decode cX7_boat 134 = .ok (.putfield 114, 3) := by decide +kernel
theorem dX7_boat_137 : decode cX7_boat 137 = .ok (.aload_n 0, 1) := by decide +kernel
theorem dX7_boat_138 : decode cX7_boat 138 = .ok (.getfield 114, 3) := by decide +kernel
theorem dX7_boat_141 : decode cX7_boat 141 = .ok (.iconst 1, 1) := by decide +kernel
theorem dX7_boat_142 : decode cX7_boat 142 = .ok (.isub, 1) := by decide +kernel
theorem dX7_boat_143 : decode cX7_boat 143 = .ok (.ireturn, 1) := by decide +kernel
theorem dX7_of_0 : decode cX7_of 0 = .ok (.aload_n 0, 1) := by decide +kernel
theorem dX7_of_1 : decode cX7_of 1 = .ok (.iconst 0, 1) := by decide +kernel
theorem dX7_of_2 : decode cX7_of 2 = .ok (.putfield 111, 3) := by decide +kernel
theorem dX7_of_5 : decode cX7_of 5 = .ok (.aload_n 0, 1) := by decide +kernel
theorem dX7_of_6 : decode cX7_of 6 = .ok (.iload_n 1, 1) := by decide +kernel
theorem dX7_of_7 : decode cX7_of 7 = .ok (.invokevirtual 307, 3) := by decide +kernel
theorem dX7_of_10 : decode cX7_of 10 = .ok (.ifCond .eq 15, 3) := by decide +kernel
theorem dX7_of_13 : decode cX7_of 13 = .ok (.iload_n 2, 1) := by decide +kernel
theorem dX7_of_14 : decode cX7_of 14 = .ok (.i2l, 1) := by decide +kernel
theorem dX7_of_15 : decode cX7_of 15 = .ok (.lconst 0, 1) := by decide +kernel
theorem dX7_of_16 : decode cX7_of 16 = .ok (.ldc2_w 297, 3) := by decide +kernel
theorem dX7_of_19 : decode cX7_of 19 = .ok (.invokestatic 117, 3) := by decide +kernel
theorem dX7_of_22 : decode cX7_of 22 = .ok (.ifCond .ne 7, 3) := by decide +kernel
theorem dX7_of_25 : decode cX7_of 25 = .ok (.ldc_w 292, 3) := by decide +kernel
theorem dX7_of_28 : decode cX7_of 28 = .ok (.ireturn, 1) := by decide +kernel
theorem dX7_of_29 : decode cX7_of 29 = .ok (.iload_n 2, 1) := by decide +kernel
theorem dX7_of_30 : decode cX7_of 30 = .ok (.tableswitch 99 0 6 #[42, 49, 56, 63, 78, 85, 92], 42) := by decide +kernel
theorem dX7_of_72 : decode cX7_of 72 = .ok (.aload_n 0, 1) := by decide +kernel
theorem dX7_of_73 : decode cX7_of 73 = .ok (.getfield 23, 3) := by decide +kernel
theorem dX7_of_76 : decode cX7_of 76 = .ok (.iload_n 1, 1) := by decide +kernel
theorem dX7_of_77 : decode cX7_of 77 = .ok (.iaload, 1) := by decide +kernel
theorem dX7_of_78 : decode cX7_of 78 = .ok (.ireturn, 1) := by decide +kernel
theorem dX7_of_79 : decode cX7_of 79 = .ok (.aload_n 0, 1) := by decide +kernel
theorem dX7_of_80 : decode cX7_of 80 = .ok (.getfield 35, 3) := by decide +kernel
theorem dX7_of_83 : decode cX7_of 83 = .ok (.iload_n 1, 1) := by decide +kernel
theorem dX7_of_84 : decode cX7_of 84 = .ok (.iaload, 1) := by decide +kernel
theorem dX7_of_85 : decode cX7_of 85 = .ok (.ireturn, 1) := by decide +kernel
theorem dX7_of_86 : decode cX7_of 86 = .ok (.aload_n 0, 1) := by decide +kernel
theorem dX7_of_87 : decode cX7_of 87 = .ok (.getfield 38, 3) := by decide +kernel
theorem dX7_of_90 : decode cX7_of 90 = .ok (.iload_n 1, 1) := by decide +kernel
theorem dX7_of_91 : decode cX7_of 91 = .ok (.iaload, 1) := by decide +kernel
theorem dX7_of_92 : decode cX7_of 92 = .ok (.ireturn, 1) := by decide +kernel
theorem dX7_of_93 : decode cX7_of 93 = .ok (.aload_n 0, 1) := by decide +kernel
theorem dX7_of_94 : decode cX7_of 94 = .ok (.getfield 41, 3) := by decide +kernel
theorem dX7_of_97 : decode cX7_of 97 = .ok (.iload_n 1, 1) := by decide +kernel
theorem dX7_of_98 : decode cX7_of 98 = .ok (.iaload, 1) := by decide +kernel
theorem dX7_of_99 : decode cX7_of 99 = .ok (.ifCond .le 7, 3) := by decide +kernel
theorem dX7_of_102 : decode cX7_of 102 = .ok (.iconst 1, 1) := by decide +kernel
theorem dX7_of_103 : decode cX7_of 103 = .ok (.goto 4, 3) := by decide +kernel
theorem dX7_of_106 : decode cX7_of 106 = .ok (.iconst 0, 1) := by decide +kernel
theorem dX7_of_107 : decode cX7_of 107 = .ok (.ireturn, 1) := by decide +kernel
theorem dX7_of_108 : decode cX7_of 108 = .ok (.aload_n 0, 1) := by decide +kernel
theorem dX7_of_109 : decode cX7_of 109 = .ok (.getfield 44, 3) := by decide +kernel
theorem dX7_of_112 : decode cX7_of 112 = .ok (.iload_n 1, 1) := by decide +kernel
theorem dX7_of_113 : decode cX7_of 113 = .ok (.iaload, 1) := by decide +kernel
theorem dX7_of_114 : decode cX7_of 114 = .ok (.ireturn, 1) := by decide +kernel
theorem dX7_of_115 : decode cX7_of 115 = .ok (.aload_n 0, 1) := by decide +kernel
theorem dX7_of_116 : decode cX7_of 116 = .ok (.getfield 47, 3) := by decide +kernel
theorem dX7_of_119 : decode cX7_of 119 = .ok (.iload_n 1, 1) := by decide +kernel
theorem dX7_of_120 : decode cX7_of 120 = .ok (.iaload, 1) := by decide +kernel
theorem dX7_of_121 : decode cX7_of 121 = .ok (.ireturn, 1) := by decide +kernel
theorem dX7_of_122 : decode cX7_of 122 = .ok (.aload_n 0, 1) := by decide +kernel
theorem dX7_of_123 : decode cX7_of 123 = .ok (.getfield 32, 3) := by decide +kernel
theorem dX7_of_126 : decode cX7_of 126 = .ok (.iload_n 1, 1) := by decide +kernel
theorem dX7_of_127 : decode cX7_of 127 = .ok (.iaload, 1) := by decide +kernel
theorem dX7_of_128 : decode cX7_of 128 = .ok (.ireturn, 1) := by decide +kernel
theorem dX7_of_129 : decode cX7_of 129 = .ok (.aload_n 0, 1) := by decide +kernel
theorem dX7_of_130 : decode cX7_of 130 = .ok (.getfield 50, 3) := by decide +kernel
theorem dX7_of_133 : decode cX7_of 133 = .ok (.iload_n 1, 1) := by decide +kernel
theorem dX7_of_134 : decode cX7_of 134 = .ok (.iaload, 1) := by decide +kernel
theorem dX7_of_135 : decode cX7_of 135 = .ok (.ireturn, 1) := by decide +kernel
theorem dX7_badAir_0 : decode cX7_badAir 0 = .ok (.aload_n 0, 1) := by decide +kernel
theorem dX7_badAir_1 : decode cX7_badAir 1 = .ok (.iconst 0, 1) := by decide +kernel
theorem dX7_badAir_2 : decode cX7_badAir 2 = .ok (.putfield 111, 3) := by decide +kernel
theorem dX7_badAir_5 : decode cX7_badAir 5 = .ok (.aload_n 0, 1) := by decide +kernel
theorem dX7_badAir_6 : decode cX7_badAir 6 = .ok (.iload_n 1, 1) := by decide +kernel
theorem dX7_badAir_7 : decode cX7_badAir 7 = .ok (.invokevirtual 307, 3) := by decide +kernel
theorem dX7_badAir_10 : decode cX7_badAir 10 = .ok (.ifCond .ne 7, 3) := by decide +kernel
theorem dX7_badAir_13 : decode cX7_badAir 13 = .ok (.iconst (-1), 1) := by decide +kernel
theorem dX7_badAir_14 : decode cX7_badAir 14 = .ok (.goto 16, 3) := by decide +kernel
theorem dX7_badAir_17 : decode cX7_badAir 17 = .ok (.aload_n 0, 1) := by decide +kernel
theorem dX7_badAir_18 : decode cX7_badAir 18 = .ok (.iload_n 1, 1) := by decide +kernel
theorem dX7_badAir_19 : decode cX7_badAir 19 = .ok (.invokevirtual 191, 3) := by decide +kernel
theorem dX7_badAir_22 : decode cX7_badAir 22 = .ok (.ifCond .eq 7, 3) := by decide +kernel
theorem dX7_badAir_25 : decode cX7_badAir 25 = .ok (.iconst 1, 1) := by decide +kernel
theorem dX7_badAir_26 : decode cX7_badAir 26 = .ok (.goto 4, 3) := by decide +kernel
theorem dX7_badAir_29 : decode cX7_badAir 29 = .ok (.iconst 0, 1) := by decide +kernel
theorem dX7_badAir_30 : decode cX7_badAir 30 = .ok (.ireturn, 1) := by decide +kernel
theorem dX7_go_0 : decode cX7_go 0 = .ok (.aload_n 0, 1) := by decide +kernel
theorem dX7_go_1 : decode cX7_go 1 = .ok (.iconst 0, 1) := by decide +kernel
theorem dX7_go_2 : decode cX7_go 2 = .ok (.putfield 111, 3) := by decide +kernel
theorem dX7_go_5 : decode cX7_go 5 = .ok (.iload_n 1, 1) := by decide +kernel
theorem dX7_go_6 : decode cX7_go 6 = .ok (.i2l, 1) := by decide +kernel
theorem dX7_go_7 : decode cX7_go 7 = .ok (.lconst 1, 1) := by decide +kernel
theorem dX7_go_8 : decode cX7_go 8 = .ok (.ldc2_w 310, 3) := by decide +kernel
theorem dX7_go_11 : decode cX7_go 11 = .ok (.invokestatic 117, 3) := by decide +kernel
theorem dX7_go_14 : decode cX7_go 14 = .ok (.ifCond .ne 5, 3) := by decide +kernel
theorem dX7_go_17 : decode cX7_go 17 = .ok (.iconst (-1), 1) := by decide +kernel
theorem dX7_go_18 : decode cX7_go 18 = .ok (.ireturn, 1) := by decide +kernel
theorem dX7_go_19 : decode cX7_go 19 = .ok (.aload_n 0, 1) := by decide +kernel
theorem dX7_go_20 : decode cX7_go 20 = .ok (.getfield 114, 3) := by decide +kernel
theorem dX7_go_23 : decode cX7_go 23 = .ok (.ifCond .eq 10, 3) := by decide +kernel
theorem dX7_go_26 : decode cX7_go 26 = .ok (.aload_n 0, 1) := by decide +kernel
theorem dX7_go_27 : decode cX7_go 27 = .ok (.invokevirtual 234, 3) := by decide +kernel
theorem dX7_go_30 : decode cX7_go 30 = .ok (.ifCond .eq 6, 3) := by decide +kernel
theorem dX7_go_33 : decode cX7_go 33 = .ok (.bipush (-3), 2) := by decide +kernel
theorem dX7_go_35 : decode cX7_go 35 = .ok (.ireturn, 1) := by decide +kernel
theorem dX7_go_36 : decode cX7_go 36 = .ok (.aload_n 0, 1) := by decide +kernel
theorem dX7_go_37 : decode cX7_go 37 = .ok (.invokevirtual 231, 3) := by decide +kernel
theorem dX7_go_40 : decode cX7_go 40 = .ok (.iconst 0, 1) := by decide +kernel
theorem dX7_go_41 : decode cX7_go 41 = .ok (.istore_n 2, 1) := by decide +kernel
theorem dX7_go_42 : decode cX7_go 42 = .ok (.iload_n 2, 1) := by decide +kernel
theorem dX7_go_43 : decode cX7_go 43 = .ok (.iload_n 1, 1) := by decide +kernel
theorem dX7_go_44 : decode cX7_go 44 = .ok (.if_icmp .ge 20, 3) := by decide +kernel
theorem dX7_go_47 : decode cX7_go 47 = .ok (.aload_n 0, 1) := by decide +kernel
theorem dX7_go_48 : decode cX7_go 48 = .ok (.invokevirtual 234, 3) := by decide +kernel
theorem dX7_go_51 : decode cX7_go 51 = .ok (.ifCond .ne 13, 3) := by decide +kernel
theorem dX7_go_54 : decode cX7_go 54 = .ok (.aload_n 0, 1) := by decide +kernel
theorem dX7_go_55 : decode cX7_go 55 = .ok (.invokevirtual 238, 3) := by decide +kernel
theorem dX7_go_58 : decode cX7_go 58 = .ok (.iinc 2 1, 3) := by decide +kernel
theorem dX7_go_61 : decode cX7_go 61 = .ok (.goto (-19), 3) := by decide +kernel
theorem dX7_go_64 : decode cX7_go 64 = .ok (.aload_n 0, 1) := by decide +kernel
theorem dX7_go_65 : decode cX7_go 65 = .ok (.getfield 188, 3) := by decide +kernel
theorem dX7_go_68 : decode cX7_go 68 = .ok (.ireturn, 1) := by decide +kernel
theorem dX7_turn_0 : decode cX7_turn 0 = .ok (.aload_n 0, 1) := by decide +kernel
theorem dX7_turn_1 : decode cX7_turn 1 = .ok (.iconst 0, 1) := by decide +kernel
theorem dX7_turn_2 : decode cX7_turn 2 = .ok (.putfield 111, 3) := by decide +kernel
theorem dX7_turn_5 : decode cX7_turn 5 = .ok (.aload_n 0, 1) := by decide +kernel
theorem dX7_turn_6 : decode cX7_turn 6 = .ok (.iload_n 1, 1) := by decide +kernel
theorem dX7_turn_7 : decode cX7_turn 7 = .ok (.invokevirtual 307, 3) := by decide +kernel
theorem dX7_turn_10 : decode cX7_turn 10 = .ok (.ifCond .ne 5, 3) := by decide +kernel
theorem dX7_turn_13 : decode cX7_turn 13 = .ok (.iconst (-1), 1) := by decide +kernel
theorem dX7_turn_14 : decode cX7_turn 14 = .ok (.ireturn, 1) := by decide +kernel
theorem dX7_turn_15 : decode cX7_turn 15 = .ok (.aload_n 0, 1) := by decide +kernel
theorem dX7_turn_16 : decode cX7_turn 16 = .ok (.iload_n 1, 1) := by decide +kernel
theorem dX7_turn_17 : decode cX7_turn 17 = .ok (.invokevirtual 216, 3) := by decide +kernel
theorem dX7_turn_20 : decode cX7_turn 20 = .ok (.ifCond .ne 6, 3) := by decide +kernel
theorem dX7_turn_23 : decode cX7_turn 23 = .ok (.bipush (-3), 2) := by decide +kernel
theorem dX7_turn_25 : decode cX7_turn 25 = .ok (.ireturn, 1) := by decide +kernel
theorem dX7_turn_26 : decode cX7_turn 26 = .ok (.aload_n 0, 1) := by decide +kernel
theorem dX7_turn_27 : decode cX7_turn 27 = .ok (.iload_n 1, 1) := by decide +kernel
theorem dX7_turn_28 : decode cX7_turn 28 = .ok (.invokevirtual 228, 3) := by decide +kernel
theorem dX7_turn_31 : decode cX7_turn 31 = .ok (.aload_n 0, 1) := by decide +kernel
theorem dX7_turn_32 : decode cX7_turn 32 = .ok (.getfield 44, 3) := by decide +kernel
theorem dX7_turn_35 : decode cX7_turn 35 = .ok (.iload_n 1, 1) := by decide +kernel
theorem dX7_turn_36 : decode cX7_turn 36 = .ok (.iaload, 1) := by decide +kernel
theorem dX7_turn_37 : decode cX7_turn 37 = .ok (.ireturn, 1) := by decide +kernel
theorem dX7_anew_0 : decode cX7_anew 0 = .ok (.aload_n 0, 1) := by decide +kernel
theorem dX7_anew_1 : decode cX7_anew 1 = .ok (.iconst 0, 1) := by decide +kernel
theorem dX7_anew_2 : decode cX7_anew 2 = .ok (.putfield 111, 3) := by decide +kernel
theorem dX7_anew_5 : decode cX7_anew 5 = .ok (.aload_n 0, 1) := by decide +kernel
theorem dX7_anew_6 : decode cX7_anew 6 = .ok (.iconst 0, 1) := by decide +kernel
theorem dX7_anew_7 : decode cX7_anew 7 = .ok (.putfield 188, 3) := by decide +kernel
theorem dX7_anew_10 : decode cX7_anew 10 = .ok (.iconst 0, 1) := by decide +kernel
theorem dX7_anew_11 : decode cX7_anew 11 = .ok (.istore_n 1, 1) := by decide +kernel
theorem dX7_anew_12 : decode cX7_anew 12 = .ok (.iload_n 1, 1) := by decide +kernel
theorem dX7_anew_13 : decode cX7_anew 13 = .ok (.aload_n 0, 1) := by decide +kernel
theorem dX7_anew_14 : decode cX7_anew 14 = .ok (.getfield 114, 3) := by decide +kernel
theorem dX7_anew_17 : decode cX7_anew 17 = .ok (.if_icmp .ge 14, 3) := by decide +kernel
theorem dX7_anew_20 : decode cX7_anew 20 = .ok (.aload_n 0, 1) := by decide +kernel
theorem dX7_anew_21 : decode cX7_anew 21 = .ok (.iload_n 1, 1) := by decide +kernel
theorem dX7_anew_22 : decode cX7_anew 22 = .ok (.invokevirtual 304, 3) := by decide +kernel
theorem dX7_anew_25 : decode cX7_anew 25 = .ok (.iinc 1 1, 3) := by decide +kernel
theorem dX7_anew_28 : decode cX7_anew 28 = .ok (.goto (-16), 3) := by decide +kernel
theorem dX7_anew_31 : decode cX7_anew 31 = .ok (.aload_n 0, 1) := by decide +kernel
theorem dX7_anew_32 : decode cX7_anew 32 = .ok (.getfield 114, 3) := by decide +kernel
theorem dX7_anew_35 : decode cX7_anew 35 = .ok (.ireturn, 1) := by decide +kernel
theorem dX7_place_0 : decode cX7_place 0 = .ok (.aload_n 0, 1) := by decide +kernel
theorem dX7_place_1 : decode cX7_place 1 = .ok (.iconst 0, 1) := by decide +kernel
theorem dX7_place_2 : decode cX7_place 2 = .ok (.putfield 111, 3) := by decide +kernel
theorem dX7_place_5 : decode cX7_place 5 = .ok (.iload_n 1, 1) := by decide +kernel
theorem dX7_place_6 : decode cX7_place 6 = .ok (.iconst 1, 1) := by decide +kernel
theorem dX7_place_7 : decode cX7_place 7 = .ok (.if_icmp .ge 5, 3) := by decide +kernel
theorem dX7_place_10 : decode cX7_place 10 = .ok (.iconst (-1), 1) := by decide +kernel
theorem dX7_place_11 : decode cX7_place 11 = .ok (.ireturn, 1) := by decide +kernel
theorem dX7_place_12 : decode cX7_place 12 = .ok (.iconst 0, 1) := by decide +kernel
theorem dX7_place_13 : decode cX7_place 13 = .ok (.istore_n 2, 1) := by decide +kernel
theorem dX7_place_14 : decode cX7_place 14 = .ok (.iload_n 2, 1) := by decide +kernel
theorem dX7_place_15 : decode cX7_place 15 = .ok (.aload_n 0, 1) := by decide +kernel
theorem dX7_place_16 : decode cX7_place 16 = .ok (.getfield 114, 3) := by decide +kernel
theorem dX7_place_19 : decode cX7_place 19 = .ok (.if_icmp .ge 20, 3) := by decide +kernel
theorem dX7_place_22 : decode cX7_place 22 = .ok (.aload_n 0, 1) := by decide +kernel
theorem dX7_place_23 : decode cX7_place 23 = .ok (.iload_n 2, 1) := by decide +kernel
theorem dX7_place_24 : decode cX7_place 24 = .ok (.invokevirtual 312, 3) := by decide +kernel
theorem dX7_place_27 : decode cX7_place 27 = .ok (.iload_n 1, 1) := by decide +kernel
theorem dX7_place_28 : decode cX7_place 28 = .ok (.if_icmp .ne 5, 3) := by decide +kernel
theorem dX7_place_31 : decode cX7_place 31 = .ok (.iload_n 2, 1) := by decide +kernel
theorem dX7_place_32 : decode cX7_place 32 = .ok (.ireturn, 1) := by decide +kernel
theorem dX7_place_33 : decode cX7_place 33 = .ok (.iinc 2 1, 3) := by decide +kernel
theorem dX7_place_36 : decode cX7_place 36 = .ok (.goto (-22), 3) := by decide +kernel
theorem dX7_place_39 : decode cX7_place 39 = .ok (.bipush (-4), 2) := by decide +kernel
theorem dX7_place_41 : decode cX7_place 41 = .ok (.ireturn, 1) := by decide +kernel
theorem dX7_ends_0 : decode cX7_ends 0 = .ok (.aload_n 0, 1) := by decide +kernel
theorem dX7_ends_1 : decode cX7_ends 1 = .ok (.iconst 0, 1) := by decide +kernel
theorem dX7_ends_2 : decode cX7_ends 2 = .ok (.putfield 111, 3) := by decide +kernel
theorem dX7_ends_5 : decode cX7_ends 5 = .ok (.aload_n 0, 1) := by decide +kernel
theorem dX7_ends_6 : decode cX7_ends 6 = .ok (.iload_n 1, 1) := by decide +kernel
theorem dX7_ends_7 : decode cX7_ends 7 = .ok (.invokevirtual 307, 3) := by decide +kernel
theorem dX7_ends_10 : decode cX7_ends 10 = .ok (.ifCond .ne 5, 3) := by decide +kernel
theorem dX7_ends_13 : decode cX7_ends 13 = .ok (.iconst (-1), 1) := by decide +kernel
theorem dX7_ends_14 : decode cX7_ends 14 = .ok (.ireturn, 1) := by decide +kernel
theorem dX7_ends_15 : decode cX7_ends 15 = .ok (.aload_n 0, 1) := by decide +kernel
theorem dX7_ends_16 : decode cX7_ends 16 = .ok (.invokevirtual 315, 3) := by decide +kernel
theorem dX7_ends_19 : decode cX7_ends 19 = .ok (.aload_n 0, 1) := by decide +kernel
theorem dX7_ends_20 : decode cX7_ends 20 = .ok (.invokevirtual 318, 3) := by decide +kernel
theorem dX7_ends_23 : decode cX7_ends 23 = .ok (.aload_n 0, 1) := by decide +kernel
theorem dX7_ends_24 : decode cX7_ends 24 = .ok (.iload_n 1, 1) := by decide +kernel
theorem dX7_ends_25 : decode cX7_ends 25 = .ok (.invokevirtual 312, 3) := by decide +kernel
theorem dX7_ends_28 : decode cX7_ends 28 = .ok (.istore_n 2, 1) := by decide +kernel
theorem dX7_ends_29 : decode cX7_ends 29 = .ok (.aload_n 0, 1) := by decide +kernel
theorem dX7_ends_30 : decode cX7_ends 30 = .ok (.invokevirtual 321, 3) := by decide +kernel
theorem dX7_ends_33 : decode cX7_ends 33 = .ok (.iload_n 2, 1) := by decide +kernel
theorem dX7_ends_34 : decode cX7_ends 34 = .ok (.ireturn, 1) := by decide +kernel
theorem dX7_isBitTime_0 : decode cX7_isBitTime 0 = .ok (.aload_n 0, 1) := by decide +kernel
theorem dX7_isBitTime_1 : decode cX7_isBitTime 1 = .ok (.getfield 188, 3) := by decide +kernel
theorem dX7_isBitTime_4 : decode cX7_isBitTime 4 = .ok (.bipush 10, 2) := by decide +kernel
theorem dX7_isBitTime_6 : decode cX7_isBitTime 6 = .ok (.idiv, 1) := by decide +kernel
theorem dX7_isBitTime_7 : decode cX7_isBitTime 7 = .ok (.iconst 1, 1) := by decide +kernel
theorem dX7_isBitTime_8 : decode cX7_isBitTime 8 = .ok (.isub, 1) := by decide +kernel
theorem dX7_isBitTime_9 : decode cX7_isBitTime 9 = .ok (.istore_n 2, 1) := by decide +kernel
theorem dX7_isBitTime_10 : decode cX7_isBitTime 10 = .ok (.aload_n 0, 1) := by decide +kernel
theorem dX7_isBitTime_11 : decode cX7_isBitTime 11 = .ok (.getfield 188, 3) := by decide +kernel
theorem dX7_isBitTime_14 : decode cX7_isBitTime 14 = .ok (.bipush 10, 2) := by decide +kernel
theorem dX7_isBitTime_16 : decode cX7_isBitTime 16 = .ok (.irem, 1) := by decide +kernel
theorem dX7_isBitTime_17 : decode cX7_isBitTime 17 = .ok (.ifCond .ne 37, 3) := by decide +kernel
theorem dX7_isBitTime_20 : decode cX7_isBitTime 20 = .ok (.iload_n 2, 1) := by decide +kernel
theorem dX7_isBitTime_21 : decode cX7_isBitTime 21 = .ok (.i2l, 1) := by decide +kernel
theorem dX7_isBitTime_22 : decode cX7_isBitTime 22 = .ok (.lconst 0, 1) := by decide +kernel
theorem dX7_isBitTime_23 : decode cX7_isBitTime 23 = .ok (.aload_n 0, 1) := by decide +kernel
theorem dX7_isBitTime_24 : decode cX7_isBitTime 24 = .ok (.getfield 324, 3) := by decide +kernel
theorem dX7_isBitTime_27 : decode cX7_isBitTime 27 = .ok (.iconst 1, 1) := by decide +kernel
theorem dX7_isBitTime_28 : decode cX7_isBitTime 28 = .ok (.isub, 1) := by decide +kernel
theorem dX7_isBitTime_29 : decode cX7_isBitTime 29 = .ok (.i2l, 1) := by decide +kernel
theorem dX7_isBitTime_30 : decode cX7_isBitTime 30 = .ok (.invokestatic 117, 3) := by decide +kernel
theorem dX7_isBitTime_33 : decode cX7_isBitTime 33 = .ok (.ifCond .eq 21, 3) := by decide +kernel
theorem dX7_isBitTime_36 : decode cX7_isBitTime 36 = .ok (.aload_n 0, 1) := by decide +kernel
theorem dX7_isBitTime_37 : decode cX7_isBitTime 37 = .ok (.getfield 83, 3) := by decide +kernel
theorem dX7_isBitTime_40 : decode cX7_isBitTime 40 = .ok (.iload_n 1, 1) := by decide +kernel
theorem dX7_isBitTime_41 : decode cX7_isBitTime 41 = .ok (.iaload, 1) := by decide +kernel
theorem dX7_isBitTime_42 : decode cX7_isBitTime 42 = .ok (.iload_n 2, 1) := by decide +kernel
theorem dX7_isBitTime_43 : decode cX7_isBitTime 43 = .ok (.ishr, 1) := by decide +kernel
theorem dX7_isBitTime_44 : decode cX7_isBitTime 44 = .ok (.iconst 1, 1) := by decide +kernel
theorem dX7_isBitTime_45 : decode cX7_isBitTime 45 = .ok (.iand, 1) := by decide +kernel
theorem dX7_isBitTime_46 : decode cX7_isBitTime 46 = .ok (.iconst 1, 1) := by decide +kernel
theorem dX7_isBitTime_47 : decode cX7_isBitTime 47 = .ok (.if_icmp .ne 7, 3) := by decide +kernel
theorem dX7_isBitTime_50 : decode cX7_isBitTime 50 = .ok (.iconst 1, 1) := by decide +kernel
theorem dX7_isBitTime_51 : decode cX7_isBitTime 51 = .ok (.goto 4, 3) := by decide +kernel
theorem dX7_isBitTime_54 : decode cX7_isBitTime 54 = .ok (.iconst 0, 1) := by decide +kernel
theorem dX7_isBitTime_55 : decode cX7_isBitTime 55 = .ok (.ireturn, 1) := by decide +kernel
theorem dX7_bitsOn_0 : decode cX7_bitsOn 0 = .ok (.aload_n 0, 1) := by decide +kernel
theorem dX7_bitsOn_1 : decode cX7_bitsOn 1 = .ok (.invokevirtual 213, 3) := by decide +kernel
theorem dX7_bitsOn_4 : decode cX7_bitsOn 4 = .ok (.iconst 0, 1) := by decide +kernel
theorem dX7_bitsOn_5 : decode cX7_bitsOn 5 = .ok (.istore_n 1, 1) := by decide +kernel
theorem dX7_bitsOn_6 : decode cX7_bitsOn 6 = .ok (.iload_n 1, 1) := by decide +kernel
theorem dX7_bitsOn_7 : decode cX7_bitsOn 7 = .ok (.aload_n 0, 1) := by decide +kernel
theorem dX7_bitsOn_8 : decode cX7_bitsOn 8 = .ok (.getfield 114, 3) := by decide +kernel
theorem dX7_bitsOn_11 : decode cX7_bitsOn 11 = .ok (.if_icmp .ge 44, 3) := by decide +kernel
theorem dX7_bitsOn_14 : decode cX7_bitsOn 14 = .ok (.aload_n 0, 1) := by decide +kernel
theorem dX7_bitsOn_15 : decode cX7_bitsOn 15 = .ok (.getfield 74, 3) := by decide +kernel
theorem dX7_bitsOn_18 : decode cX7_bitsOn 18 = .ok (.iload_n 1, 1) := by decide +kernel
theorem dX7_bitsOn_19 : decode cX7_bitsOn 19 = .ok (.aload_n 0, 1) := by decide +kernel
theorem dX7_bitsOn_20 : decode cX7_bitsOn 20 = .ok (.iload_n 1, 1) := by decide +kernel
theorem dX7_bitsOn_21 : decode cX7_bitsOn 21 = .ok (.invokevirtual 216, 3) := by decide +kernel
theorem dX7_bitsOn_24 : decode cX7_bitsOn 24 = .ok (.ifCond .eq 23, 3) := by decide +kernel
theorem dX7_bitsOn_27 : decode cX7_bitsOn 27 = .ok (.aload_n 0, 1) := by decide +kernel
theorem dX7_bitsOn_28 : decode cX7_bitsOn 28 = .ok (.iload_n 1, 1) := by decide +kernel
theorem dX7_bitsOn_29 : decode cX7_bitsOn 29 = .ok (.invokevirtual 219, 3) := by decide +kernel
theorem dX7_bitsOn_32 : decode cX7_bitsOn 32 = .ok (.ifCond .ne 11, 3) := by decide +kernel
theorem dX7_bitsOn_35 : decode cX7_bitsOn 35 = .ok (.aload_n 0, 1) := by decide +kernel
theorem dX7_bitsOn_36 : decode cX7_bitsOn 36 = .ok (.iload_n 1, 1) := by decide +kernel
theorem dX7_bitsOn_37 : decode cX7_bitsOn 37 = .ok (.invokevirtual 327, 3) := by decide +kernel
theorem dX7_bitsOn_40 : decode cX7_bitsOn 40 = .ok (.ifCond .eq 7, 3) := by decide +kernel
theorem dX7_bitsOn_43 : decode cX7_bitsOn 43 = .ok (.iconst 1, 1) := by decide +kernel
theorem dX7_bitsOn_44 : decode cX7_bitsOn 44 = .ok (.goto 4, 3) := by decide +kernel
theorem dX7_bitsOn_47 : decode cX7_bitsOn 47 = .ok (.iconst 0, 1) := by decide +kernel
theorem dX7_bitsOn_48 : decode cX7_bitsOn 48 = .ok (.iastore, 1) := by decide +kernel
theorem dX7_bitsOn_49 : decode cX7_bitsOn 49 = .ok (.iinc 1 1, 3) := by decide +kernel
theorem dX7_bitsOn_52 : decode cX7_bitsOn 52 = .ok (.goto (-46), 3) := by decide +kernel
theorem dX7_bitsOn_55 : decode cX7_bitsOn 55 = .ok (.aload_n 0, 1) := by decide +kernel
theorem dX7_bitsOn_56 : decode cX7_bitsOn 56 = .ok (.invokevirtual 225, 3) := by decide +kernel
theorem dX7_bitsOn_59 : decode cX7_bitsOn 59 = .ok (.return_, 1) := by decide +kernel
theorem dX7_lay_0 : decode cX7_lay 0 = .ok (.aload_n 0, 1) := by decide +kernel
theorem dX7_lay_1 : decode cX7_lay 1 = .ok (.getfield 26, 3) := by decide +kernel
theorem dX7_lay_4 : decode cX7_lay 4 = .ok (.iload_n 1, 1) := by decide +kernel
theorem dX7_lay_5 : decode cX7_lay 5 = .ok (.iload_n 2, 1) := by decide +kernel
theorem dX7_lay_6 : decode cX7_lay 6 = .ok (.iastore, 1) := by decide +kernel
theorem dX7_lay_7 : decode cX7_lay 7 = .ok (.aload_n 0, 1) := by decide +kernel
theorem dX7_lay_8 : decode cX7_lay 8 = .ok (.getfield 29, 3) := by decide +kernel
theorem dX7_lay_11 : decode cX7_lay 11 = .ok (.iload_n 1, 1) := by decide +kernel
theorem dX7_lay_12 : decode cX7_lay 12 = .ok (.iload_n 3, 1) := by decide +kernel
theorem dX7_lay_13 : decode cX7_lay 13 = .ok (.ifCond .eq 7, 3) := by decide +kernel
theorem dX7_lay_16 : decode cX7_lay 16 = .ok (.iconst 1, 1) := by decide +kernel
theorem dX7_lay_17 : decode cX7_lay 17 = .ok (.goto 4, 3) := by decide +kernel
theorem dX7_lay_20 : decode cX7_lay 20 = .ok (.iconst (-1), 1) := by decide +kernel
theorem dX7_lay_21 : decode cX7_lay 21 = .ok (.iastore, 1) := by decide +kernel
theorem dX7_lay_22 : decode cX7_lay 22 = .ok (.aload_n 0, 1) := by decide +kernel
theorem dX7_lay_23 : decode cX7_lay 23 = .ok (.getfield 83, 3) := by decide +kernel
theorem dX7_lay_26 : decode cX7_lay 26 = .ok (.iload_n 1, 1) := by decide +kernel
theorem dX7_lay_27 : decode cX7_lay 27 = .ok (.iload 4, 2) := by decide +kernel
theorem dX7_lay_29 : decode cX7_lay 29 = .ok (.iastore, 1) := by decide +kernel
theorem dX7_lay_30 : decode cX7_lay 30 = .ok (.aload_n 0, 1) := by decide +kernel
theorem dX7_lay_31 : decode cX7_lay 31 = .ok (.iload_n 1, 1) := by decide +kernel
theorem dX7_lay_32 : decode cX7_lay 32 = .ok (.invokevirtual 304, 3) := by decide +kernel
theorem dX7_lay_35 : decode cX7_lay 35 = .ok (.return_, 1) := by decide +kernel
theorem dX7_secondsBy_0 : decode cX7_secondsBy 0 = .ok (.aload_n 0, 1) := by decide +kernel
theorem dX7_secondsBy_1 : decode cX7_secondsBy 1 = .ok (.iconst 1, 1) := by decide +kernel
theorem dX7_secondsBy_2 : decode cX7_secondsBy 2 = .ok (.putfield 114, 3) := by decide +kernel
theorem dX7_secondsBy_5 : decode cX7_secondsBy 5 = .ok (.aload_n 0, 1) := by decide +kernel
theorem dX7_secondsBy_6 : decode cX7_secondsBy 6 = .ok (.iconst 0, 1) := by decide +kernel
theorem dX7_secondsBy_7 : decode cX7_secondsBy 7 = .ok (.putfield 188, 3) := by decide +kernel
theorem dX7_secondsBy_10 : decode cX7_secondsBy 10 = .ok (.aload_n 0, 1) := by decide +kernel
theorem dX7_secondsBy_11 : decode cX7_secondsBy 11 = .ok (.bipush 8, 2) := by decide +kernel
theorem dX7_secondsBy_13 : decode cX7_secondsBy 13 = .ok (.putfield 324, 3) := by decide +kernel
theorem dX7_secondsBy_16 : decode cX7_secondsBy 16 = .ok (.aload_n 0, 1) := by decide +kernel
theorem dX7_secondsBy_17 : decode cX7_secondsBy 17 = .ok (.iconst 0, 1) := by decide +kernel
theorem dX7_secondsBy_18 : decode cX7_secondsBy 18 = .ok (.iload_n 1, 1) := by decide +kernel
theorem dX7_secondsBy_19 : decode cX7_secondsBy 19 = .ok (.iload_n 2, 1) := by decide +kernel
theorem dX7_secondsBy_20 : decode cX7_secondsBy 20 = .ok (.iload_n 3, 1) := by decide +kernel
theorem dX7_secondsBy_21 : decode cX7_secondsBy 21 = .ok (.invokevirtual 330, 3) := by decide +kernel
theorem dX7_secondsBy_24 : decode cX7_secondsBy 24 = .ok (.aload_n 0, 1) := by decide +kernel
theorem dX7_secondsBy_25 : decode cX7_secondsBy 25 = .ok (.invokevirtual 234, 3) := by decide +kernel
theorem dX7_secondsBy_28 : decode cX7_secondsBy 28 = .ok (.ifCond .ne 10, 3) := by decide +kernel
theorem dX7_secondsBy_31 : decode cX7_secondsBy 31 = .ok (.aload_n 0, 1) := by decide +kernel
theorem dX7_secondsBy_32 : decode cX7_secondsBy 32 = .ok (.invokevirtual 334, 3) := by decide +kernel
theorem dX7_secondsBy_35 : decode cX7_secondsBy 35 = .ok (.goto (-11), 3) := by decide +kernel
theorem dX7_secondsBy_38 : decode cX7_secondsBy 38 = .ok (.aload_n 0, 1) := by decide +kernel
theorem dX7_secondsBy_39 : decode cX7_secondsBy 39 = .ok (.iconst 0, 1) := by decide +kernel
theorem dX7_secondsBy_40 : decode cX7_secondsBy 40 = .ok (.invokevirtual 171, 3) := by decide +kernel
theorem dX7_secondsBy_43 : decode cX7_secondsBy 43 = .ok (.ifCond .eq 12, 3) := by decide +kernel
theorem dX7_secondsBy_46 : decode cX7_secondsBy 46 = .ok (.aload_n 0, 1) := by decide +kernel
theorem dX7_secondsBy_47 : decode cX7_secondsBy 47 = .ok (.getfield 47, 3) := by decide +kernel
theorem dX7_secondsBy_50 : decode cX7_secondsBy 50 = .ok (.iconst 0, 1) := by decide +kernel
theorem dX7_secondsBy_51 : decode cX7_secondsBy 51 = .ok (.iaload, 1) := by decide +kernel
theorem dX7_secondsBy_52 : decode cX7_secondsBy 52 = .ok (.goto 6, 3) := by decide +kernel
theorem dX7_secondsBy_55 : decode cX7_secondsBy 55 = .ok (.sipush 400, 3) := by decide +kernel
theorem dX7_secondsBy_58 : decode cX7_secondsBy 58 = .ok (.ireturn, 1) := by decide +kernel
theorem dX7_tacks_0 : decode cX7_tacks 0 = .ok (.aload_n 0, 1) := by decide +kernel
theorem dX7_tacks_1 : decode cX7_tacks 1 = .ok (.iconst 0, 1) := by decide +kernel
theorem dX7_tacks_2 : decode cX7_tacks 2 = .ok (.putfield 111, 3) := by decide +kernel
theorem dX7_tacks_5 : decode cX7_tacks 5 = .ok (.iload_n 1, 1) := by decide +kernel
theorem dX7_tacks_6 : decode cX7_tacks 6 = .ok (.invokestatic 299, 3) := by decide +kernel
theorem dX7_tacks_9 : decode cX7_tacks 9 = .ok (.ifCond .eq 15, 3) := by decide +kernel
theorem dX7_tacks_12 : decode cX7_tacks 12 = .ok (.iload_n 3, 1) := by decide +kernel
theorem dX7_tacks_13 : decode cX7_tacks 13 = .ok (.i2l, 1) := by decide +kernel
theorem dX7_tacks_14 : decode cX7_tacks 14 = .ok (.lconst 0, 1) := by decide +kernel
theorem dX7_tacks_15 : decode cX7_tacks 15 = .ok (.ldc2_w 337, 3) := by decide +kernel
theorem dX7_tacks_18 : decode cX7_tacks 18 = .ok (.invokestatic 117, 3) := by decide +kernel
theorem dX7_tacks_21 : decode cX7_tacks 21 = .ok (.ifCond .ne 5, 3) := by decide +kernel
theorem dX7_tacks_24 : decode cX7_tacks 24 = .ok (.iconst (-1), 1) := by decide +kernel
theorem dX7_tacks_25 : decode cX7_tacks 25 = .ok (.ireturn, 1) := by decide +kernel
theorem dX7_tacks_26 : decode cX7_tacks 26 = .ok (.aload_n 0, 1) := by decide +kernel
theorem dX7_tacks_27 : decode cX7_tacks 27 = .ok (.invokevirtual 315, 3) := by decide +kernel
theorem dX7_tacks_30 : decode cX7_tacks 30 = .ok (.aload_n 0, 1) := by decide +kernel
theorem dX7_tacks_31 : decode cX7_tacks 31 = .ok (.invokevirtual 231, 3) := by decide +kernel
theorem dX7_tacks_34 : decode cX7_tacks 34 = .ok (.aload_n 0, 1) := by decide +kernel
theorem dX7_tacks_35 : decode cX7_tacks 35 = .ok (.iload_n 1, 1) := by decide +kernel
theorem dX7_tacks_36 : decode cX7_tacks 36 = .ok (.iload_n 2, 1) := by decide +kernel
theorem dX7_tacks_37 : decode cX7_tacks 37 = .ok (.iload_n 3, 1) := by decide +kernel
theorem dX7_tacks_38 : decode cX7_tacks 38 = .ok (.invokevirtual 339, 3) := by decide +kernel
theorem dX7_tacks_41 : decode cX7_tacks 41 = .ok (.istore 4, 2) := by decide +kernel
theorem dX7_tacks_43 : decode cX7_tacks 43 = .ok (.aload_n 0, 1) := by decide +kernel
theorem dX7_tacks_44 : decode cX7_tacks 44 = .ok (.invokevirtual 321, 3) := by decide +kernel
theorem dX7_tacks_47 : decode cX7_tacks 47 = .ok (.iload 4, 2) := by decide +kernel
theorem dX7_tacks_49 : decode cX7_tacks 49 = .ok (.ireturn, 1) := by decide +kernel
theorem dX7_bestSeconds_0 : decode cX7_bestSeconds 0 = .ok (.sipush 999, 3) := by decide +kernel
theorem dX7_bestSeconds_3 : decode cX7_bestSeconds 3 = .ok (.istore_n 3, 1) := by decide +kernel
theorem dX7_bestSeconds_4 : decode cX7_bestSeconds 4 = .ok (.iconst 0, 1) := by decide +kernel
theorem dX7_bestSeconds_5 : decode cX7_bestSeconds 5 = .ok (.istore 4, 2) := by decide +kernel
theorem dX7_bestSeconds_7 : decode cX7_bestSeconds 7 = .ok (.iload 4, 2) := by decide +kernel
theorem dX7_bestSeconds_9 : decode cX7_bestSeconds 9 = .ok (.sipush 256, 3) := by decide +kernel
theorem dX7_bestSeconds_12 : decode cX7_bestSeconds 12 = .ok (.if_icmp .ge 51, 3) := by decide +kernel
theorem dX7_bestSeconds_15 : decode cX7_bestSeconds 15 = .ok (.aload_n 0, 1) := by decide +kernel
theorem dX7_bestSeconds_16 : decode cX7_bestSeconds 16 = .ok (.iload_n 1, 1) := by decide +kernel
theorem dX7_bestSeconds_17 : decode cX7_bestSeconds 17 = .ok (.iload_n 2, 1) := by decide +kernel
theorem dX7_bestSeconds_18 : decode cX7_bestSeconds 18 = .ok (.iload 4, 2) := by decide +kernel
theorem dX7_bestSeconds_20 : decode cX7_bestSeconds 20 = .ok (.invokevirtual 339, 3) := by decide +kernel
theorem dX7_bestSeconds_23 : decode cX7_bestSeconds 23 = .ok (.istore 5, 2) := by decide +kernel
theorem dX7_bestSeconds_25 : decode cX7_bestSeconds 25 = .ok (.aload_n 0, 1) := by decide +kernel
theorem dX7_bestSeconds_26 : decode cX7_bestSeconds 26 = .ok (.iload 5, 2) := by decide +kernel
theorem dX7_bestSeconds_28 : decode cX7_bestSeconds 28 = .ok (.iload_n 3, 1) := by decide +kernel
theorem dX7_bestSeconds_29 : decode cX7_bestSeconds 29 = .ok (.if_icmp .ge 8, 3) := by decide +kernel
theorem dX7_bestSeconds_32 : decode cX7_bestSeconds 32 = .ok (.iload 4, 2) := by decide +kernel
theorem dX7_bestSeconds_34 : decode cX7_bestSeconds 34 = .ok (.goto 7, 3) := by decide +kernel
theorem dX7_bestSeconds_37 : decode cX7_bestSeconds 37 = .ok (.aload_n 0, 1) := by decide +kernel
theorem dX7_bestSeconds_38 : decode cX7_bestSeconds 38 = .ok (.getfield 343, 3) := by decide +kernel
theorem dX7_bestSeconds_41 : decode cX7_bestSeconds 41 = .ok (.putfield 343, 3) := by decide +kernel
theorem dX7_bestSeconds_44 : decode cX7_bestSeconds 44 = .ok (.iload 5, 2) := by decide +kernel
theorem dX7_bestSeconds_46 : decode cX7_bestSeconds 46 = .ok (.iload_n 3, 1) := by decide +kernel
theorem dX7_bestSeconds_47 : decode cX7_bestSeconds 47 = .ok (.if_icmp .ge 8, 3) := by decide +kernel
theorem dX7_bestSeconds_50 : decode cX7_bestSeconds 50 = .ok (.iload 5, 2) := by decide +kernel
theorem dX7_bestSeconds_52 : decode cX7_bestSeconds 52 = .ok (.goto 4, 3) := by decide +kernel
theorem dX7_bestSeconds_55 : decode cX7_bestSeconds 55 = .ok (.iload_n 3, 1) := by decide +kernel
theorem dX7_bestSeconds_56 : decode cX7_bestSeconds 56 = .ok (.istore_n 3, 1) := by decide +kernel
theorem dX7_bestSeconds_57 : decode cX7_bestSeconds 57 = .ok (.iinc 4 1, 3) := by decide +kernel
theorem dX7_bestSeconds_60 : decode cX7_bestSeconds 60 = .ok (.goto (-53), 3) := by decide +kernel
theorem dX7_bestSeconds_63 : decode cX7_bestSeconds 63 = .ok (.iload_n 3, 1) := by decide +kernel
theorem dX7_bestSeconds_64 : decode cX7_bestSeconds 64 = .ok (.ireturn, 1) := by decide +kernel
theorem dX7_best_0 : decode cX7_best 0 = .ok (.aload_n 0, 1) := by decide +kernel
theorem dX7_best_1 : decode cX7_best 1 = .ok (.iconst 0, 1) := by decide +kernel
theorem dX7_best_2 : decode cX7_best 2 = .ok (.putfield 111, 3) := by decide +kernel
theorem dX7_best_5 : decode cX7_best 5 = .ok (.iload_n 1, 1) := by decide +kernel
theorem dX7_best_6 : decode cX7_best 6 = .ok (.invokestatic 299, 3) := by decide +kernel
theorem dX7_best_9 : decode cX7_best 9 = .ok (.ifCond .eq 13, 3) := by decide +kernel
theorem dX7_best_12 : decode cX7_best 12 = .ok (.iload_n 3, 1) := by decide +kernel
theorem dX7_best_13 : decode cX7_best 13 = .ok (.i2l, 1) := by decide +kernel
theorem dX7_best_14 : decode cX7_best 14 = .ok (.lconst 0, 1) := by decide +kernel
theorem dX7_best_15 : decode cX7_best 15 = .ok (.lconst 1, 1) := by decide +kernel
theorem dX7_best_16 : decode cX7_best 16 = .ok (.invokestatic 117, 3) := by decide +kernel
theorem dX7_best_19 : decode cX7_best 19 = .ok (.ifCond .ne 5, 3) := by decide +kernel
theorem dX7_best_22 : decode cX7_best 22 = .ok (.iconst (-1), 1) := by decide +kernel
theorem dX7_best_23 : decode cX7_best 23 = .ok (.ireturn, 1) := by decide +kernel
theorem dX7_best_24 : decode cX7_best 24 = .ok (.aload_n 0, 1) := by decide +kernel
theorem dX7_best_25 : decode cX7_best 25 = .ok (.invokevirtual 315, 3) := by decide +kernel
theorem dX7_best_28 : decode cX7_best 28 = .ok (.aload_n 0, 1) := by decide +kernel
theorem dX7_best_29 : decode cX7_best 29 = .ok (.invokevirtual 231, 3) := by decide +kernel
theorem dX7_best_32 : decode cX7_best 32 = .ok (.aload_n 0, 1) := by decide +kernel
theorem dX7_best_33 : decode cX7_best 33 = .ok (.iload_n 1, 1) := by decide +kernel
theorem dX7_best_34 : decode cX7_best 34 = .ok (.iload_n 2, 1) := by decide +kernel
theorem dX7_best_35 : decode cX7_best 35 = .ok (.invokevirtual 346, 3) := by decide +kernel
theorem dX7_best_38 : decode cX7_best 38 = .ok (.istore 4, 2) := by decide +kernel
theorem dX7_best_40 : decode cX7_best 40 = .ok (.aload_n 0, 1) := by decide +kernel
theorem dX7_best_41 : decode cX7_best 41 = .ok (.invokevirtual 321, 3) := by decide +kernel
theorem dX7_best_44 : decode cX7_best 44 = .ok (.iload_n 3, 1) := by decide +kernel
theorem dX7_best_45 : decode cX7_best 45 = .ok (.ifCond .ne 10, 3) := by decide +kernel
theorem dX7_best_48 : decode cX7_best 48 = .ok (.aload_n 0, 1) := by decide +kernel
theorem dX7_best_49 : decode cX7_best 49 = .ok (.getfield 343, 3) := by decide +kernel
theorem dX7_best_52 : decode cX7_best 52 = .ok (.goto 5, 3) := by decide +kernel
theorem dX7_best_55 : decode cX7_best 55 = .ok (.iload 4, 2) := by decide +kernel
theorem dX7_best_57 : decode cX7_best 57 = .ok (.ireturn, 1) := by decide +kernel
theorem dX7_bestFrom_0 : decode cX7_bestFrom 0 = .ok (.aload_n 0, 1) := by decide +kernel
theorem dX7_bestFrom_1 : decode cX7_bestFrom 1 = .ok (.iload_n 1, 1) := by decide +kernel
theorem dX7_bestFrom_2 : decode cX7_bestFrom 2 = .ok (.iconst 1, 1) := by decide +kernel
theorem dX7_bestFrom_3 : decode cX7_bestFrom 3 = .ok (.invokevirtual 346, 3) := by decide +kernel
theorem dX7_bestFrom_6 : decode cX7_bestFrom 6 = .ok (.istore_n 2, 1) := by decide +kernel
theorem dX7_bestFrom_7 : decode cX7_bestFrom 7 = .ok (.aload_n 0, 1) := by decide +kernel
theorem dX7_bestFrom_8 : decode cX7_bestFrom 8 = .ok (.iload_n 1, 1) := by decide +kernel
theorem dX7_bestFrom_9 : decode cX7_bestFrom 9 = .ok (.iconst 0, 1) := by decide +kernel
theorem dX7_bestFrom_10 : decode cX7_bestFrom 10 = .ok (.invokevirtual 346, 3) := by decide +kernel
theorem dX7_bestFrom_13 : decode cX7_bestFrom 13 = .ok (.istore_n 3, 1) := by decide +kernel
theorem dX7_bestFrom_14 : decode cX7_bestFrom 14 = .ok (.iload_n 2, 1) := by decide +kernel
theorem dX7_bestFrom_15 : decode cX7_bestFrom 15 = .ok (.iload_n 3, 1) := by decide +kernel
theorem dX7_bestFrom_16 : decode cX7_bestFrom 16 = .ok (.if_icmp .ge 7, 3) := by decide +kernel
theorem dX7_bestFrom_19 : decode cX7_bestFrom 19 = .ok (.iload_n 2, 1) := by decide +kernel
theorem dX7_bestFrom_20 : decode cX7_bestFrom 20 = .ok (.goto 4, 3) := by decide +kernel
theorem dX7_bestFrom_23 : decode cX7_bestFrom 23 = .ok (.iload_n 3, 1) := by decide +kernel
theorem dX7_bestFrom_24 : decode cX7_bestFrom 24 = .ok (.ireturn, 1) := by decide +kernel
theorem dX7_sides_0 : decode cX7_sides 0 = .ok (.aload_n 0, 1) := by decide +kernel
theorem dX7_sides_1 : decode cX7_sides 1 = .ok (.iconst 0, 1) := by decide +kernel
theorem dX7_sides_2 : decode cX7_sides 2 = .ok (.putfield 111, 3) := by decide +kernel
theorem dX7_sides_5 : decode cX7_sides 5 = .ok (.aload_n 0, 1) := by decide +kernel
theorem dX7_sides_6 : decode cX7_sides 6 = .ok (.invokevirtual 315, 3) := by decide +kernel
theorem dX7_sides_9 : decode cX7_sides 9 = .ok (.aload_n 0, 1) := by decide +kernel
theorem dX7_sides_10 : decode cX7_sides 10 = .ok (.invokevirtual 231, 3) := by decide +kernel
theorem dX7_sides_13 : decode cX7_sides 13 = .ok (.aload_n 0, 1) := by decide +kernel
theorem dX7_sides_14 : decode cX7_sides 14 = .ok (.bipush 100, 2) := by decide +kernel
theorem dX7_sides_16 : decode cX7_sides 16 = .ok (.invokevirtual 350, 3) := by decide +kernel
theorem dX7_sides_19 : decode cX7_sides 19 = .ok (.aload_n 0, 1) := by decide +kernel
theorem dX7_sides_20 : decode cX7_sides 20 = .ok (.bipush (-100), 2) := by decide +kernel
theorem dX7_sides_22 : decode cX7_sides 22 = .ok (.invokevirtual 350, 3) := by decide +kernel
theorem dX7_sides_25 : decode cX7_sides 25 = .ok (.isub, 1) := by decide +kernel
theorem dX7_sides_26 : decode cX7_sides 26 = .ok (.istore_n 1, 1) := by decide +kernel
theorem dX7_sides_27 : decode cX7_sides 27 = .ok (.aload_n 0, 1) := by decide +kernel
theorem dX7_sides_28 : decode cX7_sides 28 = .ok (.invokevirtual 321, 3) := by decide +kernel
theorem dX7_sides_31 : decode cX7_sides 31 = .ok (.iload_n 1, 1) := by decide +kernel
theorem dX7_sides_32 : decode cX7_sides 32 = .ok (.ireturn, 1) := by decide +kernel
theorem dX7_countsAs_0 : decode cX7_countsAs 0 = .ok (.aload_n 0, 1) := by decide +kernel
theorem dX7_countsAs_1 : decode cX7_countsAs 1 = .ok (.iload_n 1, 1) := by decide +kernel
theorem dX7_countsAs_2 : decode cX7_countsAs 2 = .ok (.invokevirtual 171, 3) := by decide +kernel
theorem dX7_countsAs_5 : decode cX7_countsAs 5 = .ok (.ifCond .eq 10, 3) := by decide +kernel
theorem dX7_countsAs_8 : decode cX7_countsAs 8 = .ok (.aload_n 0, 1) := by decide +kernel
theorem dX7_countsAs_9 : decode cX7_countsAs 9 = .ok (.getfield 7, 3) := by decide +kernel
theorem dX7_countsAs_12 : decode cX7_countsAs 12 = .ok (.goto 8, 3) := by decide +kernel
theorem dX7_countsAs_15 : decode cX7_countsAs 15 = .ok (.aload_n 0, 1) := by decide +kernel
theorem dX7_countsAs_16 : decode cX7_countsAs 16 = .ok (.iload_n 1, 1) := by decide +kernel
theorem dX7_countsAs_17 : decode cX7_countsAs 17 = .ok (.invokevirtual 241, 3) := by decide +kernel
theorem dX7_countsAs_20 : decode cX7_countsAs 20 = .ok (.ireturn, 1) := by decide +kernel
theorem dX7_leadBy_0 : decode cX7_leadBy 0 = .ok (.aload_n 0, 1) := by decide +kernel
theorem dX7_leadBy_1 : decode cX7_leadBy 1 = .ok (.iconst 2, 1) := by decide +kernel
theorem dX7_leadBy_2 : decode cX7_leadBy 2 = .ok (.putfield 114, 3) := by decide +kernel
theorem dX7_leadBy_5 : decode cX7_leadBy 5 = .ok (.aload_n 0, 1) := by decide +kernel
theorem dX7_leadBy_6 : decode cX7_leadBy 6 = .ok (.iconst 0, 1) := by decide +kernel
theorem dX7_leadBy_7 : decode cX7_leadBy 7 = .ok (.putfield 188, 3) := by decide +kernel
theorem dX7_leadBy_10 : decode cX7_leadBy 10 = .ok (.aload_n 0, 1) := by decide +kernel
theorem dX7_leadBy_11 : decode cX7_leadBy 11 = .ok (.iconst 4, 1) := by decide +kernel
theorem dX7_leadBy_12 : decode cX7_leadBy 12 = .ok (.putfield 324, 3) := by decide +kernel
theorem dX7_leadBy_15 : decode cX7_leadBy 15 = .ok (.aload_n 0, 1) := by decide +kernel
theorem dX7_leadBy_16 : decode cX7_leadBy 16 = .ok (.iconst 0, 1) := by decide +kernel
theorem dX7_leadBy_17 : decode cX7_leadBy 17 = .ok (.iload_n 1, 1) := by decide +kernel
theorem dX7_leadBy_18 : decode cX7_leadBy 18 = .ok (.iload_n 3, 1) := by decide +kernel
theorem dX7_leadBy_19 : decode cX7_leadBy 19 = .ok (.iconst 1, 1) := by decide +kernel
theorem dX7_leadBy_20 : decode cX7_leadBy 20 = .ok (.iand, 1) := by decide +kernel
theorem dX7_leadBy_21 : decode cX7_leadBy 21 = .ok (.iconst 1, 1) := by decide +kernel
theorem dX7_leadBy_22 : decode cX7_leadBy 22 = .ok (.if_icmp .ne 7, 3) := by decide +kernel
theorem dX7_leadBy_25 : decode cX7_leadBy 25 = .ok (.iconst 1, 1) := by decide +kernel
theorem dX7_leadBy_26 : decode cX7_leadBy 26 = .ok (.goto 4, 3) := by decide +kernel
theorem dX7_leadBy_29 : decode cX7_leadBy 29 = .ok (.iconst 0, 1) := by decide +kernel
theorem dX7_leadBy_30 : decode cX7_leadBy 30 = .ok (.iload 4, 2) := by decide +kernel
theorem dX7_leadBy_32 : decode cX7_leadBy 32 = .ok (.invokevirtual 330, 3) := by decide +kernel
theorem dX7_leadBy_35 : decode cX7_leadBy 35 = .ok (.aload_n 0, 1) := by decide +kernel
theorem dX7_leadBy_36 : decode cX7_leadBy 36 = .ok (.iconst 1, 1) := by decide +kernel
theorem dX7_leadBy_37 : decode cX7_leadBy 37 = .ok (.iload_n 2, 1) := by decide +kernel
theorem dX7_leadBy_38 : decode cX7_leadBy 38 = .ok (.iload_n 3, 1) := by decide +kernel
theorem dX7_leadBy_39 : decode cX7_leadBy 39 = .ok (.iconst 2, 1) := by decide +kernel
theorem dX7_leadBy_40 : decode cX7_leadBy 40 = .ok (.iand, 1) := by decide +kernel
theorem dX7_leadBy_41 : decode cX7_leadBy 41 = .ok (.iconst 2, 1) := by decide +kernel
theorem dX7_leadBy_42 : decode cX7_leadBy 42 = .ok (.if_icmp .ne 7, 3) := by decide +kernel
theorem dX7_leadBy_45 : decode cX7_leadBy 45 = .ok (.iconst 1, 1) := by decide +kernel
theorem dX7_leadBy_46 : decode cX7_leadBy 46 = .ok (.goto 4, 3) := by decide +kernel
theorem dX7_leadBy_49 : decode cX7_leadBy 49 = .ok (.iconst 0, 1) := by decide +kernel
theorem dX7_leadBy_50 : decode cX7_leadBy 50 = .ok (.iload 5, 2) := by decide +kernel
theorem dX7_leadBy_52 : decode cX7_leadBy 52 = .ok (.invokevirtual 330, 3) := by decide +kernel
theorem dX7_leadBy_55 : decode cX7_leadBy 55 = .ok (.iconst 0, 1) := by decide +kernel
theorem dX7_leadBy_56 : decode cX7_leadBy 56 = .ok (.istore 6, 2) := by decide +kernel
theorem dX7_leadBy_58 : decode cX7_leadBy 58 = .ok (.iload 6, 2) := by decide +kernel
theorem dX7_leadBy_60 : decode cX7_leadBy 60 = .ok (.bipush 60, 2) := by decide +kernel
theorem dX7_leadBy_62 : decode cX7_leadBy 62 = .ok (.if_icmp .ge 13, 3) := by decide +kernel
theorem dX7_leadBy_65 : decode cX7_leadBy 65 = .ok (.aload_n 0, 1) := by decide +kernel
theorem dX7_leadBy_66 : decode cX7_leadBy 66 = .ok (.invokevirtual 334, 3) := by decide +kernel
theorem dX7_leadBy_69 : decode cX7_leadBy 69 = .ok (.iinc 6 1, 3) := by decide +kernel
theorem dX7_leadBy_72 : decode cX7_leadBy 72 = .ok (.goto (-14), 3) := by decide +kernel
theorem dX7_leadBy_75 : decode cX7_leadBy 75 = .ok (.aload_n 0, 1) := by decide +kernel
theorem dX7_leadBy_76 : decode cX7_leadBy 76 = .ok (.iconst 0, 1) := by decide +kernel
theorem dX7_leadBy_77 : decode cX7_leadBy 77 = .ok (.invokevirtual 353, 3) := by decide +kernel
theorem dX7_leadBy_80 : decode cX7_leadBy 80 = .ok (.aload_n 0, 1) := by decide +kernel
theorem dX7_leadBy_81 : decode cX7_leadBy 81 = .ok (.iconst 1, 1) := by decide +kernel
theorem dX7_leadBy_82 : decode cX7_leadBy 82 = .ok (.invokevirtual 353, 3) := by decide +kernel
theorem dX7_leadBy_85 : decode cX7_leadBy 85 = .ok (.isub, 1) := by decide +kernel
theorem dX7_leadBy_86 : decode cX7_leadBy 86 = .ok (.ireturn, 1) := by decide +kernel
theorem dX7_isGame_0 : decode cX7_isGame 0 = .ok (.iload_n 0, 1) := by decide +kernel
theorem dX7_isGame_1 : decode cX7_isGame 1 = .ok (.invokestatic 299, 3) := by decide +kernel
theorem dX7_isGame_4 : decode cX7_isGame 4 = .ok (.ifCond .eq 26, 3) := by decide +kernel
theorem dX7_isGame_7 : decode cX7_isGame 7 = .ok (.iload_n 1, 1) := by decide +kernel
theorem dX7_isGame_8 : decode cX7_isGame 8 = .ok (.invokestatic 299, 3) := by decide +kernel
theorem dX7_isGame_11 : decode cX7_isGame 11 = .ok (.ifCond .eq 19, 3) := by decide +kernel
theorem dX7_isGame_14 : decode cX7_isGame 14 = .ok (.iload_n 2, 1) := by decide +kernel
theorem dX7_isGame_15 : decode cX7_isGame 15 = .ok (.i2l, 1) := by decide +kernel
theorem dX7_isGame_16 : decode cX7_isGame 16 = .ok (.lconst 0, 1) := by decide +kernel
theorem dX7_isGame_17 : decode cX7_isGame 17 = .ok (.ldc2_w 356, 3) := by decide +kernel
theorem dX7_isGame_20 : decode cX7_isGame 20 = .ok (.invokestatic 117, 3) := by decide +kernel
theorem dX7_isGame_23 : decode cX7_isGame 23 = .ok (.ifCond .eq 7, 3) := by decide +kernel
theorem dX7_isGame_26 : decode cX7_isGame 26 = .ok (.iconst 1, 1) := by decide +kernel
theorem dX7_isGame_27 : decode cX7_isGame 27 = .ok (.goto 4, 3) := by decide +kernel
theorem dX7_isGame_30 : decode cX7_isGame 30 = .ok (.iconst 0, 1) := by decide +kernel
theorem dX7_isGame_31 : decode cX7_isGame 31 = .ok (.ireturn, 1) := by decide +kernel
theorem dX7_lead_0 : decode cX7_lead 0 = .ok (.aload_n 0, 1) := by decide +kernel
theorem dX7_lead_1 : decode cX7_lead 1 = .ok (.iconst 0, 1) := by decide +kernel
theorem dX7_lead_2 : decode cX7_lead 2 = .ok (.putfield 111, 3) := by decide +kernel
theorem dX7_lead_5 : decode cX7_lead 5 = .ok (.iload_n 1, 1) := by decide +kernel
theorem dX7_lead_6 : decode cX7_lead 6 = .ok (.iload_n 2, 1) := by decide +kernel
theorem dX7_lead_7 : decode cX7_lead 7 = .ok (.iload_n 3, 1) := by decide +kernel
theorem dX7_lead_8 : decode cX7_lead 8 = .ok (.invokestatic 358, 3) := by decide +kernel
theorem dX7_lead_11 : decode cX7_lead 11 = .ok (.ifCond .eq 29, 3) := by decide +kernel
theorem dX7_lead_14 : decode cX7_lead 14 = .ok (.iload 4, 2) := by decide +kernel
theorem dX7_lead_16 : decode cX7_lead 16 = .ok (.i2l, 1) := by decide +kernel
theorem dX7_lead_17 : decode cX7_lead 17 = .ok (.lconst 0, 1) := by decide +kernel
theorem dX7_lead_18 : decode cX7_lead 18 = .ok (.ldc2_w 362, 3) := by decide +kernel
theorem dX7_lead_21 : decode cX7_lead 21 = .ok (.invokestatic 117, 3) := by decide +kernel
theorem dX7_lead_24 : decode cX7_lead 24 = .ok (.ifCond .eq 16, 3) := by decide +kernel
theorem dX7_lead_27 : decode cX7_lead 27 = .ok (.iload 5, 2) := by decide +kernel
theorem dX7_lead_29 : decode cX7_lead 29 = .ok (.i2l, 1) := by decide +kernel
theorem dX7_lead_30 : decode cX7_lead 30 = .ok (.lconst 0, 1) := by decide +kernel
theorem dX7_lead_31 : decode cX7_lead 31 = .ok (.ldc2_w 362, 3) := by decide +kernel
theorem dX7_lead_34 : decode cX7_lead 34 = .ok (.invokestatic 117, 3) := by decide +kernel
theorem dX7_lead_37 : decode cX7_lead 37 = .ok (.ifCond .ne 7, 3) := by decide +kernel
theorem dX7_lead_40 : decode cX7_lead 40 = .ok (.ldc_w 292, 3) := by decide +kernel
theorem dX7_lead_43 : decode cX7_lead 43 = .ok (.ireturn, 1) := by decide +kernel
theorem dX7_lead_44 : decode cX7_lead 44 = .ok (.aload_n 0, 1) := by decide +kernel
theorem dX7_lead_45 : decode cX7_lead 45 = .ok (.invokevirtual 315, 3) := by decide +kernel
theorem dX7_lead_48 : decode cX7_lead 48 = .ok (.aload_n 0, 1) := by decide +kernel
theorem dX7_lead_49 : decode cX7_lead 49 = .ok (.invokevirtual 231, 3) := by decide +kernel
theorem dX7_lead_52 : decode cX7_lead 52 = .ok (.aload_n 0, 1) := by decide +kernel
theorem dX7_lead_53 : decode cX7_lead 53 = .ok (.iload_n 1, 1) := by decide +kernel
theorem dX7_lead_54 : decode cX7_lead 54 = .ok (.iload_n 2, 1) := by decide +kernel
theorem dX7_lead_55 : decode cX7_lead 55 = .ok (.iload_n 3, 1) := by decide +kernel
theorem dX7_lead_56 : decode cX7_lead 56 = .ok (.iload 4, 2) := by decide +kernel
theorem dX7_lead_58 : decode cX7_lead 58 = .ok (.iload 5, 2) := by decide +kernel
theorem dX7_lead_60 : decode cX7_lead 60 = .ok (.invokevirtual 364, 3) := by decide +kernel
theorem dX7_lead_63 : decode cX7_lead 63 = .ok (.istore 6, 2) := by decide +kernel
theorem dX7_lead_65 : decode cX7_lead 65 = .ok (.aload_n 0, 1) := by decide +kernel
theorem dX7_lead_66 : decode cX7_lead 66 = .ok (.invokevirtual 321, 3) := by decide +kernel
theorem dX7_lead_69 : decode cX7_lead 69 = .ok (.iload 6, 2) := by decide +kernel
theorem dX7_lead_71 : decode cX7_lead 71 = .ok (.ireturn, 1) := by decide +kernel
theorem dX7_safe_0 : decode cX7_safe 0 = .ok (.aload_n 0, 1) := by decide +kernel
theorem dX7_safe_1 : decode cX7_safe 1 = .ok (.iconst 0, 1) := by decide +kernel
theorem dX7_safe_2 : decode cX7_safe 2 = .ok (.putfield 111, 3) := by decide +kernel
theorem dX7_safe_5 : decode cX7_safe 5 = .ok (.iload_n 1, 1) := by decide +kernel
theorem dX7_safe_6 : decode cX7_safe 6 = .ok (.iload_n 2, 1) := by decide +kernel
theorem dX7_safe_7 : decode cX7_safe 7 = .ok (.iload_n 3, 1) := by decide +kernel
theorem dX7_safe_8 : decode cX7_safe 8 = .ok (.invokestatic 358, 3) := by decide +kernel
theorem dX7_safe_11 : decode cX7_safe 11 = .ok (.ifCond .eq 14, 3) := by decide +kernel
theorem dX7_safe_14 : decode cX7_safe 14 = .ok (.iload 4, 2) := by decide +kernel
theorem dX7_safe_16 : decode cX7_safe 16 = .ok (.i2l, 1) := by decide +kernel
theorem dX7_safe_17 : decode cX7_safe 17 = .ok (.lconst 0, 1) := by decide +kernel
theorem dX7_safe_18 : decode cX7_safe 18 = .ok (.lconst 1, 1) := by decide +kernel
theorem dX7_safe_19 : decode cX7_safe 19 = .ok (.invokestatic 117, 3) := by decide +kernel
theorem dX7_safe_22 : decode cX7_safe 22 = .ok (.ifCond .ne 7, 3) := by decide +kernel
theorem dX7_safe_25 : decode cX7_safe 25 = .ok (.ldc_w 292, 3) := by decide +kernel
theorem dX7_safe_28 : decode cX7_safe 28 = .ok (.ireturn, 1) := by decide +kernel
theorem dX7_safe_29 : decode cX7_safe 29 = .ok (.aload_n 0, 1) := by decide +kernel
theorem dX7_safe_30 : decode cX7_safe 30 = .ok (.invokevirtual 315, 3) := by decide +kernel
theorem dX7_safe_33 : decode cX7_safe 33 = .ok (.aload_n 0, 1) := by decide +kernel
theorem dX7_safe_34 : decode cX7_safe 34 = .ok (.invokevirtual 231, 3) := by decide +kernel
theorem dX7_safe_37 : decode cX7_safe 37 = .ok (.iconst 0, 1) := by decide +kernel
theorem dX7_safe_38 : decode cX7_safe 38 = .ok (.istore 5, 2) := by decide +kernel
theorem dX7_safe_40 : decode cX7_safe 40 = .ok (.ldc_w 368, 3) := by decide +kernel
theorem dX7_safe_43 : decode cX7_safe 43 = .ok (.istore 6, 2) := by decide +kernel
theorem dX7_safe_45 : decode cX7_safe 45 = .ok (.iconst 0, 1) := by decide +kernel
theorem dX7_safe_46 : decode cX7_safe 46 = .ok (.istore 7, 2) := by decide +kernel
theorem dX7_safe_48 : decode cX7_safe 48 = .ok (.iload 7, 2) := by decide +kernel
theorem dX7_safe_50 : decode cX7_safe 50 = .ok (.bipush 16, 2) := by decide +kernel
theorem dX7_safe_52 : decode cX7_safe 52 = .ok (.if_icmp .ge 91, 3) := by decide +kernel
theorem dX7_safe_55 : decode cX7_safe 55 = .ok (.ldc_w 369, 3) := by decide +kernel
theorem dX7_safe_58 : decode cX7_safe 58 = .ok (.istore 8, 2) := by decide +kernel
theorem dX7_safe_60 : decode cX7_safe 60 = .ok (.iconst 0, 1) := by decide +kernel
theorem dX7_safe_61 : decode cX7_safe 61 = .ok (.istore 9, 2) := by decide +kernel
theorem dX7_safe_63 : decode cX7_safe 63 = .ok (.iload 9, 2) := by decide +kernel
theorem dX7_safe_65 : decode cX7_safe 65 = .ok (.bipush 16, 2) := by decide +kernel
theorem dX7_safe_67 : decode cX7_safe 67 = .ok (.if_icmp .ge 38, 3) := by decide +kernel
theorem dX7_safe_70 : decode cX7_safe 70 = .ok (.aload_n 0, 1) := by decide +kernel
theorem dX7_safe_71 : decode cX7_safe 71 = .ok (.iload_n 1, 1) := by decide +kernel
theorem dX7_safe_72 : decode cX7_safe 72 = .ok (.iload_n 2, 1) := by decide +kernel
theorem dX7_safe_73 : decode cX7_safe 73 = .ok (.iload_n 3, 1) := by decide +kernel
theorem dX7_safe_74 : decode cX7_safe 74 = .ok (.iload 7, 2) := by decide +kernel
theorem dX7_safe_76 : decode cX7_safe 76 = .ok (.iload 9, 2) := by decide +kernel
theorem dX7_safe_78 : decode cX7_safe 78 = .ok (.invokevirtual 364, 3) := by decide +kernel
theorem dX7_safe_81 : decode cX7_safe 81 = .ok (.istore 10, 2) := by decide +kernel
theorem dX7_safe_83 : decode cX7_safe 83 = .ok (.iload 10, 2) := by decide +kernel
theorem dX7_safe_85 : decode cX7_safe 85 = .ok (.iload 8, 2) := by decide +kernel
theorem dX7_safe_87 : decode cX7_safe 87 = .ok (.if_icmp .ge 8, 3) := by decide +kernel
theorem dX7_safe_90 : decode cX7_safe 90 = .ok (.iload 10, 2) := by decide +kernel
theorem dX7_safe_92 : decode cX7_safe 92 = .ok (.goto 5, 3) := by decide +kernel
theorem dX7_safe_95 : decode cX7_safe 95 = .ok (.iload 8, 2) := by decide +kernel
theorem dX7_safe_97 : decode cX7_safe 97 = .ok (.istore 8, 2) := by decide +kernel
theorem dX7_safe_99 : decode cX7_safe 99 = .ok (.iinc 9 1, 3) := by decide +kernel
theorem dX7_safe_102 : decode cX7_safe 102 = .ok (.goto (-39), 3) := by decide +kernel
theorem dX7_safe_105 : decode cX7_safe 105 = .ok (.iload 8, 2) := by decide +kernel
theorem dX7_safe_107 : decode cX7_safe 107 = .ok (.iload 6, 2) := by decide +kernel
theorem dX7_safe_109 : decode cX7_safe 109 = .ok (.if_icmp .le 8, 3) := by decide +kernel
theorem dX7_safe_112 : decode cX7_safe 112 = .ok (.iload 7, 2) := by decide +kernel
theorem dX7_safe_114 : decode cX7_safe 114 = .ok (.goto 5, 3) := by decide +kernel
theorem dX7_safe_117 : decode cX7_safe 117 = .ok (.iload 5, 2) := by decide +kernel
theorem dX7_safe_119 : decode cX7_safe 119 = .ok (.istore 5, 2) := by decide +kernel
theorem dX7_safe_121 : decode cX7_safe 121 = .ok (.iload 8, 2) := by decide +kernel
theorem dX7_safe_123 : decode cX7_safe 123 = .ok (.iload 6, 2) := by decide +kernel
theorem dX7_safe_125 : decode cX7_safe 125 = .ok (.if_icmp .le 8, 3) := by decide +kernel
theorem dX7_safe_128 : decode cX7_safe 128 = .ok (.iload 8, 2) := by decide +kernel
theorem dX7_safe_130 : decode cX7_safe 130 = .ok (.goto 5, 3) := by decide +kernel
theorem dX7_safe_133 : decode cX7_safe 133 = .ok (.iload 6, 2) := by decide +kernel
theorem dX7_safe_135 : decode cX7_safe 135 = .ok (.istore 6, 2) := by decide +kernel
theorem dX7_safe_137 : decode cX7_safe 137 = .ok (.iinc 7 1, 3) := by decide +kernel
theorem dX7_safe_140 : decode cX7_safe 140 = .ok (.goto (-92), 3) := by decide +kernel
