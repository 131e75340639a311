theorem dX5_sailorRefusal_7 : decode cX5_sailorRefusal 7 = .ok (.bipush (-11), 2) := by decide +kernel
theorem dX5_sailorRefusal_9 : decode cX5_sailorRefusal 9 = .ok (.ireturn, 1) := by decide +kernel
theorem dX5_sailorRefusal_10 : decode cX5_sailorRefusal 10 = .ok (.aload_n 0, 1) := by decide +kernel
theorem dX5_sailorRefusal_11 : decode cX5_sailorRefusal 11 = .ok (.getfield 9, 3) := by decide +kernel
theorem dX5_sailorRefusal_14 : decode cX5_sailorRefusal 14 = .ok (.iconst 1, 1) := by decide +kernel
theorem dX5_sailorRefusal_15 : decode cX5_sailorRefusal 15 = .ok (.if_icmp .ne 7, 3) := by decide +kernel
theorem dX5_sailorRefusal_18 : decode cX5_sailorRefusal 18 = .ok (.iconst 0, 1) := by decide +kernel
theorem dX5_sailorRefusal_19 : decode cX5_sailorRefusal 19 = .ok (.goto 5, 3) := by decide +kernel
theorem dX5_sailorRefusal_22 : decode cX5_sailorRefusal 22 = .ok (.bipush (-12), 2) := by decide +kernel
theorem dX5_sailorRefusal_24 : decode cX5_sailorRefusal 24 = .ok (.ireturn, 1) := by decide +kernel
theorem dX5_hasPlace_0 : decode cX5_hasPlace 0 = .ok (.iload_n 1, 1) := by decide +kernel
theorem dX5_hasPlace_1 : decode cX5_hasPlace 1 = .ok (.ifCond .lt 24, 3) := by decide +kernel
theorem dX5_hasPlace_4 : decode cX5_hasPlace 4 = .ok (.iload_n 1, 1) := by decide +kernel
theorem dX5_hasPlace_5 : decode cX5_hasPlace 5 = .ok (.aload_n 0, 1) := by decide +kernel
theorem dX5_hasPlace_6 : decode cX5_hasPlace 6 = .ok (.getfield 42, 3) := by decide +kernel
theorem dX5_hasPlace_9 : decode cX5_hasPlace 9 = .ok (.if_icmp .ge 16, 3) := by decide +kernel
theorem dX5_hasPlace_12 : decode cX5_hasPlace 12 = .ok (.iload_n 1, 1) := by decide +kernel
theorem dX5_hasPlace_13 : decode cX5_hasPlace 13 = .ok (.aload_n 0, 1) := by decide +kernel
theorem dX5_hasPlace_14 : decode cX5_hasPlace 14 = .ok (.getfield 22, 3) := by decide +kernel
theorem dX5_hasPlace_17 : decode cX5_hasPlace 17 = .ok (.arraylength, 1) := by decide +kernel
theorem dX5_hasPlace_18 : decode cX5_hasPlace 18 = .ok (.if_icmp .ge 7, 3) := by decide +kernel
theorem dX5_hasPlace_21 : decode cX5_hasPlace 21 = .ok (.iconst 1, 1) := by decide +kernel
theorem dX5_hasPlace_22 : decode cX5_hasPlace 22 = .ok (.goto 4, 3) := by decide +kernel
theorem dX5_hasPlace_25 : decode cX5_hasPlace 25 = .ok (.iconst 0, 1) := by decide +kernel
theorem dX5_hasPlace_26 : decode cX5_hasPlace 26 = .ok (.ireturn, 1) := by decide +kernel
theorem dX5_hasStretch_0 : decode cX5_hasStretch 0 = .ok (.iload_n 1, 1) := by decide +kernel
theorem dX5_hasStretch_1 : decode cX5_hasStretch 1 = .ok (.ifCond .lt 29, 3) := by decide +kernel
theorem dX5_hasStretch_4 : decode cX5_hasStretch 4 = .ok (.iload_n 1, 1) := by decide +kernel
theorem dX5_hasStretch_5 : decode cX5_hasStretch 5 = .ok (.aload_n 0, 1) := by decide +kernel
theorem dX5_hasStretch_6 : decode cX5_hasStretch 6 = .ok (.getfield 42, 3) := by decide +kernel
theorem dX5_hasStretch_9 : decode cX5_hasStretch 9 = .ok (.if_icmp .gt 21, 3) := by decide +kernel
theorem dX5_hasStretch_12 : decode cX5_hasStretch 12 = .ok (.iload_n 2, 1) := by decide +kernel
theorem dX5_hasStretch_13 : decode cX5_hasStretch 13 = .ok (.ifCond .lt 17, 3) := by decide +kernel
theorem dX5_hasStretch_16 : decode cX5_hasStretch 16 = .ok (.iload_n 2, 1) := by decide +kernel
theorem dX5_hasStretch_17 : decode cX5_hasStretch 17 = .ok (.aload_n 0, 1) := by decide +kernel
theorem dX5_hasStretch_18 : decode cX5_hasStretch 18 = .ok (.getfield 42, 3) := by decide +kernel
theorem dX5_hasStretch_21 : decode cX5_hasStretch 21 = .ok (.iload_n 1, 1) := by decide +kernel
theorem dX5_hasStretch_22 : decode cX5_hasStretch 22 = .ok (.isub, 1) := by decide +kernel
theorem dX5_hasStretch_23 : decode cX5_hasStretch 23 = .ok (.if_icmp .gt 7, 3) := by decide +kernel
theorem dX5_hasStretch_26 : decode cX5_hasStretch 26 = .ok (.iconst 1, 1) := by decide +kernel
theorem dX5_hasStretch_27 : decode cX5_hasStretch 27 = .ok (.goto 4, 3) := by decide +kernel
theorem dX5_hasStretch_30 : decode cX5_hasStretch 30 = .ok (.iconst 0, 1) := by decide +kernel
theorem dX5_hasStretch_31 : decode cX5_hasStretch 31 = .ok (.ireturn, 1) := by decide +kernel
theorem dX5_narrowed_0 : decode cX5_narrowed 0 = .ok (.aload_n 0, 1) := by decide +kernel
theorem dX5_narrowed_1 : decode cX5_narrowed 1 = .ok (.getfield 39, 3) := by decide +kernel
theorem dX5_narrowed_4 : decode cX5_narrowed 4 = .ok (.lookupswitch 34 #[(0, 28), (1, 31)], 28) := by decide +kernel
theorem dX5_narrowed_32 : decode cX5_narrowed 32 = .ok (.iload_n 1, 1) := by decide +kernel
theorem dX5_narrowed_33 : decode cX5_narrowed 33 = .ok (.i2b, 1) := by decide +kernel
theorem dX5_narrowed_34 : decode cX5_narrowed 34 = .ok (.ireturn, 1) := by decide +kernel
theorem dX5_narrowed_35 : decode cX5_narrowed 35 = .ok (.iload_n 1, 1) := by decide +kernel
theorem dX5_narrowed_36 : decode cX5_narrowed 36 = .ok (.i2s, 1) := by decide +kernel
theorem dX5_narrowed_37 : decode cX5_narrowed 37 = .ok (.ireturn, 1) := by decide +kernel
theorem dX5_narrowed_38 : decode cX5_narrowed 38 = .ok (.iload_n 1, 1) := by decide +kernel
theorem dX5_narrowed_39 : decode cX5_narrowed 39 = .ok (.ireturn, 1) := by decide +kernel
theorem dX5_tellsAt_0 : decode cX5_tellsAt 0 = .ok (.aload_n 0, 1) := by decide +kernel
theorem dX5_tellsAt_1 : decode cX5_tellsAt 1 = .ok (.getfield 39, 3) := by decide +kernel
theorem dX5_tellsAt_4 : decode cX5_tellsAt 4 = .ok (.lookupswitch 79 #[(0, 28), (1, 53)], 28) := by decide +kernel
theorem dX5_tellsAt_32 : decode cX5_tellsAt 32 = .ok (.aload_n 0, 1) := by decide +kernel
theorem dX5_tellsAt_33 : decode cX5_tellsAt 33 = .ok (.iload_n 1, 1) := by decide +kernel
theorem dX5_tellsAt_34 : decode cX5_tellsAt 34 = .ok (.invokevirtual 55, 3) := by decide +kernel
theorem dX5_tellsAt_37 : decode cX5_tellsAt 37 = .ok (.ifCond .eq 18, 3) := by decide +kernel
theorem dX5_tellsAt_40 : decode cX5_tellsAt 40 = .ok (.aload_n 0, 1) := by decide +kernel
theorem dX5_tellsAt_41 : decode cX5_tellsAt 41 = .ok (.getfield 22, 3) := by decide +kernel
theorem dX5_tellsAt_44 : decode cX5_tellsAt 44 = .ok (.iload_n 1, 1) := by decide +kernel
theorem dX5_tellsAt_45 : decode cX5_tellsAt 45 = .ok (.iaload, 1) := by decide +kernel
theorem dX5_tellsAt_46 : decode cX5_tellsAt 46 = .ok (.bipush (-128), 2) := by decide +kernel
theorem dX5_tellsAt_48 : decode cX5_tellsAt 48 = .ok (.if_icmp .eq 7, 3) := by decide +kernel
theorem dX5_tellsAt_51 : decode cX5_tellsAt 51 = .ok (.iconst 1, 1) := by decide +kernel
theorem dX5_tellsAt_52 : decode cX5_tellsAt 52 = .ok (.goto 4, 3) := by decide +kernel
theorem dX5_tellsAt_55 : decode cX5_tellsAt 55 = .ok (.iconst 0, 1) := by decide +kernel
theorem dX5_tellsAt_56 : decode cX5_tellsAt 56 = .ok (.ireturn, 1) := by decide +kernel
theorem dX5_tellsAt_57 : decode cX5_tellsAt 57 = .ok (.aload_n 0, 1) := by decide +kernel
theorem dX5_tellsAt_58 : decode cX5_tellsAt 58 = .ok (.iload_n 1, 1) := by decide +kernel
theorem dX5_tellsAt_59 : decode cX5_tellsAt 59 = .ok (.invokevirtual 55, 3) := by decide +kernel
theorem dX5_tellsAt_62 : decode cX5_tellsAt 62 = .ok (.ifCond .eq 19, 3) := by decide +kernel
theorem dX5_tellsAt_65 : decode cX5_tellsAt 65 = .ok (.aload_n 0, 1) := by decide +kernel
theorem dX5_tellsAt_66 : decode cX5_tellsAt 66 = .ok (.getfield 22, 3) := by decide +kernel
theorem dX5_tellsAt_69 : decode cX5_tellsAt 69 = .ok (.iload_n 1, 1) := by decide +kernel
theorem dX5_tellsAt_70 : decode cX5_tellsAt 70 = .ok (.iaload, 1) := by decide +kernel
theorem dX5_tellsAt_71 : decode cX5_tellsAt 71 = .ok (.sipush (-32768), 3) := by decide +kernel
theorem dX5_tellsAt_74 : decode cX5_tellsAt 74 = .ok (.if_icmp .eq 7, 3) := by decide +kernel
theorem dX5_tellsAt_77 : decode cX5_tellsAt 77 = .ok (.iconst 1, 1) := by decide +kernel
theorem dX5_tellsAt_78 : decode cX5_tellsAt 78 = .ok (.goto 4, 3) := by decide +kernel
theorem dX5_tellsAt_81 : decode cX5_tellsAt 81 = .ok (.iconst 0, 1) := by decide +kernel
theorem dX5_tellsAt_82 : decode cX5_tellsAt 82 = .ok (.ireturn, 1) := by decide +kernel
theorem dX5_tellsAt_83 : decode cX5_tellsAt 83 = .ok (.aload_n 0, 1) := by decide +kernel
theorem dX5_tellsAt_84 : decode cX5_tellsAt 84 = .ok (.iload_n 1, 1) := by decide +kernel
theorem dX5_tellsAt_85 : decode cX5_tellsAt 85 = .ok (.invokevirtual 55, 3) := by decide +kernel
theorem dX5_tellsAt_88 : decode cX5_tellsAt 88 = .ok (.ifCond .eq 18, 3) := by decide +kernel
theorem dX5_tellsAt_91 : decode cX5_tellsAt 91 = .ok (.aload_n 0, 1) := by decide +kernel
theorem dX5_tellsAt_92 : decode cX5_tellsAt 92 = .ok (.getfield 22, 3) := by decide +kernel
theorem dX5_tellsAt_95 : decode cX5_tellsAt 95 = .ok (.iload_n 1, 1) := by decide +kernel
theorem dX5_tellsAt_96 : decode cX5_tellsAt 96 = .ok (.iaload, 1) := by decide +kernel
theorem dX5_tellsAt_97 : decode cX5_tellsAt 97 = .ok (.ldc 59, 2) := by decide +kernel
theorem dX5_tellsAt_99 : decode cX5_tellsAt 99 = .ok (.if_icmp .eq 7, 3) := by decide +kernel
theorem dX5_tellsAt_102 : decode cX5_tellsAt 102 = .ok (.iconst 1, 1) := by decide +kernel
theorem dX5_tellsAt_103 : decode cX5_tellsAt 103 = .ok (.goto 4, 3) := by decide +kernel
theorem dX5_tellsAt_106 : decode cX5_tellsAt 106 = .ok (.iconst 0, 1) := by decide +kernel
theorem dX5_tellsAt_107 : decode cX5_tellsAt 107 = .ok (.ireturn, 1) := by decide +kernel
theorem dX5_swing_0 : decode cX5_swing 0 = .ok (.iconst 0, 1) := by decide +kernel
theorem dX5_swing_1 : decode cX5_swing 1 = .ok (.istore_n 1, 1) := by decide +kernel
theorem dX5_swing_2 : decode cX5_swing 2 = .ok (.iconst 0, 1) := by decide +kernel
theorem dX5_swing_3 : decode cX5_swing 3 = .ok (.istore_n 2, 1) := by decide +kernel
theorem dX5_swing_4 : decode cX5_swing 4 = .ok (.iconst 0, 1) := by decide +kernel
theorem dX5_swing_5 : decode cX5_swing 5 = .ok (.istore_n 3, 1) := by decide +kernel
theorem dX5_swing_6 : decode cX5_swing 6 = .ok (.iconst 1, 1) := by decide +kernel
theorem dX5_swing_7 : decode cX5_swing 7 = .ok (.istore 4, 2) := by decide +kernel
theorem dX5_swing_9 : decode cX5_swing 9 = .ok (.iload 4, 2) := by decide +kernel
theorem dX5_swing_11 : decode cX5_swing 11 = .ok (.aload_n 0, 1) := by decide +kernel
theorem dX5_swing_12 : decode cX5_swing 12 = .ok (.getfield 42, 3) := by decide +kernel
theorem dX5_swing_15 : decode cX5_swing 15 = .ok (.if_icmp .ge 66, 3) := by decide +kernel
theorem dX5_swing_18 : decode cX5_swing 18 = .ok (.iload 4, 2) := by decide +kernel
theorem dX5_swing_20 : decode cX5_swing 20 = .ok (.aload_n 0, 1) := by decide +kernel
theorem dX5_swing_21 : decode cX5_swing 21 = .ok (.getfield 22, 3) := by decide +kernel
theorem dX5_swing_24 : decode cX5_swing 24 = .ok (.arraylength, 1) := by decide +kernel
theorem dX5_swing_25 : decode cX5_swing 25 = .ok (.if_icmp .ge 56, 3) := by decide +kernel
theorem dX5_swing_28 : decode cX5_swing 28 = .ok (.aload_n 0, 1) := by decide +kernel
theorem dX5_swing_29 : decode cX5_swing 29 = .ok (.getfield 22, 3) := by decide +kernel
theorem dX5_swing_32 : decode cX5_swing 32 = .ok (.iload 4, 2) := by decide +kernel
theorem dX5_swing_34 : decode cX5_swing 34 = .ok (.iaload, 1) := by decide +kernel
theorem dX5_swing_35 : decode cX5_swing 35 = .ok (.aload_n 0, 1) := by decide +kernel
theorem dX5_swing_36 : decode cX5_swing 36 = .ok (.getfield 22, 3) := by decide +kernel
theorem dX5_swing_39 : decode cX5_swing 39 = .ok (.iload 4, 2) := by decide +kernel
theorem dX5_swing_41 : decode cX5_swing 41 = .ok (.iconst 1, 1) := by decide +kernel
theorem dX5_swing_42 : decode cX5_swing 42 = .ok (.isub, 1) := by decide +kernel
theorem dX5_swing_43 : decode cX5_swing 43 = .ok (.iaload, 1) := by decide +kernel
theorem dX5_swing_44 : decode cX5_swing 44 = .ok (.invokestatic 60, 3) := by decide +kernel
theorem dX5_swing_47 : decode cX5_swing 47 = .ok (.istore 5, 2) := by decide +kernel
theorem dX5_swing_49 : decode cX5_swing 49 = .ok (.iload 5, 2) := by decide +kernel
theorem dX5_swing_51 : decode cX5_swing 51 = .ok (.ifCond .eq 24, 3) := by decide +kernel
theorem dX5_swing_54 : decode cX5_swing 54 = .ok (.iinc 1 1, 3) := by decide +kernel
theorem dX5_swing_57 : decode cX5_swing 57 = .ok (.iload_n 2, 1) := by decide +kernel
theorem dX5_swing_58 : decode cX5_swing 58 = .ok (.iload 5, 2) := by decide +kernel
theorem dX5_swing_60 : decode cX5_swing 60 = .ok (.iload_n 3, 1) := by decide +kernel
theorem dX5_swing_61 : decode cX5_swing 61 = .ok (.iadd, 1) := by decide +kernel
theorem dX5_swing_62 : decode cX5_swing 62 = .ok (.ifCond .ne 7, 3) := by decide +kernel
theorem dX5_swing_65 : decode cX5_swing 65 = .ok (.iconst 1, 1) := by decide +kernel
theorem dX5_swing_66 : decode cX5_swing 66 = .ok (.goto 4, 3) := by decide +kernel
theorem dX5_swing_69 : decode cX5_swing 69 = .ok (.iconst 0, 1) := by decide +kernel
theorem dX5_swing_70 : decode cX5_swing 70 = .ok (.iadd, 1) := by decide +kernel
theorem dX5_swing_71 : decode cX5_swing 71 = .ok (.istore_n 2, 1) := by decide +kernel
theorem dX5_swing_72 : decode cX5_swing 72 = .ok (.iload 5, 2) := by decide +kernel
theorem dX5_swing_74 : decode cX5_swing 74 = .ok (.istore_n 3, 1) := by decide +kernel
theorem dX5_swing_75 : decode cX5_swing 75 = .ok (.iinc 4 1, 3) := by decide +kernel
theorem dX5_swing_78 : decode cX5_swing 78 = .ok (.goto (-69), 3) := by decide +kernel
theorem dX5_swing_81 : decode cX5_swing 81 = .ok (.iload_n 1, 1) := by decide +kernel
theorem dX5_swing_82 : decode cX5_swing 82 = .ok (.iconst 3, 1) := by decide +kernel
theorem dX5_swing_83 : decode cX5_swing 83 = .ok (.if_icmp .ge 5, 3) := by decide +kernel
theorem dX5_swing_86 : decode cX5_swing 86 = .ok (.iconst 0, 1) := by decide +kernel
theorem dX5_swing_87 : decode cX5_swing 87 = .ok (.ireturn, 1) := by decide +kernel
theorem dX5_swing_88 : decode cX5_swing 88 = .ok (.iconst 3, 1) := by decide +kernel
theorem dX5_swing_89 : decode cX5_swing 89 = .ok (.iload_n 2, 1) := by decide +kernel
theorem dX5_swing_90 : decode cX5_swing 90 = .ok (.imul, 1) := by decide +kernel
theorem dX5_swing_91 : decode cX5_swing 91 = .ok (.iload_n 1, 1) := by decide +kernel
theorem dX5_swing_92 : decode cX5_swing 92 = .ok (.if_icmp .lt 7, 3) := by decide +kernel
theorem dX5_swing_95 : decode cX5_swing 95 = .ok (.iconst 1, 1) := by decide +kernel
theorem dX5_swing_96 : decode cX5_swing 96 = .ok (.goto 4, 3) := by decide +kernel
theorem dX5_swing_99 : decode cX5_swing 99 = .ok (.iconst 2, 1) := by decide +kernel
theorem dX5_swing_100 : decode cX5_swing 100 = .ok (.ireturn, 1) := by decide +kernel
theorem dX6_init_0 : decode cX6_init 0 = .ok (.aload_n 0, 1) := by decide +kernel
theorem dX6_init_1 : decode cX6_init 1 = .ok (.invokespecial 1, 3) := by decide +kernel
theorem dX6_init_4 : decode cX6_init 4 = .ok (.aload_n 0, 1) := by decide +kernel
theorem dX6_init_5 : decode cX6_init 5 = .ok (.new 7, 3) := by decide +kernel
theorem dX6_init_8 : decode cX6_init 8 = .ok (.dup, 1) := by decide +kernel
theorem dX6_init_9 : decode cX6_init 9 = .ok (.invokespecial 9, 3) := by decide +kernel
theorem dX6_init_12 : decode cX6_init 12 = .ok (.putfield 10, 3) := by decide +kernel
theorem dX6_init_15 : decode cX6_init 15 = .ok (.aload_n 0, 1) := by decide +kernel
theorem dX6_init_16 : decode cX6_init 16 = .ok (.new 16, 3) := by decide +kernel
theorem dX6_init_19 : decode cX6_init 19 = .ok (.dup, 1) := by decide +kernel
theorem dX6_init_20 : decode cX6_init 20 = .ok (.invokespecial 18, 3) := by decide +kernel
theorem dX6_init_23 : decode cX6_init 23 = .ok (.putfield 19, 3) := by decide +kernel
theorem dX6_init_26 : decode cX6_init 26 = .ok (.aload_n 0, 1) := by decide +kernel
theorem dX6_init_27 : decode cX6_init 27 = .ok (.new 7, 3) := by decide +kernel
theorem dX6_init_30 : decode cX6_init 30 = .ok (.dup, 1) := by decide +kernel
theorem dX6_init_31 : decode cX6_init 31 = .ok (.invokespecial 9, 3) := by decide +kernel
theorem dX6_init_34 : decode cX6_init 34 = .ok (.putfield 23, 3) := by decide +kernel
theorem dX6_init_37 : decode cX6_init 37 = .ok (.aload_n 0, 1) := by decide +kernel
theorem dX6_init_38 : decode cX6_init 38 = .ok (.new 16, 3) := by decide +kernel
theorem dX6_init_41 : decode cX6_init 41 = .ok (.dup, 1) := by decide +kernel
theorem dX6_init_42 : decode cX6_init 42 = .ok (.invokespecial 18, 3) := by decide +kernel
theorem dX6_init_45 : decode cX6_init 45 = .ok (.putfield 26, 3) := by decide +kernel
theorem dX6_init_48 : decode cX6_init 48 = .ok (.aload_n 0, 1) := by decide +kernel
theorem dX6_init_49 : decode cX6_init 49 = .ok (.new 7, 3) := by decide +kernel
theorem dX6_init_52 : decode cX6_init 52 = .ok (.dup, 1) := by decide +kernel
theorem dX6_init_53 : decode cX6_init 53 = .ok (.invokespecial 9, 3) := by decide +kernel
theorem dX6_init_56 : decode cX6_init 56 = .ok (.putfield 29, 3) := by decide +kernel
theorem dX6_init_59 : decode cX6_init 59 = .ok (.aload_n 0, 1) := by decide +kernel
theorem dX6_init_60 : decode cX6_init 60 = .ok (.new 16, 3) := by decide +kernel
theorem dX6_init_63 : decode cX6_init 63 = .ok (.dup, 1) := by decide +kernel
theorem dX6_init_64 : decode cX6_init 64 = .ok (.invokespecial 18, 3) := by decide +kernel
theorem dX6_init_67 : decode cX6_init 67 = .ok (.putfield 32, 3) := by decide +kernel
theorem dX6_init_70 : decode cX6_init 70 = .ok (.aload_n 0, 1) := by decide +kernel
theorem dX6_init_71 : decode cX6_init 71 = .ok (.bipush 8, 2) := by decide +kernel
theorem dX6_init_73 : decode cX6_init 73 = .ok (.anewarray 35, 3) := by decide +kernel
theorem dX6_init_76 : decode cX6_init 76 = .ok (.putfield 37, 3) := by decide +kernel
theorem dX6_init_79 : decode cX6_init 79 = .ok (.iconst 0, 1) := by decide +kernel
theorem dX6_init_80 : decode cX6_init 80 = .ok (.istore_n 1, 1) := by decide +kernel
theorem dX6_init_81 : decode cX6_init 81 = .ok (.iload_n 1, 1) := by decide +kernel
theorem dX6_init_82 : decode cX6_init 82 = .ok (.aload_n 0, 1) := by decide +kernel
theorem dX6_init_83 : decode cX6_init 83 = .ok (.getfield 37, 3) := by decide +kernel
theorem dX6_init_86 : decode cX6_init 86 = .ok (.arraylength, 1) := by decide +kernel
theorem dX6_init_87 : decode cX6_init 87 = .ok (.if_icmp .ge 22, 3) := by decide +kernel
theorem dX6_init_90 : decode cX6_init 90 = .ok (.aload_n 0, 1) := by decide +kernel
theorem dX6_init_91 : decode cX6_init 91 = .ok (.getfield 37, 3) := by decide +kernel
theorem dX6_init_94 : decode cX6_init 94 = .ok (.iload_n 1, 1) := by decide +kernel
theorem dX6_init_95 : decode cX6_init 95 = .ok (.new 35, 3) := by decide +kernel
theorem dX6_init_98 : decode cX6_init 98 = .ok (.dup, 1) := by decide +kernel
theorem dX6_init_99 : decode cX6_init 99 = .ok (.invokespecial 41, 3) := by decide +kernel
theorem dX6_init_102 : decode cX6_init 102 = .ok (.aastore, 1) := by decide +kernel
theorem dX6_init_103 : decode cX6_init 103 = .ok (.iinc 1 1, 3) := by decide +kernel
theorem dX6_init_106 : decode cX6_init 106 = .ok (.goto (-25), 3) := by decide +kernel
theorem dX6_init_109 : decode cX6_init 109 = .ok (.return_, 1) := by decide +kernel
theorem dX6_set_0 : decode cX6_set 0 = .ok (.iload_n 1, 1) := by decide +kernel
theorem dX6_set_1 : decode cX6_set 1 = .ok (.iload_n 2, 1) := by decide +kernel
theorem dX6_set_2 : decode cX6_set 2 = .ok (.invokestatic 42, 3) := by decide +kernel
theorem dX6_set_5 : decode cX6_set 5 = .ok (.ifCond .ne 5, 3) := by decide +kernel
theorem dX6_set_8 : decode cX6_set 8 = .ok (.iconst (-1), 1) := by decide +kernel
theorem dX6_set_9 : decode cX6_set 9 = .ok (.ireturn, 1) := by decide +kernel
theorem dX6_set_10 : decode cX6_set 10 = .ok (.iload_n 1, 1) := by decide +kernel
theorem dX6_set_11 : decode cX6_set 11 = .ok (.ifCond .ne 17, 3) := by decide +kernel
theorem dX6_set_14 : decode cX6_set 14 = .ok (.aload_n 0, 1) := by decide +kernel
theorem dX6_set_15 : decode cX6_set 15 = .ok (.getfield 19, 3) := by decide +kernel
theorem dX6_set_18 : decode cX6_set 18 = .ok (.iload_n 2, 1) := by decide +kernel
theorem dX6_set_19 : decode cX6_set 19 = .ok (.invokevirtual 46, 3) := by decide +kernel
theorem dX6_set_22 : decode cX6_set 22 = .ok (.ifCond .eq 6, 3) := by decide +kernel
theorem dX6_set_25 : decode cX6_set 25 = .ok (.bipush (-3), 2) := by decide +kernel
theorem dX6_set_27 : decode cX6_set 27 = .ok (.ireturn, 1) := by decide +kernel
theorem dX6_set_28 : decode cX6_set 28 = .ok (.aload_n 0, 1) := by decide +kernel
theorem dX6_set_29 : decode cX6_set 29 = .ok (.getfield 10, 3) := by decide +kernel
theorem dX6_set_32 : decode cX6_set 32 = .ok (.iload_n 1, 1) := by decide +kernel
theorem dX6_set_33 : decode cX6_set 33 = .ok (.iload_n 2, 1) := by decide +kernel
theorem dX6_set_34 : decode cX6_set 34 = .ok (.invokevirtual 50, 3) := by decide +kernel
theorem dX6_set_37 : decode cX6_set 37 = .ok (.ireturn, 1) := by decide +kernel
theorem dX6_fault_0 : decode cX6_fault 0 = .ok (.aload_n 0, 1) := by decide +kernel
theorem dX6_fault_1 : decode cX6_fault 1 = .ok (.iload_n 1, 1) := by decide +kernel
theorem dX6_fault_2 : decode cX6_fault 2 = .ok (.invokevirtual 54, 3) := by decide +kernel
theorem dX6_fault_5 : decode cX6_fault 5 = .ok (.astore_n 2, 1) := by decide +kernel
theorem dX6_fault_6 : decode cX6_fault 6 = .ok (.aload_n 2, 1) := by decide +kernel
theorem dX6_fault_7 : decode cX6_fault 7 = .ok (.ifnonnull 5, 3) := by decide +kernel
theorem dX6_fault_10 : decode cX6_fault 10 = .ok (.iconst (-1), 1) := by decide +kernel
theorem dX6_fault_11 : decode cX6_fault 11 = .ok (.ireturn, 1) := by decide +kernel
theorem dX6_fault_12 : decode cX6_fault 12 = .ok (.aload_n 2, 1) := by decide +kernel
theorem dX6_fault_13 : decode cX6_fault 13 = .ok (.invokevirtual 58, 3) := by decide +kernel
theorem dX6_fault_16 : decode cX6_fault 16 = .ok (.istore_n 3, 1) := by decide +kernel
theorem dX6_fault_17 : decode cX6_fault 17 = .ok (.iload_n 3, 1) := by decide +kernel
theorem dX6_fault_18 : decode cX6_fault 18 = .ok (.ifCond .eq 7, 3) := by decide +kernel
theorem dX6_fault_21 : decode cX6_fault 21 = .ok (.iload_n 3, 1) := by decide +kernel
theorem dX6_fault_22 : decode cX6_fault 22 = .ok (.goto 14, 3) := by decide +kernel
theorem dX6_fault_25 : decode cX6_fault 25 = .ok (.aload_n 2, 1) := by decide +kernel
theorem dX6_fault_26 : decode cX6_fault 26 = .ok (.getfield 62, 3) := by decide +kernel
theorem dX6_fault_29 : decode cX6_fault 29 = .ok (.aload_n 2, 1) := by decide +kernel
theorem dX6_fault_30 : decode cX6_fault 30 = .ok (.getfield 66, 3) := by decide +kernel
theorem dX6_fault_33 : decode cX6_fault 33 = .ok (.invokestatic 70, 3) := by decide +kernel
theorem dX6_fault_36 : decode cX6_fault 36 = .ok (.ireturn, 1) := by decide +kernel
theorem dX6_law_0 : decode cX6_law 0 = .ok (.aload_n 0, 1) := by decide +kernel
theorem dX6_law_1 : decode cX6_law 1 = .ok (.iload_n 1, 1) := by decide +kernel
theorem dX6_law_2 : decode cX6_law 2 = .ok (.invokevirtual 54, 3) := by decide +kernel
theorem dX6_law_5 : decode cX6_law 5 = .ok (.astore_n 2, 1) := by decide +kernel
theorem dX6_law_6 : decode cX6_law 6 = .ok (.aload_n 2, 1) := by decide +kernel
theorem dX6_law_7 : decode cX6_law 7 = .ok (.ifnonnull 5, 3) := by decide +kernel
theorem dX6_law_10 : decode cX6_law 10 = .ok (.iconst (-1), 1) := by decide +kernel
theorem dX6_law_11 : decode cX6_law 11 = .ok (.ireturn, 1) := by decide +kernel
theorem dX6_law_12 : decode cX6_law 12 = .ok (.aload_n 2, 1) := by decide +kernel
theorem dX6_law_13 : decode cX6_law 13 = .ok (.invokevirtual 58, 3) := by decide +kernel
theorem dX6_law_16 : decode cX6_law 16 = .ok (.istore_n 3, 1) := by decide +kernel
theorem dX6_law_17 : decode cX6_law 17 = .ok (.iload_n 3, 1) := by decide +kernel
theorem dX6_law_18 : decode cX6_law 18 = .ok (.ifCond .eq 5, 3) := by decide +kernel
theorem dX6_law_21 : decode cX6_law 21 = .ok (.iload_n 3, 1) := by decide +kernel
theorem dX6_law_22 : decode cX6_law 22 = .ok (.ireturn, 1) := by decide +kernel
theorem dX6_law_23 : decode cX6_law 23 = .ok (.aload_n 2, 1) := by decide +kernel
theorem dX6_law_24 : decode cX6_law 24 = .ok (.getfield 62, 3) := by decide +kernel
theorem dX6_law_27 : decode cX6_law 27 = .ok (.aload_n 2, 1) := by decide +kernel
theorem dX6_law_28 : decode cX6_law 28 = .ok (.getfield 66, 3) := by decide +kernel
theorem dX6_law_31 : decode cX6_law 31 = .ok (.invokestatic 70, 3) := by decide +kernel
theorem dX6_law_34 : decode cX6_law 34 = .ok (.istore 4, 2) := by decide +kernel
theorem dX6_law_36 : decode cX6_law 36 = .ok (.iload 4, 2) := by decide +kernel
theorem dX6_law_38 : decode cX6_law 38 = .ok (.bipush (-4), 2) := by decide +kernel
theorem dX6_law_40 : decode cX6_law 40 = .ok (.if_icmp .eq 9, 3) := by decide +kernel
theorem dX6_law_43 : decode cX6_law 43 = .ok (.bipush (-100), 2) := by decide +kernel
theorem dX6_law_45 : decode cX6_law 45 = .ok (.iload 4, 2) := by decide +kernel
theorem dX6_law_47 : decode cX6_law 47 = .ok (.isub, 1) := by decide +kernel
theorem dX6_law_48 : decode cX6_law 48 = .ok (.ireturn, 1) := by decide +kernel
theorem dX6_law_49 : decode cX6_law 49 = .ok (.aload_n 0, 1) := by decide +kernel
theorem dX6_law_50 : decode cX6_law 50 = .ok (.getfield 10, 3) := by decide +kernel
theorem dX6_law_53 : decode cX6_law 53 = .ok (.aload_n 2, 1) := by decide +kernel
theorem dX6_law_54 : decode cX6_law 54 = .ok (.getfield 62, 3) := by decide +kernel
theorem dX6_law_57 : decode cX6_law 57 = .ok (.aload_n 2, 1) := by decide +kernel
theorem dX6_law_58 : decode cX6_law 58 = .ok (.getfield 66, 3) := by decide +kernel
theorem dX6_law_61 : decode cX6_law 61 = .ok (.invokevirtual 76, 3) := by decide +kernel
theorem dX6_law_64 : decode cX6_law 64 = .ok (.iconst 1, 1) := by decide +kernel
theorem dX6_law_65 : decode cX6_law 65 = .ok (.ireturn, 1) := by decide +kernel
theorem dX6_wind_0 : decode cX6_wind 0 = .ok (.iload_n 1, 1) := by decide +kernel
theorem dX6_wind_1 : decode cX6_wind 1 = .ok (.ifCond .lt 10, 3) := by decide +kernel
theorem dX6_wind_4 : decode cX6_wind 4 = .ok (.iload_n 1, 1) := by decide +kernel
theorem dX6_wind_5 : decode cX6_wind 5 = .ok (.sipush 400, 3) := by decide +kernel
theorem dX6_wind_8 : decode cX6_wind 8 = .ok (.if_icmp .le 6, 3) := by decide +kernel
theorem dX6_wind_11 : decode cX6_wind 11 = .ok (.ldc 80, 2) := by decide +kernel
theorem dX6_wind_13 : decode cX6_wind 13 = .ok (.ireturn, 1) := by decide +kernel
theorem dX6_wind_14 : decode cX6_wind 14 = .ok (.aload_n 0, 1) := by decide +kernel
theorem dX6_wind_15 : decode cX6_wind 15 = .ok (.getfield 10, 3) := by decide +kernel
theorem dX6_wind_18 : decode cX6_wind 18 = .ok (.iload_n 1, 1) := by decide +kernel
theorem dX6_wind_19 : decode cX6_wind 19 = .ok (.invokevirtual 81, 3) := by decide +kernel
theorem dX6_wind_22 : decode cX6_wind 22 = .ok (.ireturn, 1) := by decide +kernel
theorem dX6_boat_0 : decode cX6_boat 0 = .ok (.iload_n 1, 1) := by decide +kernel
theorem dX6_boat_1 : decode cX6_boat 1 = .ok (.ifCond .lt 28, 3) := by decide +kernel
theorem dX6_boat_4 : decode cX6_boat 4 = .ok (.iload_n 1, 1) := by decide +kernel
theorem dX6_boat_5 : decode cX6_boat 5 = .ok (.bipush 7, 2) := by decide +kernel
theorem dX6_boat_7 : decode cX6_boat 7 = .ok (.if_icmp .gt 22, 3) := by decide +kernel
theorem dX6_boat_10 : decode cX6_boat 10 = .ok (.iload_n 2, 1) := by decide +kernel
theorem dX6_boat_11 : decode cX6_boat 11 = .ok (.invokestatic 85, 3) := by decide +kernel
theorem dX6_boat_14 : decode cX6_boat 14 = .ok (.ifCond .eq 15, 3) := by decide +kernel
theorem dX6_boat_17 : decode cX6_boat 17 = .ok (.iload 4, 2) := by decide +kernel
theorem dX6_boat_19 : decode cX6_boat 19 = .ok (.ifCond .lt 10, 3) := by decide +kernel
theorem dX6_boat_22 : decode cX6_boat 22 = .ok (.iload 4, 2) := by decide +kernel
theorem dX6_boat_24 : decode cX6_boat 24 = .ok (.bipush 40, 2) := by decide +kernel
theorem dX6_boat_26 : decode cX6_boat 26 = .ok (.if_icmp .le 5, 3) := by decide +kernel
theorem dX6_boat_29 : decode cX6_boat 29 = .ok (.iconst (-1), 1) := by decide +kernel
theorem dX6_boat_30 : decode cX6_boat 30 = .ok (.ireturn, 1) := by decide +kernel
theorem dX6_boat_31 : decode cX6_boat 31 = .ok (.aload_n 0, 1) := by decide +kernel
theorem dX6_boat_32 : decode cX6_boat 32 = .ok (.getfield 19, 3) := by decide +kernel
theorem dX6_boat_35 : decode cX6_boat 35 = .ok (.invokevirtual 88, 3) := by decide +kernel
theorem dX6_boat_38 : decode cX6_boat 38 = .ok (.ifCond .eq 6, 3) := by decide +kernel
theorem dX6_boat_41 : decode cX6_boat 41 = .ok (.bipush (-2), 2) := by decide +kernel
theorem dX6_boat_43 : decode cX6_boat 43 = .ok (.ireturn, 1) := by decide +kernel
theorem dX6_boat_44 : decode cX6_boat 44 = .ok (.aload_n 0, 1) := by decide +kernel
theorem dX6_boat_45 : decode cX6_boat 45 = .ok (.getfield 19, 3) := by decide +kernel
theorem dX6_boat_48 : decode cX6_boat 48 = .ok (.getfield 92, 3) := by decide +kernel
theorem dX6_boat_51 : decode cX6_boat 51 = .ok (.ifCond .le 6, 3) := by decide +kernel
theorem dX6_boat_54 : decode cX6_boat 54 = .ok (.bipush (-3), 2) := by decide +kernel
theorem dX6_boat_56 : decode cX6_boat 56 = .ok (.ireturn, 1) := by decide +kernel
theorem dX6_boat_57 : decode cX6_boat 57 = .ok (.aload_n 0, 1) := by decide +kernel
theorem dX6_boat_58 : decode cX6_boat 58 = .ok (.getfield 19, 3) := by decide +kernel
theorem dX6_boat_61 : decode cX6_boat 61 = .ok (.iload_n 1, 1) := by decide +kernel
theorem dX6_boat_62 : decode cX6_boat 62 = .ok (.iload_n 2, 1) := by decide +kernel
theorem dX6_boat_63 : decode cX6_boat 63 = .ok (.iload_n 3, 1) := by decide +kernel
theorem dX6_boat_64 : decode cX6_boat 64 = .ok (.iload 4, 2) := by decide +kernel
theorem dX6_boat_66 : decode cX6_boat 66 = .ok (.invokevirtual 95, 3) := by decide +kernel
theorem dX6_boat_69 : decode cX6_boat 69 = .ok (.ireturn, 1) := by decide +kernel
theorem dX6_of_0 : decode cX6_of 0 = .ok (.aload_n 0, 1) := by decide +kernel
theorem dX6_of_1 : decode cX6_of 1 = .ok (.getfield 19, 3) := by decide +kernel
theorem dX6_of_4 : decode cX6_of 4 = .ok (.iload_n 1, 1) := by decide +kernel
theorem dX6_of_5 : decode cX6_of 5 = .ok (.invokevirtual 99, 3) := by decide +kernel
theorem dX6_of_8 : decode cX6_of 8 = .ok (.astore_n 3, 1) := by decide +kernel
theorem dX6_of_9 : decode cX6_of 9 = .ok (.aload_n 3, 1) := by decide +kernel
theorem dX6_of_10 : decode cX6_of 10 = .ok (.ifnull 13, 3) := by decide +kernel
theorem dX6_of_13 : decode cX6_of 13 = .ok (.iload_n 2, 1) := by decide +kernel
theorem dX6_of_14 : decode cX6_of 14 = .ok (.ifCond .lt 9, 3) := by decide +kernel
theorem dX6_of_17 : decode cX6_of 17 = .ok (.iload_n 2, 1) := by decide +kernel
theorem dX6_of_18 : decode cX6_of 18 = .ok (.bipush 7, 2) := by decide +kernel
theorem dX6_of_20 : decode cX6_of 20 = .ok (.if_icmp .le 6, 3) := by decide +kernel
theorem dX6_of_23 : decode cX6_of 23 = .ok (.ldc 80, 2) := by decide +kernel
theorem dX6_of_25 : decode cX6_of 25 = .ok (.ireturn, 1) := by decide +kernel
theorem dX6_of_26 : decode cX6_of 26 = .ok (.aload_n 3, 1) := by decide +kernel
theorem dX6_of_27 : decode cX6_of 27 = .ok (.iload_n 2, 1) := by decide +kernel
theorem dX6_of_28 : decode cX6_of 28 = .ok (.invokevirtual 103, 3) := by decide +kernel
theorem dX6_of_31 : decode cX6_of 31 = .ok (.ireturn, 1) := by decide +kernel
theorem dX6_badAir_0 : decode cX6_badAir 0 = .ok (.aload_n 0, 1) := by decide +kernel
theorem dX6_badAir_1 : decode cX6_badAir 1 = .ok (.getfield 19, 3) := by decide +kernel
theorem dX6_badAir_4 : decode cX6_badAir 4 = .ok (.iload_n 1, 1) := by decide +kernel
theorem dX6_badAir_5 : decode cX6_badAir 5 = .ok (.invokevirtual 99, 3) := by decide +kernel
theorem dX6_badAir_8 : decode cX6_badAir 8 = .ok (.astore_n 2, 1) := by decide +kernel
theorem dX6_badAir_9 : decode cX6_badAir 9 = .ok (.aload_n 2, 1) := by decide +kernel
theorem dX6_badAir_10 : decode cX6_badAir 10 = .ok (.ifnonnull 5, 3) := by decide +kernel
theorem dX6_badAir_13 : decode cX6_badAir 13 = .ok (.iconst (-1), 1) := by decide +kernel
theorem dX6_badAir_14 : decode cX6_badAir 14 = .ok (.ireturn, 1) := by decide +kernel
theorem dX6_badAir_15 : decode cX6_badAir 15 = .ok (.aload_n 0, 1) := by decide +kernel
theorem dX6_badAir_16 : decode cX6_badAir 16 = .ok (.getfield 19, 3) := by decide +kernel
theorem dX6_badAir_19 : decode cX6_badAir 19 = .ok (.invokevirtual 108, 3) := by decide +kernel
theorem dX6_badAir_22 : decode cX6_badAir 22 = .ok (.aload_n 2, 1) := by decide +kernel
theorem dX6_badAir_23 : decode cX6_badAir 23 = .ok (.getfield 111, 3) := by decide +kernel
theorem dX6_badAir_26 : decode cX6_badAir 26 = .ok (.ifCond .eq 7, 3) := by decide +kernel
theorem dX6_badAir_29 : decode cX6_badAir 29 = .ok (.iconst 1, 1) := by decide +kernel
theorem dX6_badAir_30 : decode cX6_badAir 30 = .ok (.goto 4, 3) := by decide +kernel
theorem dX6_badAir_33 : decode cX6_badAir 33 = .ok (.iconst 0, 1) := by decide +kernel
theorem dX6_badAir_34 : decode cX6_badAir 34 = .ok (.ireturn, 1) := by decide +kernel
theorem dX6_go_0 : decode cX6_go 0 = .ok (.iload_n 1, 1) := by decide +kernel
theorem dX6_go_1 : decode cX6_go 1 = .ok (.iconst 1, 1) := by decide +kernel
theorem dX6_go_2 : decode cX6_go 2 = .ok (.if_icmp .lt 9, 3) := by decide +kernel
theorem dX6_go_5 : decode cX6_go 5 = .ok (.iload_n 1, 1) := by decide +kernel
theorem dX6_go_6 : decode cX6_go 6 = .ok (.bipush 100, 2) := by decide +kernel
theorem dX6_go_8 : decode cX6_go 8 = .ok (.if_icmp .le 5, 3) := by decide +kernel
theorem dX6_go_11 : decode cX6_go 11 = .ok (.iconst (-1), 1) := by decide +kernel
theorem dX6_go_12 : decode cX6_go 12 = .ok (.ireturn, 1) := by decide +kernel
theorem dX6_go_13 : decode cX6_go 13 = .ok (.aload_n 0, 1) := by decide +kernel
theorem dX6_go_14 : decode cX6_go 14 = .ok (.getfield 19, 3) := by decide +kernel
theorem dX6_go_17 : decode cX6_go 17 = .ok (.getfield 115, 3) := by decide +kernel
theorem dX6_go_20 : decode cX6_go 20 = .ok (.ifCond .eq 13, 3) := by decide +kernel
theorem dX6_go_23 : decode cX6_go 23 = .ok (.aload_n 0, 1) := by decide +kernel
theorem dX6_go_24 : decode cX6_go 24 = .ok (.getfield 19, 3) := by decide +kernel
theorem dX6_go_27 : decode cX6_go 27 = .ok (.invokevirtual 118, 3) := by decide +kernel
theorem dX6_go_30 : decode cX6_go 30 = .ok (.ifCond .eq 6, 3) := by decide +kernel
theorem dX6_go_33 : decode cX6_go 33 = .ok (.bipush (-3), 2) := by decide +kernel
theorem dX6_go_35 : decode cX6_go 35 = .ok (.ireturn, 1) := by decide +kernel
theorem dX6_go_36 : decode cX6_go 36 = .ok (.aload_n 0, 1) := by decide +kernel
theorem dX6_go_37 : decode cX6_go 37 = .ok (.getfield 19, 3) := by decide +kernel
theorem dX6_go_40 : decode cX6_go 40 = .ok (.aload_n 0, 1) := by decide +kernel
theorem dX6_go_41 : decode cX6_go 41 = .ok (.getfield 10, 3) := by decide +kernel
theorem dX6_go_44 : decode cX6_go 44 = .ok (.iload_n 1, 1) := by decide +kernel
theorem dX6_go_45 : decode cX6_go 45 = .ok (.invokevirtual 121, 3) := by decide +kernel
theorem dX6_go_48 : decode cX6_go 48 = .ok (.aload_n 0, 1) := by decide +kernel
theorem dX6_go_49 : decode cX6_go 49 = .ok (.getfield 19, 3) := by decide +kernel
theorem dX6_go_52 : decode cX6_go 52 = .ok (.getfield 92, 3) := by decide +kernel
theorem dX6_go_55 : decode cX6_go 55 = .ok (.ireturn, 1) := by decide +kernel
theorem dX6_turn_0 : decode cX6_turn 0 = .ok (.aload_n 0, 1) := by decide +kernel
theorem dX6_turn_1 : decode cX6_turn 1 = .ok (.getfield 19, 3) := by decide +kernel
theorem dX6_turn_4 : decode cX6_turn 4 = .ok (.iload_n 1, 1) := by decide +kernel
theorem dX6_turn_5 : decode cX6_turn 5 = .ok (.invokevirtual 99, 3) := by decide +kernel
theorem dX6_turn_8 : decode cX6_turn 8 = .ok (.astore_n 2, 1) := by decide +kernel
theorem dX6_turn_9 : decode cX6_turn 9 = .ok (.aload_n 2, 1) := by decide +kernel
theorem dX6_turn_10 : decode cX6_turn 10 = .ok (.ifnonnull 5, 3) := by decide +kernel
theorem dX6_turn_13 : decode cX6_turn 13 = .ok (.iconst (-1), 1) := by decide +kernel
theorem dX6_turn_14 : decode cX6_turn 14 = .ok (.ireturn, 1) := by decide +kernel
theorem dX6_turn_15 : decode cX6_turn 15 = .ok (.aload_n 2, 1) := by decide +kernel
theorem dX6_turn_16 : decode cX6_turn 16 = .ok (.aload_n 0, 1) := by decide +kernel
theorem dX6_turn_17 : decode cX6_turn 17 = .ok (.getfield 10, 3) := by decide +kernel
theorem dX6_turn_20 : decode cX6_turn 20 = .ok (.invokevirtual 125, 3) := by decide +kernel
theorem dX6_turn_23 : decode cX6_turn 23 = .ok (.ifCond .ne 6, 3) := by decide +kernel
theorem dX6_turn_26 : decode cX6_turn 26 = .ok (.bipush (-3), 2) := by decide +kernel
theorem dX6_turn_28 : decode cX6_turn 28 = .ok (.ireturn, 1) := by decide +kernel
theorem dX6_turn_29 : decode cX6_turn 29 = .ok (.aload_n 2, 1) := by decide +kernel
theorem dX6_turn_30 : decode cX6_turn 30 = .ok (.aload_n 0, 1) := by decide +kernel
theorem dX6_turn_31 : decode cX6_turn 31 = .ok (.getfield 10, 3) := by decide +kernel
theorem dX6_turn_34 : decode cX6_turn 34 = .ok (.getfield 129, 3) := by decide +kernel
theorem dX6_turn_37 : decode cX6_turn 37 = .ok (.invokevirtual 132, 3) := by decide +kernel
theorem dX6_turn_40 : decode cX6_turn 40 = .ok (.aload_n 0, 1) := by decide +kernel
theorem dX6_turn_41 : decode cX6_turn 41 = .ok (.getfield 10, 3) := by decide +kernel
theorem dX6_turn_44 : decode cX6_turn 44 = .ok (.getfield 129, 3) := by decide +kernel
theorem dX6_turn_47 : decode cX6_turn 47 = .ok (.ireturn, 1) := by decide +kernel
theorem dX6_anew_0 : decode cX6_anew 0 = .ok (.aload_n 0, 1) := by decide +kernel
theorem dX6_anew_1 : decode cX6_anew 1 = .ok (.getfield 19, 3) := by decide +kernel
theorem dX6_anew_4 : decode cX6_anew 4 = .ok (.invokevirtual 136, 3) := by decide +kernel
theorem dX6_anew_7 : decode cX6_anew 7 = .ok (.aload_n 0, 1) := by decide +kernel
theorem dX6_anew_8 : decode cX6_anew 8 = .ok (.getfield 19, 3) := by decide +kernel
theorem dX6_anew_11 : decode cX6_anew 11 = .ok (.getfield 115, 3) := by decide +kernel
theorem dX6_anew_14 : decode cX6_anew 14 = .ok (.ireturn, 1) := by decide +kernel
theorem dX6_place_0 : decode cX6_place 0 = .ok (.iload_n 1, 1) := by decide +kernel
theorem dX6_place_1 : decode cX6_place 1 = .ok (.iconst 1, 1) := by decide +kernel
theorem dX6_place_2 : decode cX6_place 2 = .ok (.if_icmp .ge 7, 3) := by decide +kernel
theorem dX6_place_5 : decode cX6_place 5 = .ok (.iconst (-1), 1) := by decide +kernel
theorem dX6_place_6 : decode cX6_place 6 = .ok (.goto 11, 3) := by decide +kernel
theorem dX6_place_9 : decode cX6_place 9 = .ok (.aload_n 0, 1) := by decide +kernel
theorem dX6_place_10 : decode cX6_place 10 = .ok (.getfield 19, 3) := by decide +kernel
theorem dX6_place_13 : decode cX6_place 13 = .ok (.iload_n 1, 1) := by decide +kernel
theorem dX6_place_14 : decode cX6_place 14 = .ok (.invokevirtual 139, 3) := by decide +kernel
theorem dX6_place_17 : decode cX6_place 17 = .ok (.ireturn, 1) := by decide +kernel
theorem dX6_ends_0 : decode cX6_ends 0 = .ok (.aload_n 0, 1) := by decide +kernel
theorem dX6_ends_1 : decode cX6_ends 1 = .ok (.getfield 19, 3) := by decide +kernel
theorem dX6_ends_4 : decode cX6_ends 4 = .ok (.iload_n 1, 1) := by decide +kernel
theorem dX6_ends_5 : decode cX6_ends 5 = .ok (.invokevirtual 99, 3) := by decide +kernel
theorem dX6_ends_8 : decode cX6_ends 8 = .ok (.ifnonnull 5, 3) := by decide +kernel
theorem dX6_ends_11 : decode cX6_ends 11 = .ok (.iconst (-1), 1) := by decide +kernel
theorem dX6_ends_12 : decode cX6_ends 12 = .ok (.ireturn, 1) := by decide +kernel
theorem dX6_ends_13 : decode cX6_ends 13 = .ok (.aload_n 0, 1) := by decide +kernel
theorem dX6_ends_14 : decode cX6_ends 14 = .ok (.invokevirtual 142, 3) := by decide +kernel
theorem dX6_ends_17 : decode cX6_ends 17 = .ok (.aload_n 0, 1) := by decide +kernel
theorem dX6_ends_18 : decode cX6_ends 18 = .ok (.getfield 32, 3) := by decide +kernel
theorem dX6_ends_21 : decode cX6_ends 21 = .ok (.aload_n 0, 1) := by decide +kernel
theorem dX6_ends_22 : decode cX6_ends 22 = .ok (.getfield 32, 3) := by decide +kernel
theorem dX6_ends_25 : decode cX6_ends 25 = .ok (.iload_n 1, 1) := by decide +kernel
theorem dX6_ends_26 : decode cX6_ends 26 = .ok (.invokevirtual 99, 3) := by decide +kernel
theorem dX6_ends_29 : decode cX6_ends 29 = .ok (.invokevirtual 145, 3) := by decide +kernel
theorem dX6_ends_32 : decode cX6_ends 32 = .ok (.ireturn, 1) := by decide +kernel
theorem dX6_tacks_0 : decode cX6_tacks 0 = .ok (.iload_n 1, 1) := by decide +kernel
theorem dX6_tacks_1 : decode cX6_tacks 1 = .ok (.invokestatic 85, 3) := by decide +kernel
theorem dX6_tacks_4 : decode cX6_tacks 4 = .ok (.ifCond .eq 14, 3) := by decide +kernel
theorem dX6_tacks_7 : decode cX6_tacks 7 = .ok (.iload_n 3, 1) := by decide +kernel
theorem dX6_tacks_8 : decode cX6_tacks 8 = .ok (.ifCond .lt 10, 3) := by decide +kernel
theorem dX6_tacks_11 : decode cX6_tacks 11 = .ok (.iload_n 3, 1) := by decide +kernel
theorem dX6_tacks_12 : decode cX6_tacks 12 = .ok (.sipush 256, 3) := by decide +kernel
theorem dX6_tacks_15 : decode cX6_tacks 15 = .ok (.if_icmp .lt 5, 3) := by decide +kernel
theorem dX6_tacks_18 : decode cX6_tacks 18 = .ok (.iconst (-1), 1) := by decide +kernel
theorem dX6_tacks_19 : decode cX6_tacks 19 = .ok (.ireturn, 1) := by decide +kernel
theorem dX6_tacks_20 : decode cX6_tacks 20 = .ok (.aload_n 0, 1) := by decide +kernel
theorem dX6_tacks_21 : decode cX6_tacks 21 = .ok (.iload_n 1, 1) := by decide +kernel
theorem dX6_tacks_22 : decode cX6_tacks 22 = .ok (.iload_n 2, 1) := by decide +kernel
theorem dX6_tacks_23 : decode cX6_tacks 23 = .ok (.iload_n 3, 1) := by decide +kernel
theorem dX6_tacks_24 : decode cX6_tacks 24 = .ok (.invokevirtual 149, 3) := by decide +kernel
theorem dX6_tacks_27 : decode cX6_tacks 27 = .ok (.ireturn, 1) := by decide +kernel
theorem dX6_best_0 : decode cX6_best 0 = .ok (.iload_n 1, 1) := by decide +kernel
theorem dX6_best_1 : decode cX6_best 1 = .ok (.invokestatic 85, 3) := by decide +kernel
theorem dX6_best_4 : decode cX6_best 4 = .ok (.ifCond .eq 12, 3) := by decide +kernel
theorem dX6_best_7 : decode cX6_best 7 = .ok (.iload_n 3, 1) := by decide +kernel
theorem dX6_best_8 : decode cX6_best 8 = .ok (.ifCond .lt 8, 3) := by decide +kernel
theorem dX6_best_11 : decode cX6_best 11 = .ok (.iload_n 3, 1) := by decide +kernel
theorem dX6_best_12 : decode cX6_best 12 = .ok (.iconst 1, 1) := by decide +kernel
theorem dX6_best_13 : decode cX6_best 13 = .ok (.if_icmp .le 5, 3) := by decide +kernel
theorem dX6_best_16 : decode cX6_best 16 = .ok (.iconst (-1), 1) := by decide +kernel
theorem dX6_best_17 : decode cX6_best 17 = .ok (.ireturn, 1) := by decide +kernel
theorem dX6_best_18 : decode cX6_best 18 = .ok (.aload_n 0, 1) := by decide +kernel
theorem dX6_best_19 : decode cX6_best 19 = .ok (.iload_n 1, 1) := by decide +kernel
theorem dX6_best_20 : decode cX6_best 20 = .ok (.iload_n 2, 1) := by decide +kernel
theorem dX6_best_21 : decode cX6_best 21 = .ok (.invokevirtual 153, 3) := by decide +kernel
theorem dX6_best_24 : decode cX6_best 24 = .ok (.istore 4, 2) := by decide +kernel
theorem dX6_best_26 : decode cX6_best 26 = .ok (.iload_n 3, 1) := by decide +kernel
theorem dX6_best_27 : decode cX6_best 27 = .ok (.ifCond .ne 12, 3) := by decide +kernel
theorem dX6_best_30 : decode cX6_best 30 = .ok (.iload 4, 2) := by decide +kernel
theorem dX6_best_32 : decode cX6_best 32 = .ok (.sipush 256, 3) := by decide +kernel
theorem dX6_best_35 : decode cX6_best 35 = .ok (.irem, 1) := by decide +kernel
theorem dX6_best_36 : decode cX6_best 36 = .ok (.goto 9, 3) := by decide +kernel
theorem dX6_best_39 : decode cX6_best 39 = .ok (.iload 4, 2) := by decide +kernel
theorem dX6_best_41 : decode cX6_best 41 = .ok (.sipush 256, 3) := by decide +kernel
theorem dX6_best_44 : decode cX6_best 44 = .ok (.idiv, 1) := by decide +kernel
theorem dX6_best_45 : decode cX6_best 45 = .ok (.ireturn, 1) := by decide +kernel
theorem dX6_sides_0 : decode cX6_sides 0 = .ok (.aload_n 0, 1) := by decide +kernel
theorem dX6_sides_1 : decode cX6_sides 1 = .ok (.bipush 100, 2) := by decide +kernel
theorem dX6_sides_3 : decode cX6_sides 3 = .ok (.iconst 0, 1) := by decide +kernel
theorem dX6_sides_4 : decode cX6_sides 4 = .ok (.invokevirtual 153, 3) := by decide +kernel
theorem dX6_sides_7 : decode cX6_sides 7 = .ok (.aload_n 0, 1) := by decide +kernel
theorem dX6_sides_8 : decode cX6_sides 8 = .ok (.bipush 100, 2) := by decide +kernel
theorem dX6_sides_10 : decode cX6_sides 10 = .ok (.iconst 1, 1) := by decide +kernel
theorem dX6_sides_11 : decode cX6_sides 11 = .ok (.invokevirtual 153, 3) := by decide +kernel
theorem dX6_sides_14 : decode cX6_sides 14 = .ok (.invokestatic 157, 3) := by decide +kernel
theorem dX6_sides_17 : decode cX6_sides 17 = .ok (.sipush 256, 3) := by decide +kernel
theorem dX6_sides_20 : decode cX6_sides 20 = .ok (.idiv, 1) := by decide +kernel
theorem dX6_sides_21 : decode cX6_sides 21 = .ok (.istore_n 1, 1) := by decide +kernel
theorem dX6_sides_22 : decode cX6_sides 22 = .ok (.aload_n 0, 1) := by decide +kernel
theorem dX6_sides_23 : decode cX6_sides 23 = .ok (.bipush (-100), 2) := by decide +kernel
theorem dX6_sides_25 : decode cX6_sides 25 = .ok (.iconst 0, 1) := by decide +kernel
theorem dX6_sides_26 : decode cX6_sides 26 = .ok (.invokevirtual 153, 3) := by decide +kernel
theorem dX6_sides_29 : decode cX6_sides 29 = .ok (.aload_n 0, 1) := by decide +kernel
theorem dX6_sides_30 : decode cX6_sides 30 = .ok (.bipush (-100), 2) := by decide +kernel
theorem dX6_sides_32 : decode cX6_sides 32 = .ok (.iconst 1, 1) := by decide +kernel
theorem dX6_sides_33 : decode cX6_sides 33 = .ok (.invokevirtual 153, 3) := by decide +kernel
theorem dX6_sides_36 : decode cX6_sides 36 = .ok (.invokestatic 157, 3) := by decide +kernel
theorem dX6_sides_39 : decode cX6_sides 39 = .ok (.sipush 256, 3) := by decide +kernel
theorem dX6_sides_42 : decode cX6_sides 42 = .ok (.idiv, 1) := by decide +kernel
theorem dX6_sides_43 : decode cX6_sides 43 = .ok (.istore_n 2, 1) := by decide +kernel
theorem dX6_sides_44 : decode cX6_sides 44 = .ok (.iload_n 1, 1) := by decide +kernel
theorem dX6_sides_45 : decode cX6_sides 45 = .ok (.iload_n 2, 1) := by decide +kernel
theorem dX6_sides_46 : decode cX6_sides 46 = .ok (.isub, 1) := by decide +kernel
theorem dX6_sides_47 : decode cX6_sides 47 = .ok (.ireturn, 1) := by decide +kernel
theorem dX6_lead_0 : decode cX6_lead 0 = .ok (.iload_n 1, 1) := by decide +kernel
theorem dX6_lead_1 : decode cX6_lead 1 = .ok (.iload_n 2, 1) := by decide +kernel
theorem dX6_lead_2 : decode cX6_lead 2 = .ok (.iload_n 3, 1) := by decide +kernel
theorem dX6_lead_3 : decode cX6_lead 3 = .ok (.invokestatic 162, 3) := by decide +kernel
theorem dX6_lead_6 : decode cX6_lead 6 = .ok (.ifCond .eq 19, 3) := by decide +kernel
theorem dX6_lead_9 : decode cX6_lead 9 = .ok (.iload 4, 2) := by decide +kernel
theorem dX6_lead_11 : decode cX6_lead 11 = .ok (.invokestatic 166, 3) := by decide +kernel
theorem dX6_lead_14 : decode cX6_lead 14 = .ok (.ifCond .eq 11, 3) := by decide +kernel
theorem dX6_lead_17 : decode cX6_lead 17 = .ok (.iload 5, 2) := by decide +kernel
theorem dX6_lead_19 : decode cX6_lead 19 = .ok (.invokestatic 166, 3) := by decide +kernel
theorem dX6_lead_22 : decode cX6_lead 22 = .ok (.ifCond .ne 6, 3) := by decide +kernel
theorem dX6_lead_25 : decode cX6_lead 25 = .ok (.ldc 80, 2) := by decide +kernel
theorem dX6_lead_27 : decode cX6_lead 27 = .ok (.ireturn, 1) := by decide +kernel
theorem dX6_lead_28 : decode cX6_lead 28 = .ok (.aload_n 0, 1) := by decide +kernel
theorem dX6_lead_29 : decode cX6_lead 29 = .ok (.iload_n 1, 1) := by decide +kernel
theorem dX6_lead_30 : decode cX6_lead 30 = .ok (.iload_n 2, 1) := by decide +kernel
theorem dX6_lead_31 : decode cX6_lead 31 = .ok (.iload_n 3, 1) := by decide +kernel
theorem dX6_lead_32 : decode cX6_lead 32 = .ok (.iload 4, 2) := by decide +kernel
theorem dX6_lead_34 : decode cX6_lead 34 = .ok (.iload 5, 2) := by decide +kernel
theorem dX6_lead_36 : decode cX6_lead 36 = .ok (.invokevirtual 169, 3) := by decide +kernel
theorem dX6_lead_39 : decode cX6_lead 39 = .ok (.ireturn, 1) := by decide +kernel
theorem dX6_safe_0 : decode cX6_safe 0 = .ok (.iload_n 1, 1) := by decide +kernel
theorem dX6_safe_1 : decode cX6_safe 1 = .ok (.iload_n 2, 1) := by decide +kernel
theorem dX6_safe_2 : decode cX6_safe 2 = .ok (.iload_n 3, 1) := by decide +kernel
theorem dX6_safe_3 : decode cX6_safe 3 = .ok (.invokestatic 162, 3) := by decide +kernel
theorem dX6_safe_6 : decode cX6_safe 6 = .ok (.ifCond .eq 14, 3) := by decide +kernel
theorem dX6_safe_9 : decode cX6_safe 9 = .ok (.iload 4, 2) := by decide +kernel
theorem dX6_safe_11 : decode cX6_safe 11 = .ok (.ifCond .lt 9, 3) := by decide +kernel
theorem dX6_safe_14 : decode cX6_safe 14 = .ok (.iload 4, 2) := by decide +kernel
theorem dX6_safe_16 : decode cX6_safe 16 = .ok (.iconst 1, 1) := by decide +kernel
theorem dX6_safe_17 : decode cX6_safe 17 = .ok (.if_icmp .le 6, 3) := by decide +kernel
theorem dX6_safe_20 : decode cX6_safe 20 = .ok (.ldc 80, 2) := by decide +kernel
theorem dX6_safe_22 : decode cX6_safe 22 = .ok (.ireturn, 1) := by decide +kernel
theorem dX6_safe_23 : decode cX6_safe 23 = .ok (.iconst 0, 1) := by decide +kernel
theorem dX6_safe_24 : decode cX6_safe 24 = .ok (.istore 5, 2) := by decide +kernel
theorem dX6_safe_26 : decode cX6_safe 26 = .ok (.aload_n 0, 1) := by decide +kernel
theorem dX6_safe_27 : decode cX6_safe 27 = .ok (.iload_n 1, 1) := by decide +kernel
theorem dX6_safe_28 : decode cX6_safe 28 = .ok (.iload_n 2, 1) := by decide +kernel
theorem dX6_safe_29 : decode cX6_safe 29 = .ok (.iload_n 3, 1) := by decide +kernel
theorem dX6_safe_30 : decode cX6_safe 30 = .ok (.iconst 0, 1) := by decide +kernel
theorem dX6_safe_31 : decode cX6_safe 31 = .ok (.invokevirtual 173, 3) := by decide +kernel
theorem dX6_safe_34 : decode cX6_safe 34 = .ok (.bipush 16, 2) := by decide +kernel
theorem dX6_safe_36 : decode cX6_safe 36 = .ok (.invokestatic 177, 3) := by decide +kernel
theorem dX6_safe_39 : decode cX6_safe 39 = .ok (.istore 6, 2) := by decide +kernel
theorem dX6_safe_41 : decode cX6_safe 41 = .ok (.iconst 1, 1) := by decide +kernel
theorem dX6_safe_42 : decode cX6_safe 42 = .ok (.istore 7, 2) := by decide +kernel
theorem dX6_safe_44 : decode cX6_safe 44 = .ok (.iload 7, 2) := by decide +kernel
theorem dX6_safe_46 : decode cX6_safe 46 = .ok (.bipush 16, 2) := by decide +kernel
theorem dX6_safe_48 : decode cX6_safe 48 = .ok (.if_icmp .ge 40, 3) := by decide +kernel
theorem dX6_safe_51 : decode cX6_safe 51 = .ok (.aload_n 0, 1) := by decide +kernel
theorem dX6_safe_52 : decode cX6_safe 52 = .ok (.iload_n 1, 1) := by decide +kernel
theorem dX6_safe_53 : decode cX6_safe 53 = .ok (.iload_n 2, 1) := by decide +kernel
theorem dX6_safe_54 : decode cX6_safe 54 = .ok (.iload_n 3, 1) := by decide +kernel
theorem dX6_safe_55 : decode cX6_safe 55 = .ok (.iload 7, 2) := by decide +kernel
theorem dX6_safe_57 : decode cX6_safe 57 = .ok (.invokevirtual 173, 3) := by decide +kernel
theorem dX6_safe_60 : decode cX6_safe 60 = .ok (.bipush 16, 2) := by decide +kernel
theorem dX6_safe_62 : decode cX6_safe 62 = .ok (.invokestatic 177, 3) := by decide +kernel
theorem dX6_safe_65 : decode cX6_safe 65 = .ok (.istore 8, 2) := by decide +kernel
theorem dX6_safe_67 : decode cX6_safe 67 = .ok (.iload 8, 2) := by decide +kernel
theorem dX6_safe_69 : decode cX6_safe 69 = .ok (.iload 6, 2) := by decide +kernel
theorem dX6_safe_71 : decode cX6_safe 71 = .ok (.if_icmp .le 11, 3) := by decide +kernel
theorem dX6_safe_74 : decode cX6_safe 74 = .ok (.iload 8, 2) := by decide +kernel
theorem dX6_safe_76 : decode cX6_safe 76 = .ok (.istore 6, 2) := by decide +kernel
theorem dX6_safe_78 : decode cX6_safe 78 = .ok (.iload 7, 2) := by decide +kernel
theorem dX6_safe_80 : decode cX6_safe 80 = .ok (.istore 5, 2) := by decide +kernel
theorem dX6_safe_82 : decode cX6_safe 82 = .ok (.iinc 7 1, 3) := by decide +kernel
theorem dX6_safe_85 : decode cX6_safe 85 = .ok (.goto (-41), 3) := by decide +kernel
theorem dX6_safe_88 : decode cX6_safe 88 = .ok (.iload 4, 2) := by decide +kernel
theorem dX6_safe_90 : decode cX6_safe 90 = .ok (.ifCond .ne 8, 3) := by decide +kernel
theorem dX6_safe_93 : decode cX6_safe 93 = .ok (.iload 6, 2) := by decide +kernel
theorem dX6_safe_95 : decode cX6_safe 95 = .ok (.goto 5, 3) := by decide +kernel
theorem dX6_safe_98 : decode cX6_safe 98 = .ok (.iload 5, 2) := by decide +kernel
theorem dX6_safe_100 : decode cX6_safe 100 = .ok (.ireturn, 1) := by decide +kernel
theorem dX6_answer_0 : decode cX6_answer 0 = .ok (.iload_n 1, 1) := by decide +kernel
theorem dX6_answer_1 : decode cX6_answer 1 = .ok (.iload_n 2, 1) := by decide +kernel
theorem dX6_answer_2 : decode cX6_answer 2 = .ok (.iload_n 3, 1) := by decide +kernel
theorem dX6_answer_3 : decode cX6_answer 3 = .ok (.invokestatic 162, 3) := by decide +kernel
theorem dX6_answer_6 : decode cX6_answer 6 = .ok (.ifCond .eq 11, 3) := by decide +kernel
theorem dX6_answer_9 : decode cX6_answer 9 = .ok (.iload 4, 2) := by decide +kernel
theorem dX6_answer_11 : decode cX6_answer 11 = .ok (.invokestatic 166, 3) := by decide +kernel
theorem dX6_answer_14 : decode cX6_answer 14 = .ok (.ifCond .ne 5, 3) := by decide +kernel
theorem dX6_answer_17 : decode cX6_answer 17 = .ok (.iconst (-1), 1) := by decide +kernel
theorem dX6_answer_18 : decode cX6_answer 18 = .ok (.ireturn, 1) := by decide +kernel
theorem dX6_answer_19 : decode cX6_answer 19 = .ok (.aload_n 0, 1) := by decide +kernel
theorem dX6_answer_20 : decode cX6_answer 20 = .ok (.iload_n 1, 1) := by decide +kernel
theorem dX6_answer_21 : decode cX6_answer 21 = .ok (.iload_n 2, 1) := by decide +kernel
theorem dX6_answer_22 : decode cX6_answer 22 = .ok (.iload_n 3, 1) := by decide +kernel
theorem dX6_answer_23 : decode cX6_answer 23 = .ok (.iload 4, 2) := by decide +kernel
theorem dX6_answer_25 : decode cX6_answer 25 = .ok (.invokevirtual 173, 3) := by decide +kernel
theorem dX6_answer_28 : decode cX6_answer 28 = .ok (.bipush 16, 2) := by decide +kernel
theorem dX6_answer_30 : decode cX6_answer 30 = .ok (.invokestatic 180, 3) := by decide +kernel
theorem dX6_answer_33 : decode cX6_answer 33 = .ok (.ireturn, 1) := by decide +kernel
theorem dX6_cover_0 : decode cX6_cover 0 = .ok (.iload_n 1, 1) := by decide +kernel
theorem dX6_cover_1 : decode cX6_cover 1 = .ok (.iload_n 2, 1) := by decide +kernel
theorem dX6_cover_2 : decode cX6_cover 2 = .ok (.iload_n 3, 1) := by decide +kernel
theorem dX6_cover_3 : decode cX6_cover 3 = .ok (.invokestatic 162, 3) := by decide +kernel
theorem dX6_cover_6 : decode cX6_cover 6 = .ok (.ifCond .eq 11, 3) := by decide +kernel
theorem dX6_cover_9 : decode cX6_cover 9 = .ok (.iload 4, 2) := by decide +kernel
theorem dX6_cover_11 : decode cX6_cover 11 = .ok (.invokestatic 166, 3) := by decide +kernel
theorem dX6_cover_14 : decode cX6_cover 14 = .ok (.ifCond .ne 6, 3) := by decide +kernel
theorem dX6_cover_17 : decode cX6_cover 17 = .ok (.ldc 80, 2) := by decide +kernel
theorem dX6_cover_19 : decode cX6_cover 19 = .ok (.ireturn, 1) := by decide +kernel
theorem dX6_cover_20 : decode cX6_cover 20 = .ok (.aload_n 0, 1) := by decide +kernel
theorem dX6_cover_21 : decode cX6_cover 21 = .ok (.iload_n 1, 1) := by decide +kernel
theorem dX6_cover_22 : decode cX6_cover 22 = .ok (.iload_n 2, 1) := by decide +kernel
theorem dX6_cover_23 : decode cX6_cover 23 = .ok (.iload_n 3, 1) := by decide +kernel
theorem dX6_cover_24 : decode cX6_cover 24 = .ok (.iload 4, 2) := by decide +kernel
theorem dX6_cover_26 : decode cX6_cover 26 = .ok (.iload 4, 2) := by decide +kernel
theorem dX6_cover_28 : decode cX6_cover 28 = .ok (.invokevirtual 169, 3) := by decide +kernel
theorem dX6_cover_31 : decode cX6_cover 31 = .ok (.ireturn, 1) := by decide +kernel
theorem dX6_which_0 : decode cX6_which 0 = .ok (.aload_n 0, 1) := by decide +kernel
theorem dX6_which_1 : decode cX6_which 1 = .ok (.iload_n 1, 1) := by decide +kernel
theorem dX6_which_2 : decode cX6_which 2 = .ok (.invokevirtual 54, 3) := by decide +kernel
theorem dX6_which_5 : decode cX6_which 5 = .ok (.astore_n 2, 1) := by decide +kernel
theorem dX6_which_6 : decode cX6_which 6 = .ok (.aload_n 2, 1) := by decide +kernel
theorem dX6_which_7 : decode cX6_which 7 = .ok (.ifnonnull 5, 3) := by decide +kernel
theorem dX6_which_10 : decode cX6_which 10 = .ok (.iconst (-1), 1) := by decide +kernel
theorem dX6_which_11 : decode cX6_which 11 = .ok (.ireturn, 1) := by decide +kernel
theorem dX6_which_12 : decode cX6_which 12 = .ok (.aload_n 2, 1) := by decide +kernel
theorem dX6_which_13 : decode cX6_which 13 = .ok (.invokevirtual 183, 3) := by decide +kernel
theorem dX6_which_16 : decode cX6_which 16 = .ok (.istore_n 3, 1) := by decide +kernel
theorem dX6_which_17 : decode cX6_which 17 = .ok (.iload_n 3, 1) := by decide +kernel
theorem dX6_which_18 : decode cX6_which 18 = .ok (.ifCond .eq 7, 3) := by decide +kernel
theorem dX6_which_21 : decode cX6_which 21 = .ok (.iload_n 3, 1) := by decide +kernel
theorem dX6_which_22 : decode cX6_which 22 = .ok (.goto 7, 3) := by decide +kernel
theorem dX6_which_25 : decode cX6_which 25 = .ok (.aload_n 2, 1) := by decide +kernel
theorem dX6_which_26 : decode cX6_which 26 = .ok (.invokevirtual 186, 3) := by decide +kernel
theorem dX6_which_29 : decode cX6_which 29 = .ok (.ireturn, 1) := by decide +kernel
theorem dX6_read_0 : decode cX6_read 0 = .ok (.aload_n 0, 1) := by decide +kernel
theorem dX6_read_1 : decode cX6_read 1 = .ok (.iload_n 2, 1) := by decide +kernel
theorem dX6_read_2 : decode cX6_read 2 = .ok (.invokevirtual 54, 3) := by decide +kernel
theorem dX6_read_5 : decode cX6_read 5 = .ok (.astore_n 3, 1) := by decide +kernel
theorem dX6_read_6 : decode cX6_read 6 = .ok (.aload_n 3, 1) := by decide +kernel
theorem dX6_read_7 : decode cX6_read 7 = .ok (.ifnull 14, 3) := by decide +kernel
theorem dX6_read_10 : decode cX6_read 10 = .ok (.aload_n 0, 1) := by decide +kernel
theorem dX6_read_11 : decode cX6_read 11 = .ok (.getfield 19, 3) := by decide +kernel
theorem dX6_read_14 : decode cX6_read 14 = .ok (.iload_n 1, 1) := by decide +kernel
theorem dX6_read_15 : decode cX6_read 15 = .ok (.invokevirtual 99, 3) := by decide +kernel
theorem dX6_read_18 : decode cX6_read 18 = .ok (.ifnonnull 5, 3) := by decide +kernel
theorem dX6_read_21 : decode cX6_read 21 = .ok (.iconst (-1), 1) := by decide +kernel
theorem dX6_read_22 : decode cX6_read 22 = .ok (.ireturn, 1) := by decide +kernel
theorem dX6_read_23 : decode cX6_read 23 = .ok (.aload_n 3, 1) := by decide +kernel
theorem dX6_read_24 : decode cX6_read 24 = .ok (.invokevirtual 183, 3) := by decide +kernel
theorem dX6_read_27 : decode cX6_read 27 = .ok (.istore 4, 2) := by decide +kernel
theorem dX6_read_29 : decode cX6_read 29 = .ok (.iload 4, 2) := by decide +kernel
theorem dX6_read_31 : decode cX6_read 31 = .ok (.ifCond .eq 8, 3) := by decide +kernel
theorem dX6_read_34 : decode cX6_read 34 = .ok (.iload 4, 2) := by decide +kernel
theorem dX6_read_36 : decode cX6_read 36 = .ok (.goto 9, 3) := by decide +kernel
theorem dX6_read_39 : decode cX6_read 39 = .ok (.aload_n 0, 1) := by decide +kernel
theorem dX6_read_40 : decode cX6_read 40 = .ok (.iload_n 1, 1) := by decide +kernel
theorem dX6_read_41 : decode cX6_read 41 = .ok (.aload_n 3, 1) := by decide +kernel
theorem dX6_read_42 : decode cX6_read 42 = .ok (.invokevirtual 189, 3) := by decide +kernel
theorem dX6_read_45 : decode cX6_read 45 = .ok (.ireturn, 1) := by decide +kernel
theorem dX6_worth_0 : decode cX6_worth 0 = .ok (.iload_n 1, 1) := by decide +kernel
theorem dX6_worth_1 : decode cX6_worth 1 = .ok (.ifCond .lt 20, 3) := by decide +kernel
theorem dX6_worth_4 : decode cX6_worth 4 = .ok (.iload_n 1, 1) := by decide +kernel
theorem dX6_worth_5 : decode cX6_worth 5 = .ok (.bipush 100, 2) := by decide +kernel
theorem dX6_worth_7 : decode cX6_worth 7 = .ok (.if_icmp .gt 14, 3) := by decide +kernel
theorem dX6_worth_10 : decode cX6_worth 10 = .ok (.iload_n 2, 1) := by decide +kernel
theorem dX6_worth_11 : decode cX6_worth 11 = .ok (.iconst 1, 1) := by decide +kernel
theorem dX6_worth_12 : decode cX6_worth 12 = .ok (.if_icmp .lt 9, 3) := by decide +kernel
theorem dX6_worth_15 : decode cX6_worth 15 = .ok (.iload_n 2, 1) := by decide +kernel
theorem dX6_worth_16 : decode cX6_worth 16 = .ok (.bipush 20, 2) := by decide +kernel
theorem dX6_worth_18 : decode cX6_worth 18 = .ok (.if_icmp .le 5, 3) := by decide +kernel
theorem dX6_worth_21 : decode cX6_worth 21 = .ok (.iconst (-1), 1) := by decide +kernel
theorem dX6_worth_22 : decode cX6_worth 22 = .ok (.ireturn, 1) := by decide +kernel
theorem dX6_worth_23 : decode cX6_worth 23 = .ok (.aload_n 0, 1) := by decide +kernel
theorem dX6_worth_24 : decode cX6_worth 24 = .ok (.getfield 19, 3) := by decide +kernel
theorem dX6_worth_27 : decode cX6_worth 27 = .ok (.getfield 115, 3) := by decide +kernel
theorem dX6_worth_30 : decode cX6_worth 30 = .ok (.iconst 2, 1) := by decide +kernel
theorem dX6_worth_31 : decode cX6_worth 31 = .ok (.if_icmp .ge 6, 3) := by decide +kernel
theorem dX6_worth_34 : decode cX6_worth 34 = .ok (.bipush (-3), 2) := by decide +kernel
theorem dX6_worth_36 : decode cX6_worth 36 = .ok (.ireturn, 1) := by decide +kernel
theorem dX6_worth_37 : decode cX6_worth 37 = .ok (.aload_n 0, 1) := by decide +kernel
theorem dX6_worth_38 : decode cX6_worth 38 = .ok (.getfield 29, 3) := by decide +kernel
theorem dX6_worth_41 : decode cX6_worth 41 = .ok (.aload_n 0, 1) := by decide +kernel
theorem dX6_worth_42 : decode cX6_worth 42 = .ok (.getfield 10, 3) := by decide +kernel
theorem dX6_worth_45 : decode cX6_worth 45 = .ok (.invokevirtual 193, 3) := by decide +kernel
theorem dX6_worth_48 : decode cX6_worth 48 = .ok (.iconst 0, 1) := by decide +kernel
theorem dX6_worth_49 : decode cX6_worth 49 = .ok (.istore_n 3, 1) := by decide +kernel
theorem dX6_worth_50 : decode cX6_worth 50 = .ok (.iconst 0, 1) := by decide +kernel
theorem dX6_worth_51 : decode cX6_worth 51 = .ok (.istore 4, 2) := by decide +kernel
theorem dX6_worth_53 : decode cX6_worth 53 = .ok (.iload 4, 2) := by decide +kernel
theorem dX6_worth_55 : decode cX6_worth 55 = .ok (.iload_n 2, 1) := by decide +kernel
theorem dX6_worth_56 : decode cX6_worth 56 = .ok (.if_icmp .ge 31, 3) := by decide +kernel
theorem dX6_worth_59 : decode cX6_worth 59 = .ok (.aload_n 0, 1) := by decide +kernel
theorem dX6_worth_60 : decode cX6_worth 60 = .ok (.getfield 29, 3) := by decide +kernel
theorem dX6_worth_63 : decode cX6_worth 63 = .ok (.iconst 4, 1) := by decide +kernel
theorem dX6_worth_64 : decode cX6_worth 64 = .ok (.iload 4, 2) := by decide +kernel
theorem dX6_worth_66 : decode cX6_worth 66 = .ok (.invokevirtual 50, 3) := by decide +kernel
theorem dX6_worth_69 : decode cX6_worth 69 = .ok (.pop, 1) := by decide +kernel
theorem dX6_worth_70 : decode cX6_worth 70 = .ok (.aload_n 0, 1) := by decide +kernel
theorem dX6_worth_71 : decode cX6_worth 71 = .ok (.iload_n 1, 1) := by decide +kernel
theorem dX6_worth_72 : decode cX6_worth 72 = .ok (.invokevirtual 197, 3) := by decide +kernel
theorem dX6_worth_75 : decode cX6_worth 75 = .ok (.ifCond .eq 6, 3) := by decide +kernel
theorem dX6_worth_78 : decode cX6_worth 78 = .ok (.iinc 3 1, 3) := by decide +kernel
theorem dX6_worth_81 : decode cX6_worth 81 = .ok (.iinc 4 1, 3) := by decide +kernel
theorem dX6_worth_84 : decode cX6_worth 84 = .ok (.goto (-31), 3) := by decide +kernel
theorem dX6_worth_87 : decode cX6_worth 87 = .ok (.iload_n 3, 1) := by decide +kernel
theorem dX6_worth_88 : decode cX6_worth 88 = .ok (.ireturn, 1) := by decide +kernel
theorem dX6_pairs_0 : decode cX6_pairs 0 = .ok (.aload_n 0, 1) := by decide +kernel
theorem dX6_pairs_1 : decode cX6_pairs 1 = .ok (.getfield 19, 3) := by decide +kernel
theorem dX6_pairs_4 : decode cX6_pairs 4 = .ok (.getfield 115, 3) := by decide +kernel
theorem dX6_pairs_7 : decode cX6_pairs 7 = .ok (.iconst 4, 1) := by decide +kernel
theorem dX6_pairs_8 : decode cX6_pairs 8 = .ok (.if_icmp .eq 6, 3) := by decide +kernel
theorem dX6_pairs_11 : decode cX6_pairs 11 = .ok (.bipush (-3), 2) := by decide +kernel
theorem dX6_pairs_13 : decode cX6_pairs 13 = .ok (.ireturn, 1) := by decide +kernel
theorem dX6_pairs_14 : decode cX6_pairs 14 = .ok (.aload_n 0, 1) := by decide +kernel
theorem dX6_pairs_15 : decode cX6_pairs 15 = .ok (.invokevirtual 142, 3) := by decide +kernel
theorem dX6_pairs_18 : decode cX6_pairs 18 = .ok (.aload_n 0, 1) := by decide +kernel
theorem dX6_pairs_19 : decode cX6_pairs 19 = .ok (.getfield 32, 3) := by decide +kernel
theorem dX6_pairs_22 : decode cX6_pairs 22 = .ok (.aload_n 0, 1) := by decide +kernel
theorem dX6_pairs_23 : decode cX6_pairs 23 = .ok (.getfield 32, 3) := by decide +kernel
theorem dX6_pairs_26 : decode cX6_pairs 26 = .ok (.iconst 0, 1) := by decide +kernel
theorem dX6_pairs_27 : decode cX6_pairs 27 = .ok (.invokevirtual 99, 3) := by decide +kernel
theorem dX6_pairs_30 : decode cX6_pairs 30 = .ok (.invokevirtual 145, 3) := by decide +kernel
theorem dX6_pairs_33 : decode cX6_pairs 33 = .ok (.aload_n 0, 1) := by decide +kernel
theorem dX6_pairs_34 : decode cX6_pairs 34 = .ok (.getfield 32, 3) := by decide +kernel
theorem dX6_pairs_37 : decode cX6_pairs 37 = .ok (.aload_n 0, 1) := by decide +kernel
theorem dX6_pairs_38 : decode cX6_pairs 38 = .ok (.getfield 32, 3) := by decide +kernel
theorem dX6_pairs_41 : decode cX6_pairs 41 = .ok (.iconst 1, 1) := by decide +kernel
theorem dX6_pairs_42 : decode cX6_pairs 42 = .ok (.invokevirtual 99, 3) := by decide +kernel
theorem dX6_pairs_45 : decode cX6_pairs 45 = .ok (.invokevirtual 145, 3) := by decide +kernel
theorem dX6_pairs_48 : decode cX6_pairs 48 = .ok (.iadd, 1) := by decide +kernel
theorem dX6_pairs_49 : decode cX6_pairs 49 = .ok (.ireturn, 1) := by decide +kernel
theorem dX6_image_0 : decode cX6_image 0 = .ok (.aload_n 0, 1) := by decide +kernel
theorem dX6_image_1 : decode cX6_image 1 = .ok (.getfield 23, 3) := by decide +kernel
theorem dX6_image_4 : decode cX6_image 4 = .ok (.aload_n 0, 1) := by decide +kernel
theorem dX6_image_5 : decode cX6_image 5 = .ok (.getfield 10, 3) := by decide +kernel
theorem dX6_image_8 : decode cX6_image 8 = .ok (.invokevirtual 193, 3) := by decide +kernel
theorem dX6_image_11 : decode cX6_image 11 = .ok (.aload_n 0, 1) := by decide +kernel
theorem dX6_image_12 : decode cX6_image 12 = .ok (.getfield 26, 3) := by decide +kernel
theorem dX6_image_15 : decode cX6_image 15 = .ok (.aload_n 0, 1) := by decide +kernel
theorem dX6_image_16 : decode cX6_image 16 = .ok (.getfield 19, 3) := by decide +kernel
theorem dX6_image_19 : decode cX6_image 19 = .ok (.invokevirtual 200, 3) := by decide +kernel
theorem dX6_image_22 : decode cX6_image 22 = .ok (.aload_n 0, 1) := by decide +kernel
theorem dX6_image_23 : decode cX6_image 23 = .ok (.iconst 1, 1) := by decide +kernel
theorem dX6_image_24 : decode cX6_image 24 = .ok (.putfield 203, 3) := by decide +kernel
theorem dX6_image_27 : decode cX6_image 27 = .ok (.aload_n 0, 1) := by decide +kernel
theorem dX6_image_28 : decode cX6_image 28 = .ok (.getfield 19, 3) := by decide +kernel
theorem dX6_image_31 : decode cX6_image 31 = .ok (.getfield 92, 3) := by decide +kernel
theorem dX6_image_34 : decode cX6_image 34 = .ok (.ireturn, 1) := by decide +kernel
theorem dX6_restore_0 : decode cX6_restore 0 = .ok (.aload_n 0, 1) := by decide +kernel
theorem dX6_restore_1 : decode cX6_restore 1 = .ok (.getfield 203, 3) := by decide +kernel
theorem dX6_restore_4 : decode cX6_restore 4 = .ok (.ifCond .ne 6, 3) := by decide +kernel
theorem dX6_restore_7 : decode cX6_restore 7 = .ok (.bipush (-3), 2) := by decide +kernel
theorem dX6_restore_9 : decode cX6_restore 9 = .ok (.ireturn, 1) := by decide +kernel
theorem dX6_restore_10 : decode cX6_restore 10 = .ok (.aload_n 0, 1) := by decide +kernel
theorem dX6_restore_11 : decode cX6_restore 11 = .ok (.getfield 10, 3) := by decide +kernel
theorem dX6_restore_14 : decode cX6_restore 14 = .ok (.aload_n 0, 1) := by decide +kernel
theorem dX6_restore_15 : decode cX6_restore 15 = .ok (.getfield 23, 3) := by decide +kernel
theorem dX6_restore_18 : decode cX6_restore 18 = .ok (.invokevirtual 193, 3) := by decide +kernel
theorem dX6_restore_21 : decode cX6_restore 21 = .ok (.aload_n 0, 1) := by decide +kernel
theorem dX6_restore_22 : decode cX6_restore 22 = .ok (.getfield 19, 3) := by decide +kernel
theorem dX6_restore_25 : decode cX6_restore 25 = .ok (.aload_n 0, 1) := by decide +kernel
theorem dX6_restore_26 : decode cX6_restore 26 = .ok (.getfield 26, 3) := by decide +kernel
theorem dX6_restore_29 : decode cX6_restore 29 = .ok (.invokevirtual 200, 3) := by decide +kernel
theorem dX6_restore_32 : decode cX6_restore 32 = .ok (.aload_n 0, 1) := by decide +kernel
theorem dX6_restore_33 : decode cX6_restore 33 = .ok (.getfield 19, 3) := by decide +kernel
theorem dX6_restore_36 : decode cX6_restore 36 = .ok (.getfield 92, 3) := by decide +kernel
theorem dX6_restore_39 : decode cX6_restore 39 = .ok (.ireturn, 1) := by decide +kernel
theorem dX6_count_0 : decode cX6_count 0 = .ok (.iload_n 1, 1) := by decide +kernel
theorem dX6_count_1 : decode cX6_count 1 = .ok (.tableswitch 87 0 5 #[39, 47, 55, 63, 71, 79], 39) := by decide +kernel
theorem dX6_count_40 : decode cX6_count 40 = .ok (.aload_n 0, 1) := by decide +kernel
theorem dX6_count_41 : decode cX6_count 41 = .ok (.getfield 19, 3) := by decide +kernel
theorem dX6_count_44 : decode cX6_count 44 = .ok (.getfield 115, 3) := by decide +kernel
theorem dX6_count_47 : decode cX6_count 47 = .ok (.ireturn, 1) := by decide +kernel
theorem dX6_count_48 : decode cX6_count 48 = .ok (.aload_n 0, 1) := by decide +kernel
theorem dX6_count_49 : decode cX6_count 49 = .ok (.getfield 19, 3) := by decide +kernel
theorem dX6_count_52 : decode cX6_count 52 = .ok (.getfield 92, 3) := by decide +kernel
theorem dX6_count_55 : decode cX6_count 55 = .ok (.ireturn, 1) := by decide +kernel
theorem dX6_count_56 : decode cX6_count 56 = .ok (.aload_n 0, 1) := by decide +kernel
theorem dX6_count_57 : decode cX6_count 57 = .ok (.getfield 19, 3) := by decide +kernel
theorem dX6_count_60 : decode cX6_count 60 = .ok (.invokevirtual 206, 3) := by decide +kernel
theorem dX6_count_63 : decode cX6_count 63 = .ok (.ireturn, 1) := by decide +kernel
theorem dX6_count_64 : decode cX6_count 64 = .ok (.aload_n 0, 1) := by decide +kernel
theorem dX6_count_65 : decode cX6_count 65 = .ok (.getfield 19, 3) := by decide +kernel
theorem dX6_count_68 : decode cX6_count 68 = .ok (.invokevirtual 209, 3) := by decide +kernel
theorem dX6_count_71 : decode cX6_count 71 = .ok (.ireturn, 1) := by decide +kernel
theorem dX6_count_72 : decode cX6_count 72 = .ok (.aload_n 0, 1) := by decide +kernel
theorem dX6_count_73 : decode cX6_count 73 = .ok (.getfield 19, 3) := by decide +kernel
theorem dX6_count_76 : decode cX6_count 76 = .ok (.invokevirtual 212, 3) := by decide +kernel
theorem dX6_count_79 : decode cX6_count 79 = .ok (.ireturn, 1) := by decide +kernel
theorem dX6_count_80 : decode cX6_count 80 = .ok (.aload_n 0, 1) := by decide +kernel
theorem dX6_count_81 : decode cX6_count 81 = .ok (.getfield 10, 3) := by decide +kernel
theorem dX6_count_84 : decode cX6_count 84 = .ok (.getfield 215, 3) := by decide +kernel
theorem dX6_count_87 : decode cX6_count 87 = .ok (.ireturn, 1) := by decide +kernel
theorem dX6_count_88 : decode cX6_count 88 = .ok (.iconst (-1), 1) := by decide +kernel
theorem dX6_count_89 : decode cX6_count 89 = .ok (.ireturn, 1) := by decide +kernel
theorem dX6_keep_0 : decode cX6_keep 0 = .ok (.aload_n 0, 1) := by decide +kernel
theorem dX6_keep_1 : decode cX6_keep 1 = .ok (.iload_n 1, 1) := by decide +kernel
theorem dX6_keep_2 : decode cX6_keep 2 = .ok (.invokevirtual 54, 3) := by decide +kernel
theorem dX6_keep_5 : decode cX6_keep 5 = .ok (.astore 4, 2) := by decide +kernel
theorem dX6_keep_7 : decode cX6_keep 7 = .ok (.aload 4, 2) := by decide +kernel
theorem dX6_keep_9 : decode cX6_keep 9 = .ok (.ifnull 12, 3) := by decide +kernel
theorem dX6_keep_12 : decode cX6_keep 12 = .ok (.iload_n 2, 1) := by decide +kernel
theorem dX6_keep_13 : decode cX6_keep 13 = .ok (.ifCond .lt 8, 3) := by decide +kernel
theorem dX6_keep_16 : decode cX6_keep 16 = .ok (.iload_n 2, 1) := by decide +kernel
theorem dX6_keep_17 : decode cX6_keep 17 = .ok (.iconst 1, 1) := by decide +kernel
theorem dX6_keep_18 : decode cX6_keep 18 = .ok (.if_icmp .le 5, 3) := by decide +kernel
theorem dX6_keep_21 : decode cX6_keep 21 = .ok (.iconst (-1), 1) := by decide +kernel
theorem dX6_keep_22 : decode cX6_keep 22 = .ok (.ireturn, 1) := by decide +kernel
theorem dX6_keep_23 : decode cX6_keep 23 = .ok (.iload_n 2, 1) := by decide +kernel
theorem dX6_keep_24 : decode cX6_keep 24 = .ok (.ifCond .ne 11, 3) := by decide +kernel
theorem dX6_keep_27 : decode cX6_keep 27 = .ok (.aload 4, 2) := by decide +kernel
theorem dX6_keep_29 : decode cX6_keep 29 = .ok (.iconst 0, 1) := by decide +kernel
theorem dX6_keep_30 : decode cX6_keep 30 = .ok (.putfield 218, 3) := by decide +kernel
theorem dX6_keep_33 : decode cX6_keep 33 = .ok (.iconst 0, 1) := by decide +kernel
theorem dX6_keep_34 : decode cX6_keep 34 = .ok (.ireturn, 1) := by decide +kernel
theorem dX6_keep_35 : decode cX6_keep 35 = .ok (.aload_n 0, 1) := by decide +kernel
theorem dX6_keep_36 : decode cX6_keep 36 = .ok (.getfield 19, 3) := by decide +kernel
theorem dX6_keep_39 : decode cX6_keep 39 = .ok (.iload_n 3, 1) := by decide +kernel
theorem dX6_keep_40 : decode cX6_keep 40 = .ok (.invokevirtual 99, 3) := by decide +kernel
theorem dX6_keep_43 : decode cX6_keep 43 = .ok (.astore 5, 2) := by decide +kernel
theorem dX6_keep_45 : decode cX6_keep 45 = .ok (.aload 5, 2) := by decide +kernel
theorem dX6_keep_47 : decode cX6_keep 47 = .ok (.ifnonnull 5, 3) := by decide +kernel
theorem dX6_keep_50 : decode cX6_keep 50 = .ok (.iconst (-1), 1) := by decide +kernel
theorem dX6_keep_51 : decode cX6_keep 51 = .ok (.ireturn, 1) := by decide +kernel
theorem dX6_keep_52 : decode cX6_keep 52 = .ok (.aload 4, 2) := by decide +kernel
theorem dX6_keep_54 : decode cX6_keep 54 = .ok (.aload 5, 2) := by decide +kernel
theorem dX6_keep_56 : decode cX6_keep 56 = .ok (.getfield 221, 3) := by decide +kernel
theorem dX6_keep_59 : decode cX6_keep 59 = .ok (.invokevirtual 225, 3) := by decide +kernel
theorem dX6_keep_62 : decode cX6_keep 62 = .ok (.iconst 0, 1) := by decide +kernel
theorem dX6_keep_63 : decode cX6_keep 63 = .ok (.ireturn, 1) := by decide +kernel
theorem dX6_row_0 : decode cX6_row 0 = .ok (.aload_n 0, 1) := by decide +kernel
theorem dX6_row_1 : decode cX6_row 1 = .ok (.iload_n 1, 1) := by decide +kernel
theorem dX6_row_2 : decode cX6_row 2 = .ok (.invokevirtual 54, 3) := by decide +kernel
theorem dX6_row_5 : decode cX6_row 5 = .ok (.astore 4, 2) := by decide +kernel
theorem dX6_row_7 : decode cX6_row 7 = .ok (.aload 4, 2) := by decide +kernel
theorem dX6_row_9 : decode cX6_row 9 = .ok (.ifnull 18, 3) := by decide +kernel
theorem dX6_row_12 : decode cX6_row 12 = .ok (.iload_n 2, 1) := by decide +kernel
theorem dX6_row_13 : decode cX6_row 13 = .ok (.ifCond .lt 14, 3) := by decide +kernel
theorem dX6_row_16 : decode cX6_row 16 = .ok (.iload_n 2, 1) := by decide +kernel
theorem dX6_row_17 : decode cX6_row 17 = .ok (.iconst 2, 1) := by decide +kernel
theorem dX6_row_18 : decode cX6_row 18 = .ok (.if_icmp .gt 9, 3) := by decide +kernel
theorem dX6_row_21 : decode cX6_row 21 = .ok (.iload_n 3, 1) := by decide +kernel
theorem dX6_row_22 : decode cX6_row 22 = .ok (.bipush 100, 2) := by decide +kernel
theorem dX6_row_24 : decode cX6_row 24 = .ok (.if_icmp .le 5, 3) := by decide +kernel
theorem dX6_row_27 : decode cX6_row 27 = .ok (.iconst (-1), 1) := by decide +kernel
theorem dX6_row_28 : decode cX6_row 28 = .ok (.ireturn, 1) := by decide +kernel
theorem dX6_row_29 : decode cX6_row 29 = .ok (.iload_n 3, 1) := by decide +kernel
theorem dX6_row_30 : decode cX6_row 30 = .ok (.ifCond .ge 6, 3) := by decide +kernel
theorem dX6_row_33 : decode cX6_row 33 = .ok (.bipush (-14), 2) := by decide +kernel
theorem dX6_row_35 : decode cX6_row 35 = .ok (.ireturn, 1) := by decide +kernel
theorem dX6_row_36 : decode cX6_row 36 = .ok (.aload 4, 2) := by decide +kernel
theorem dX6_row_38 : decode cX6_row 38 = .ok (.iload_n 2, 1) := by decide +kernel
theorem dX6_row_39 : decode cX6_row 39 = .ok (.iload_n 3, 1) := by decide +kernel
theorem dX6_row_40 : decode cX6_row 40 = .ok (.invokevirtual 229, 3) := by decide +kernel
theorem dX6_row_43 : decode cX6_row 43 = .ok (.iconst 0, 1) := by decide +kernel
theorem dX6_row_44 : decode cX6_row 44 = .ok (.ireturn, 1) := by decide +kernel
theorem dX6_put_0 : decode cX6_put 0 = .ok (.aload_n 0, 1) := by decide +kernel
theorem dX6_put_1 : decode cX6_put 1 = .ok (.iload_n 1, 1) := by decide +kernel
theorem dX6_put_2 : decode cX6_put 2 = .ok (.invokevirtual 54, 3) := by decide +kernel
theorem dX6_put_5 : decode cX6_put 5 = .ok (.astore 4, 2) := by decide +kernel
theorem dX6_put_7 : decode cX6_put 7 = .ok (.aload 4, 2) := by decide +kernel
theorem dX6_put_9 : decode cX6_put 9 = .ok (.ifnonnull 5, 3) := by decide +kernel
theorem dX6_put_12 : decode cX6_put 12 = .ok (.iconst (-1), 1) := by decide +kernel
theorem dX6_put_13 : decode cX6_put 13 = .ok (.ireturn, 1) := by decide +kernel
theorem dX6_put_14 : decode cX6_put 14 = .ok (.aload 4, 2) := by decide +kernel
theorem dX6_put_16 : decode cX6_put 16 = .ok (.invokevirtual 183, 3) := by decide +kernel
theorem dX6_put_19 : decode cX6_put 19 = .ok (.istore 5, 2) := by decide +kernel
theorem dX6_put_21 : decode cX6_put 21 = .ok (.iload 5, 2) := by decide +kernel
theorem dX6_put_23 : decode cX6_put 23 = .ok (.ifCond .eq 6, 3) := by decide +kernel
theorem dX6_put_26 : decode cX6_put 26 = .ok (.iload 5, 2) := by decide +kernel
theorem dX6_put_28 : decode cX6_put 28 = .ok (.ireturn, 1) := by decide +kernel
theorem dX6_put_29 : decode cX6_put 29 = .ok (.aload 4, 2) := by decide +kernel
theorem dX6_put_31 : decode cX6_put 31 = .ok (.iload_n 2, 1) := by decide +kernel
theorem dX6_put_32 : decode cX6_put 32 = .ok (.invokevirtual 233, 3) := by decide +kernel
theorem dX6_put_35 : decode cX6_put 35 = .ok (.ifCond .ne 6, 3) := by decide +kernel
theorem dX6_put_38 : decode cX6_put 38 = .ok (.bipush (-13), 2) := by decide +kernel
theorem dX6_put_40 : decode cX6_put 40 = .ok (.ireturn, 1) := by decide +kernel
theorem dX6_put_41 : decode cX6_put 41 = .ok (.aload 4, 2) := by decide +kernel
theorem dX6_put_43 : decode cX6_put 43 = .ok (.getfield 62, 3) := by decide +kernel
theorem dX6_put_46 : decode cX6_put 46 = .ok (.iload_n 2, 1) := by decide +kernel
theorem dX6_put_47 : decode cX6_put 47 = .ok (.aload 4, 2) := by decide +kernel
theorem dX6_put_49 : decode cX6_put 49 = .ok (.iload_n 3, 1) := by decide +kernel
theorem dX6_put_50 : decode cX6_put 50 = .ok (.invokevirtual 236, 3) := by decide +kernel
theorem dX6_put_53 : decode cX6_put 53 = .ok (.iastore, 1) := by decide +kernel
theorem dX6_put_54 : decode cX6_put 54 = .ok (.iconst 0, 1) := by decide +kernel
theorem dX6_put_55 : decode cX6_put 55 = .ok (.ireturn, 1) := by decide +kernel
theorem dX6_element_0 : decode cX6_element 0 = .ok (.aload_n 0, 1) := by decide +kernel
theorem dX6_element_1 : decode cX6_element 1 = .ok (.iload_n 1, 1) := by decide +kernel
theorem dX6_element_2 : decode cX6_element 2 = .ok (.invokevirtual 54, 3) := by decide +kernel
theorem dX6_element_5 : decode cX6_element 5 = .ok (.astore_n 3, 1) := by decide +kernel
theorem dX6_element_6 : decode cX6_element 6 = .ok (.aload_n 3, 1) := by decide +kernel
theorem dX6_element_7 : decode cX6_element 7 = .ok (.ifnonnull 13, 3) := by decide +kernel
theorem dX6_element_10 : decode cX6_element 10 = .ok (.new 239, 3) := by decide +kernel
theorem dX6_element_13 : decode cX6_element 13 = .ok (.dup, 1) := by decide +kernel
theorem dX6_element_14 : decode cX6_element 14 = .ok (.ldc 241, 2) := by decide +kernel
theorem dX6_element_16 : decode cX6_element 16 = .ok (.invokespecial 243, 3) := by decide +kernel
theorem dX6_element_19 : decode cX6_element 19 = .ok (.athrow, 1) := by decide +kernel
theorem dX6_element_20 : decode cX6_element 20 = .ok (.aload_n 3, 1) := by decide +kernel
theorem dX6_element_21 : decode cX6_element 21 = .ok (.getfield 218, 3) := by decide +kernel
theorem dX6_element_24 : decode cX6_element 24 = .ok (.iconst 2, 1) := by decide +kernel
theorem dX6_element_25 : decode cX6_element 25 = .ok (.if_icmp .eq 13, 3) := by decide +kernel
theorem dX6_element_28 : decode cX6_element 28 = .ok (.new 246, 3) := by decide +kernel
theorem dX6_element_31 : decode cX6_element 31 = .ok (.dup, 1) := by decide +kernel
theorem dX6_element_32 : decode cX6_element 32 = .ok (.ldc 248, 2) := by decide +kernel
theorem dX6_element_34 : decode cX6_element 34 = .ok (.invokespecial 250, 3) := by decide +kernel
theorem dX6_element_37 : decode cX6_element 37 = .ok (.athrow, 1) := by decide +kernel
theorem dX6_element_38 : decode cX6_element 38 = .ok (.aload_n 3, 1) := by decide +kernel
theorem dX6_element_39 : decode cX6_element 39 = .ok (.iload_n 2, 1) := by decide +kernel
theorem dX6_element_40 : decode cX6_element 40 = .ok (.invokevirtual 233, 3) := by decide +kernel
theorem dX6_element_43 : decode cX6_element 43 = .ok (.ifCond .ne 13, 3) := by decide +kernel
theorem dX6_element_46 : decode cX6_element 46 = .ok (.new 246, 3) := by decide +kernel
theorem dX6_element_49 : decode cX6_element 49 = .ok (.dup, 1) := by decide +kernel
theorem dX6_element_50 : decode cX6_element 50 = .ok (.ldc 251, 2) := by decide +kernel
theorem dX6_element_52 : decode cX6_element 52 = .ok (.invokespecial 250, 3) := by decide +kernel
theorem dX6_element_55 : decode cX6_element 55 = .ok (.athrow, 1) := by decide +kernel
theorem dX6_element_56 : decode cX6_element 56 = .ok (.aload_n 3, 1) := by decide +kernel
theorem dX6_element_57 : decode cX6_element 57 = .ok (.getfield 62, 3) := by decide +kernel
theorem dX6_element_60 : decode cX6_element 60 = .ok (.iload_n 2, 1) := by decide +kernel
theorem dX6_element_61 : decode cX6_element 61 = .ok (.iaload, 1) := by decide +kernel
theorem dX6_element_62 : decode cX6_element 62 = .ok (.i2l, 1) := by decide +kernel
theorem dX6_element_63 : decode cX6_element 63 = .ok (.lreturn, 1) := by decide +kernel
theorem dX6_copy_0 : decode cX6_copy 0 = .ok (.aload_n 0, 1) := by decide +kernel
theorem dX6_copy_1 : decode cX6_copy 1 = .ok (.iload_n 1, 1) := by decide +kernel
theorem dX6_copy_2 : decode cX6_copy 2 = .ok (.invokevirtual 54, 3) := by decide +kernel
theorem dX6_copy_5 : decode cX6_copy 5 = .ok (.astore 6, 2) := by decide +kernel
theorem dX6_copy_7 : decode cX6_copy 7 = .ok (.aload_n 0, 1) := by decide +kernel
theorem dX6_copy_8 : decode cX6_copy 8 = .ok (.iload_n 3, 1) := by decide +kernel
theorem dX6_copy_9 : decode cX6_copy 9 = .ok (.invokevirtual 54, 3) := by decide +kernel
theorem dX6_copy_12 : decode cX6_copy 12 = .ok (.astore 7, 2) := by decide +kernel
theorem dX6_copy_14 : decode cX6_copy 14 = .ok (.aload 6, 2) := by decide +kernel
theorem dX6_copy_16 : decode cX6_copy 16 = .ok (.ifnull 8, 3) := by decide +kernel
theorem dX6_copy_19 : decode cX6_copy 19 = .ok (.aload 7, 2) := by decide +kernel
theorem dX6_copy_21 : decode cX6_copy 21 = .ok (.ifnonnull 5, 3) := by decide +kernel
theorem dX6_copy_24 : decode cX6_copy 24 = .ok (.iconst (-1), 1) := by decide +kernel
theorem dX6_copy_25 : decode cX6_copy 25 = .ok (.ireturn, 1) := by decide +kernel
theorem dX6_copy_26 : decode cX6_copy 26 = .ok (.aload 6, 2) := by decide +kernel
theorem dX6_copy_28 : decode cX6_copy 28 = .ok (.getfield 218, 3) := by decide +kernel
theorem dX6_copy_31 : decode cX6_copy 31 = .ok (.ifCond .eq 11, 3) := by decide +kernel
theorem dX6_copy_34 : decode cX6_copy 34 = .ok (.aload 7, 2) := by decide +kernel
theorem dX6_copy_36 : decode cX6_copy 36 = .ok (.getfield 218, 3) := by decide +kernel
theorem dX6_copy_39 : decode cX6_copy 39 = .ok (.ifCond .ne 6, 3) := by decide +kernel
theorem dX6_copy_42 : decode cX6_copy 42 = .ok (.bipush (-11), 2) := by decide +kernel
theorem dX6_copy_44 : decode cX6_copy 44 = .ok (.ireturn, 1) := by decide +kernel
theorem dX6_copy_45 : decode cX6_copy 45 = .ok (.aload 6, 2) := by decide +kernel
theorem dX6_copy_47 : decode cX6_copy 47 = .ok (.getfield 218, 3) := by decide +kernel
theorem dX6_copy_50 : decode cX6_copy 50 = .ok (.iconst 2, 1) := by decide +kernel
theorem dX6_copy_51 : decode cX6_copy 51 = .ok (.if_icmp .ne 25, 3) := by decide +kernel
theorem dX6_copy_54 : decode cX6_copy 54 = .ok (.aload 7, 2) := by decide +kernel
theorem dX6_copy_56 : decode cX6_copy 56 = .ok (.getfield 218, 3) := by decide +kernel
theorem dX6_copy_59 : decode cX6_copy 59 = .ok (.iconst 2, 1) := by decide +kernel
theorem dX6_copy_60 : decode cX6_copy 60 = .ok (.if_icmp .ne 16, 3) := by decide +kernel
theorem dX6_copy_63 : decode cX6_copy 63 = .ok (.aload 6, 2) := by decide +kernel
theorem dX6_copy_65 : decode cX6_copy 65 = .ok (.getfield 253, 3) := by decide +kernel
theorem dX6_copy_68 : decode cX6_copy 68 = .ok (.aload 7, 2) := by decide +kernel
theorem dX6_copy_70 : decode cX6_copy 70 = .ok (.getfield 253, 3) := by decide +kernel
theorem dX6_copy_73 : decode cX6_copy 73 = .ok (.if_icmp .eq 6, 3) := by decide +kernel
theorem dX6_copy_76 : decode cX6_copy 76 = .ok (.bipush (-12), 2) := by decide +kernel
theorem dX6_copy_78 : decode cX6_copy 78 = .ok (.ireturn, 1) := by decide +kernel
theorem dX6_copy_79 : decode cX6_copy 79 = .ok (.aload 6, 2) := by decide +kernel
theorem dX6_copy_81 : decode cX6_copy 81 = .ok (.iload_n 2, 1) := by decide +kernel
theorem dX6_copy_82 : decode cX6_copy 82 = .ok (.iload 5, 2) := by decide +kernel
theorem dX6_copy_84 : decode cX6_copy 84 = .ok (.invokevirtual 256, 3) := by decide +kernel
theorem dX6_copy_87 : decode cX6_copy 87 = .ok (.ifCond .eq 15, 3) := by decide +kernel
theorem dX6_copy_90 : decode cX6_copy 90 = .ok (.aload 7, 2) := by decide +kernel
theorem dX6_copy_92 : decode cX6_copy 92 = .ok (.iload 4, 2) := by decide +kernel
theorem dX6_copy_94 : decode cX6_copy 94 = .ok (.iload 5, 2) := by decide +kernel
theorem dX6_copy_96 : decode cX6_copy 96 = .ok (.invokevirtual 256, 3) := by decide +kernel
theorem dX6_copy_99 : decode cX6_copy 99 = .ok (.ifCond .ne 6, 3) := by decide +kernel
theorem dX6_copy_102 : decode cX6_copy 102 = .ok (.bipush (-13), 2) := by decide +kernel
theorem dX6_copy_104 : decode cX6_copy 104 = .ok (.ireturn, 1) := by decide +kernel
theorem dX6_copy_105 : decode cX6_copy 105 = .ok (.aload 6, 2) := by decide +kernel
theorem dX6_copy_107 : decode cX6_copy 107 = .ok (.getfield 62, 3) := by decide +kernel
theorem dX6_copy_110 : decode cX6_copy 110 = .ok (.iload_n 2, 1) := by decide +kernel
theorem dX6_copy_111 : decode cX6_copy 111 = .ok (.aload 7, 2) := by decide +kernel
theorem dX6_copy_113 : decode cX6_copy 113 = .ok (.getfield 62, 3) := by decide +kernel
theorem dX6_copy_116 : decode cX6_copy 116 = .ok (.iload 4, 2) := by decide +kernel
theorem dX6_copy_118 : decode cX6_copy 118 = .ok (.iload 5, 2) := by decide +kernel
theorem dX6_copy_120 : decode cX6_copy 120 = .ok (.invokestatic 259, 3) := by decide +kernel
theorem dX6_copy_123 : decode cX6_copy 123 = .ok (.iload 5, 2) := by decide +kernel
theorem dX6_copy_125 : decode cX6_copy 125 = .ok (.ireturn, 1) := by decide +kernel
theorem dX6_skill_0 : decode cX6_skill 0 = .ok (.aload_n 0, 1) := by decide +kernel
theorem dX6_skill_1 : decode cX6_skill 1 = .ok (.iload_n 1, 1) := by decide +kernel
theorem dX6_skill_2 : decode cX6_skill 2 = .ok (.invokevirtual 54, 3) := by decide +kernel
theorem dX6_skill_5 : decode cX6_skill 5 = .ok (.astore_n 2, 1) := by decide +kernel
theorem dX6_skill_6 : decode cX6_skill 6 = .ok (.aload_n 2, 1) := by decide +kernel
theorem dX6_skill_7 : decode cX6_skill 7 = .ok (.ifnonnull 6, 3) := by decide +kernel
theorem dX6_skill_10 : decode cX6_skill 10 = .ok (.ldc 80, 2) := by decide +kernel
theorem dX6_skill_12 : decode cX6_skill 12 = .ok (.ireturn, 1) := by decide +kernel
theorem dX6_skill_13 : decode cX6_skill 13 = .ok (.aload_n 2, 1) := by decide +kernel
theorem dX6_skill_14 : decode cX6_skill 14 = .ok (.invokevirtual 265, 3) := by decide +kernel
theorem dX6_skill_17 : decode cX6_skill 17 = .ok (.istore_n 3, 1) := by decide +kernel
theorem dX6_skill_18 : decode cX6_skill 18 = .ok (.iload_n 3, 1) := by decide +kernel
theorem dX6_skill_19 : decode cX6_skill 19 = .ok (.ifCond .eq 11, 3) := by decide +kernel
theorem dX6_skill_22 : decode cX6_skill 22 = .ok (.ldc_w 268, 3) := by decide +kernel
theorem dX6_skill_25 : decode cX6_skill 25 = .ok (.iload_n 3, 1) := by decide +kernel
theorem dX6_skill_26 : decode cX6_skill 26 = .ok (.iadd, 1) := by decide +kernel
theorem dX6_skill_27 : decode cX6_skill 27 = .ok (.goto 10, 3) := by decide +kernel
theorem dX6_skill_30 : decode cX6_skill 30 = .ok (.aload_n 2, 1) := by decide +kernel
theorem dX6_skill_31 : decode cX6_skill 31 = .ok (.getfield 269, 3) := by decide +kernel
theorem dX6_skill_34 : decode cX6_skill 34 = .ok (.invokevirtual 270, 3) := by decide +kernel
theorem dX6_skill_37 : decode cX6_skill 37 = .ok (.ireturn, 1) := by decide +kernel
theorem dX6_toss_0 : decode cX6_toss 0 = .ok (.aload_n 0, 1) := by decide +kernel
theorem dX6_toss_1 : decode cX6_toss 1 = .ok (.iload_n 1, 1) := by decide +kernel
theorem dX6_toss_2 : decode cX6_toss 2 = .ok (.invokevirtual 54, 3) := by decide +kernel
theorem dX6_toss_5 : decode cX6_toss 5 = .ok (.astore_n 2, 1) := by decide +kernel
theorem dX6_toss_6 : decode cX6_toss 6 = .ok (.aload_n 2, 1) := by decide +kernel
theorem dX6_toss_7 : decode cX6_toss 7 = .ok (.ifnonnull 5, 3) := by decide +kernel
theorem dX6_toss_10 : decode cX6_toss 10 = .ok (.iconst (-1), 1) := by decide +kernel
theorem dX6_toss_11 : decode cX6_toss 11 = .ok (.ireturn, 1) := by decide +kernel
theorem dX6_toss_12 : decode cX6_toss 12 = .ok (.aload_n 2, 1) := by decide +kernel
theorem dX6_toss_13 : decode cX6_toss 13 = .ok (.invokevirtual 265, 3) := by decide +kernel
theorem dX6_toss_16 : decode cX6_toss 16 = .ok (.istore_n 3, 1) := by decide +kernel
theorem dX6_toss_17 : decode cX6_toss 17 = .ok (.iload_n 3, 1) := by decide +kernel
theorem dX6_toss_18 : decode cX6_toss 18 = .ok (.ifCond .eq 5, 3) := by decide +kernel
theorem dX6_toss_21 : decode cX6_toss 21 = .ok (.iload_n 3, 1) := by decide +kernel
theorem dX6_toss_22 : decode cX6_toss 22 = .ok (.ireturn, 1) := by decide +kernel
theorem dX6_toss_23 : decode cX6_toss 23 = .ok (.aload_n 2, 1) := by decide +kernel
theorem dX6_toss_24 : decode cX6_toss 24 = .ok (.getfield 269, 3) := by decide +kernel
theorem dX6_toss_27 : decode cX6_toss 27 = .ok (.invokevirtual 275, 3) := by decide +kernel
theorem dX6_toss_30 : decode cX6_toss 30 = .ok (.goto 13, 3) := by decide +kernel
theorem dX6_toss_33 : decode cX6_toss 33 = .ok (.astore 4, 2) := by decide +kernel
theorem dX6_toss_35 : decode cX6_toss 35 = .ok (.aload_n 2, 1) := by decide +kernel
theorem dX6_toss_36 : decode cX6_toss 36 = .ok (.getfield 269, 3) := by decide +kernel
theorem dX6_toss_39 : decode cX6_toss 39 = .ok (.invokevirtual 278, 3) := by decide +kernel
theorem dX6_toss_42 : decode cX6_toss 42 = .ok (.ireturn, 1) := by decide +kernel
theorem dX6_toss_43 : decode cX6_toss 43 = .ok (.bipush (-15), 2) := by decide +kernel
theorem dX6_toss_45 : decode cX6_toss 45 = .ok (.ireturn, 1) := by decide +kernel
theorem dX6_shelfAt_0 : decode cX6_shelfAt 0 = .ok (.iload_n 1, 1) := by decide +kernel
theorem dX6_shelfAt_1 : decode cX6_shelfAt 1 = .ok (.ifCond .lt 21, 3) := by decide +kernel
theorem dX6_shelfAt_4 : decode cX6_shelfAt 4 = .ok (.iload_n 1, 1) := by decide +kernel
theorem dX6_shelfAt_5 : decode cX6_shelfAt 5 = .ok (.aload_n 0, 1) := by decide +kernel
theorem dX6_shelfAt_6 : decode cX6_shelfAt 6 = .ok (.getfield 37, 3) := by decide +kernel
theorem dX6_shelfAt_9 : decode cX6_shelfAt 9 = .ok (.arraylength, 1) := by decide +kernel
theorem dX6_shelfAt_10 : decode cX6_shelfAt 10 = .ok (.if_icmp .ge 12, 3) := by decide +kernel
theorem dX6_shelfAt_13 : decode cX6_shelfAt 13 = .ok (.aload_n 0, 1) := by decide +kernel
theorem dX6_shelfAt_14 : decode cX6_shelfAt 14 = .ok (.getfield 37, 3) := by decide +kernel
theorem dX6_shelfAt_17 : decode cX6_shelfAt 17 = .ok (.iload_n 1, 1) := by decide +kernel
theorem dX6_shelfAt_18 : decode cX6_shelfAt 18 = .ok (.aaload, 1) := by decide +kernel
theorem dX6_shelfAt_19 : decode cX6_shelfAt 19 = .ok (.goto 4, 3) := by decide +kernel
theorem dX6_shelfAt_22 : decode cX6_shelfAt 22 = .ok (.aconst_null, 1) := by decide +kernel
theorem dX6_shelfAt_23 : decode cX6_shelfAt 23 = .ok (.areturn, 1) := by decide +kernel
theorem dX6_isInBay_0 : decode cX6_isInBay 0 = .ok (.iload_n 0, 1) := by decide +kernel
theorem dX6_isInBay_1 : decode cX6_isInBay 1 = .ok (.sipush (-200), 3) := by decide +kernel
theorem dX6_isInBay_4 : decode cX6_isInBay 4 = .ok (.if_icmp .lt 14, 3) := by decide +kernel
theorem dX6_isInBay_7 : decode cX6_isInBay 7 = .ok (.iload_n 0, 1) := by decide +kernel
theorem dX6_isInBay_8 : decode cX6_isInBay 8 = .ok (.sipush 200, 3) := by decide +kernel
theorem dX6_isInBay_11 : decode cX6_isInBay 11 = .ok (.if_icmp .gt 7, 3) := by decide +kernel
theorem dX6_isInBay_14 : decode cX6_isInBay 14 = .ok (.iconst 1, 1) := by decide +kernel
theorem dX6_isInBay_15 : decode cX6_isInBay 15 = .ok (.goto 4, 3) := by decide +kernel
theorem dX6_isInBay_18 : decode cX6_isInBay 18 = .ok (.iconst 0, 1) := by decide +kernel
theorem dX6_isInBay_19 : decode cX6_isInBay 19 = .ok (.ireturn, 1) := by decide +kernel
theorem dX6_isGame_0 : decode cX6_isGame 0 = .ok (.iload_n 0, 1) := by decide +kernel
theorem dX6_isGame_1 : decode cX6_isGame 1 = .ok (.invokestatic 85, 3) := by decide +kernel
theorem dX6_isGame_4 : decode cX6_isGame 4 = .ok (.ifCond .eq 23, 3) := by decide +kernel
theorem dX6_isGame_7 : decode cX6_isGame 7 = .ok (.iload_n 1, 1) := by decide +kernel
theorem dX6_isGame_8 : decode cX6_isGame 8 = .ok (.invokestatic 85, 3) := by decide +kernel
theorem dX6_isGame_11 : decode cX6_isGame 11 = .ok (.ifCond .eq 16, 3) := by decide +kernel
theorem dX6_isGame_14 : decode cX6_isGame 14 = .ok (.iload_n 2, 1) := by decide +kernel
theorem dX6_isGame_15 : decode cX6_isGame 15 = .ok (.ifCond .lt 12, 3) := by decide +kernel
theorem dX6_isGame_18 : decode cX6_isGame 18 = .ok (.iload_n 2, 1) := by decide +kernel
theorem dX6_isGame_19 : decode cX6_isGame 19 = .ok (.iconst 3, 1) := by decide +kernel
theorem dX6_isGame_20 : decode cX6_isGame 20 = .ok (.if_icmp .gt 7, 3) := by decide +kernel
theorem dX6_isGame_23 : decode cX6_isGame 23 = .ok (.iconst 1, 1) := by decide +kernel
theorem dX6_isGame_24 : decode cX6_isGame 24 = .ok (.goto 4, 3) := by decide +kernel
theorem dX6_isGame_27 : decode cX6_isGame 27 = .ok (.iconst 0, 1) := by decide +kernel
theorem dX6_isGame_28 : decode cX6_isGame 28 = .ok (.ireturn, 1) := by decide +kernel
theorem dX6_isGameBits_0 : decode cX6_isGameBits 0 = .ok (.iload_n 0, 1) := by decide +kernel
theorem dX6_isGameBits_1 : decode cX6_isGameBits 1 = .ok (.ifCond .lt 13, 3) := by decide +kernel
theorem dX6_isGameBits_4 : decode cX6_isGameBits 4 = .ok (.iload_n 0, 1) := by decide +kernel
theorem dX6_isGameBits_5 : decode cX6_isGameBits 5 = .ok (.bipush 16, 2) := by decide +kernel
theorem dX6_isGameBits_7 : decode cX6_isGameBits 7 = .ok (.if_icmp .ge 7, 3) := by decide +kernel
theorem dX6_isGameBits_10 : decode cX6_isGameBits 10 = .ok (.iconst 1, 1) := by decide +kernel
theorem dX6_isGameBits_11 : decode cX6_isGameBits 11 = .ok (.goto 4, 3) := by decide +kernel
theorem dX6_isGameBits_14 : decode cX6_isGameBits 14 = .ok (.iconst 0, 1) := by decide +kernel
theorem dX6_isGameBits_15 : decode cX6_isGameBits 15 = .ok (.ireturn, 1) := by decide +kernel
theorem dX6_endInMind_0 : decode cX6_endInMind 0 = .ok (.aload_n 0, 1) := by decide +kernel
theorem dX6_endInMind_1 : decode cX6_endInMind 1 = .ok (.getfield 32, 3) := by decide +kernel
theorem dX6_endInMind_4 : decode cX6_endInMind 4 = .ok (.aload_n 0, 1) := by decide +kernel
theorem dX6_endInMind_5 : decode cX6_endInMind 5 = .ok (.getfield 19, 3) := by decide +kernel
theorem dX6_endInMind_8 : decode cX6_endInMind 8 = .ok (.invokevirtual 200, 3) := by decide +kernel
theorem dX6_endInMind_11 : decode cX6_endInMind 11 = .ok (.aload_n 0, 1) := by decide +kernel
theorem dX6_endInMind_12 : decode cX6_endInMind 12 = .ok (.getfield 32, 3) := by decide +kernel
theorem dX6_endInMind_15 : decode cX6_endInMind 15 = .ok (.aload_n 0, 1) := by decide +kernel
theorem dX6_endInMind_16 : decode cX6_endInMind 16 = .ok (.getfield 10, 3) := by decide +kernel
theorem dX6_endInMind_19 : decode cX6_endInMind 19 = .ok (.sipush 400, 3) := by decide +kernel
theorem dX6_endInMind_22 : decode cX6_endInMind 22 = .ok (.invokevirtual 121, 3) := by decide +kernel
theorem dX6_endInMind_25 : decode cX6_endInMind 25 = .ok (.return_, 1) := by decide +kernel
theorem dX6_secondsAlone_0 : decode cX6_secondsAlone 0 = .ok (.aload_n 0, 1) := by decide +kernel
theorem dX6_secondsAlone_1 : decode cX6_secondsAlone 1 = .ok (.getfield 32, 3) := by decide +kernel
theorem dX6_secondsAlone_4 : decode cX6_secondsAlone 4 = .ok (.invokevirtual 281, 3) := by decide +kernel
theorem dX6_secondsAlone_7 : decode cX6_secondsAlone 7 = .ok (.aload_n 0, 1) := by decide +kernel
theorem dX6_secondsAlone_8 : decode cX6_secondsAlone 8 = .ok (.getfield 32, 3) := by decide +kernel
theorem dX6_secondsAlone_11 : decode cX6_secondsAlone 11 = .ok (.bipush 8, 2) := by decide +kernel
theorem dX6_secondsAlone_13 : decode cX6_secondsAlone 13 = .ok (.iload_n 1, 1) := by decide +kernel
theorem dX6_secondsAlone_14 : decode cX6_secondsAlone 14 = .ok (.iload_n 2, 1) := by decide +kernel
theorem dX6_secondsAlone_15 : decode cX6_secondsAlone 15 = .ok (.iload_n 3, 1) := by decide +kernel
theorem dX6_secondsAlone_16 : decode cX6_secondsAlone 16 = .ok (.invokevirtual 95, 3) := by decide +kernel
theorem dX6_secondsAlone_19 : decode cX6_secondsAlone 19 = .ok (.pop, 1) := by decide +kernel
theorem dX6_secondsAlone_20 : decode cX6_secondsAlone 20 = .ok (.aload_n 0, 1) := by decide +kernel
theorem dX6_secondsAlone_21 : decode cX6_secondsAlone 21 = .ok (.getfield 32, 3) := by decide +kernel
theorem dX6_secondsAlone_24 : decode cX6_secondsAlone 24 = .ok (.aload_n 0, 1) := by decide +kernel
theorem dX6_secondsAlone_25 : decode cX6_secondsAlone 25 = .ok (.getfield 10, 3) := by decide +kernel
theorem dX6_secondsAlone_28 : decode cX6_secondsAlone 28 = .ok (.sipush 400, 3) := by decide +kernel
theorem dX6_secondsAlone_31 : decode cX6_secondsAlone 31 = .ok (.invokevirtual 121, 3) := by decide +kernel
theorem dX6_secondsAlone_34 : decode cX6_secondsAlone 34 = .ok (.aload_n 0, 1) := by decide +kernel
theorem dX6_secondsAlone_35 : decode cX6_secondsAlone 35 = .ok (.getfield 32, 3) := by decide +kernel
theorem dX6_secondsAlone_38 : decode cX6_secondsAlone 38 = .ok (.getfield 92, 3) := by decide +kernel
theorem dX6_secondsAlone_41 : decode cX6_secondsAlone 41 = .ok (.ireturn, 1) := by decide +kernel
theorem dX6_bestAlone_0 : decode cX6_bestAlone 0 = .ok (.aload_n 0, 1) := by decide +kernel
theorem dX6_bestAlone_1 : decode cX6_bestAlone 1 = .ok (.iload_n 1, 1) := by decide +kernel
theorem dX6_bestAlone_2 : decode cX6_bestAlone 2 = .ok (.iload_n 2, 1) := by decide +kernel
theorem dX6_bestAlone_3 : decode cX6_bestAlone 3 = .ok (.iconst 0, 1) := by decide +kernel
theorem dX6_bestAlone_4 : decode cX6_bestAlone 4 = .ok (.invokevirtual 149, 3) := by decide +kernel
theorem dX6_bestAlone_7 : decode cX6_bestAlone 7 = .ok (.sipush 256, 3) := by decide +kernel
theorem dX6_bestAlone_10 : decode cX6_bestAlone 10 = .ok (.imul, 1) := by decide +kernel
theorem dX6_bestAlone_11 : decode cX6_bestAlone 11 = .ok (.istore_n 3, 1) := by decide +kernel
theorem dX6_bestAlone_12 : decode cX6_bestAlone 12 = .ok (.iconst 0, 1) := by decide +kernel
theorem dX6_bestAlone_13 : decode cX6_bestAlone 13 = .ok (.istore 4, 2) := by decide +kernel
theorem dX6_bestAlone_15 : decode cX6_bestAlone 15 = .ok (.iload 4, 2) := by decide +kernel
theorem dX6_bestAlone_17 : decode cX6_bestAlone 17 = .ok (.bipush 8, 2) := by decide +kernel
theorem dX6_bestAlone_19 : decode cX6_bestAlone 19 = .ok (.if_icmp .ge 68, 3) := by decide +kernel
theorem dX6_bestAlone_22 : decode cX6_bestAlone 22 = .ok (.iload 4, 2) := by decide +kernel
theorem dX6_bestAlone_24 : decode cX6_bestAlone 24 = .ok (.iconst 1, 1) := by decide +kernel
theorem dX6_bestAlone_25 : decode cX6_bestAlone 25 = .ok (.iadd, 1) := by decide +kernel
theorem dX6_bestAlone_26 : decode cX6_bestAlone 26 = .ok (.bipush 10, 2) := by decide +kernel
theorem dX6_bestAlone_28 : decode cX6_bestAlone 28 = .ok (.imul, 1) := by decide +kernel
theorem dX6_bestAlone_29 : decode cX6_bestAlone 29 = .ok (.iload_n 3, 1) := by decide +kernel
theorem dX6_bestAlone_30 : decode cX6_bestAlone 30 = .ok (.sipush 256, 3) := by decide +kernel
theorem dX6_bestAlone_33 : decode cX6_bestAlone 33 = .ok (.idiv, 1) := by decide +kernel
theorem dX6_bestAlone_34 : decode cX6_bestAlone 34 = .ok (.if_icmp .lt 6, 3) := by decide +kernel
theorem dX6_bestAlone_37 : decode cX6_bestAlone 37 = .ok (.goto 50, 3) := by decide +kernel
theorem dX6_bestAlone_40 : decode cX6_bestAlone 40 = .ok (.iconst 1, 1) := by decide +kernel
theorem dX6_bestAlone_41 : decode cX6_bestAlone 41 = .ok (.iload 4, 2) := by decide +kernel
theorem dX6_bestAlone_43 : decode cX6_bestAlone 43 = .ok (.ishl, 1) := by decide +kernel
theorem dX6_bestAlone_44 : decode cX6_bestAlone 44 = .ok (.istore 5, 2) := by decide +kernel
theorem dX6_bestAlone_46 : decode cX6_bestAlone 46 = .ok (.iload 5, 2) := by decide +kernel
theorem dX6_bestAlone_48 : decode cX6_bestAlone 48 = .ok (.iconst 2, 1) := by decide +kernel
theorem dX6_bestAlone_49 : decode cX6_bestAlone 49 = .ok (.iload 4, 2) := by decide +kernel
theorem dX6_bestAlone_51 : decode cX6_bestAlone 51 = .ok (.ishl, 1) := by decide +kernel
theorem dX6_bestAlone_52 : decode cX6_bestAlone 52 = .ok (.if_icmp .ge 29, 3) := by decide +kernel
theorem dX6_bestAlone_55 : decode cX6_bestAlone 55 = .ok (.iload_n 3, 1) := by decide +kernel
theorem dX6_bestAlone_56 : decode cX6_bestAlone 56 = .ok (.aload_n 0, 1) := by decide +kernel
theorem dX6_bestAlone_57 : decode cX6_bestAlone 57 = .ok (.iload_n 1, 1) := by decide +kernel
theorem dX6_bestAlone_58 : decode cX6_bestAlone 58 = .ok (.iload_n 2, 1) := by decide +kernel
theorem dX6_bestAlone_59 : decode cX6_bestAlone 59 = .ok (.iload 5, 2) := by decide +kernel
theorem dX6_bestAlone_61 : decode cX6_bestAlone 61 = .ok (.invokevirtual 149, 3) := by decide +kernel
theorem dX6_bestAlone_64 : decode cX6_bestAlone 64 = .ok (.sipush 256, 3) := by decide +kernel
theorem dX6_bestAlone_67 : decode cX6_bestAlone 67 = .ok (.imul, 1) := by decide +kernel
theorem dX6_bestAlone_68 : decode cX6_bestAlone 68 = .ok (.iload 5, 2) := by decide +kernel
theorem dX6_bestAlone_70 : decode cX6_bestAlone 70 = .ok (.iadd, 1) := by decide +kernel
theorem dX6_bestAlone_71 : decode cX6_bestAlone 71 = .ok (.invokestatic 157, 3) := by decide +kernel
theorem dX6_bestAlone_74 : decode cX6_bestAlone 74 = .ok (.istore_n 3, 1) := by decide +kernel
theorem dX6_bestAlone_75 : decode cX6_bestAlone 75 = .ok (.iinc 5 1, 3) := by decide +kernel
theorem dX6_bestAlone_78 : decode cX6_bestAlone 78 = .ok (.goto (-32), 3) := by decide +kernel
theorem dX6_bestAlone_81 : decode cX6_bestAlone 81 = .ok (.iinc 4 1, 3) := by decide +kernel
theorem dX6_bestAlone_84 : decode cX6_bestAlone 84 = .ok (.goto (-69), 3) := by decide +kernel
theorem dX6_bestAlone_87 : decode cX6_bestAlone 87 = .ok (.iload_n 3, 1) := by decide +kernel
theorem dX6_bestAlone_88 : decode cX6_bestAlone 88 = .ok (.ireturn, 1) := by decide +kernel
theorem dX6_gameLead_0 : decode cX6_gameLead 0 = .ok (.aload_n 0, 1) := by decide +kernel
theorem dX6_gameLead_1 : decode cX6_gameLead 1 = .ok (.getfield 32, 3) := by decide +kernel
theorem dX6_gameLead_4 : decode cX6_gameLead 4 = .ok (.invokevirtual 281, 3) := by decide +kernel
theorem dX6_gameLead_7 : decode cX6_gameLead 7 = .ok (.aload_n 0, 1) := by decide +kernel
theorem dX6_gameLead_8 : decode cX6_gameLead 8 = .ok (.getfield 32, 3) := by decide +kernel
theorem dX6_gameLead_11 : decode cX6_gameLead 11 = .ok (.bipush 8, 2) := by decide +kernel
theorem dX6_gameLead_13 : decode cX6_gameLead 13 = .ok (.iload_n 1, 1) := by decide +kernel
theorem dX6_gameLead_14 : decode cX6_gameLead 14 = .ok (.iload_n 3, 1) := by decide +kernel
theorem dX6_gameLead_15 : decode cX6_gameLead 15 = .ok (.iconst 1, 1) := by decide +kernel
theorem dX6_gameLead_16 : decode cX6_gameLead 16 = .ok (.iand, 1) := by decide +kernel
theorem dX6_gameLead_17 : decode cX6_gameLead 17 = .ok (.ifCond .eq 7, 3) := by decide +kernel
theorem dX6_gameLead_20 : decode cX6_gameLead 20 = .ok (.iconst 1, 1) := by decide +kernel
theorem dX6_gameLead_21 : decode cX6_gameLead 21 = .ok (.goto 4, 3) := by decide +kernel
theorem dX6_gameLead_24 : decode cX6_gameLead 24 = .ok (.iconst 0, 1) := by decide +kernel
theorem dX6_gameLead_25 : decode cX6_gameLead 25 = .ok (.iload 4, 2) := by decide +kernel
theorem dX6_gameLead_27 : decode cX6_gameLead 27 = .ok (.invokevirtual 95, 3) := by decide +kernel
theorem dX6_gameLead_30 : decode cX6_gameLead 30 = .ok (.pop, 1) := by decide +kernel
theorem dX6_gameLead_31 : decode cX6_gameLead 31 = .ok (.aload_n 0, 1) := by decide +kernel
theorem dX6_gameLead_32 : decode cX6_gameLead 32 = .ok (.getfield 32, 3) := by decide +kernel
theorem dX6_gameLead_35 : decode cX6_gameLead 35 = .ok (.bipush 8, 2) := by decide +kernel
theorem dX6_gameLead_37 : decode cX6_gameLead 37 = .ok (.iload_n 2, 1) := by decide +kernel
theorem dX6_gameLead_38 : decode cX6_gameLead 38 = .ok (.iload_n 3, 1) := by decide +kernel
theorem dX6_gameLead_39 : decode cX6_gameLead 39 = .ok (.iconst 2, 1) := by decide +kernel
theorem dX6_gameLead_40 : decode cX6_gameLead 40 = .ok (.iand, 1) := by decide +kernel
theorem dX6_gameLead_41 : decode cX6_gameLead 41 = .ok (.ifCond .eq 7, 3) := by decide +kernel
theorem dX6_gameLead_44 : decode cX6_gameLead 44 = .ok (.iconst 1, 1) := by decide +kernel
theorem dX6_gameLead_45 : decode cX6_gameLead 45 = .ok (.goto 4, 3) := by decide +kernel
theorem dX6_gameLead_48 : decode cX6_gameLead 48 = .ok (.iconst 0, 1) := by decide +kernel
theorem dX6_gameLead_49 : decode cX6_gameLead 49 = .ok (.iload 5, 2) := by decide +kernel
theorem dX6_gameLead_51 : decode cX6_gameLead 51 = .ok (.invokevirtual 95, 3) := by decide +kernel
theorem dX6_gameLead_54 : decode cX6_gameLead 54 = .ok (.pop, 1) := by decide +kernel
theorem dX6_gameLead_55 : decode cX6_gameLead 55 = .ok (.aload_n 0, 1) := by decide +kernel
theorem dX6_gameLead_56 : decode cX6_gameLead 56 = .ok (.getfield 32, 3) := by decide +kernel
theorem dX6_gameLead_59 : decode cX6_gameLead 59 = .ok (.aload_n 0, 1) := by decide +kernel
theorem dX6_gameLead_60 : decode cX6_gameLead 60 = .ok (.getfield 10, 3) := by decide +kernel
theorem dX6_gameLead_63 : decode cX6_gameLead 63 = .ok (.bipush 60, 2) := by decide +kernel
theorem dX6_gameLead_65 : decode cX6_gameLead 65 = .ok (.invokevirtual 121, 3) := by decide +kernel
theorem dX6_gameLead_68 : decode cX6_gameLead 68 = .ok (.aload_n 0, 1) := by decide +kernel
theorem dX6_gameLead_69 : decode cX6_gameLead 69 = .ok (.getfield 32, 3) := by decide +kernel
theorem dX6_gameLead_72 : decode cX6_gameLead 72 = .ok (.aload_n 0, 1) := by decide +kernel
theorem dX6_gameLead_73 : decode cX6_gameLead 73 = .ok (.getfield 10, 3) := by decide +kernel
theorem dX6_gameLead_76 : decode cX6_gameLead 76 = .ok (.getfield 215, 3) := by decide +kernel
theorem dX6_gameLead_79 : decode cX6_gameLead 79 = .ok (.invokevirtual 284, 3) := by decide +kernel
theorem dX6_gameLead_82 : decode cX6_gameLead 82 = .ok (.ireturn, 1) := by decide +kernel
theorem dX6_worstGame_0 : decode cX6_worstGame 0 = .ok (.aload_n 0, 1) := by decide +kernel
theorem dX6_worstGame_1 : decode cX6_worstGame 1 = .ok (.iload_n 1, 1) := by decide +kernel
theorem dX6_worstGame_2 : decode cX6_worstGame 2 = .ok (.iload_n 2, 1) := by decide +kernel
theorem dX6_worstGame_3 : decode cX6_worstGame 3 = .ok (.iload_n 3, 1) := by decide +kernel
theorem dX6_worstGame_4 : decode cX6_worstGame 4 = .ok (.iload 4, 2) := by decide +kernel
theorem dX6_worstGame_6 : decode cX6_worstGame 6 = .ok (.iconst 0, 1) := by decide +kernel
theorem dX6_worstGame_7 : decode cX6_worstGame 7 = .ok (.invokevirtual 169, 3) := by decide +kernel
theorem dX6_worstGame_10 : decode cX6_worstGame 10 = .ok (.bipush 16, 2) := by decide +kernel
theorem dX6_worstGame_12 : decode cX6_worstGame 12 = .ok (.imul, 1) := by decide +kernel
theorem dX6_worstGame_13 : decode cX6_worstGame 13 = .ok (.istore 5, 2) := by decide +kernel
theorem dX6_worstGame_15 : decode cX6_worstGame 15 = .ok (.iconst 1, 1) := by decide +kernel
theorem dX6_worstGame_16 : decode cX6_worstGame 16 = .ok (.istore 6, 2) := by decide +kernel
theorem dX6_worstGame_18 : decode cX6_worstGame 18 = .ok (.iload 6, 2) := by decide +kernel
theorem dX6_worstGame_20 : decode cX6_worstGame 20 = .ok (.bipush 16, 2) := by decide +kernel
theorem dX6_worstGame_22 : decode cX6_worstGame 22 = .ok (.if_icmp .ge 37, 3) := by decide +kernel
theorem dX6_worstGame_25 : decode cX6_worstGame 25 = .ok (.aload_n 0, 1) := by decide +kernel
theorem dX6_worstGame_26 : decode cX6_worstGame 26 = .ok (.iload_n 1, 1) := by decide +kernel
theorem dX6_worstGame_27 : decode cX6_worstGame 27 = .ok (.iload_n 2, 1) := by decide +kernel
theorem dX6_worstGame_28 : decode cX6_worstGame 28 = .ok (.iload_n 3, 1) := by decide +kernel
theorem dX6_worstGame_29 : decode cX6_worstGame 29 = .ok (.iload 4, 2) := by decide +kernel
theorem dX6_worstGame_31 : decode cX6_worstGame 31 = .ok (.iload 6, 2) := by decide +kernel
theorem dX6_worstGame_33 : decode cX6_worstGame 33 = .ok (.invokevirtual 169, 3) := by decide +kernel
theorem dX6_worstGame_36 : decode cX6_worstGame 36 = .ok (.istore 7, 2) := by decide +kernel
theorem dX6_worstGame_38 : decode cX6_worstGame 38 = .ok (.iload 5, 2) := by decide +kernel
theorem dX6_worstGame_40 : decode cX6_worstGame 40 = .ok (.iload 7, 2) := by decide +kernel
theorem dX6_worstGame_42 : decode cX6_worstGame 42 = .ok (.bipush 16, 2) := by decide +kernel
theorem dX6_worstGame_44 : decode cX6_worstGame 44 = .ok (.imul, 1) := by decide +kernel
theorem dX6_worstGame_45 : decode cX6_worstGame 45 = .ok (.iload 6, 2) := by decide +kernel
theorem dX6_worstGame_47 : decode cX6_worstGame 47 = .ok (.iadd, 1) := by decide +kernel
theorem dX6_worstGame_48 : decode cX6_worstGame 48 = .ok (.invokestatic 157, 3) := by decide +kernel
theorem dX6_worstGame_51 : decode cX6_worstGame 51 = .ok (.istore 5, 2) := by decide +kernel
theorem dX6_worstGame_53 : decode cX6_worstGame 53 = .ok (.iinc 6 1, 3) := by decide +kernel
theorem dX6_worstGame_56 : decode cX6_worstGame 56 = .ok (.goto (-38), 3) := by decide +kernel
theorem dX6_worstGame_59 : decode cX6_worstGame 59 = .ok (.iload 5, 2) := by decide +kernel
theorem dX6_worstGame_61 : decode cX6_worstGame 61 = .ok (.ireturn, 1) := by decide +kernel
theorem dX6_firstNotSo_0 : decode cX6_firstNotSo 0 = .ok (.aload_n 0, 1) := by decide +kernel
theorem dX6_firstNotSo_1 : decode cX6_firstNotSo 1 = .ok (.getfield 32, 3) := by decide +kernel
theorem dX6_firstNotSo_4 : decode cX6_firstNotSo 4 = .ok (.aload_n 0, 1) := by decide +kernel
theorem dX6_firstNotSo_5 : decode cX6_firstNotSo 5 = .ok (.getfield 19, 3) := by decide +kernel
theorem dX6_firstNotSo_8 : decode cX6_firstNotSo 8 = .ok (.invokevirtual 200, 3) := by decide +kernel
theorem dX6_firstNotSo_11 : decode cX6_firstNotSo 11 = .ok (.aload_n 0, 1) := by decide +kernel
theorem dX6_firstNotSo_12 : decode cX6_firstNotSo 12 = .ok (.getfield 32, 3) := by decide +kernel
theorem dX6_firstNotSo_15 : decode cX6_firstNotSo 15 = .ok (.iload_n 1, 1) := by decide +kernel
theorem dX6_firstNotSo_16 : decode cX6_firstNotSo 16 = .ok (.invokevirtual 99, 3) := by decide +kernel
theorem dX6_firstNotSo_19 : decode cX6_firstNotSo 19 = .ok (.astore_n 3, 1) := by decide +kernel
theorem dX6_firstNotSo_20 : decode cX6_firstNotSo 20 = .ok (.iconst 0, 1) := by decide +kernel
theorem dX6_firstNotSo_21 : decode cX6_firstNotSo 21 = .ok (.istore 4, 2) := by decide +kernel
theorem dX6_firstNotSo_23 : decode cX6_firstNotSo 23 = .ok (.aload_n 3, 1) := by decide +kernel
theorem dX6_firstNotSo_24 : decode cX6_firstNotSo 24 = .ok (.ifnull 56, 3) := by decide +kernel
theorem dX6_firstNotSo_27 : decode cX6_firstNotSo 27 = .ok (.iload 4, 2) := by decide +kernel
theorem dX6_firstNotSo_29 : decode cX6_firstNotSo 29 = .ok (.aload_n 2, 1) := by decide +kernel
theorem dX6_firstNotSo_30 : decode cX6_firstNotSo 30 = .ok (.getfield 66, 3) := by decide +kernel
theorem dX6_firstNotSo_33 : decode cX6_firstNotSo 33 = .ok (.if_icmp .ge 47, 3) := by decide +kernel
theorem dX6_firstNotSo_36 : decode cX6_firstNotSo 36 = .ok (.aload_n 0, 1) := by decide +kernel
theorem dX6_firstNotSo_37 : decode cX6_firstNotSo 37 = .ok (.getfield 32, 3) := by decide +kernel
theorem dX6_firstNotSo_40 : decode cX6_firstNotSo 40 = .ok (.aload_n 0, 1) := by decide +kernel
theorem dX6_firstNotSo_41 : decode cX6_firstNotSo 41 = .ok (.getfield 10, 3) := by decide +kernel
theorem dX6_firstNotSo_44 : decode cX6_firstNotSo 44 = .ok (.iconst 1, 1) := by decide +kernel
theorem dX6_firstNotSo_45 : decode cX6_firstNotSo 45 = .ok (.invokevirtual 121, 3) := by decide +kernel
theorem dX6_firstNotSo_48 : decode cX6_firstNotSo 48 = .ok (.aload_n 2, 1) := by decide +kernel
theorem dX6_firstNotSo_49 : decode cX6_firstNotSo 49 = .ok (.iload 4, 2) := by decide +kernel
theorem dX6_firstNotSo_51 : decode cX6_firstNotSo 51 = .ok (.invokevirtual 287, 3) := by decide +kernel
theorem dX6_firstNotSo_54 : decode cX6_firstNotSo 54 = .ok (.ifCond .eq 20, 3) := by decide +kernel
theorem dX6_firstNotSo_57 : decode cX6_firstNotSo 57 = .ok (.aload_n 2, 1) := by decide +kernel
theorem dX6_firstNotSo_58 : decode cX6_firstNotSo 58 = .ok (.getfield 62, 3) := by decide +kernel
theorem dX6_firstNotSo_61 : decode cX6_firstNotSo 61 = .ok (.iload 4, 2) := by decide +kernel
theorem dX6_firstNotSo_63 : decode cX6_firstNotSo 63 = .ok (.iaload, 1) := by decide +kernel
theorem dX6_firstNotSo_64 : decode cX6_firstNotSo 64 = .ok (.aload_n 3, 1) := by decide +kernel
theorem dX6_firstNotSo_65 : decode cX6_firstNotSo 65 = .ok (.getfield 290, 3) := by decide +kernel
theorem dX6_firstNotSo_68 : decode cX6_firstNotSo 68 = .ok (.if_icmp .eq 6, 3) := by decide +kernel
theorem dX6_firstNotSo_71 : decode cX6_firstNotSo 71 = .ok (.iload 4, 2) := by decide +kernel
theorem dX6_firstNotSo_73 : decode cX6_firstNotSo 73 = .ok (.ireturn, 1) := by decide +kernel
theorem dX6_firstNotSo_74 : decode cX6_firstNotSo 74 = .ok (.iinc 4 1, 3) := by decide +kernel
theorem dX6_firstNotSo_77 : decode cX6_firstNotSo 77 = .ok (.goto (-54), 3) := by decide +kernel
theorem dX6_firstNotSo_80 : decode cX6_firstNotSo 80 = .ok (.bipush (-4), 2) := by decide +kernel
theorem dX6_firstNotSo_82 : decode cX6_firstNotSo 82 = .ok (.ireturn, 1) := by decide +kernel
theorem dX6_firstWinsWith_0 : decode cX6_firstWinsWith 0 = .ok (.aload_n 0, 1) := by decide +kernel
theorem dX6_firstWinsWith_1 : decode cX6_firstWinsWith 1 = .ok (.getfield 32, 3) := by decide +kernel
theorem dX6_firstWinsWith_4 : decode cX6_firstWinsWith 4 = .ok (.aload_n 0, 1) := by decide +kernel
theorem dX6_firstWinsWith_5 : decode cX6_firstWinsWith 5 = .ok (.getfield 19, 3) := by decide +kernel
theorem dX6_firstWinsWith_8 : decode cX6_firstWinsWith 8 = .ok (.invokevirtual 200, 3) := by decide +kernel
theorem dX6_firstWinsWith_11 : decode cX6_firstWinsWith 11 = .ok (.aload_n 0, 1) := by decide +kernel
theorem dX6_firstWinsWith_12 : decode cX6_firstWinsWith 12 = .ok (.getfield 32, 3) := by decide +kernel
theorem dX6_firstWinsWith_15 : decode cX6_firstWinsWith 15 = .ok (.iconst 0, 1) := by decide +kernel
theorem dX6_firstWinsWith_16 : decode cX6_firstWinsWith 16 = .ok (.invokevirtual 99, 3) := by decide +kernel
theorem dX6_firstWinsWith_19 : decode cX6_firstWinsWith 19 = .ok (.astore_n 2, 1) := by decide +kernel
theorem dX6_firstWinsWith_20 : decode cX6_firstWinsWith 20 = .ok (.aload_n 0, 1) := by decide +kernel
theorem dX6_firstWinsWith_21 : decode cX6_firstWinsWith 21 = .ok (.getfield 32, 3) := by decide +kernel
theorem dX6_firstWinsWith_24 : decode cX6_firstWinsWith 24 = .ok (.iconst 1, 1) := by decide +kernel
theorem dX6_firstWinsWith_25 : decode cX6_firstWinsWith 25 = .ok (.invokevirtual 99, 3) := by decide +kernel
theorem dX6_firstWinsWith_28 : decode cX6_firstWinsWith 28 = .ok (.astore_n 3, 1) := by decide +kernel
theorem dX6_firstWinsWith_29 : decode cX6_firstWinsWith 29 = .ok (.aload_n 2, 1) := by decide +kernel
theorem dX6_firstWinsWith_30 : decode cX6_firstWinsWith 30 = .ok (.ifnull 7, 3) := by decide +kernel
theorem dX6_firstWinsWith_33 : decode cX6_firstWinsWith 33 = .ok (.aload_n 3, 1) := by decide +kernel
theorem dX6_firstWinsWith_34 : decode cX6_firstWinsWith 34 = .ok (.ifnonnull 5, 3) := by decide +kernel
theorem dX6_firstWinsWith_37 : decode cX6_firstWinsWith 37 = .ok (.iconst 0, 1) := by decide +kernel
theorem dX6_firstWinsWith_38 : decode cX6_firstWinsWith 38 = .ok (.ireturn, 1) := by decide +kernel
theorem dX6_firstWinsWith_39 : decode cX6_firstWinsWith 39 = .ok (.aload_n 2, 1) := by decide +kernel
theorem dX6_firstWinsWith_40 : decode cX6_firstWinsWith 40 = .ok (.iload_n 1, 1) := by decide +kernel
theorem dX6_firstWinsWith_41 : decode cX6_firstWinsWith 41 = .ok (.aload_n 0, 1) := by decide +kernel
theorem dX6_firstWinsWith_42 : decode cX6_firstWinsWith 42 = .ok (.getfield 29, 3) := by decide +kernel
theorem dX6_firstWinsWith_45 : decode cX6_firstWinsWith 45 = .ok (.getfield 215, 3) := by decide +kernel
theorem dX6_firstWinsWith_48 : decode cX6_firstWinsWith 48 = .ok (.invokevirtual 293, 3) := by decide +kernel
theorem dX6_firstWinsWith_51 : decode cX6_firstWinsWith 51 = .ok (.aload_n 0, 1) := by decide +kernel
theorem dX6_firstWinsWith_52 : decode cX6_firstWinsWith 52 = .ok (.getfield 32, 3) := by decide +kernel
theorem dX6_firstWinsWith_55 : decode cX6_firstWinsWith 55 = .ok (.aload_n 0, 1) := by decide +kernel
theorem dX6_firstWinsWith_56 : decode cX6_firstWinsWith 56 = .ok (.getfield 29, 3) := by decide +kernel
theorem dX6_firstWinsWith_59 : decode cX6_firstWinsWith 59 = .ok (.sipush 400, 3) := by decide +kernel
theorem dX6_firstWinsWith_62 : decode cX6_firstWinsWith 62 = .ok (.invokevirtual 121, 3) := by decide +kernel
theorem dX6_firstWinsWith_65 : decode cX6_firstWinsWith 65 = .ok (.aload_n 2, 1) := by decide +kernel
theorem dX6_firstWinsWith_66 : decode cX6_firstWinsWith 66 = .ok (.aload_n 3, 1) := by decide +kernel
theorem dX6_firstWinsWith_67 : decode cX6_firstWinsWith 67 = .ok (.invokevirtual 296, 3) := by decide +kernel
theorem dX6_firstWinsWith_70 : decode cX6_firstWinsWith 70 = .ok (.ireturn, 1) := by decide +kernel
theorem dX7_init_0 : decode cX7_init 0 = .ok (.aload_n 0, 1) := by decide +kernel
theorem dX7_init_1 : decode cX7_init 1 = .ok (.invokespecial 1, 3) := by decide +kernel
theorem dX7_init_4 : decode cX7_init 4 = .ok (.aload_n 0, 1) := by decide +kernel
theorem dX7_init_5 : decode cX7_init 5 = .ok (.sipush 200, 3) := by decide +kernel
theorem dX7_init_8 : decode cX7_init 8 = .ok (.putfield 7, 3) := by decide +kernel
theorem dX7_init_11 : decode cX7_init 11 = .ok (.aload_n 0, 1) := by decide +kernel
theorem dX7_init_12 : decode cX7_init 12 = .ok (.bipush 100, 2) := by decide +kernel
theorem dX7_init_14 : decode cX7_init 14 = .ok (.putfield 13, 3) := by decide +kernel
theorem dX7_init_17 : decode cX7_init 17 = .ok (.aload_n 0, 1) := by decide +kernel
theorem dX7_init_18 : decode cX7_init 18 = .ok (.iconst 2, 1) := by decide +kernel
theorem dX7_init_19 : decode cX7_init 19 = .ok (.putfield 16, 3) := by decide +kernel
theorem dX7_init_22 : decode cX7_init 22 = .ok (.aload_n 0, 1) := by decide +kernel
theorem dX7_init_23 : decode cX7_init 23 = .ok (.bipush 100, 2) := by decide +kernel
theorem dX7_init_25 : decode cX7_init 25 = .ok (.newarray .int, 2) := by decide +kernel
theorem dX7_init_27 : decode cX7_init 27 = .ok (.putfield 19, 3) := by decide +kernel
theorem dX7_init_30 : decode cX7_init 30 = .ok (.aload_n 0, 1) := by decide +kernel
theorem dX7_init_31 : decode cX7_init 31 = .ok (.iconst 4, 1) := by decide +kernel
theorem dX7_init_32 : decode cX7_init 32 = .ok (.newarray .int, 2) := by decide +kernel
theorem dX7_init_34 : decode cX7_init 34 = .ok (.putfield 23, 3) := by decide +kernel
theorem dX7_init_37 : decode cX7_init 37 = .ok (.aload_n 0, 1) := by decide +kernel
theorem dX7_init_38 : decode cX7_init 38 = .ok (.iconst 4, 1) := by decide +kernel
theorem dX7_init_39 : decode cX7_init 39 = .ok (.newarray .int, 2) := by decide +kernel
theorem dX7_init_41 : decode cX7_init 41 = .ok (.putfield 26, 3) := by decide +kernel
theorem dX7_init_44 : decode cX7_init 44 = .ok (.aload_n 0, 1) := by decide +kernel
theorem dX7_init_45 : decode cX7_init 45 = .ok (.iconst 4, 1) := by decide +kernel
theorem dX7_init_46 : decode cX7_init 46 = .ok (.newarray .int, 2) := by decide +kernel
theorem dX7_init_48 : decode cX7_init 48 = .ok (.putfield 29, 3) := by decide +kernel
theorem dX7_init_51 : decode cX7_init 51 = .ok (.aload_n 0, 1) := by decide +kernel
theorem dX7_init_52 : decode cX7_init 52 = .ok (.iconst 4, 1) := by decide +kernel
theorem dX7_init_53 : decode cX7_init 53 = .ok (.newarray .int, 2) := by decide +kernel
theorem dX7_init_55 : decode cX7_init 55 = .ok (.putfield 32, 3) := by decide +kernel
theorem dX7_init_58 : decode cX7_init 58 = .ok (.aload_n 0, 1) := by decide +kernel
theorem dX7_init_59 : decode cX7_init 59 = .ok (.iconst 4, 1) := by decide +kernel
theorem dX7_init_60 : decode cX7_init 60 = .ok (.newarray .int, 2) := by decide +kernel
theorem dX7_init_62 : decode cX7_init 62 = .ok (.putfield 35, 3) := by decide +kernel
theorem dX7_init_65 : decode cX7_init 65 = .ok (.aload_n 0, 1) := by decide +kernel
theorem dX7_init_66 : decode cX7_init 66 = .ok (.iconst 4, 1) := by decide +kernel
theorem dX7_init_67 : decode cX7_init 67 = .ok (.newarray .int, 2) := by decide +kernel
theorem dX7_init_69 : decode cX7_init 69 = .ok (.putfield 38, 3) := by decide +kernel
theorem dX7_init_72 : decode cX7_init 72 = .ok (.aload_n 0, 1) := by decide +kernel
theorem dX7_init_73 : decode cX7_init 73 = .ok (.iconst 4, 1) := by decide +kernel
theorem dX7_init_74 : decode cX7_init 74 = .ok (.newarray .int, 2) := by decide +kernel
theorem dX7_init_76 : decode cX7_init 76 = .ok (.putfield 41, 3) := by decide +kernel
theorem dX7_init_79 : decode cX7_init 79 = .ok (.aload_n 0, 1) := by decide +kernel
theorem dX7_init_80 : decode cX7_init 80 = .ok (.iconst 4, 1) := by decide +kernel
theorem dX7_init_81 : decode cX7_init 81 = .ok (.newarray .int, 2) := by decide +kernel
theorem dX7_init_83 : decode cX7_init 83 = .ok (.putfield 44, 3) := by decide +kernel
theorem dX7_init_86 : decode cX7_init 86 = .ok (.aload_n 0, 1) := by decide +kernel
theorem dX7_init_87 : decode cX7_init 87 = .ok (.iconst 4, 1) := by decide +kernel
theorem dX7_init_88 : decode cX7_init 88 = .ok (.newarray .int, 2) := by decide +kernel
theorem dX7_init_90 : decode cX7_init 90 = .ok (.putfield 47, 3) := by decide +kernel
theorem dX7_init_93 : decode cX7_init 93 = .ok (.aload_n 0, 1) := by decide +kernel
theorem dX7_init_94 : decode cX7_init 94 = .ok (.iconst 4, 1) := by decide +kernel
theorem dX7_init_95 : decode cX7_init 95 = .ok (.newarray .int, 2) := by decide +kernel
theorem dX7_init_97 : decode cX7_init 97 = .ok (.putfield 50, 3) := by decide +kernel
theorem dX7_init_100 : decode cX7_init 100 = .ok (.aload_n 0, 1) := by decide +kernel
theorem dX7_init_101 : decode cX7_init 101 = .ok (.bipush 100, 2) := by decide +kernel
theorem dX7_init_103 : decode cX7_init 103 = .ok (.newarray .int, 2) := by decide +kernel
theorem dX7_init_105 : decode cX7_init 105 = .ok (.putfield 53, 3) := by decide +kernel
theorem dX7_init_108 : decode cX7_init 108 = .ok (.aload_n 0, 1) := by decide +kernel
theorem dX7_init_109 : decode cX7_init 109 = .ok (.bipush 8, 2) := by decide +kernel
theorem dX7_init_111 : decode cX7_init 111 = .ok (.newarray .int, 2) := by decide +kernel
theorem dX7_init_113 : decode cX7_init 113 = .ok (.putfield 56, 3) := by decide +kernel
theorem dX7_init_116 : decode cX7_init 116 = .ok (.aload_n 0, 1) := by decide +kernel
theorem dX7_init_117 : decode cX7_init 117 = .ok (.bipush 8, 2) := by decide +kernel
theorem dX7_init_119 : decode cX7_init 119 = .ok (.newarray .int, 2) := by decide +kernel
theorem dX7_init_121 : decode cX7_init 121 = .ok (.putfield 59, 3) := by decide +kernel
theorem dX7_init_124 : decode cX7_init 124 = .ok (.aload_n 0, 1) := by decide +kernel
theorem dX7_init_125 : decode cX7_init 125 = .ok (.bipush 8, 2) := by decide +kernel
theorem dX7_init_127 : decode cX7_init 127 = .ok (.newarray .int, 2) := by decide +kernel
theorem dX7_init_129 : decode cX7_init 129 = .ok (.putfield 62, 3) := by decide +kernel
theorem dX7_init_132 : decode cX7_init 132 = .ok (.aload_n 0, 1) := by decide +kernel
theorem dX7_init_133 : decode cX7_init 133 = .ok (.bipush 8, 2) := by decide +kernel
theorem dX7_init_135 : decode cX7_init 135 = .ok (.newarray .int, 2) := by decide +kernel
theorem dX7_init_137 : decode cX7_init 137 = .ok (.putfield 65, 3) := by decide +kernel
theorem dX7_init_140 : decode cX7_init 140 = .ok (.aload_n 0, 1) := by decide +kernel
theorem dX7_init_141 : decode cX7_init 141 = .ok (.sipush 401, 3) := by decide +kernel
theorem dX7_init_144 : decode cX7_init 144 = .ok (.newarray .int, 2) := by decide +kernel
theorem dX7_init_146 : decode cX7_init 146 = .ok (.putfield 68, 3) := by decide +kernel
theorem dX7_init_149 : decode cX7_init 149 = .ok (.aload_n 0, 1) := by decide +kernel
theorem dX7_init_150 : decode cX7_init 150 = .ok (.iconst 4, 1) := by decide +kernel
theorem dX7_init_151 : decode cX7_init 151 = .ok (.newarray .int, 2) := by decide +kernel
theorem dX7_init_153 : decode cX7_init 153 = .ok (.putfield 71, 3) := by decide +kernel
theorem dX7_init_156 : decode cX7_init 156 = .ok (.aload_n 0, 1) := by decide +kernel
theorem dX7_init_157 : decode cX7_init 157 = .ok (.iconst 4, 1) := by decide +kernel
theorem dX7_init_158 : decode cX7_init 158 = .ok (.newarray .int, 2) := by decide +kernel
theorem dX7_init_160 : decode cX7_init 160 = .ok (.putfield 74, 3) := by decide +kernel
theorem dX7_init_163 : decode cX7_init 163 = .ok (.aload_n 0, 1) := by decide +kernel
theorem dX7_init_164 : decode cX7_init 164 = .ok (.sipush 150, 3) := by decide +kernel
theorem dX7_init_167 : decode cX7_init 167 = .ok (.newarray .int, 2) := by decide +kernel
theorem dX7_init_169 : decode cX7_init 169 = .ok (.putfield 77, 3) := by decide +kernel
theorem dX7_init_172 : decode cX7_init 172 = .ok (.aload_n 0, 1) := by decide +kernel
theorem dX7_init_173 : decode cX7_init 173 = .ok (.sipush 150, 3) := by decide +kernel
theorem dX7_init_176 : decode cX7_init 176 = .ok (.newarray .int, 2) := by decide +kernel
theorem dX7_init_178 : decode cX7_init 178 = .ok (.putfield 80, 3) := by decide +kernel
theorem dX7_init_181 : decode cX7_init 181 = .ok (.aload_n 0, 1) := by decide +kernel
theorem dX7_init_182 : decode cX7_init 182 = .ok (.iconst 4, 1) := by decide +kernel
theorem dX7_init_183 : decode cX7_init 183 = .ok (.newarray .int, 2) := by decide +kernel
theorem dX7_init_185 : decode cX7_init 185 = .ok (.putfield 83, 3) := by decide +kernel
theorem dX7_init_188 : decode cX7_init 188 = .ok (.aload_n 0, 1) := by decide +kernel
theorem dX7_init_189 : decode cX7_init 189 = .ok (.bipush 8, 2) := by decide +kernel
theorem dX7_init_191 : decode cX7_init 191 = .ok (.newarray .int, 2) := by decide +kernel
theorem dX7_init_193 : decode cX7_init 193 = .ok (.putfield 86, 3) := by decide +kernel
theorem dX7_init_196 : decode cX7_init 196 = .ok (.aload_n 0, 1) := by decide +kernel
theorem dX7_init_197 : decode cX7_init 197 = .ok (.bipush 8, 2) := by decide +kernel
theorem dX7_init_199 : decode cX7_init 199 = .ok (.newarray .int, 2) := by decide +kernel
theorem dX7_init_201 : decode cX7_init 201 = .ok (.putfield 89, 3) := by decide +kernel
theorem dX7_init_204 : decode cX7_init 204 = .ok (.aload_n 0, 1) := by decide +kernel
theorem dX7_init_205 : decode cX7_init 205 = .ok (.bipush 8, 2) := by decide +kernel
theorem dX7_init_207 : decode cX7_init 207 = .ok (.newarray .int, 2) := by decide +kernel
theorem dX7_init_209 : decode cX7_init 209 = .ok (.putfield 92, 3) := by decide +kernel
theorem dX7_init_212 : decode cX7_init 212 = .ok (.aload_n 0, 1) := by decide +kernel
theorem dX7_init_213 : decode cX7_init 213 = .ok (.bipush 8, 2) := by decide +kernel
theorem dX7_init_215 : decode cX7_init 215 = .ok (.newarray .int, 2) := by decide +kernel
theorem dX7_init_217 : decode cX7_init 217 = .ok (.putfield 95, 3) := by decide +kernel
theorem dX7_init_220 : decode cX7_init 220 = .ok (.aload_n 0, 1) := by decide +kernel
theorem dX7_init_221 : decode cX7_init 221 = .ok (.bipush 8, 2) := by decide +kernel
theorem dX7_init_223 : decode cX7_init 223 = .ok (.newarray .int, 2) := by decide +kernel
theorem dX7_init_225 : decode cX7_init 225 = .ok (.putfield 98, 3) := by decide +kernel
theorem dX7_init_228 : decode cX7_init 228 = .ok (.aload_n 0, 1) := by decide +kernel
theorem dX7_init_229 : decode cX7_init 229 = .ok (.bipush 8, 2) := by decide +kernel
theorem dX7_init_231 : decode cX7_init 231 = .ok (.newarray .int, 2) := by decide +kernel
theorem dX7_init_233 : decode cX7_init 233 = .ok (.putfield 101, 3) := by decide +kernel
theorem dX7_init_236 : decode cX7_init 236 = .ok (.aload_n 0, 1) := by decide +kernel
theorem dX7_init_237 : decode cX7_init 237 = .ok (.sipush 800, 3) := by decide +kernel
theorem dX7_init_240 : decode cX7_init 240 = .ok (.newarray .long, 2) := by decide +kernel
theorem dX7_init_242 : decode cX7_init 242 = .ok (.putfield 104, 3) := by decide +kernel
theorem dX7_init_245 : decode cX7_init 245 = .ok (.aload_n 0, 1) := by decide +kernel
theorem dX7_init_246 : decode cX7_init 246 = .ok (.bipush 100, 2) := by decide +kernel
theorem dX7_init_248 : decode cX7_init 248 = .ok (.newarray .long, 2) := by decide +kernel
theorem dX7_init_250 : decode cX7_init 250 = .ok (.putfield 108, 3) := by decide +kernel
theorem dX7_init_253 : decode cX7_init 253 = .ok (.aload_n 0, 1) := by decide +kernel
theorem dX7_init_254 : decode cX7_init 254 = .ok (.iconst 0, 1) := by decide +kernel
theorem dX7_init_255 : decode cX7_init 255 = .ok (.putfield 111, 3) := by decide +kernel
theorem dX7_init_258 : decode cX7_init 258 = .ok (.return_, 1) := by decide +kernel
theorem dX7_thrown_0 : decode cX7_thrown 0 = .ok (.aload_n 0, 1) := by decide +kernel
theorem dX7_thrown_1 : decode cX7_thrown 1 = .ok (.getfield 111, 3) := by decide +kernel
theorem dX7_thrown_4 : decode cX7_thrown 4 = .ok (.ireturn, 1) := by decide +kernel
theorem dX7_in_0 : decode cX7_in 0 = .ok (.lload_n 0, 1) := by decide +kernel
theorem dX7_in_1 : decode cX7_in 1 = .ok (.lload_n 2, 1) := by decide +kernel
theorem dX7_in_2 : decode cX7_in 2 = .ok (.lcmp, 1) := by decide +kernel
theorem dX7_in_3 : decode cX7_in 3 = .ok (.ifCond .lt 14, 3) := by decide +kernel
theorem dX7_in_6 : decode cX7_in 6 = .ok (.lload_n 0, 1) := by decide +kernel
theorem dX7_in_7 : decode cX7_in 7 = .ok (.lload 4, 2) := by decide +kernel
theorem dX7_in_9 : decode cX7_in 9 = .ok (.lcmp, 1) := by decide +kernel
theorem dX7_in_10 : decode cX7_in 10 = .ok (.ifCond .gt 7, 3) := by decide +kernel
theorem dX7_in_13 : decode cX7_in 13 = .ok (.iconst 1, 1) := by decide +kernel
theorem dX7_in_14 : decode cX7_in 14 = .ok (.goto 4, 3) := by decide +kernel
theorem dX7_in_17 : decode cX7_in 17 = .ok (.iconst 0, 1) := by decide +kernel
theorem dX7_in_18 : decode cX7_in 18 = .ok (.ireturn, 1) := by decide +kernel
theorem dX7_plainly_0 : decode cX7_plainly 0 = .ok (.iload_n 0, 1) := by decide +kernel
theorem dX7_plainly_1 : decode cX7_plainly 1 = .ok (.ifCond .ge 8, 3) := by decide +kernel
theorem dX7_plainly_4 : decode cX7_plainly 4 = .ok (.iload_n 0, 1) := by decide +kernel
theorem dX7_plainly_5 : decode cX7_plainly 5 = .ok (.ineg, 1) := by decide +kernel
theorem dX7_plainly_6 : decode cX7_plainly 6 = .ok (.goto 4, 3) := by decide +kernel
theorem dX7_plainly_9 : decode cX7_plainly 9 = .ok (.iload_n 0, 1) := by decide +kernel
theorem dX7_plainly_10 : decode cX7_plainly 10 = .ok (.ireturn, 1) := by decide +kernel
theorem dX7_isBoat_0 : decode cX7_isBoat 0 = .ok (.iload_n 1, 1) := by decide +kernel
theorem dX7_isBoat_1 : decode cX7_isBoat 1 = .ok (.i2l, 1) := by decide +kernel
theorem dX7_isBoat_2 : decode cX7_isBoat 2 = .ok (.lconst 0, 1) := by decide +kernel
theorem dX7_isBoat_3 : decode cX7_isBoat 3 = .ok (.aload_n 0, 1) := by decide +kernel
theorem dX7_isBoat_4 : decode cX7_isBoat 4 = .ok (.getfield 114, 3) := by decide +kernel
theorem dX7_isBoat_7 : decode cX7_isBoat 7 = .ok (.iconst 1, 1) := by decide +kernel
theorem dX7_isBoat_8 : decode cX7_isBoat 8 = .ok (.isub, 1) := by decide +kernel
theorem dX7_isBoat_9 : decode cX7_isBoat 9 = .ok (.i2l, 1) := by decide +kernel
theorem dX7_isBoat_10 : decode cX7_isBoat 10 = .ok (.invokestatic 117, 3) := by decide +kernel
theorem dX7_isBoat_13 : decode cX7_isBoat 13 = .ok (.ireturn, 1) := by decide +kernel
theorem dX7_faultOf_0 : decode cX7_faultOf 0 = .ok (.iconst 1, 1) := by decide +kernel
theorem dX7_faultOf_1 : decode cX7_faultOf 1 = .ok (.istore_n 1, 1) := by decide +kernel
theorem dX7_faultOf_2 : decode cX7_faultOf 2 = .ok (.iconst 0, 1) := by decide +kernel
theorem dX7_faultOf_3 : decode cX7_faultOf 3 = .ok (.istore_n 2, 1) := by decide +kernel
theorem dX7_faultOf_4 : decode cX7_faultOf 4 = .ok (.iconst 0, 1) := by decide +kernel
theorem dX7_faultOf_5 : decode cX7_faultOf 5 = .ok (.istore_n 3, 1) := by decide +kernel
theorem dX7_faultOf_6 : decode cX7_faultOf 6 = .ok (.aload_n 0, 1) := by decide +kernel
theorem dX7_faultOf_7 : decode cX7_faultOf 7 = .ok (.iconst 0, 1) := by decide +kernel
theorem dX7_faultOf_8 : decode cX7_faultOf 8 = .ok (.putfield 121, 3) := by decide +kernel
theorem dX7_faultOf_11 : decode cX7_faultOf 11 = .ok (.iconst 0, 1) := by decide +kernel
theorem dX7_faultOf_12 : decode cX7_faultOf 12 = .ok (.istore 4, 2) := by decide +kernel
theorem dX7_faultOf_14 : decode cX7_faultOf 14 = .ok (.iload 4, 2) := by decide +kernel
theorem dX7_faultOf_16 : decode cX7_faultOf 16 = .ok (.aload_n 0, 1) := by decide +kernel
theorem dX7_faultOf_17 : decode cX7_faultOf 17 = .ok (.getfield 124, 3) := by decide +kernel
theorem dX7_faultOf_20 : decode cX7_faultOf 20 = .ok (.if_icmp .ge 265, 3) := by decide +kernel
theorem dX7_faultOf_23 : decode cX7_faultOf 23 = .ok (.aload_n 0, 1) := by decide +kernel
theorem dX7_faultOf_24 : decode cX7_faultOf 24 = .ok (.getfield 53, 3) := by decide +kernel
theorem dX7_faultOf_27 : decode cX7_faultOf 27 = .ok (.iload 4, 2) := by decide +kernel
theorem dX7_faultOf_29 : decode cX7_faultOf 29 = .ok (.iaload, 1) := by decide +kernel
theorem dX7_faultOf_30 : decode cX7_faultOf 30 = .ok (.istore 5, 2) := by decide +kernel
theorem dX7_faultOf_32 : decode cX7_faultOf 32 = .ok (.iload 5, 2) := by decide +kernel
theorem dX7_faultOf_34 : decode cX7_faultOf 34 = .ok (.i2l, 1) := by decide +kernel
theorem dX7_faultOf_35 : decode cX7_faultOf 35 = .ok (.ldc2_w 127, 3) := by decide +kernel
theorem dX7_faultOf_38 : decode cX7_faultOf 38 = .ok (.ldc2_w 129, 3) := by decide +kernel
theorem dX7_faultOf_41 : decode cX7_faultOf 41 = .ok (.invokestatic 117, 3) := by decide +kernel
theorem dX7_faultOf_44 : decode cX7_faultOf 44 = .ok (.istore 6, 2) := by decide +kernel
theorem dX7_faultOf_46 : decode cX7_faultOf 46 = .ok (.iload 6, 2) := by decide +kernel
theorem dX7_faultOf_48 : decode cX7_faultOf 48 = .ok (.ifCond .eq 53, 3) := by decide +kernel
theorem dX7_faultOf_51 : decode cX7_faultOf 51 = .ok (.iload_n 2, 1) := by decide +kernel
theorem dX7_faultOf_52 : decode cX7_faultOf 52 = .ok (.ifCond .eq 49, 3) := by decide +kernel
theorem dX7_faultOf_55 : decode cX7_faultOf 55 = .ok (.aload_n 0, 1) := by decide +kernel
theorem dX7_faultOf_56 : decode cX7_faultOf 56 = .ok (.getfield 121, 3) := by decide +kernel
theorem dX7_faultOf_59 : decode cX7_faultOf 59 = .ok (.iconst 3, 1) := by decide +kernel
theorem dX7_faultOf_60 : decode cX7_faultOf 60 = .ok (.if_icmp .eq 25, 3) := by decide +kernel
theorem dX7_faultOf_63 : decode cX7_faultOf 63 = .ok (.aload_n 0, 1) := by decide +kernel
theorem dX7_faultOf_64 : decode cX7_faultOf 64 = .ok (.getfield 121, 3) := by decide +kernel
theorem dX7_faultOf_67 : decode cX7_faultOf 67 = .ok (.iconst 1, 1) := by decide +kernel
theorem dX7_faultOf_68 : decode cX7_faultOf 68 = .ok (.if_icmp .ne 20, 3) := by decide +kernel
theorem dX7_faultOf_71 : decode cX7_faultOf 71 = .ok (.aload_n 0, 1) := by decide +kernel
theorem dX7_faultOf_72 : decode cX7_faultOf 72 = .ok (.getfield 53, 3) := by decide +kernel
theorem dX7_faultOf_75 : decode cX7_faultOf 75 = .ok (.iload 4, 2) := by decide +kernel
theorem dX7_faultOf_77 : decode cX7_faultOf 77 = .ok (.iconst 1, 1) := by decide +kernel
theorem dX7_faultOf_78 : decode cX7_faultOf 78 = .ok (.isub, 1) := by decide +kernel
theorem dX7_faultOf_79 : decode cX7_faultOf 79 = .ok (.iaload, 1) := by decide +kernel
theorem dX7_faultOf_80 : decode cX7_faultOf 80 = .ok (.bipush 48, 2) := by decide +kernel
theorem dX7_faultOf_82 : decode cX7_faultOf 82 = .ok (.if_icmp .ne 6, 3) := by decide +kernel
theorem dX7_faultOf_85 : decode cX7_faultOf 85 = .ok (.iload 4, 2) := by decide +kernel
theorem dX7_faultOf_87 : decode cX7_faultOf 87 = .ok (.ireturn, 1) := by decide +kernel
theorem dX7_faultOf_88 : decode cX7_faultOf 88 = .ok (.aload_n 0, 1) := by decide +kernel
theorem dX7_faultOf_89 : decode cX7_faultOf 89 = .ok (.dup, 1) := by decide +kernel
theorem dX7_faultOf_90 : decode cX7_faultOf 90 = .ok (.getfield 121, 3) := by decide +kernel
theorem dX7_faultOf_93 : decode cX7_faultOf 93 = .ok (.iconst 1, 1) := by decide +kernel
theorem dX7_faultOf_94 : decode cX7_faultOf 94 = .ok (.iadd, 1) := by decide +kernel
theorem dX7_faultOf_95 : decode cX7_faultOf 95 = .ok (.putfield 121, 3) := by decide +kernel
theorem dX7_faultOf_98 : decode cX7_faultOf 98 = .ok (.goto 181, 3) := by decide +kernel
theorem dX7_faultOf_101 : decode cX7_faultOf 101 = .ok (.iload_n 1, 1) := by decide +kernel
theorem dX7_faultOf_102 : decode cX7_faultOf 102 = .ok (.ifCond .eq 86, 3) := by decide +kernel
theorem dX7_faultOf_105 : decode cX7_faultOf 105 = .ok (.iload 5, 2) := by decide +kernel
theorem dX7_faultOf_107 : decode cX7_faultOf 107 = .ok (.bipush 40, 2) := by decide +kernel
theorem dX7_faultOf_109 : decode cX7_faultOf 109 = .ok (.if_icmp .ne 13, 3) := by decide +kernel
theorem dX7_faultOf_112 : decode cX7_faultOf 112 = .ok (.iload_n 3, 1) := by decide +kernel
theorem dX7_faultOf_113 : decode cX7_faultOf 113 = .ok (.bipush 6, 2) := by decide +kernel
theorem dX7_faultOf_115 : decode cX7_faultOf 115 = .ok (.if_icmp .ge 7, 3) := by decide +kernel
theorem dX7_faultOf_118 : decode cX7_faultOf 118 = .ok (.iconst 1, 1) := by decide +kernel
theorem dX7_faultOf_119 : decode cX7_faultOf 119 = .ok (.goto 4, 3) := by decide +kernel
theorem dX7_faultOf_122 : decode cX7_faultOf 122 = .ok (.iconst 0, 1) := by decide +kernel
theorem dX7_faultOf_123 : decode cX7_faultOf 123 = .ok (.istore 7, 2) := by decide +kernel
theorem dX7_faultOf_125 : decode cX7_faultOf 125 = .ok (.iload 7, 2) := by decide +kernel
theorem dX7_faultOf_127 : decode cX7_faultOf 127 = .ok (.ifCond .ne 25, 3) := by decide +kernel
theorem dX7_faultOf_130 : decode cX7_faultOf 130 = .ok (.iload 6, 2) := by decide +kernel
theorem dX7_faultOf_132 : decode cX7_faultOf 132 = .ok (.ifCond .ne 20, 3) := by decide +kernel
theorem dX7_faultOf_135 : decode cX7_faultOf 135 = .ok (.iload 5, 2) := by decide +kernel
theorem dX7_faultOf_137 : decode cX7_faultOf 137 = .ok (.bipush 116, 2) := by decide +kernel
theorem dX7_faultOf_139 : decode cX7_faultOf 139 = .ok (.if_icmp .eq 13, 3) := by decide +kernel
theorem dX7_faultOf_142 : decode cX7_faultOf 142 = .ok (.iload 5, 2) := by decide +kernel
theorem dX7_faultOf_144 : decode cX7_faultOf 144 = .ok (.bipush 115, 2) := by decide +kernel
theorem dX7_faultOf_146 : decode cX7_faultOf 146 = .ok (.if_icmp .eq 6, 3) := by decide +kernel
theorem dX7_faultOf_149 : decode cX7_faultOf 149 = .ok (.iload 4, 2) := by decide +kernel
theorem dX7_faultOf_151 : decode cX7_faultOf 151 = .ok (.ireturn, 1) := by decide +kernel
theorem dX7_faultOf_152 : decode cX7_faultOf 152 = .ok (.iload_n 3, 1) := by decide +kernel
theorem dX7_faultOf_153 : decode cX7_faultOf 153 = .ok (.iload 7, 2) := by decide +kernel
theorem dX7_faultOf_155 : decode cX7_faultOf 155 = .ok (.ifCond .eq 7, 3) := by decide +kernel
theorem dX7_faultOf_158 : decode cX7_faultOf 158 = .ok (.iconst 1, 1) := by decide +kernel
theorem dX7_faultOf_159 : decode cX7_faultOf 159 = .ok (.goto 4, 3) := by decide +kernel
theorem dX7_faultOf_162 : decode cX7_faultOf 162 = .ok (.iconst 0, 1) := by decide +kernel
theorem dX7_faultOf_163 : decode cX7_faultOf 163 = .ok (.iadd, 1) := by decide +kernel
theorem dX7_faultOf_164 : decode cX7_faultOf 164 = .ok (.istore_n 3, 1) := by decide +kernel
theorem dX7_faultOf_165 : decode cX7_faultOf 165 = .ok (.iload 7, 2) := by decide +kernel
theorem dX7_faultOf_167 : decode cX7_faultOf 167 = .ok (.istore_n 1, 1) := by decide +kernel
theorem dX7_faultOf_168 : decode cX7_faultOf 168 = .ok (.iload 6, 2) := by decide +kernel
theorem dX7_faultOf_170 : decode cX7_faultOf 170 = .ok (.istore_n 2, 1) := by decide +kernel
theorem dX7_faultOf_171 : decode cX7_faultOf 171 = .ok (.aload_n 0, 1) := by decide +kernel
theorem dX7_faultOf_172 : decode cX7_faultOf 172 = .ok (.iload 6, 2) := by decide +kernel
theorem dX7_faultOf_174 : decode cX7_faultOf 174 = .ok (.ifCond .eq 7, 3) := by decide +kernel
theorem dX7_faultOf_177 : decode cX7_faultOf 177 = .ok (.iconst 1, 1) := by decide +kernel
theorem dX7_faultOf_178 : decode cX7_faultOf 178 = .ok (.goto 4, 3) := by decide +kernel
theorem dX7_faultOf_181 : decode cX7_faultOf 181 = .ok (.iconst 0, 1) := by decide +kernel
theorem dX7_faultOf_182 : decode cX7_faultOf 182 = .ok (.putfield 121, 3) := by decide +kernel
theorem dX7_faultOf_185 : decode cX7_faultOf 185 = .ok (.goto 94, 3) := by decide +kernel
theorem dX7_faultOf_188 : decode cX7_faultOf 188 = .ok (.iload 5, 2) := by decide +kernel
theorem dX7_faultOf_190 : decode cX7_faultOf 190 = .ok (.bipush 41, 2) := by decide +kernel
theorem dX7_faultOf_192 : decode cX7_faultOf 192 = .ok (.if_icmp .ne 11, 3) := by decide +kernel
theorem dX7_faultOf_195 : decode cX7_faultOf 195 = .ok (.iload_n 3, 1) := by decide +kernel
theorem dX7_faultOf_196 : decode cX7_faultOf 196 = .ok (.ifCond .le 7, 3) := by decide +kernel
theorem dX7_faultOf_199 : decode cX7_faultOf 199 = .ok (.iconst 1, 1) := by decide +kernel
theorem dX7_faultOf_200 : decode cX7_faultOf 200 = .ok (.goto 4, 3) := by decide +kernel
theorem dX7_faultOf_203 : decode cX7_faultOf 203 = .ok (.iconst 0, 1) := by decide +kernel
theorem dX7_faultOf_204 : decode cX7_faultOf 204 = .ok (.istore 7, 2) := by decide +kernel
theorem dX7_faultOf_206 : decode cX7_faultOf 206 = .ok (.iload 5, 2) := by decide +kernel
theorem dX7_faultOf_208 : decode cX7_faultOf 208 = .ok (.bipush 43, 2) := by decide +kernel
theorem dX7_faultOf_210 : decode cX7_faultOf 210 = .ok (.if_icmp .eq 31, 3) := by decide +kernel
theorem dX7_faultOf_213 : decode cX7_faultOf 213 = .ok (.iload 5, 2) := by decide +kernel
theorem dX7_faultOf_215 : decode cX7_faultOf 215 = .ok (.bipush 45, 2) := by decide +kernel
theorem dX7_faultOf_217 : decode cX7_faultOf 217 = .ok (.if_icmp .eq 24, 3) := by decide +kernel
theorem dX7_faultOf_220 : decode cX7_faultOf 220 = .ok (.iload 5, 2) := by decide +kernel
theorem dX7_faultOf_222 : decode cX7_faultOf 222 = .ok (.bipush 42, 2) := by decide +kernel
theorem dX7_faultOf_224 : decode cX7_faultOf 224 = .ok (.if_icmp .eq 17, 3) := by decide +kernel
theorem dX7_faultOf_227 : decode cX7_faultOf 227 = .ok (.iload 5, 2) := by decide +kernel
theorem dX7_faultOf_229 : decode cX7_faultOf 229 = .ok (.bipush 47, 2) := by decide +kernel
theorem dX7_faultOf_231 : decode cX7_faultOf 231 = .ok (.if_icmp .eq 10, 3) := by decide +kernel
theorem dX7_faultOf_234 : decode cX7_faultOf 234 = .ok (.iload 5, 2) := by decide +kernel
theorem dX7_faultOf_236 : decode cX7_faultOf 236 = .ok (.bipush 37, 2) := by decide +kernel
theorem dX7_faultOf_238 : decode cX7_faultOf 238 = .ok (.if_icmp .ne 7, 3) := by decide +kernel
theorem dX7_faultOf_241 : decode cX7_faultOf 241 = .ok (.iconst 1, 1) := by decide +kernel
theorem dX7_faultOf_242 : decode cX7_faultOf 242 = .ok (.goto 4, 3) := by decide +kernel
theorem dX7_faultOf_245 : decode cX7_faultOf 245 = .ok (.iconst 0, 1) := by decide +kernel
theorem dX7_faultOf_246 : decode cX7_faultOf 246 = .ok (.istore 8, 2) := by decide +kernel
theorem dX7_faultOf_248 : decode cX7_faultOf 248 = .ok (.iload 7, 2) := by decide +kernel
theorem dX7_faultOf_250 : decode cX7_faultOf 250 = .ok (.ifCond .ne 11, 3) := by decide +kernel
theorem dX7_faultOf_253 : decode cX7_faultOf 253 = .ok (.iload 8, 2) := by decide +kernel
theorem dX7_faultOf_255 : decode cX7_faultOf 255 = .ok (.ifCond .ne 6, 3) := by decide +kernel
theorem dX7_faultOf_258 : decode cX7_faultOf 258 = .ok (.iload 4, 2) := by decide +kernel
theorem dX7_faultOf_260 : decode cX7_faultOf 260 = .ok (.ireturn, 1) := by decide +kernel
theorem dX7_faultOf_261 : decode cX7_faultOf 261 = .ok (.iload_n 3, 1) := by decide +kernel
theorem dX7_faultOf_262 : decode cX7_faultOf 262 = .ok (.iload 7, 2) := by decide +kernel
theorem dX7_faultOf_264 : decode cX7_faultOf 264 = .ok (.ifCond .eq 7, 3) := by decide +kernel
theorem dX7_faultOf_267 : decode cX7_faultOf 267 = .ok (.iconst 1, 1) := by decide +kernel
theorem dX7_faultOf_268 : decode cX7_faultOf 268 = .ok (.goto 4, 3) := by decide +kernel
theorem dX7_faultOf_271 : decode cX7_faultOf 271 = .ok (.iconst 0, 1) := by decide +kernel
theorem dX7_faultOf_272 : decode cX7_faultOf 272 = .ok (.isub, 1) := by decide +kernel
theorem dX7_faultOf_273 : decode cX7_faultOf 273 = .ok (.istore_n 3, 1) := by decide +kernel
theorem dX7_faultOf_274 : decode cX7_faultOf 274 = .ok (.iload 8, 2) := by decide +kernel
theorem dX7_faultOf_276 : decode cX7_faultOf 276 = .ok (.istore_n 1, 1) := by decide +kernel
theorem dX7_faultOf_277 : decode cX7_faultOf 277 = .ok (.iconst 0, 1) := by decide +kernel
theorem dX7_faultOf_278 : decode cX7_faultOf 278 = .ok (.istore_n 2, 1) := by decide +kernel
theorem dX7_faultOf_279 : decode cX7_faultOf 279 = .ok (.iinc 4 1, 3) := by decide +kernel
theorem dX7_faultOf_282 : decode cX7_faultOf 282 = .ok (.goto (-268), 3) := by decide +kernel
theorem dX7_faultOf_285 : decode cX7_faultOf 285 = .ok (.iload_n 1, 1) := by decide +kernel
theorem dX7_faultOf_286 : decode cX7_faultOf 286 = .ok (.ifCond .ne 7, 3) := by decide +kernel
theorem dX7_faultOf_289 : decode cX7_faultOf 289 = .ok (.iload_n 3, 1) := by decide +kernel
theorem dX7_faultOf_290 : decode cX7_faultOf 290 = .ok (.ifCond .le 10, 3) := by decide +kernel
theorem dX7_faultOf_293 : decode cX7_faultOf 293 = .ok (.aload_n 0, 1) := by decide +kernel
theorem dX7_faultOf_294 : decode cX7_faultOf 294 = .ok (.getfield 124, 3) := by decide +kernel
theorem dX7_faultOf_297 : decode cX7_faultOf 297 = .ok (.goto 5, 3) := by decide +kernel
theorem dX7_faultOf_300 : decode cX7_faultOf 300 = .ok (.bipush (-4), 2) := by decide +kernel
theorem dX7_faultOf_302 : decode cX7_faultOf 302 = .ok (.ireturn, 1) := by decide +kernel
theorem dX7_openLevel_0 : decode cX7_openLevel 0 = .ok (.aload_n 0, 1) := by decide +kernel
theorem dX7_openLevel_1 : decode cX7_openLevel 1 = .ok (.getfield 56, 3) := by decide +kernel
theorem dX7_openLevel_4 : decode cX7_openLevel 4 = .ok (.aload_n 0, 1) := by decide +kernel
theorem dX7_openLevel_5 : decode cX7_openLevel 5 = .ok (.getfield 131, 3) := by decide +kernel
theorem dX7_openLevel_8 : decode cX7_openLevel 8 = .ok (.iconst 0, 1) := by decide +kernel
theorem dX7_openLevel_9 : decode cX7_openLevel 9 = .ok (.iastore, 1) := by decide +kernel
theorem dX7_openLevel_10 : decode cX7_openLevel 10 = .ok (.aload_n 0, 1) := by decide +kernel
theorem dX7_openLevel_11 : decode cX7_openLevel 11 = .ok (.getfield 59, 3) := by decide +kernel
theorem dX7_openLevel_14 : decode cX7_openLevel 14 = .ok (.aload_n 0, 1) := by decide +kernel
theorem dX7_openLevel_15 : decode cX7_openLevel 15 = .ok (.getfield 131, 3) := by decide +kernel
theorem dX7_openLevel_18 : decode cX7_openLevel 18 = .ok (.iconst 1, 1) := by decide +kernel
theorem dX7_openLevel_19 : decode cX7_openLevel 19 = .ok (.iastore, 1) := by decide +kernel
theorem dX7_openLevel_20 : decode cX7_openLevel 20 = .ok (.aload_n 0, 1) := by decide +kernel
theorem dX7_openLevel_21 : decode cX7_openLevel 21 = .ok (.getfield 65, 3) := by decide +kernel
theorem dX7_openLevel_24 : decode cX7_openLevel 24 = .ok (.aload_n 0, 1) := by decide +kernel
theorem dX7_openLevel_25 : decode cX7_openLevel 25 = .ok (.getfield 131, 3) := by decide +kernel
theorem dX7_openLevel_28 : decode cX7_openLevel 28 = .ok (.iconst 0, 1) := by decide +kernel
theorem dX7_openLevel_29 : decode cX7_openLevel 29 = .ok (.iastore, 1) := by decide +kernel
theorem dX7_openLevel_30 : decode cX7_openLevel 30 = .ok (.return_, 1) := by decide +kernel
theorem dX7_atom_0 : decode cX7_atom 0 = .ok (.aload_n 0, 1) := by decide +kernel
theorem dX7_atom_1 : decode cX7_atom 1 = .ok (.getfield 62, 3) := by decide +kernel
theorem dX7_atom_4 : decode cX7_atom 4 = .ok (.aload_n 0, 1) := by decide +kernel
theorem dX7_atom_5 : decode cX7_atom 5 = .ok (.getfield 131, 3) := by decide +kernel
theorem dX7_atom_8 : decode cX7_atom 8 = .ok (.iaload, 1) := by decide +kernel
theorem dX7_atom_9 : decode cX7_atom 9 = .ok (.istore_n 2, 1) := by decide +kernel
theorem dX7_atom_10 : decode cX7_atom 10 = .ok (.aload_n 0, 1) := by decide +kernel
theorem dX7_atom_11 : decode cX7_atom 11 = .ok (.getfield 65, 3) := by decide +kernel
theorem dX7_atom_14 : decode cX7_atom 14 = .ok (.aload_n 0, 1) := by decide +kernel
theorem dX7_atom_15 : decode cX7_atom 15 = .ok (.getfield 131, 3) := by decide +kernel
theorem dX7_atom_18 : decode cX7_atom 18 = .ok (.iaload, 1) := by decide +kernel
theorem dX7_atom_19 : decode cX7_atom 19 = .ok (.istore_n 3, 1) := by decide +kernel
theorem dX7_atom_20 : decode cX7_atom 20 = .ok (.aload_n 0, 1) := by decide +kernel
theorem dX7_atom_21 : decode cX7_atom 21 = .ok (.getfield 62, 3) := by decide +kernel
theorem dX7_atom_24 : decode cX7_atom 24 = .ok (.aload_n 0, 1) := by decide +kernel
theorem dX7_atom_25 : decode cX7_atom 25 = .ok (.getfield 131, 3) := by decide +kernel
theorem dX7_atom_28 : decode cX7_atom 28 = .ok (.iload_n 3, 1) := by decide +kernel
theorem dX7_atom_29 : decode cX7_atom 29 = .ok (.ifCond .ne 7, 3) := by decide +kernel
theorem dX7_atom_32 : decode cX7_atom 32 = .ok (.iload_n 1, 1) := by decide +kernel
theorem dX7_atom_33 : decode cX7_atom 33 = .ok (.goto 38, 3) := by decide +kernel
theorem dX7_atom_36 : decode cX7_atom 36 = .ok (.iload_n 3, 1) := by decide +kernel
theorem dX7_atom_37 : decode cX7_atom 37 = .ok (.bipush 42, 2) := by decide +kernel
theorem dX7_atom_39 : decode cX7_atom 39 = .ok (.if_icmp .ne 9, 3) := by decide +kernel
theorem dX7_atom_42 : decode cX7_atom 42 = .ok (.iload_n 2, 1) := by decide +kernel
theorem dX7_atom_43 : decode cX7_atom 43 = .ok (.iload_n 1, 1) := by decide +kernel
theorem dX7_atom_44 : decode cX7_atom 44 = .ok (.imul, 1) := by decide +kernel
theorem dX7_atom_45 : decode cX7_atom 45 = .ok (.goto 26, 3) := by decide +kernel
theorem dX7_atom_48 : decode cX7_atom 48 = .ok (.iload_n 1, 1) := by decide +kernel
theorem dX7_atom_49 : decode cX7_atom 49 = .ok (.ifCond .ne 7, 3) := by decide +kernel
theorem dX7_atom_52 : decode cX7_atom 52 = .ok (.iconst 0, 1) := by decide +kernel
theorem dX7_atom_53 : decode cX7_atom 53 = .ok (.goto 18, 3) := by decide +kernel
theorem dX7_atom_56 : decode cX7_atom 56 = .ok (.iload_n 3, 1) := by decide +kernel
theorem dX7_atom_57 : decode cX7_atom 57 = .ok (.bipush 47, 2) := by decide +kernel
theorem dX7_atom_59 : decode cX7_atom 59 = .ok (.if_icmp .ne 9, 3) := by decide +kernel
theorem dX7_atom_62 : decode cX7_atom 62 = .ok (.iload_n 2, 1) := by decide +kernel
theorem dX7_atom_63 : decode cX7_atom 63 = .ok (.iload_n 1, 1) := by decide +kernel
theorem dX7_atom_64 : decode cX7_atom 64 = .ok (.idiv, 1) := by decide +kernel
theorem dX7_atom_65 : decode cX7_atom 65 = .ok (.goto 6, 3) := by decide +kernel
theorem dX7_atom_68 : decode cX7_atom 68 = .ok (.iload_n 2, 1) := by decide +kernel
theorem dX7_atom_69 : decode cX7_atom 69 = .ok (.iload_n 1, 1) := by decide +kernel
theorem dX7_atom_70 : decode cX7_atom 70 = .ok (.irem, 1) := by decide +kernel
theorem dX7_atom_71 : decode cX7_atom 71 = .ok (.iastore, 1) := by decide +kernel
theorem dX7_atom_72 : decode cX7_atom 72 = .ok (.return_, 1) := by decide +kernel
theorem dX7_levelSum_0 : decode cX7_levelSum 0 = .ok (.aload_n 0, 1) := by decide +kernel
theorem dX7_levelSum_1 : decode cX7_levelSum 1 = .ok (.getfield 59, 3) := by decide +kernel
theorem dX7_levelSum_4 : decode cX7_levelSum 4 = .ok (.aload_n 0, 1) := by decide +kernel
theorem dX7_levelSum_5 : decode cX7_levelSum 5 = .ok (.getfield 131, 3) := by decide +kernel
theorem dX7_levelSum_8 : decode cX7_levelSum 8 = .ok (.iaload, 1) := by decide +kernel
theorem dX7_levelSum_9 : decode cX7_levelSum 9 = .ok (.ifCond .le 25, 3) := by decide +kernel
theorem dX7_levelSum_12 : decode cX7_levelSum 12 = .ok (.aload_n 0, 1) := by decide +kernel
theorem dX7_levelSum_13 : decode cX7_levelSum 13 = .ok (.getfield 56, 3) := by decide +kernel
theorem dX7_levelSum_16 : decode cX7_levelSum 16 = .ok (.aload_n 0, 1) := by decide +kernel
theorem dX7_levelSum_17 : decode cX7_levelSum 17 = .ok (.getfield 131, 3) := by decide +kernel
theorem dX7_levelSum_20 : decode cX7_levelSum 20 = .ok (.iaload, 1) := by decide +kernel
theorem dX7_levelSum_21 : decode cX7_levelSum 21 = .ok (.aload_n 0, 1) := by decide +kernel
theorem dX7_levelSum_22 : decode cX7_levelSum 22 = .ok (.getfield 62, 3) := by decide +kernel
theorem dX7_levelSum_25 : decode cX7_levelSum 25 = .ok (.aload_n 0, 1) := by decide +kernel
theorem dX7_levelSum_26 : decode cX7_levelSum 26 = .ok (.getfield 131, 3) := by decide +kernel
theorem dX7_levelSum_29 : decode cX7_levelSum 29 = .ok (.iaload, 1) := by decide +kernel
theorem dX7_levelSum_30 : decode cX7_levelSum 30 = .ok (.iadd, 1) := by decide +kernel
theorem dX7_levelSum_31 : decode cX7_levelSum 31 = .ok (.goto 22, 3) := by decide +kernel
theorem dX7_levelSum_34 : decode cX7_levelSum 34 = .ok (.aload_n 0, 1) := by decide +kernel
theorem dX7_levelSum_35 : decode cX7_levelSum 35 = .ok (.getfield 56, 3) := by decide +kernel
theorem dX7_levelSum_38 : decode cX7_levelSum 38 = .ok (.aload_n 0, 1) := by decide +kernel
theorem dX7_levelSum_39 : decode cX7_levelSum 39 = .ok (.getfield 131, 3) := by decide +kernel
theorem dX7_levelSum_42 : decode cX7_levelSum 42 = .ok (.iaload, 1) := by decide +kernel
theorem dX7_levelSum_43 : decode cX7_levelSum 43 = .ok (.aload_n 0, 1) := by decide +kernel
theorem dX7_levelSum_44 : decode cX7_levelSum 44 = .ok (.getfield 62, 3) := by decide +kernel
theorem dX7_levelSum_47 : decode cX7_levelSum 47 = .ok (.aload_n 0, 1) := by decide +kernel
theorem dX7_levelSum_48 : decode cX7_levelSum 48 = .ok (.getfield 131, 3) := by decide +kernel
theorem dX7_levelSum_51 : decode cX7_levelSum 51 = .ok (.iaload, 1) := by decide +kernel
theorem dX7_levelSum_52 : decode cX7_levelSum 52 = .ok (.isub, 1) := by decide +kernel
theorem dX7_levelSum_53 : decode cX7_levelSum 53 = .ok (.ireturn, 1) := by decide +kernel
theorem dX7_work_0 : decode cX7_work 0 = .ok (.iload_n 1, 1) := by decide +kernel
theorem dX7_work_1 : decode cX7_work 1 = .ok (.bipush 43, 2) := by decide +kernel
theorem dX7_work_3 : decode cX7_work 3 = .ok (.if_icmp .eq 9, 3) := by decide +kernel
theorem dX7_work_6 : decode cX7_work 6 = .ok (.iload_n 1, 1) := by decide +kernel
theorem dX7_work_7 : decode cX7_work 7 = .ok (.bipush 45, 2) := by decide +kernel
theorem dX7_work_9 : decode cX7_work 9 = .ok (.if_icmp .ne 49, 3) := by decide +kernel
theorem dX7_work_12 : decode cX7_work 12 = .ok (.aload_n 0, 1) := by decide +kernel
theorem dX7_work_13 : decode cX7_work 13 = .ok (.getfield 56, 3) := by decide +kernel
theorem dX7_work_16 : decode cX7_work 16 = .ok (.aload_n 0, 1) := by decide +kernel
theorem dX7_work_17 : decode cX7_work 17 = .ok (.getfield 131, 3) := by decide +kernel
theorem dX7_work_20 : decode cX7_work 20 = .ok (.aload_n 0, 1) := by decide +kernel
theorem dX7_work_21 : decode cX7_work 21 = .ok (.invokevirtual 134, 3) := by decide +kernel
theorem dX7_work_24 : decode cX7_work 24 = .ok (.iastore, 1) := by decide +kernel
theorem dX7_work_25 : decode cX7_work 25 = .ok (.aload_n 0, 1) := by decide +kernel
theorem dX7_work_26 : decode cX7_work 26 = .ok (.getfield 59, 3) := by decide +kernel
theorem dX7_work_29 : decode cX7_work 29 = .ok (.aload_n 0, 1) := by decide +kernel
theorem dX7_work_30 : decode cX7_work 30 = .ok (.getfield 131, 3) := by decide +kernel
theorem dX7_work_33 : decode cX7_work 33 = .ok (.iload_n 1, 1) := by decide +kernel
theorem dX7_work_34 : decode cX7_work 34 = .ok (.bipush 43, 2) := by decide +kernel
theorem dX7_work_36 : decode cX7_work 36 = .ok (.if_icmp .ne 7, 3) := by decide +kernel
theorem dX7_work_39 : decode cX7_work 39 = .ok (.iconst 1, 1) := by decide +kernel
theorem dX7_work_40 : decode cX7_work 40 = .ok (.goto 4, 3) := by decide +kernel
theorem dX7_work_43 : decode cX7_work 43 = .ok (.iconst (-1), 1) := by decide +kernel
theorem dX7_work_44 : decode cX7_work 44 = .ok (.iastore, 1) := by decide +kernel
theorem dX7_work_45 : decode cX7_work 45 = .ok (.aload_n 0, 1) := by decide +kernel
theorem dX7_work_46 : decode cX7_work 46 = .ok (.getfield 65, 3) := by decide +kernel
theorem dX7_work_49 : decode cX7_work 49 = .ok (.aload_n 0, 1) := by decide +kernel
theorem dX7_work_50 : decode cX7_work 50 = .ok (.getfield 131, 3) := by decide +kernel
theorem dX7_work_53 : decode cX7_work 53 = .ok (.iconst 0, 1) := by decide +kernel
theorem dX7_work_54 : decode cX7_work 54 = .ok (.iastore, 1) := by decide +kernel
theorem dX7_work_55 : decode cX7_work 55 = .ok (.goto 13, 3) := by decide +kernel
theorem dX7_work_58 : decode cX7_work 58 = .ok (.aload_n 0, 1) := by decide +kernel
theorem dX7_work_59 : decode cX7_work 59 = .ok (.getfield 65, 3) := by decide +kernel
theorem dX7_work_62 : decode cX7_work 62 = .ok (.aload_n 0, 1) := by decide +kernel
theorem dX7_work_63 : decode cX7_work 63 = .ok (.getfield 131, 3) := by decide +kernel
theorem dX7_work_66 : decode cX7_work 66 = .ok (.iload_n 1, 1) := by decide +kernel
theorem dX7_work_67 : decode cX7_work 67 = .ok (.iastore, 1) := by decide +kernel
theorem dX7_work_68 : decode cX7_work 68 = .ok (.return_, 1) := by decide +kernel
theorem dX7_windBy_0 : decode cX7_windBy 0 = .ok (.aload_n 0, 1) := by decide +kernel
theorem dX7_windBy_1 : decode cX7_windBy 1 = .ok (.getfield 138, 3) := by decide +kernel
theorem dX7_windBy_4 : decode cX7_windBy 4 = .ok (.ifCond .ne 5, 3) := by decide +kernel
theorem dX7_windBy_7 : decode cX7_windBy 7 = .ok (.iconst 0, 1) := by decide +kernel
theorem dX7_windBy_8 : decode cX7_windBy 8 = .ok (.ireturn, 1) := by decide +kernel
theorem dX7_windBy_9 : decode cX7_windBy 9 = .ok (.aload_n 0, 1) := by decide +kernel
theorem dX7_windBy_10 : decode cX7_windBy 10 = .ok (.iconst 0, 1) := by decide +kernel
theorem dX7_windBy_11 : decode cX7_windBy 11 = .ok (.putfield 131, 3) := by decide +kernel
theorem dX7_windBy_14 : decode cX7_windBy 14 = .ok (.aload_n 0, 1) := by decide +kernel
theorem dX7_windBy_15 : decode cX7_windBy 15 = .ok (.invokevirtual 141, 3) := by decide +kernel
theorem dX7_windBy_18 : decode cX7_windBy 18 = .ok (.iconst 0, 1) := by decide +kernel
theorem dX7_windBy_19 : decode cX7_windBy 19 = .ok (.istore_n 3, 1) := by decide +kernel
theorem dX7_windBy_20 : decode cX7_windBy 20 = .ok (.iload_n 3, 1) := by decide +kernel
theorem dX7_windBy_21 : decode cX7_windBy 21 = .ok (.aload_n 0, 1) := by decide +kernel
theorem dX7_windBy_22 : decode cX7_windBy 22 = .ok (.getfield 138, 3) := by decide +kernel
theorem dX7_windBy_25 : decode cX7_windBy 25 = .ok (.if_icmp .ge 193, 3) := by decide +kernel
theorem dX7_windBy_28 : decode cX7_windBy 28 = .ok (.aload_n 0, 1) := by decide +kernel
theorem dX7_windBy_29 : decode cX7_windBy 29 = .ok (.getfield 19, 3) := by decide +kernel
theorem dX7_windBy_32 : decode cX7_windBy 32 = .ok (.iload_n 3, 1) := by decide +kernel
theorem dX7_windBy_33 : decode cX7_windBy 33 = .ok (.iaload, 1) := by decide +kernel
theorem dX7_windBy_34 : decode cX7_windBy 34 = .ok (.istore 4, 2) := by decide +kernel
theorem dX7_windBy_36 : decode cX7_windBy 36 = .ok (.iinc 3 1, 3) := by decide +kernel
theorem dX7_windBy_39 : decode cX7_windBy 39 = .ok (.iload 4, 2) := by decide +kernel
theorem dX7_windBy_41 : decode cX7_windBy 41 = .ok (.bipush 40, 2) := by decide +kernel
theorem dX7_windBy_43 : decode cX7_windBy 43 = .ok (.if_icmp .ne 20, 3) := by decide +kernel
theorem dX7_windBy_46 : decode cX7_windBy 46 = .ok (.aload_n 0, 1) := by decide +kernel
theorem dX7_windBy_47 : decode cX7_windBy 47 = .ok (.dup, 1) := by decide +kernel
theorem dX7_windBy_48 : decode cX7_windBy 48 = .ok (.getfield 131, 3) := by decide +kernel
theorem dX7_windBy_51 : decode cX7_windBy 51 = .ok (.iconst 1, 1) := by decide +kernel
theorem dX7_windBy_52 : decode cX7_windBy 52 = .ok (.iadd, 1) := by decide +kernel
theorem dX7_windBy_53 : decode cX7_windBy 53 = .ok (.putfield 131, 3) := by decide +kernel
theorem dX7_windBy_56 : decode cX7_windBy 56 = .ok (.aload_n 0, 1) := by decide +kernel
theorem dX7_windBy_57 : decode cX7_windBy 57 = .ok (.invokevirtual 141, 3) := by decide +kernel
theorem dX7_windBy_60 : decode cX7_windBy 60 = .ok (.goto 155, 3) := by decide +kernel
theorem dX7_windBy_63 : decode cX7_windBy 63 = .ok (.iload 4, 2) := by decide +kernel
theorem dX7_windBy_65 : decode cX7_windBy 65 = .ok (.bipush 41, 2) := by decide +kernel
theorem dX7_windBy_67 : decode cX7_windBy 67 = .ok (.if_icmp .ne 28, 3) := by decide +kernel
theorem dX7_windBy_70 : decode cX7_windBy 70 = .ok (.aload_n 0, 1) := by decide +kernel
theorem dX7_windBy_71 : decode cX7_windBy 71 = .ok (.invokevirtual 134, 3) := by decide +kernel
theorem dX7_windBy_74 : decode cX7_windBy 74 = .ok (.istore 5, 2) := by decide +kernel
theorem dX7_windBy_76 : decode cX7_windBy 76 = .ok (.aload_n 0, 1) := by decide +kernel
theorem dX7_windBy_77 : decode cX7_windBy 77 = .ok (.dup, 1) := by decide +kernel
theorem dX7_windBy_78 : decode cX7_windBy 78 = .ok (.getfield 131, 3) := by decide +kernel
theorem dX7_windBy_81 : decode cX7_windBy 81 = .ok (.iconst 1, 1) := by decide +kernel
theorem dX7_windBy_82 : decode cX7_windBy 82 = .ok (.isub, 1) := by decide +kernel
theorem dX7_windBy_83 : decode cX7_windBy 83 = .ok (.putfield 131, 3) := by decide +kernel
theorem dX7_windBy_86 : decode cX7_windBy 86 = .ok (.aload_n 0, 1) := by decide +kernel
theorem dX7_windBy_87 : decode cX7_windBy 87 = .ok (.iload 5, 2) := by decide +kernel
theorem dX7_windBy_89 : decode cX7_windBy 89 = .ok (.invokevirtual 144, 3) := by decide +kernel
theorem dX7_windBy_92 : decode cX7_windBy 92 = .ok (.goto 123, 3) := by decide +kernel
theorem dX7_windBy_95 : decode cX7_windBy 95 = .ok (.iload 4, 2) := by decide +kernel
theorem dX7_windBy_97 : decode cX7_windBy 97 = .ok (.bipush 116, 2) := by decide +kernel
theorem dX7_windBy_99 : decode cX7_windBy 99 = .ok (.if_icmp .eq 10, 3) := by decide +kernel
theorem dX7_windBy_102 : decode cX7_windBy 102 = .ok (.iload 4, 2) := by decide +kernel
theorem dX7_windBy_104 : decode cX7_windBy 104 = .ok (.bipush 115, 2) := by decide +kernel
theorem dX7_windBy_106 : decode cX7_windBy 106 = .ok (.if_icmp .ne 22, 3) := by decide +kernel
theorem dX7_windBy_109 : decode cX7_windBy 109 = .ok (.aload_n 0, 1) := by decide +kernel
theorem dX7_windBy_110 : decode cX7_windBy 110 = .ok (.iload 4, 2) := by decide +kernel
theorem dX7_windBy_112 : decode cX7_windBy 112 = .ok (.bipush 116, 2) := by decide +kernel
theorem dX7_windBy_114 : decode cX7_windBy 114 = .ok (.if_icmp .ne 7, 3) := by decide +kernel
theorem dX7_windBy_117 : decode cX7_windBy 117 = .ok (.iload_n 1, 1) := by decide +kernel
theorem dX7_windBy_118 : decode cX7_windBy 118 = .ok (.goto 4, 3) := by decide +kernel
theorem dX7_windBy_121 : decode cX7_windBy 121 = .ok (.iload_n 2, 1) := by decide +kernel
theorem dX7_windBy_122 : decode cX7_windBy 122 = .ok (.invokevirtual 144, 3) := by decide +kernel
theorem dX7_windBy_125 : decode cX7_windBy 125 = .ok (.goto 90, 3) := by decide +kernel
theorem dX7_windBy_128 : decode cX7_windBy 128 = .ok (.iload 4, 2) := by decide +kernel
theorem dX7_windBy_130 : decode cX7_windBy 130 = .ok (.i2l, 1) := by decide +kernel
theorem dX7_windBy_131 : decode cX7_windBy 131 = .ok (.ldc2_w 127, 3) := by decide +kernel
theorem dX7_windBy_134 : decode cX7_windBy 134 = .ok (.ldc2_w 129, 3) := by decide +kernel
theorem dX7_windBy_137 : decode cX7_windBy 137 = .ok (.invokestatic 117, 3) := by decide +kernel
theorem dX7_windBy_140 : decode cX7_windBy 140 = .ok (.ifCond .eq 69, 3) := by decide +kernel
theorem dX7_windBy_143 : decode cX7_windBy 143 = .ok (.iload 4, 2) := by decide +kernel
theorem dX7_windBy_145 : decode cX7_windBy 145 = .ok (.bipush 48, 2) := by decide +kernel
theorem dX7_windBy_147 : decode cX7_windBy 147 = .ok (.isub, 1) := by decide +kernel
theorem dX7_windBy_148 : decode cX7_windBy 148 = .ok (.istore 5, 2) := by decide +kernel
theorem dX7_windBy_150 : decode cX7_windBy 150 = .ok (.iload_n 3, 1) := by decide +kernel
theorem dX7_windBy_151 : decode cX7_windBy 151 = .ok (.aload_n 0, 1) := by decide +kernel
theorem dX7_windBy_152 : decode cX7_windBy 152 = .ok (.getfield 138, 3) := by decide +kernel
theorem dX7_windBy_155 : decode cX7_windBy 155 = .ok (.if_icmp .ge 45, 3) := by decide +kernel
theorem dX7_windBy_158 : decode cX7_windBy 158 = .ok (.aload_n 0, 1) := by decide +kernel
theorem dX7_windBy_159 : decode cX7_windBy 159 = .ok (.getfield 19, 3) := by decide +kernel
theorem dX7_windBy_162 : decode cX7_windBy 162 = .ok (.iload_n 3, 1) := by decide +kernel
theorem dX7_windBy_163 : decode cX7_windBy 163 = .ok (.iaload, 1) := by decide +kernel
theorem dX7_windBy_164 : decode cX7_windBy 164 = .ok (.i2l, 1) := by decide +kernel
theorem dX7_windBy_165 : decode cX7_windBy 165 = .ok (.ldc2_w 127, 3) := by decide +kernel
theorem dX7_windBy_168 : decode cX7_windBy 168 = .ok (.ldc2_w 129, 3) := by decide +kernel
theorem dX7_windBy_171 : decode cX7_windBy 171 = .ok (.invokestatic 117, 3) := by decide +kernel
theorem dX7_windBy_174 : decode cX7_windBy 174 = .ok (.ifCond .eq 26, 3) := by decide +kernel
theorem dX7_windBy_177 : decode cX7_windBy 177 = .ok (.bipush 10, 2) := by decide +kernel
theorem dX7_windBy_179 : decode cX7_windBy 179 = .ok (.iload 5, 2) := by decide +kernel
theorem dX7_windBy_181 : decode cX7_windBy 181 = .ok (.imul, 1) := by decide +kernel
theorem dX7_windBy_182 : decode cX7_windBy 182 = .ok (.aload_n 0, 1) := by decide +kernel
theorem dX7_windBy_183 : decode cX7_windBy 183 = .ok (.getfield 19, 3) := by decide +kernel
theorem dX7_windBy_186 : decode cX7_windBy 186 = .ok (.iload_n 3, 1) := by decide +kernel
theorem dX7_windBy_187 : decode cX7_windBy 187 = .ok (.iaload, 1) := by decide +kernel
theorem dX7_windBy_188 : decode cX7_windBy 188 = .ok (.iadd, 1) := by decide +kernel
theorem dX7_windBy_189 : decode cX7_windBy 189 = .ok (.bipush 48, 2) := by decide +kernel
theorem dX7_windBy_191 : decode cX7_windBy 191 = .ok (.isub, 1) := by decide +kernel
theorem dX7_windBy_192 : decode cX7_windBy 192 = .ok (.istore 5, 2) := by decide +kernel
theorem dX7_windBy_194 : decode cX7_windBy 194 = .ok (.iinc 3 1, 3) := by decide +kernel
theorem dX7_windBy_197 : decode cX7_windBy 197 = .ok (.goto (-47), 3) := by decide +kernel
theorem dX7_windBy_200 : decode cX7_windBy 200 = .ok (.aload_n 0, 1) := by decide +kernel
theorem dX7_windBy_201 : decode cX7_windBy 201 = .ok (.iload 5, 2) := by decide +kernel
theorem dX7_windBy_203 : decode cX7_windBy 203 = .ok (.invokevirtual 144, 3) := by decide +kernel
theorem dX7_windBy_206 : decode cX7_windBy 206 = .ok (.goto 9, 3) := by decide +kernel
theorem dX7_windBy_209 : decode cX7_windBy 209 = .ok (.aload_n 0, 1) := by decide +kernel
theorem dX7_windBy_210 : decode cX7_windBy 210 = .ok (.iload 4, 2) := by decide +kernel
theorem dX7_windBy_212 : decode cX7_windBy 212 = .ok (.invokevirtual 148, 3) := by decide +kernel
theorem dX7_windBy_215 : decode cX7_windBy 215 = .ok (.goto (-195), 3) := by decide +kernel
theorem dX7_windBy_218 : decode cX7_windBy 218 = .ok (.aload_n 0, 1) := by decide +kernel
theorem dX7_windBy_219 : decode cX7_windBy 219 = .ok (.invokevirtual 134, 3) := by decide +kernel
theorem dX7_windBy_222 : decode cX7_windBy 222 = .ok (.istore 4, 2) := by decide +kernel
theorem dX7_windBy_224 : decode cX7_windBy 224 = .ok (.iload 4, 2) := by decide +kernel
theorem dX7_windBy_226 : decode cX7_windBy 226 = .ok (.bipush (-40), 2) := by decide +kernel
theorem dX7_windBy_228 : decode cX7_windBy 228 = .ok (.if_icmp .ge 8, 3) := by decide +kernel
theorem dX7_windBy_231 : decode cX7_windBy 231 = .ok (.bipush (-40), 2) := by decide +kernel
theorem dX7_windBy_233 : decode cX7_windBy 233 = .ok (.goto 17, 3) := by decide +kernel
theorem dX7_windBy_236 : decode cX7_windBy 236 = .ok (.iload 4, 2) := by decide +kernel
theorem dX7_windBy_238 : decode cX7_windBy 238 = .ok (.bipush 40, 2) := by decide +kernel
theorem dX7_windBy_240 : decode cX7_windBy 240 = .ok (.if_icmp .le 8, 3) := by decide +kernel
theorem dX7_windBy_243 : decode cX7_windBy 243 = .ok (.bipush 40, 2) := by decide +kernel
theorem dX7_windBy_245 : decode cX7_windBy 245 = .ok (.goto 5, 3) := by decide +kernel
theorem dX7_windBy_248 : decode cX7_windBy 248 = .ok (.iload 4, 2) := by decide +kernel
theorem dX7_windBy_250 : decode cX7_windBy 250 = .ok (.ireturn, 1) := by decide +kernel
theorem dX7_layWinds_0 : decode cX7_layWinds 0 = .ok (.aload_n 0, 1) := by decide +kernel
theorem dX7_layWinds_1 : decode cX7_layWinds 1 = .ok (.getfield 151, 3) := by decide +kernel
theorem dX7_layWinds_4 : decode cX7_layWinds 4 = .ok (.ifCond .eq 14, 3) := by decide +kernel
theorem dX7_layWinds_7 : decode cX7_layWinds 7 = .ok (.aload_n 0, 1) := by decide +kernel
theorem dX7_layWinds_8 : decode cX7_layWinds 8 = .ok (.getfield 155, 3) := by decide +kernel
theorem dX7_layWinds_11 : decode cX7_layWinds 11 = .ok (.aload_n 0, 1) := by decide +kernel
theorem dX7_layWinds_12 : decode cX7_layWinds 12 = .ok (.getfield 158, 3) := by decide +kernel
theorem dX7_layWinds_15 : decode cX7_layWinds 15 = .ok (.if_icmp .eq 46, 3) := by decide +kernel
theorem dX7_layWinds_18 : decode cX7_layWinds 18 = .ok (.iconst 0, 1) := by decide +kernel
theorem dX7_layWinds_19 : decode cX7_layWinds 19 = .ok (.istore_n 1, 1) := by decide +kernel
theorem dX7_layWinds_20 : decode cX7_layWinds 20 = .ok (.iload_n 1, 1) := by decide +kernel
theorem dX7_layWinds_21 : decode cX7_layWinds 21 = .ok (.sipush 400, 3) := by decide +kernel
theorem dX7_layWinds_24 : decode cX7_layWinds 24 = .ok (.if_icmp .gt 24, 3) := by decide +kernel
theorem dX7_layWinds_27 : decode cX7_layWinds 27 = .ok (.aload_n 0, 1) := by decide +kernel
theorem dX7_layWinds_28 : decode cX7_layWinds 28 = .ok (.getfield 68, 3) := by decide +kernel
theorem dX7_layWinds_31 : decode cX7_layWinds 31 = .ok (.iload_n 1, 1) := by decide +kernel
theorem dX7_layWinds_32 : decode cX7_layWinds 32 = .ok (.aload_n 0, 1) := by decide +kernel
theorem dX7_layWinds_33 : decode cX7_layWinds 33 = .ok (.iload_n 1, 1) := by decide +kernel
theorem dX7_layWinds_34 : decode cX7_layWinds 34 = .ok (.aload_n 0, 1) := by decide +kernel
theorem dX7_layWinds_35 : decode cX7_layWinds 35 = .ok (.getfield 158, 3) := by decide +kernel
theorem dX7_layWinds_38 : decode cX7_layWinds 38 = .ok (.invokevirtual 161, 3) := by decide +kernel
theorem dX7_layWinds_41 : decode cX7_layWinds 41 = .ok (.iastore, 1) := by decide +kernel
theorem dX7_layWinds_42 : decode cX7_layWinds 42 = .ok (.iinc 1 1, 3) := by decide +kernel
theorem dX7_layWinds_45 : decode cX7_layWinds 45 = .ok (.goto (-25), 3) := by decide +kernel
theorem dX7_layWinds_48 : decode cX7_layWinds 48 = .ok (.aload_n 0, 1) := by decide +kernel
theorem dX7_layWinds_49 : decode cX7_layWinds 49 = .ok (.iconst 1, 1) := by decide +kernel
theorem dX7_layWinds_50 : decode cX7_layWinds 50 = .ok (.putfield 151, 3) := by decide +kernel
theorem dX7_layWinds_53 : decode cX7_layWinds 53 = .ok (.aload_n 0, 1) := by decide +kernel
theorem dX7_layWinds_54 : decode cX7_layWinds 54 = .ok (.aload_n 0, 1) := by decide +kernel
theorem dX7_layWinds_55 : decode cX7_layWinds 55 = .ok (.getfield 158, 3) := by decide +kernel
theorem dX7_layWinds_58 : decode cX7_layWinds 58 = .ok (.putfield 155, 3) := by decide +kernel
theorem dX7_layWinds_61 : decode cX7_layWinds 61 = .ok (.return_, 1) := by decide +kernel
theorem dX7_isIn_0 : decode cX7_isIn 0 = .ok (.aload_n 0, 1) := by decide +kernel
theorem dX7_isIn_1 : decode cX7_isIn 1 = .ok (.getfield 47, 3) := by decide +kernel
theorem dX7_isIn_4 : decode cX7_isIn 4 = .ok (.iload_n 1, 1) := by decide +kernel
theorem dX7_isIn_5 : decode cX7_isIn 5 = .ok (.iaload, 1) := by decide +kernel
theorem dX7_isIn_6 : decode cX7_isIn 6 = .ok (.ifCond .lt 7, 3) := by decide +kernel
theorem dX7_isIn_9 : decode cX7_isIn 9 = .ok (.iconst 1, 1) := by decide +kernel
theorem dX7_isIn_10 : decode cX7_isIn 10 = .ok (.goto 4, 3) := by decide +kernel
theorem dX7_isIn_13 : decode cX7_isIn 13 = .ok (.iconst 0, 1) := by decide +kernel
theorem dX7_isIn_14 : decode cX7_isIn 14 = .ok (.ireturn, 1) := by decide +kernel
theorem dX7_isAtDist_0 : decode cX7_isAtDist 0 = .ok (.aload_n 0, 1) := by decide +kernel
theorem dX7_isAtDist_1 : decode cX7_isAtDist 1 = .ok (.getfield 38, 3) := by decide +kernel
theorem dX7_isAtDist_4 : decode cX7_isAtDist 4 = .ok (.iload_n 1, 1) := by decide +kernel
theorem dX7_isAtDist_5 : decode cX7_isAtDist 5 = .ok (.iaload, 1) := by decide +kernel
theorem dX7_isAtDist_6 : decode cX7_isAtDist 6 = .ok (.aload_n 0, 1) := by decide +kernel
theorem dX7_isAtDist_7 : decode cX7_isAtDist 7 = .ok (.getfield 7, 3) := by decide +kernel
theorem dX7_isAtDist_10 : decode cX7_isAtDist 10 = .ok (.if_icmp .lt 7, 3) := by decide +kernel
theorem dX7_isAtDist_13 : decode cX7_isAtDist 13 = .ok (.iconst 1, 1) := by decide +kernel
theorem dX7_isAtDist_14 : decode cX7_isAtDist 14 = .ok (.goto 4, 3) := by decide +kernel
theorem dX7_isAtDist_17 : decode cX7_isAtDist 17 = .ok (.iconst 0, 1) := by decide +kernel
theorem dX7_isAtDist_18 : decode cX7_isAtDist 18 = .ok (.ireturn, 1) := by decide +kernel
theorem dX7_isBad_0 : decode cX7_isBad 0 = .ok (.iconst 0, 1) := by decide +kernel
theorem dX7_isBad_1 : decode cX7_isBad 1 = .ok (.istore_n 2, 1) := by decide +kernel
theorem dX7_isBad_2 : decode cX7_isBad 2 = .ok (.iconst 0, 1) := by decide +kernel
theorem dX7_isBad_3 : decode cX7_isBad 3 = .ok (.istore_n 3, 1) := by decide +kernel
theorem dX7_isBad_4 : decode cX7_isBad 4 = .ok (.iload_n 3, 1) := by decide +kernel
theorem dX7_isBad_5 : decode cX7_isBad 5 = .ok (.aload_n 0, 1) := by decide +kernel
theorem dX7_isBad_6 : decode cX7_isBad 6 = .ok (.getfield 114, 3) := by decide +kernel
theorem dX7_isBad_9 : decode cX7_isBad 9 = .ok (.if_icmp .ge 94, 3) := by decide +kernel
theorem dX7_isBad_12 : decode cX7_isBad 12 = .ok (.aload_n 0, 1) := by decide +kernel
theorem dX7_isBad_13 : decode cX7_isBad 13 = .ok (.getfield 38, 3) := by decide +kernel
theorem dX7_isBad_16 : decode cX7_isBad 16 = .ok (.iload_n 3, 1) := by decide +kernel
theorem dX7_isBad_17 : decode cX7_isBad 17 = .ok (.iaload, 1) := by decide +kernel
theorem dX7_isBad_18 : decode cX7_isBad 18 = .ok (.aload_n 0, 1) := by decide +kernel
theorem dX7_isBad_19 : decode cX7_isBad 19 = .ok (.getfield 38, 3) := by decide +kernel
theorem dX7_isBad_22 : decode cX7_isBad 22 = .ok (.iload_n 1, 1) := by decide +kernel
theorem dX7_isBad_23 : decode cX7_isBad 23 = .ok (.iaload, 1) := by decide +kernel
theorem dX7_isBad_24 : decode cX7_isBad 24 = .ok (.isub, 1) := by decide +kernel
theorem dX7_isBad_25 : decode cX7_isBad 25 = .ok (.i2l, 1) := by decide +kernel
theorem dX7_isBad_26 : decode cX7_isBad 26 = .ok (.lconst 1, 1) := by decide +kernel
theorem dX7_isBad_27 : decode cX7_isBad 27 = .ok (.ldc2_w 165, 3) := by decide +kernel
