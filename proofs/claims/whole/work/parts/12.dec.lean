theorem dX0_init_0 : decode cX0_init 0 = .ok (.aload_n 0, 1) := by decide +kernel
theorem dX0_init_1 : decode cX0_init 1 = .ok (.invokespecial 3, 3) := by decide +kernel
theorem dX0_init_4 : decode cX0_init 4 = .ok (.aload_n 0, 1) := by decide +kernel
theorem dX0_init_5 : decode cX0_init 5 = .ok (.sipush 200, 3) := by decide +kernel
theorem dX0_init_8 : decode cX0_init 8 = .ok (.putfield 9, 3) := by decide +kernel
theorem dX0_init_11 : decode cX0_init 11 = .ok (.aload_n 0, 1) := by decide +kernel
theorem dX0_init_12 : decode cX0_init 12 = .ok (.bipush 100, 2) := by decide +kernel
theorem dX0_init_14 : decode cX0_init 14 = .ok (.putfield 15, 3) := by decide +kernel
theorem dX0_init_17 : decode cX0_init 17 = .ok (.aload_n 0, 1) := by decide +kernel
theorem dX0_init_18 : decode cX0_init 18 = .ok (.iconst 2, 1) := by decide +kernel
theorem dX0_init_19 : decode cX0_init 19 = .ok (.putfield 18, 3) := by decide +kernel
theorem dX0_init_22 : decode cX0_init 22 = .ok (.aload_n 0, 1) := by decide +kernel
theorem dX0_init_23 : decode cX0_init 23 = .ok (.new 21, 3) := by decide +kernel
theorem dX0_init_26 : decode cX0_init 26 = .ok (.dup, 1) := by decide +kernel
theorem dX0_init_27 : decode cX0_init 27 = .ok (.invokespecial 23, 3) := by decide +kernel
theorem dX0_init_30 : decode cX0_init 30 = .ok (.putfield 24, 3) := by decide +kernel
theorem dX0_init_33 : decode cX0_init 33 = .ok (.aload_n 0, 1) := by decide +kernel
theorem dX0_init_34 : decode cX0_init 34 = .ok (.sipush 401, 3) := by decide +kernel
theorem dX0_init_37 : decode cX0_init 37 = .ok (.newarray .int, 2) := by decide +kernel
theorem dX0_init_39 : decode cX0_init 39 = .ok (.putfield 28, 3) := by decide +kernel
theorem dX0_init_42 : decode cX0_init 42 = .ok (.aload_n 0, 1) := by decide +kernel
theorem dX0_init_43 : decode cX0_init 43 = .ok (.getfield 28, 3) := by decide +kernel
theorem dX0_init_46 : decode cX0_init 46 = .ok (.bipush 100, 2) := by decide +kernel
theorem dX0_init_48 : decode cX0_init 48 = .ok (.invokestatic 32, 3) := by decide +kernel
theorem dX0_init_51 : decode cX0_init 51 = .ok (.return_, 1) := by decide +kernel
theorem dX0_isSetting_0 : decode cX0_isSetting 0 = .ok (.iload_n 0, 1) := by decide +kernel
theorem dX0_isSetting_1 : decode cX0_isSetting 1 = .ok (.ifCond .lt 41, 3) := by decide +kernel
theorem dX0_isSetting_4 : decode cX0_isSetting 4 = .ok (.iload_n 0, 1) := by decide +kernel
theorem dX0_isSetting_5 : decode cX0_isSetting 5 = .ok (.getstatic 38, 3) := by decide +kernel
theorem dX0_isSetting_8 : decode cX0_isSetting 8 = .ok (.arraylength, 1) := by decide +kernel
theorem dX0_isSetting_9 : decode cX0_isSetting 9 = .ok (.if_icmp .ge 33, 3) := by decide +kernel
theorem dX0_isSetting_12 : decode cX0_isSetting 12 = .ok (.iload_n 0, 1) := by decide +kernel
theorem dX0_isSetting_13 : decode cX0_isSetting 13 = .ok (.getstatic 41, 3) := by decide +kernel
theorem dX0_isSetting_16 : decode cX0_isSetting 16 = .ok (.arraylength, 1) := by decide +kernel
theorem dX0_isSetting_17 : decode cX0_isSetting 17 = .ok (.if_icmp .ge 25, 3) := by decide +kernel
theorem dX0_isSetting_20 : decode cX0_isSetting 20 = .ok (.iload_n 1, 1) := by decide +kernel
theorem dX0_isSetting_21 : decode cX0_isSetting 21 = .ok (.getstatic 38, 3) := by decide +kernel
theorem dX0_isSetting_24 : decode cX0_isSetting 24 = .ok (.iload_n 0, 1) := by decide +kernel
theorem dX0_isSetting_25 : decode cX0_isSetting 25 = .ok (.iaload, 1) := by decide +kernel
theorem dX0_isSetting_26 : decode cX0_isSetting 26 = .ok (.if_icmp .lt 16, 3) := by decide +kernel
theorem dX0_isSetting_29 : decode cX0_isSetting 29 = .ok (.iload_n 1, 1) := by decide +kernel
theorem dX0_isSetting_30 : decode cX0_isSetting 30 = .ok (.getstatic 41, 3) := by decide +kernel
theorem dX0_isSetting_33 : decode cX0_isSetting 33 = .ok (.iload_n 0, 1) := by decide +kernel
theorem dX0_isSetting_34 : decode cX0_isSetting 34 = .ok (.iaload, 1) := by decide +kernel
theorem dX0_isSetting_35 : decode cX0_isSetting 35 = .ok (.if_icmp .gt 7, 3) := by decide +kernel
theorem dX0_isSetting_38 : decode cX0_isSetting 38 = .ok (.iconst 1, 1) := by decide +kernel
theorem dX0_isSetting_39 : decode cX0_isSetting 39 = .ok (.goto 4, 3) := by decide +kernel
theorem dX0_isSetting_42 : decode cX0_isSetting 42 = .ok (.iconst 0, 1) := by decide +kernel
theorem dX0_isSetting_43 : decode cX0_isSetting 43 = .ok (.ireturn, 1) := by decide +kernel
theorem dX0_change_0 : decode cX0_change 0 = .ok (.aload_n 0, 1) := by decide +kernel
theorem dX0_change_1 : decode cX0_change 1 = .ok (.iload_n 1, 1) := by decide +kernel
theorem dX0_change_2 : decode cX0_change 2 = .ok (.invokevirtual 44, 3) := by decide +kernel
theorem dX0_change_5 : decode cX0_change 5 = .ok (.istore_n 3, 1) := by decide +kernel
theorem dX0_change_6 : decode cX0_change 6 = .ok (.iload_n 1, 1) := by decide +kernel
theorem dX0_change_7 : decode cX0_change 7 = .ok (.tableswitch 61 0 3 #[29, 37, 45, 53], 29) := by decide +kernel
theorem dX0_change_36 : decode cX0_change 36 = .ok (.aload_n 0, 1) := by decide +kernel
theorem dX0_change_37 : decode cX0_change 37 = .ok (.iload_n 2, 1) := by decide +kernel
theorem dX0_change_38 : decode cX0_change 38 = .ok (.putfield 9, 3) := by decide +kernel
theorem dX0_change_41 : decode cX0_change 41 = .ok (.goto 41, 3) := by decide +kernel
theorem dX0_change_44 : decode cX0_change 44 = .ok (.aload_n 0, 1) := by decide +kernel
theorem dX0_change_45 : decode cX0_change 45 = .ok (.iload_n 2, 1) := by decide +kernel
theorem dX0_change_46 : decode cX0_change 46 = .ok (.putfield 48, 3) := by decide +kernel
theorem dX0_change_49 : decode cX0_change 49 = .ok (.goto 33, 3) := by decide +kernel
theorem dX0_change_52 : decode cX0_change 52 = .ok (.aload_n 0, 1) := by decide +kernel
theorem dX0_change_53 : decode cX0_change 53 = .ok (.iload_n 2, 1) := by decide +kernel
theorem dX0_change_54 : decode cX0_change 54 = .ok (.putfield 15, 3) := by decide +kernel
theorem dX0_change_57 : decode cX0_change 57 = .ok (.goto 25, 3) := by decide +kernel
theorem dX0_change_60 : decode cX0_change 60 = .ok (.aload_n 0, 1) := by decide +kernel
theorem dX0_change_61 : decode cX0_change 61 = .ok (.iload_n 2, 1) := by decide +kernel
theorem dX0_change_62 : decode cX0_change 62 = .ok (.putfield 18, 3) := by decide +kernel
theorem dX0_change_65 : decode cX0_change 65 = .ok (.goto 17, 3) := by decide +kernel
theorem dX0_change_68 : decode cX0_change 68 = .ok (.aload_n 0, 1) := by decide +kernel
theorem dX0_change_69 : decode cX0_change 69 = .ok (.iload_n 2, 1) := by decide +kernel
theorem dX0_change_70 : decode cX0_change 70 = .ok (.putfield 51, 3) := by decide +kernel
theorem dX0_change_73 : decode cX0_change 73 = .ok (.aload_n 0, 1) := by decide +kernel
theorem dX0_change_74 : decode cX0_change 74 = .ok (.getfield 28, 3) := by decide +kernel
theorem dX0_change_77 : decode cX0_change 77 = .ok (.bipush 100, 2) := by decide +kernel
theorem dX0_change_79 : decode cX0_change 79 = .ok (.invokestatic 32, 3) := by decide +kernel
theorem dX0_change_82 : decode cX0_change 82 = .ok (.iload_n 3, 1) := by decide +kernel
theorem dX0_change_83 : decode cX0_change 83 = .ok (.ireturn, 1) := by decide +kernel
theorem dX0_setting_0 : decode cX0_setting 0 = .ok (.iload_n 1, 1) := by decide +kernel
theorem dX0_setting_1 : decode cX0_setting 1 = .ok (.tableswitch 51 0 3 #[31, 36, 41, 46], 31) := by decide +kernel
theorem dX0_setting_32 : decode cX0_setting 32 = .ok (.aload_n 0, 1) := by decide +kernel
theorem dX0_setting_33 : decode cX0_setting 33 = .ok (.getfield 9, 3) := by decide +kernel
theorem dX0_setting_36 : decode cX0_setting 36 = .ok (.ireturn, 1) := by decide +kernel
theorem dX0_setting_37 : decode cX0_setting 37 = .ok (.aload_n 0, 1) := by decide +kernel
theorem dX0_setting_38 : decode cX0_setting 38 = .ok (.getfield 48, 3) := by decide +kernel
theorem dX0_setting_41 : decode cX0_setting 41 = .ok (.ireturn, 1) := by decide +kernel
theorem dX0_setting_42 : decode cX0_setting 42 = .ok (.aload_n 0, 1) := by decide +kernel
theorem dX0_setting_43 : decode cX0_setting 43 = .ok (.getfield 15, 3) := by decide +kernel
theorem dX0_setting_46 : decode cX0_setting 46 = .ok (.ireturn, 1) := by decide +kernel
theorem dX0_setting_47 : decode cX0_setting 47 = .ok (.aload_n 0, 1) := by decide +kernel
theorem dX0_setting_48 : decode cX0_setting 48 = .ok (.getfield 18, 3) := by decide +kernel
theorem dX0_setting_51 : decode cX0_setting 51 = .ok (.ireturn, 1) := by decide +kernel
theorem dX0_setting_52 : decode cX0_setting 52 = .ok (.aload_n 0, 1) := by decide +kernel
theorem dX0_setting_53 : decode cX0_setting 53 = .ok (.getfield 51, 3) := by decide +kernel
theorem dX0_setting_56 : decode cX0_setting 56 = .ok (.ireturn, 1) := by decide +kernel
theorem dX0_tellLaw_0 : decode cX0_tellLaw 0 = .ok (.aload_n 0, 1) := by decide +kernel
theorem dX0_tellLaw_1 : decode cX0_tellLaw 1 = .ok (.getfield 24, 3) := by decide +kernel
theorem dX0_tellLaw_4 : decode cX0_tellLaw 4 = .ok (.aload_n 1, 1) := by decide +kernel
theorem dX0_tellLaw_5 : decode cX0_tellLaw 5 = .ok (.iload_n 2, 1) := by decide +kernel
theorem dX0_tellLaw_6 : decode cX0_tellLaw 6 = .ok (.invokevirtual 54, 3) := by decide +kernel
theorem dX0_tellLaw_9 : decode cX0_tellLaw 9 = .ok (.aload_n 0, 1) := by decide +kernel
theorem dX0_tellLaw_10 : decode cX0_tellLaw 10 = .ok (.getfield 28, 3) := by decide +kernel
theorem dX0_tellLaw_13 : decode cX0_tellLaw 13 = .ok (.bipush 100, 2) := by decide +kernel
theorem dX0_tellLaw_15 : decode cX0_tellLaw 15 = .ok (.invokestatic 32, 3) := by decide +kernel
theorem dX0_tellLaw_18 : decode cX0_tellLaw 18 = .ok (.return_, 1) := by decide +kernel
theorem dX0_take_0 : decode cX0_take 0 = .ok (.aload_n 0, 1) := by decide +kernel
theorem dX0_take_1 : decode cX0_take 1 = .ok (.aload_n 1, 1) := by decide +kernel
theorem dX0_take_2 : decode cX0_take 2 = .ok (.getfield 9, 3) := by decide +kernel
theorem dX0_take_5 : decode cX0_take 5 = .ok (.putfield 9, 3) := by decide +kernel
theorem dX0_take_8 : decode cX0_take 8 = .ok (.aload_n 0, 1) := by decide +kernel
theorem dX0_take_9 : decode cX0_take 9 = .ok (.aload_n 1, 1) := by decide +kernel
theorem dX0_take_10 : decode cX0_take 10 = .ok (.getfield 48, 3) := by decide +kernel
theorem dX0_take_13 : decode cX0_take 13 = .ok (.putfield 48, 3) := by decide +kernel
theorem dX0_take_16 : decode cX0_take 16 = .ok (.aload_n 0, 1) := by decide +kernel
theorem dX0_take_17 : decode cX0_take 17 = .ok (.aload_n 1, 1) := by decide +kernel
theorem dX0_take_18 : decode cX0_take 18 = .ok (.getfield 15, 3) := by decide +kernel
theorem dX0_take_21 : decode cX0_take 21 = .ok (.putfield 15, 3) := by decide +kernel
theorem dX0_take_24 : decode cX0_take 24 = .ok (.aload_n 0, 1) := by decide +kernel
theorem dX0_take_25 : decode cX0_take 25 = .ok (.aload_n 1, 1) := by decide +kernel
theorem dX0_take_26 : decode cX0_take 26 = .ok (.getfield 18, 3) := by decide +kernel
theorem dX0_take_29 : decode cX0_take 29 = .ok (.putfield 18, 3) := by decide +kernel
theorem dX0_take_32 : decode cX0_take 32 = .ok (.aload_n 0, 1) := by decide +kernel
theorem dX0_take_33 : decode cX0_take 33 = .ok (.aload_n 1, 1) := by decide +kernel
theorem dX0_take_34 : decode cX0_take 34 = .ok (.getfield 51, 3) := by decide +kernel
theorem dX0_take_37 : decode cX0_take 37 = .ok (.putfield 51, 3) := by decide +kernel
theorem dX0_take_40 : decode cX0_take 40 = .ok (.aload_n 0, 1) := by decide +kernel
theorem dX0_take_41 : decode cX0_take 41 = .ok (.getfield 24, 3) := by decide +kernel
theorem dX0_take_44 : decode cX0_take 44 = .ok (.aload_n 1, 1) := by decide +kernel
theorem dX0_take_45 : decode cX0_take 45 = .ok (.getfield 24, 3) := by decide +kernel
theorem dX0_take_48 : decode cX0_take 48 = .ok (.invokevirtual 57, 3) := by decide +kernel
theorem dX0_take_51 : decode cX0_take 51 = .ok (.aload_n 0, 1) := by decide +kernel
theorem dX0_take_52 : decode cX0_take 52 = .ok (.getfield 28, 3) := by decide +kernel
theorem dX0_take_55 : decode cX0_take 55 = .ok (.bipush 100, 2) := by decide +kernel
theorem dX0_take_57 : decode cX0_take 57 = .ok (.invokestatic 32, 3) := by decide +kernel
theorem dX0_take_60 : decode cX0_take 60 = .ok (.return_, 1) := by decide +kernel
theorem dX0_windAt_0 : decode cX0_windAt 0 = .ok (.iload_n 1, 1) := by decide +kernel
theorem dX0_windAt_1 : decode cX0_windAt 1 = .ok (.ifCond .lt 12, 3) := by decide +kernel
theorem dX0_windAt_4 : decode cX0_windAt 4 = .ok (.iload_n 1, 1) := by decide +kernel
theorem dX0_windAt_5 : decode cX0_windAt 5 = .ok (.aload_n 0, 1) := by decide +kernel
theorem dX0_windAt_6 : decode cX0_windAt 6 = .ok (.getfield 28, 3) := by decide +kernel
theorem dX0_windAt_9 : decode cX0_windAt 9 = .ok (.arraylength, 1) := by decide +kernel
theorem dX0_windAt_10 : decode cX0_windAt 10 = .ok (.if_icmp .lt 5, 3) := by decide +kernel
theorem dX0_windAt_13 : decode cX0_windAt 13 = .ok (.iconst 0, 1) := by decide +kernel
theorem dX0_windAt_14 : decode cX0_windAt 14 = .ok (.ireturn, 1) := by decide +kernel
theorem dX0_windAt_15 : decode cX0_windAt 15 = .ok (.aload_n 0, 1) := by decide +kernel
theorem dX0_windAt_16 : decode cX0_windAt 16 = .ok (.getfield 28, 3) := by decide +kernel
theorem dX0_windAt_19 : decode cX0_windAt 19 = .ok (.iload_n 1, 1) := by decide +kernel
theorem dX0_windAt_20 : decode cX0_windAt 20 = .ok (.iaload, 1) := by decide +kernel
theorem dX0_windAt_21 : decode cX0_windAt 21 = .ok (.bipush 100, 2) := by decide +kernel
theorem dX0_windAt_23 : decode cX0_windAt 23 = .ok (.if_icmp .ne 33, 3) := by decide +kernel
theorem dX0_windAt_26 : decode cX0_windAt 26 = .ok (.aload_n 0, 1) := by decide +kernel
theorem dX0_windAt_27 : decode cX0_windAt 27 = .ok (.getfield 24, 3) := by decide +kernel
theorem dX0_windAt_30 : decode cX0_windAt 30 = .ok (.iload_n 1, 1) := by decide +kernel
theorem dX0_windAt_31 : decode cX0_windAt 31 = .ok (.aload_n 0, 1) := by decide +kernel
theorem dX0_windAt_32 : decode cX0_windAt 32 = .ok (.getfield 51, 3) := by decide +kernel
theorem dX0_windAt_35 : decode cX0_windAt 35 = .ok (.invokevirtual 61, 3) := by decide +kernel
theorem dX0_windAt_38 : decode cX0_windAt 38 = .ok (.istore_n 2, 1) := by decide +kernel
theorem dX0_windAt_39 : decode cX0_windAt 39 = .ok (.aload_n 0, 1) := by decide +kernel
theorem dX0_windAt_40 : decode cX0_windAt 40 = .ok (.getfield 28, 3) := by decide +kernel
theorem dX0_windAt_43 : decode cX0_windAt 43 = .ok (.iload_n 1, 1) := by decide +kernel
theorem dX0_windAt_44 : decode cX0_windAt 44 = .ok (.bipush (-40), 2) := by decide +kernel
theorem dX0_windAt_46 : decode cX0_windAt 46 = .ok (.bipush 40, 2) := by decide +kernel
theorem dX0_windAt_48 : decode cX0_windAt 48 = .ok (.iload_n 2, 1) := by decide +kernel
theorem dX0_windAt_49 : decode cX0_windAt 49 = .ok (.invokestatic 65, 3) := by decide +kernel
theorem dX0_windAt_52 : decode cX0_windAt 52 = .ok (.invokestatic 70, 3) := by decide +kernel
theorem dX0_windAt_55 : decode cX0_windAt 55 = .ok (.iastore, 1) := by decide +kernel
theorem dX0_windAt_56 : decode cX0_windAt 56 = .ok (.aload_n 0, 1) := by decide +kernel
theorem dX0_windAt_57 : decode cX0_windAt 57 = .ok (.getfield 28, 3) := by decide +kernel
theorem dX0_windAt_60 : decode cX0_windAt 60 = .ok (.iload_n 1, 1) := by decide +kernel
theorem dX0_windAt_61 : decode cX0_windAt 61 = .ok (.iaload, 1) := by decide +kernel
theorem dX0_windAt_62 : decode cX0_windAt 62 = .ok (.ireturn, 1) := by decide +kernel
theorem dX0_tideAt_0 : decode cX0_tideAt 0 = .ok (.iload_n 1, 1) := by decide +kernel
theorem dX0_tideAt_1 : decode cX0_tideAt 1 = .ok (.invokestatic 73, 3) := by decide +kernel
theorem dX0_tideAt_4 : decode cX0_tideAt 4 = .ok (.aload_n 0, 1) := by decide +kernel
theorem dX0_tideAt_5 : decode cX0_tideAt 5 = .ok (.getfield 15, 3) := by decide +kernel
theorem dX0_tideAt_8 : decode cX0_tideAt 8 = .ok (.if_icmp .gt 10, 3) := by decide +kernel
theorem dX0_tideAt_11 : decode cX0_tideAt 11 = .ok (.aload_n 0, 1) := by decide +kernel
theorem dX0_tideAt_12 : decode cX0_tideAt 12 = .ok (.getfield 48, 3) := by decide +kernel
theorem dX0_tideAt_15 : decode cX0_tideAt 15 = .ok (.goto 9, 3) := by decide +kernel
theorem dX0_tideAt_18 : decode cX0_tideAt 18 = .ok (.aload_n 0, 1) := by decide +kernel
theorem dX0_tideAt_19 : decode cX0_tideAt 19 = .ok (.getfield 48, 3) := by decide +kernel
theorem dX0_tideAt_22 : decode cX0_tideAt 22 = .ok (.iconst 2, 1) := by decide +kernel
theorem dX0_tideAt_23 : decode cX0_tideAt 23 = .ok (.idiv, 1) := by decide +kernel
theorem dX0_tideAt_24 : decode cX0_tideAt 24 = .ok (.ireturn, 1) := by decide +kernel
theorem dX1_init_0 : decode cX1_init 0 = .ok (.aload_n 0, 1) := by decide +kernel
theorem dX1_init_1 : decode cX1_init 1 = .ok (.invokespecial 3, 3) := by decide +kernel
theorem dX1_init_4 : decode cX1_init 4 = .ok (.aload_n 0, 1) := by decide +kernel
theorem dX1_init_5 : decode cX1_init 5 = .ok (.new 9, 3) := by decide +kernel
theorem dX1_init_8 : decode cX1_init 8 = .ok (.dup, 1) := by decide +kernel
theorem dX1_init_9 : decode cX1_init 9 = .ok (.invokespecial 11, 3) := by decide +kernel
theorem dX1_init_12 : decode cX1_init 12 = .ok (.putfield 12, 3) := by decide +kernel
theorem dX1_init_15 : decode cX1_init 15 = .ok (.aload_n 0, 1) := by decide +kernel
theorem dX1_init_16 : decode cX1_init 16 = .ok (.bipush (-4), 2) := by decide +kernel
theorem dX1_init_18 : decode cX1_init 18 = .ok (.putfield 18, 3) := by decide +kernel
theorem dX1_init_21 : decode cX1_init 21 = .ok (.return_, 1) := by decide +kernel
theorem dX1_comeToStart_0 : decode cX1_comeToStart 0 = .ok (.aload_n 0, 1) := by decide +kernel
theorem dX1_comeToStart_1 : decode cX1_comeToStart 1 = .ok (.iload_n 1, 1) := by decide +kernel
theorem dX1_comeToStart_2 : decode cX1_comeToStart 2 = .ok (.putfield 22, 3) := by decide +kernel
theorem dX1_comeToStart_5 : decode cX1_comeToStart 5 = .ok (.aload_n 0, 1) := by decide +kernel
theorem dX1_comeToStart_6 : decode cX1_comeToStart 6 = .ok (.iload_n 2, 1) := by decide +kernel
theorem dX1_comeToStart_7 : decode cX1_comeToStart 7 = .ok (.putfield 25, 3) := by decide +kernel
theorem dX1_comeToStart_10 : decode cX1_comeToStart 10 = .ok (.aload_n 0, 1) := by decide +kernel
theorem dX1_comeToStart_11 : decode cX1_comeToStart 11 = .ok (.invokevirtual 29, 3) := by decide +kernel
theorem dX1_comeToStart_14 : decode cX1_comeToStart 14 = .ok (.return_, 1) := by decide +kernel
theorem dX1_beginAnew_0 : decode cX1_beginAnew 0 = .ok (.aload_n 0, 1) := by decide +kernel
theorem dX1_beginAnew_1 : decode cX1_beginAnew 1 = .ok (.aload_n 0, 1) := by decide +kernel
theorem dX1_beginAnew_2 : decode cX1_beginAnew 2 = .ok (.getfield 22, 3) := by decide +kernel
theorem dX1_beginAnew_5 : decode cX1_beginAnew 5 = .ok (.putfield 32, 3) := by decide +kernel
theorem dX1_beginAnew_8 : decode cX1_beginAnew 8 = .ok (.aload_n 0, 1) := by decide +kernel
theorem dX1_beginAnew_9 : decode cX1_beginAnew 9 = .ok (.iconst 0, 1) := by decide +kernel
theorem dX1_beginAnew_10 : decode cX1_beginAnew 10 = .ok (.putfield 35, 3) := by decide +kernel
theorem dX1_beginAnew_13 : decode cX1_beginAnew 13 = .ok (.aload_n 0, 1) := by decide +kernel
theorem dX1_beginAnew_14 : decode cX1_beginAnew 14 = .ok (.aload_n 0, 1) := by decide +kernel
theorem dX1_beginAnew_15 : decode cX1_beginAnew 15 = .ok (.getfield 25, 3) := by decide +kernel
theorem dX1_beginAnew_18 : decode cX1_beginAnew 18 = .ok (.putfield 38, 3) := by decide +kernel
theorem dX1_beginAnew_21 : decode cX1_beginAnew 21 = .ok (.aload_n 0, 1) := by decide +kernel
theorem dX1_beginAnew_22 : decode cX1_beginAnew 22 = .ok (.iconst 0, 1) := by decide +kernel
theorem dX1_beginAnew_23 : decode cX1_beginAnew 23 = .ok (.putfield 41, 3) := by decide +kernel
theorem dX1_beginAnew_26 : decode cX1_beginAnew 26 = .ok (.aload_n 0, 1) := by decide +kernel
theorem dX1_beginAnew_27 : decode cX1_beginAnew 27 = .ok (.bipush (-4), 2) := by decide +kernel
theorem dX1_beginAnew_29 : decode cX1_beginAnew 29 = .ok (.putfield 18, 3) := by decide +kernel
theorem dX1_beginAnew_32 : decode cX1_beginAnew 32 = .ok (.aload_n 0, 1) := by decide +kernel
theorem dX1_beginAnew_33 : decode cX1_beginAnew 33 = .ok (.iconst 0, 1) := by decide +kernel
theorem dX1_beginAnew_34 : decode cX1_beginAnew 34 = .ok (.putfield 44, 3) := by decide +kernel
theorem dX1_beginAnew_37 : decode cX1_beginAnew 37 = .ok (.return_, 1) := by decide +kernel
theorem dX1_take_0 : decode cX1_take 0 = .ok (.aload_n 0, 1) := by decide +kernel
theorem dX1_take_1 : decode cX1_take 1 = .ok (.getfield 12, 3) := by decide +kernel
theorem dX1_take_4 : decode cX1_take 4 = .ok (.aload_n 1, 1) := by decide +kernel
theorem dX1_take_5 : decode cX1_take 5 = .ok (.getfield 12, 3) := by decide +kernel
theorem dX1_take_8 : decode cX1_take 8 = .ok (.getfield 47, 3) := by decide +kernel
theorem dX1_take_11 : decode cX1_take 11 = .ok (.aload_n 1, 1) := by decide +kernel
theorem dX1_take_12 : decode cX1_take 12 = .ok (.getfield 12, 3) := by decide +kernel
theorem dX1_take_15 : decode cX1_take 15 = .ok (.getfield 50, 3) := by decide +kernel
theorem dX1_take_18 : decode cX1_take 18 = .ok (.aload_n 1, 1) := by decide +kernel
theorem dX1_take_19 : decode cX1_take 19 = .ok (.getfield 12, 3) := by decide +kernel
theorem dX1_take_22 : decode cX1_take 22 = .ok (.getfield 53, 3) := by decide +kernel
theorem dX1_take_25 : decode cX1_take 25 = .ok (.invokevirtual 56, 3) := by decide +kernel
theorem dX1_take_28 : decode cX1_take 28 = .ok (.aload_n 0, 1) := by decide +kernel
theorem dX1_take_29 : decode cX1_take 29 = .ok (.aload_n 1, 1) := by decide +kernel
theorem dX1_take_30 : decode cX1_take 30 = .ok (.getfield 22, 3) := by decide +kernel
theorem dX1_take_33 : decode cX1_take 33 = .ok (.putfield 22, 3) := by decide +kernel
theorem dX1_take_36 : decode cX1_take 36 = .ok (.aload_n 0, 1) := by decide +kernel
theorem dX1_take_37 : decode cX1_take 37 = .ok (.aload_n 1, 1) := by decide +kernel
theorem dX1_take_38 : decode cX1_take 38 = .ok (.getfield 25, 3) := by decide +kernel
theorem dX1_take_41 : decode cX1_take 41 = .ok (.putfield 25, 3) := by decide +kernel
theorem dX1_take_44 : decode cX1_take 44 = .ok (.aload_n 0, 1) := by decide +kernel
theorem dX1_take_45 : decode cX1_take 45 = .ok (.aload_n 1, 1) := by decide +kernel
theorem dX1_take_46 : decode cX1_take 46 = .ok (.getfield 32, 3) := by decide +kernel
theorem dX1_take_49 : decode cX1_take 49 = .ok (.putfield 32, 3) := by decide +kernel
theorem dX1_take_52 : decode cX1_take 52 = .ok (.aload_n 0, 1) := by decide +kernel
theorem dX1_take_53 : decode cX1_take 53 = .ok (.aload_n 1, 1) := by decide +kernel
theorem dX1_take_54 : decode cX1_take 54 = .ok (.getfield 35, 3) := by decide +kernel
theorem dX1_take_57 : decode cX1_take 57 = .ok (.putfield 35, 3) := by decide +kernel
theorem dX1_take_60 : decode cX1_take 60 = .ok (.aload_n 0, 1) := by decide +kernel
theorem dX1_take_61 : decode cX1_take 61 = .ok (.aload_n 1, 1) := by decide +kernel
theorem dX1_take_62 : decode cX1_take 62 = .ok (.getfield 38, 3) := by decide +kernel
theorem dX1_take_65 : decode cX1_take 65 = .ok (.putfield 38, 3) := by decide +kernel
theorem dX1_take_68 : decode cX1_take 68 = .ok (.aload_n 0, 1) := by decide +kernel
theorem dX1_take_69 : decode cX1_take 69 = .ok (.aload_n 1, 1) := by decide +kernel
theorem dX1_take_70 : decode cX1_take 70 = .ok (.getfield 41, 3) := by decide +kernel
theorem dX1_take_73 : decode cX1_take 73 = .ok (.putfield 41, 3) := by decide +kernel
theorem dX1_take_76 : decode cX1_take 76 = .ok (.aload_n 0, 1) := by decide +kernel
theorem dX1_take_77 : decode cX1_take 77 = .ok (.aload_n 1, 1) := by decide +kernel
theorem dX1_take_78 : decode cX1_take 78 = .ok (.getfield 18, 3) := by decide +kernel
theorem dX1_take_81 : decode cX1_take 81 = .ok (.putfield 18, 3) := by decide +kernel
theorem dX1_take_84 : decode cX1_take 84 = .ok (.aload_n 0, 1) := by decide +kernel
theorem dX1_take_85 : decode cX1_take 85 = .ok (.aload_n 1, 1) := by decide +kernel
theorem dX1_take_86 : decode cX1_take 86 = .ok (.getfield 44, 3) := by decide +kernel
theorem dX1_take_89 : decode cX1_take 89 = .ok (.putfield 44, 3) := by decide +kernel
theorem dX1_take_92 : decode cX1_take 92 = .ok (.return_, 1) := by decide +kernel
theorem dX1_tells_0 : decode cX1_tells 0 = .ok (.iload_n 1, 1) := by decide +kernel
theorem dX1_tells_1 : decode cX1_tells 1 = .ok (.tableswitch 92 0 6 #[43, 51, 56, 61, 74, 79, 84], 43) := by decide +kernel
theorem dX1_tells_44 : decode cX1_tells 44 = .ok (.aload_n 0, 1) := by decide +kernel
theorem dX1_tells_45 : decode cX1_tells 45 = .ok (.getfield 12, 3) := by decide +kernel
theorem dX1_tells_48 : decode cX1_tells 48 = .ok (.getfield 47, 3) := by decide +kernel
theorem dX1_tells_51 : decode cX1_tells 51 = .ok (.ireturn, 1) := by decide +kernel
theorem dX1_tells_52 : decode cX1_tells 52 = .ok (.aload_n 0, 1) := by decide +kernel
theorem dX1_tells_53 : decode cX1_tells 53 = .ok (.getfield 32, 3) := by decide +kernel
theorem dX1_tells_56 : decode cX1_tells 56 = .ok (.ireturn, 1) := by decide +kernel
theorem dX1_tells_57 : decode cX1_tells 57 = .ok (.aload_n 0, 1) := by decide +kernel
theorem dX1_tells_58 : decode cX1_tells 58 = .ok (.getfield 35, 3) := by decide +kernel
theorem dX1_tells_61 : decode cX1_tells 61 = .ok (.ireturn, 1) := by decide +kernel
theorem dX1_tells_62 : decode cX1_tells 62 = .ok (.aload_n 0, 1) := by decide +kernel
theorem dX1_tells_63 : decode cX1_tells 63 = .ok (.getfield 38, 3) := by decide +kernel
theorem dX1_tells_66 : decode cX1_tells 66 = .ok (.ifCond .eq 7, 3) := by decide +kernel
theorem dX1_tells_69 : decode cX1_tells 69 = .ok (.iconst 1, 1) := by decide +kernel
theorem dX1_tells_70 : decode cX1_tells 70 = .ok (.goto 4, 3) := by decide +kernel
theorem dX1_tells_73 : decode cX1_tells 73 = .ok (.iconst 0, 1) := by decide +kernel
theorem dX1_tells_74 : decode cX1_tells 74 = .ok (.ireturn, 1) := by decide +kernel
theorem dX1_tells_75 : decode cX1_tells 75 = .ok (.aload_n 0, 1) := by decide +kernel
theorem dX1_tells_76 : decode cX1_tells 76 = .ok (.getfield 41, 3) := by decide +kernel
theorem dX1_tells_79 : decode cX1_tells 79 = .ok (.ireturn, 1) := by decide +kernel
theorem dX1_tells_80 : decode cX1_tells 80 = .ok (.aload_n 0, 1) := by decide +kernel
theorem dX1_tells_81 : decode cX1_tells 81 = .ok (.getfield 18, 3) := by decide +kernel
theorem dX1_tells_84 : decode cX1_tells 84 = .ok (.ireturn, 1) := by decide +kernel
theorem dX1_tells_85 : decode cX1_tells 85 = .ok (.aload_n 0, 1) := by decide +kernel
theorem dX1_tells_86 : decode cX1_tells 86 = .ok (.getfield 12, 3) := by decide +kernel
theorem dX1_tells_89 : decode cX1_tells 89 = .ok (.getfield 50, 3) := by decide +kernel
theorem dX1_tells_92 : decode cX1_tells 92 = .ok (.ireturn, 1) := by decide +kernel
theorem dX1_tells_93 : decode cX1_tells 93 = .ok (.aload_n 0, 1) := by decide +kernel
theorem dX1_tells_94 : decode cX1_tells 94 = .ok (.getfield 44, 3) := by decide +kernel
theorem dX1_tells_97 : decode cX1_tells 97 = .ok (.ireturn, 1) := by decide +kernel
theorem dX1_isIn_0 : decode cX1_isIn 0 = .ok (.aload_n 0, 1) := by decide +kernel
theorem dX1_isIn_1 : decode cX1_isIn 1 = .ok (.getfield 18, 3) := by decide +kernel
theorem dX1_isIn_4 : decode cX1_isIn 4 = .ok (.bipush (-4), 2) := by decide +kernel
theorem dX1_isIn_6 : decode cX1_isIn 6 = .ok (.if_icmp .eq 7, 3) := by decide +kernel
theorem dX1_isIn_9 : decode cX1_isIn 9 = .ok (.iconst 1, 1) := by decide +kernel
theorem dX1_isIn_10 : decode cX1_isIn 10 = .ok (.goto 4, 3) := by decide +kernel
theorem dX1_isIn_13 : decode cX1_isIn 13 = .ok (.iconst 0, 1) := by decide +kernel
theorem dX1_isIn_14 : decode cX1_isIn 14 = .ok (.ireturn, 1) := by decide +kernel
theorem dX1_sail_0 : decode cX1_sail 0 = .ok (.aload_n 0, 1) := by decide +kernel
theorem dX1_sail_1 : decode cX1_sail 1 = .ok (.invokevirtual 60, 3) := by decide +kernel
theorem dX1_sail_4 : decode cX1_sail 4 = .ok (.ifCond .eq 4, 3) := by decide +kernel
theorem dX1_sail_7 : decode cX1_sail 7 = .ok (.return_, 1) := by decide +kernel
theorem dX1_sail_8 : decode cX1_sail 8 = .ok (.aload_n 0, 1) := by decide +kernel
theorem dX1_sail_9 : decode cX1_sail 9 = .ok (.getfield 35, 3) := by decide +kernel
theorem dX1_sail_12 : decode cX1_sail 12 = .ok (.aload_n 1, 1) := by decide +kernel
theorem dX1_sail_13 : decode cX1_sail 13 = .ok (.getfield 64, 3) := by decide +kernel
theorem dX1_sail_16 : decode cX1_sail 16 = .ok (.if_icmp .lt 42, 3) := by decide +kernel
theorem dX1_sail_19 : decode cX1_sail 19 = .ok (.aload_n 0, 1) := by decide +kernel
theorem dX1_sail_20 : decode cX1_sail 20 = .ok (.aload_n 0, 1) := by decide +kernel
theorem dX1_sail_21 : decode cX1_sail 21 = .ok (.getfield 32, 3) := by decide +kernel
theorem dX1_sail_24 : decode cX1_sail 24 = .ok (.ifCond .le 17, 3) := by decide +kernel
theorem dX1_sail_27 : decode cX1_sail 27 = .ok (.iconst 0, 1) := by decide +kernel
theorem dX1_sail_28 : decode cX1_sail 28 = .ok (.aload_n 0, 1) := by decide +kernel
theorem dX1_sail_29 : decode cX1_sail 29 = .ok (.getfield 32, 3) := by decide +kernel
theorem dX1_sail_32 : decode cX1_sail 32 = .ok (.bipush 8, 2) := by decide +kernel
theorem dX1_sail_34 : decode cX1_sail 34 = .ok (.isub, 1) := by decide +kernel
theorem dX1_sail_35 : decode cX1_sail 35 = .ok (.invokestatic 69, 3) := by decide +kernel
theorem dX1_sail_38 : decode cX1_sail 38 = .ok (.goto 14, 3) := by decide +kernel
theorem dX1_sail_41 : decode cX1_sail 41 = .ok (.iconst 0, 1) := by decide +kernel
theorem dX1_sail_42 : decode cX1_sail 42 = .ok (.aload_n 0, 1) := by decide +kernel
theorem dX1_sail_43 : decode cX1_sail 43 = .ok (.getfield 32, 3) := by decide +kernel
theorem dX1_sail_46 : decode cX1_sail 46 = .ok (.bipush 8, 2) := by decide +kernel
theorem dX1_sail_48 : decode cX1_sail 48 = .ok (.iadd, 1) := by decide +kernel
theorem dX1_sail_49 : decode cX1_sail 49 = .ok (.invokestatic 75, 3) := by decide +kernel
theorem dX1_sail_52 : decode cX1_sail 52 = .ok (.putfield 32, 3) := by decide +kernel
theorem dX1_sail_55 : decode cX1_sail 55 = .ok (.goto 149, 3) := by decide +kernel
theorem dX1_sail_58 : decode cX1_sail 58 = .ok (.aload_n 0, 1) := by decide +kernel
theorem dX1_sail_59 : decode cX1_sail 59 = .ok (.getfield 41, 3) := by decide +kernel
theorem dX1_sail_62 : decode cX1_sail 62 = .ok (.ifCond .le 37, 3) := by decide +kernel
theorem dX1_sail_65 : decode cX1_sail 65 = .ok (.aload_n 0, 1) := by decide +kernel
theorem dX1_sail_66 : decode cX1_sail 66 = .ok (.dup, 1) := by decide +kernel
theorem dX1_sail_67 : decode cX1_sail 67 = .ok (.getfield 41, 3) := by decide +kernel
theorem dX1_sail_70 : decode cX1_sail 70 = .ok (.iconst 1, 1) := by decide +kernel
theorem dX1_sail_71 : decode cX1_sail 71 = .ok (.isub, 1) := by decide +kernel
theorem dX1_sail_72 : decode cX1_sail 72 = .ok (.putfield 41, 3) := by decide +kernel
theorem dX1_sail_75 : decode cX1_sail 75 = .ok (.aload_n 0, 1) := by decide +kernel
theorem dX1_sail_76 : decode cX1_sail 76 = .ok (.iconst 0, 1) := by decide +kernel
theorem dX1_sail_77 : decode cX1_sail 77 = .ok (.aload_n 0, 1) := by decide +kernel
theorem dX1_sail_78 : decode cX1_sail 78 = .ok (.getfield 35, 3) := by decide +kernel
theorem dX1_sail_81 : decode cX1_sail 81 = .ok (.aload_n 1, 1) := by decide +kernel
theorem dX1_sail_82 : decode cX1_sail 82 = .ok (.aload_n 0, 1) := by decide +kernel
theorem dX1_sail_83 : decode cX1_sail 83 = .ok (.getfield 32, 3) := by decide +kernel
theorem dX1_sail_86 : decode cX1_sail 86 = .ok (.invokevirtual 78, 3) := by decide +kernel
theorem dX1_sail_89 : decode cX1_sail 89 = .ok (.isub, 1) := by decide +kernel
theorem dX1_sail_90 : decode cX1_sail 90 = .ok (.invokestatic 69, 3) := by decide +kernel
theorem dX1_sail_93 : decode cX1_sail 93 = .ok (.putfield 35, 3) := by decide +kernel
theorem dX1_sail_96 : decode cX1_sail 96 = .ok (.goto 108, 3) := by decide +kernel
theorem dX1_sail_99 : decode cX1_sail 99 = .ok (.aload_n 0, 1) := by decide +kernel
theorem dX1_sail_100 : decode cX1_sail 100 = .ok (.getfield 38, 3) := by decide +kernel
theorem dX1_sail_103 : decode cX1_sail 103 = .ok (.ifCond .eq 12, 3) := by decide +kernel
theorem dX1_sail_106 : decode cX1_sail 106 = .ok (.bipush 6, 2) := by decide +kernel
theorem dX1_sail_108 : decode cX1_sail 108 = .ok (.iload_n 2, 1) := by decide +kernel
theorem dX1_sail_109 : decode cX1_sail 109 = .ok (.iconst 5, 1) := by decide +kernel
theorem dX1_sail_110 : decode cX1_sail 110 = .ok (.idiv, 1) := by decide +kernel
theorem dX1_sail_111 : decode cX1_sail 111 = .ok (.isub, 1) := by decide +kernel
theorem dX1_sail_112 : decode cX1_sail 112 = .ok (.goto 9, 3) := by decide +kernel
theorem dX1_sail_115 : decode cX1_sail 115 = .ok (.bipush 6, 2) := by decide +kernel
theorem dX1_sail_117 : decode cX1_sail 117 = .ok (.iload_n 2, 1) := by decide +kernel
theorem dX1_sail_118 : decode cX1_sail 118 = .ok (.iconst 5, 1) := by decide +kernel
theorem dX1_sail_119 : decode cX1_sail 119 = .ok (.idiv, 1) := by decide +kernel
theorem dX1_sail_120 : decode cX1_sail 120 = .ok (.iadd, 1) := by decide +kernel
theorem dX1_sail_121 : decode cX1_sail 121 = .ok (.istore 4, 2) := by decide +kernel
theorem dX1_sail_123 : decode cX1_sail 123 = .ok (.iload 4, 2) := by decide +kernel
theorem dX1_sail_125 : decode cX1_sail 125 = .ok (.aload_n 0, 1) := by decide +kernel
theorem dX1_sail_126 : decode cX1_sail 126 = .ok (.getfield 82, 3) := by decide +kernel
theorem dX1_sail_129 : decode cX1_sail 129 = .ok (.ifCond .eq 7, 3) := by decide +kernel
theorem dX1_sail_132 : decode cX1_sail 132 = .ok (.iconst 2, 1) := by decide +kernel
theorem dX1_sail_133 : decode cX1_sail 133 = .ok (.goto 4, 3) := by decide +kernel
theorem dX1_sail_136 : decode cX1_sail 136 = .ok (.iconst 0, 1) := by decide +kernel
theorem dX1_sail_137 : decode cX1_sail 137 = .ok (.aload_n 1, 1) := by decide +kernel
theorem dX1_sail_138 : decode cX1_sail 138 = .ok (.aload_n 0, 1) := by decide +kernel
theorem dX1_sail_139 : decode cX1_sail 139 = .ok (.getfield 32, 3) := by decide +kernel
theorem dX1_sail_142 : decode cX1_sail 142 = .ok (.invokevirtual 78, 3) := by decide +kernel
theorem dX1_sail_145 : decode cX1_sail 145 = .ok (.iadd, 1) := by decide +kernel
theorem dX1_sail_146 : decode cX1_sail 146 = .ok (.isub, 1) := by decide +kernel
theorem dX1_sail_147 : decode cX1_sail 147 = .ok (.istore 4, 2) := by decide +kernel
theorem dX1_sail_149 : decode cX1_sail 149 = .ok (.aload_n 0, 1) := by decide +kernel
theorem dX1_sail_150 : decode cX1_sail 150 = .ok (.dup, 1) := by decide +kernel
theorem dX1_sail_151 : decode cX1_sail 151 = .ok (.getfield 35, 3) := by decide +kernel
theorem dX1_sail_154 : decode cX1_sail 154 = .ok (.iconst 0, 1) := by decide +kernel
theorem dX1_sail_155 : decode cX1_sail 155 = .ok (.iload 4, 2) := by decide +kernel
theorem dX1_sail_157 : decode cX1_sail 157 = .ok (.invokestatic 69, 3) := by decide +kernel
theorem dX1_sail_160 : decode cX1_sail 160 = .ok (.iadd, 1) := by decide +kernel
theorem dX1_sail_161 : decode cX1_sail 161 = .ok (.putfield 35, 3) := by decide +kernel
theorem dX1_sail_164 : decode cX1_sail 164 = .ok (.aload_n 0, 1) := by decide +kernel
theorem dX1_sail_165 : decode cX1_sail 165 = .ok (.aload_n 0, 1) := by decide +kernel
theorem dX1_sail_166 : decode cX1_sail 166 = .ok (.getfield 38, 3) := by decide +kernel
theorem dX1_sail_169 : decode cX1_sail 169 = .ok (.ifCond .eq 19, 3) := by decide +kernel
theorem dX1_sail_172 : decode cX1_sail 172 = .ok (.sipush 200, 3) := by decide +kernel
theorem dX1_sail_175 : decode cX1_sail 175 = .ok (.aload_n 0, 1) := by decide +kernel
theorem dX1_sail_176 : decode cX1_sail 176 = .ok (.getfield 32, 3) := by decide +kernel
theorem dX1_sail_179 : decode cX1_sail 179 = .ok (.bipush 8, 2) := by decide +kernel
theorem dX1_sail_181 : decode cX1_sail 181 = .ok (.iadd, 1) := by decide +kernel
theorem dX1_sail_182 : decode cX1_sail 182 = .ok (.invokestatic 75, 3) := by decide +kernel
theorem dX1_sail_185 : decode cX1_sail 185 = .ok (.goto 16, 3) := by decide +kernel
theorem dX1_sail_188 : decode cX1_sail 188 = .ok (.sipush (-200), 3) := by decide +kernel
theorem dX1_sail_191 : decode cX1_sail 191 = .ok (.aload_n 0, 1) := by decide +kernel
theorem dX1_sail_192 : decode cX1_sail 192 = .ok (.getfield 32, 3) := by decide +kernel
theorem dX1_sail_195 : decode cX1_sail 195 = .ok (.bipush 8, 2) := by decide +kernel
theorem dX1_sail_197 : decode cX1_sail 197 = .ok (.isub, 1) := by decide +kernel
theorem dX1_sail_198 : decode cX1_sail 198 = .ok (.invokestatic 69, 3) := by decide +kernel
theorem dX1_sail_201 : decode cX1_sail 201 = .ok (.putfield 32, 3) := by decide +kernel
theorem dX1_sail_204 : decode cX1_sail 204 = .ok (.aload_n 0, 1) := by decide +kernel
theorem dX1_sail_205 : decode cX1_sail 205 = .ok (.getfield 35, 3) := by decide +kernel
theorem dX1_sail_208 : decode cX1_sail 208 = .ok (.aload_n 1, 1) := by decide +kernel
theorem dX1_sail_209 : decode cX1_sail 209 = .ok (.getfield 64, 3) := by decide +kernel
theorem dX1_sail_212 : decode cX1_sail 212 = .ok (.if_icmp .lt 15, 3) := by decide +kernel
theorem dX1_sail_215 : decode cX1_sail 215 = .ok (.aload_n 0, 1) := by decide +kernel
theorem dX1_sail_216 : decode cX1_sail 216 = .ok (.getfield 32, 3) := by decide +kernel
theorem dX1_sail_219 : decode cX1_sail 219 = .ok (.ifCond .ne 8, 3) := by decide +kernel
theorem dX1_sail_222 : decode cX1_sail 222 = .ok (.aload_n 0, 1) := by decide +kernel
theorem dX1_sail_223 : decode cX1_sail 223 = .ok (.iload_n 3, 1) := by decide +kernel
theorem dX1_sail_224 : decode cX1_sail 224 = .ok (.putfield 18, 3) := by decide +kernel
theorem dX1_sail_227 : decode cX1_sail 227 = .ok (.return_, 1) := by decide +kernel
theorem dX1_canTurn_0 : decode cX1_canTurn 0 = .ok (.aload_n 0, 1) := by decide +kernel
theorem dX1_canTurn_1 : decode cX1_canTurn 1 = .ok (.invokevirtual 60, 3) := by decide +kernel
theorem dX1_canTurn_4 : decode cX1_canTurn 4 = .ok (.ifCond .ne 25, 3) := by decide +kernel
theorem dX1_canTurn_7 : decode cX1_canTurn 7 = .ok (.aload_n 0, 1) := by decide +kernel
theorem dX1_canTurn_8 : decode cX1_canTurn 8 = .ok (.getfield 41, 3) := by decide +kernel
theorem dX1_canTurn_11 : decode cX1_canTurn 11 = .ok (.ifCond .ne 18, 3) := by decide +kernel
theorem dX1_canTurn_14 : decode cX1_canTurn 14 = .ok (.aload_n 0, 1) := by decide +kernel
theorem dX1_canTurn_15 : decode cX1_canTurn 15 = .ok (.getfield 35, 3) := by decide +kernel
theorem dX1_canTurn_18 : decode cX1_canTurn 18 = .ok (.aload_n 1, 1) := by decide +kernel
theorem dX1_canTurn_19 : decode cX1_canTurn 19 = .ok (.getfield 64, 3) := by decide +kernel
theorem dX1_canTurn_22 : decode cX1_canTurn 22 = .ok (.if_icmp .ge 7, 3) := by decide +kernel
theorem dX1_canTurn_25 : decode cX1_canTurn 25 = .ok (.iconst 1, 1) := by decide +kernel
theorem dX1_canTurn_26 : decode cX1_canTurn 26 = .ok (.goto 4, 3) := by decide +kernel
theorem dX1_canTurn_29 : decode cX1_canTurn 29 = .ok (.iconst 0, 1) := by decide +kernel
theorem dX1_canTurn_30 : decode cX1_canTurn 30 = .ok (.ireturn, 1) := by decide +kernel
theorem dX1_comeAbout_0 : decode cX1_comeAbout 0 = .ok (.aload_n 0, 1) := by decide +kernel
theorem dX1_comeAbout_1 : decode cX1_comeAbout 1 = .ok (.aload_n 0, 1) := by decide +kernel
theorem dX1_comeAbout_2 : decode cX1_comeAbout 2 = .ok (.getfield 38, 3) := by decide +kernel
theorem dX1_comeAbout_5 : decode cX1_comeAbout 5 = .ok (.ifCond .ne 7, 3) := by decide +kernel
theorem dX1_comeAbout_8 : decode cX1_comeAbout 8 = .ok (.iconst 1, 1) := by decide +kernel
theorem dX1_comeAbout_9 : decode cX1_comeAbout 9 = .ok (.goto 4, 3) := by decide +kernel
theorem dX1_comeAbout_12 : decode cX1_comeAbout 12 = .ok (.iconst 0, 1) := by decide +kernel
theorem dX1_comeAbout_13 : decode cX1_comeAbout 13 = .ok (.putfield 38, 3) := by decide +kernel
theorem dX1_comeAbout_16 : decode cX1_comeAbout 16 = .ok (.aload_n 0, 1) := by decide +kernel
theorem dX1_comeAbout_17 : decode cX1_comeAbout 17 = .ok (.iload_n 1, 1) := by decide +kernel
theorem dX1_comeAbout_18 : decode cX1_comeAbout 18 = .ok (.putfield 41, 3) := by decide +kernel
theorem dX1_comeAbout_21 : decode cX1_comeAbout 21 = .ok (.aload_n 0, 1) := by decide +kernel
theorem dX1_comeAbout_22 : decode cX1_comeAbout 22 = .ok (.dup, 1) := by decide +kernel
theorem dX1_comeAbout_23 : decode cX1_comeAbout 23 = .ok (.getfield 44, 3) := by decide +kernel
theorem dX1_comeAbout_26 : decode cX1_comeAbout 26 = .ok (.iconst 1, 1) := by decide +kernel
theorem dX1_comeAbout_27 : decode cX1_comeAbout 27 = .ok (.iadd, 1) := by decide +kernel
theorem dX1_comeAbout_28 : decode cX1_comeAbout 28 = .ok (.putfield 44, 3) := by decide +kernel
theorem dX1_comeAbout_31 : decode cX1_comeAbout 31 = .ok (.return_, 1) := by decide +kernel
theorem dX1_goesOut_0 : decode cX1_goesOut 0 = .ok (.aload_n 0, 1) := by decide +kernel
theorem dX1_goesOut_1 : decode cX1_goesOut 1 = .ok (.getfield 38, 3) := by decide +kernel
theorem dX1_goesOut_4 : decode cX1_goesOut 4 = .ok (.ifCond .eq 21, 3) := by decide +kernel
theorem dX1_goesOut_7 : decode cX1_goesOut 7 = .ok (.aload_n 0, 1) := by decide +kernel
theorem dX1_goesOut_8 : decode cX1_goesOut 8 = .ok (.getfield 32, 3) := by decide +kernel
theorem dX1_goesOut_11 : decode cX1_goesOut 11 = .ok (.sipush 200, 3) := by decide +kernel
theorem dX1_goesOut_14 : decode cX1_goesOut 14 = .ok (.if_icmp .lt 7, 3) := by decide +kernel
theorem dX1_goesOut_17 : decode cX1_goesOut 17 = .ok (.iconst 1, 1) := by decide +kernel
theorem dX1_goesOut_18 : decode cX1_goesOut 18 = .ok (.goto 22, 3) := by decide +kernel
theorem dX1_goesOut_21 : decode cX1_goesOut 21 = .ok (.iconst 0, 1) := by decide +kernel
theorem dX1_goesOut_22 : decode cX1_goesOut 22 = .ok (.goto 18, 3) := by decide +kernel
theorem dX1_goesOut_25 : decode cX1_goesOut 25 = .ok (.aload_n 0, 1) := by decide +kernel
theorem dX1_goesOut_26 : decode cX1_goesOut 26 = .ok (.getfield 32, 3) := by decide +kernel
theorem dX1_goesOut_29 : decode cX1_goesOut 29 = .ok (.sipush (-200), 3) := by decide +kernel
theorem dX1_goesOut_32 : decode cX1_goesOut 32 = .ok (.if_icmp .gt 7, 3) := by decide +kernel
theorem dX1_goesOut_35 : decode cX1_goesOut 35 = .ok (.iconst 1, 1) := by decide +kernel
theorem dX1_goesOut_36 : decode cX1_goesOut 36 = .ok (.goto 4, 3) := by decide +kernel
theorem dX1_goesOut_39 : decode cX1_goesOut 39 = .ok (.iconst 0, 1) := by decide +kernel
theorem dX1_goesOut_40 : decode cX1_goesOut 40 = .ok (.ireturn, 1) := by decide +kernel
theorem dX1_turnsAt_0 : decode cX1_turnsAt 0 = .ok (.iconst 5, 1) := by decide +kernel
theorem dX1_turnsAt_1 : decode cX1_turnsAt 1 = .ok (.aload_n 0, 1) := by decide +kernel
theorem dX1_turnsAt_2 : decode cX1_turnsAt 2 = .ok (.getfield 12, 3) := by decide +kernel
theorem dX1_turnsAt_5 : decode cX1_turnsAt 5 = .ok (.getfield 50, 3) := by decide +kernel
theorem dX1_turnsAt_8 : decode cX1_turnsAt 8 = .ok (.imul, 1) := by decide +kernel
theorem dX1_turnsAt_9 : decode cX1_turnsAt 9 = .ok (.istore_n 2, 1) := by decide +kernel
theorem dX1_turnsAt_10 : decode cX1_turnsAt 10 = .ok (.iload_n 2, 1) := by decide +kernel
theorem dX1_turnsAt_11 : decode cX1_turnsAt 11 = .ok (.ifCond .le 13, 3) := by decide +kernel
theorem dX1_turnsAt_14 : decode cX1_turnsAt 14 = .ok (.iload_n 1, 1) := by decide +kernel
theorem dX1_turnsAt_15 : decode cX1_turnsAt 15 = .ok (.iload_n 2, 1) := by decide +kernel
theorem dX1_turnsAt_16 : decode cX1_turnsAt 16 = .ok (.irem, 1) := by decide +kernel
theorem dX1_turnsAt_17 : decode cX1_turnsAt 17 = .ok (.ifCond .ne 7, 3) := by decide +kernel
theorem dX1_turnsAt_20 : decode cX1_turnsAt 20 = .ok (.iconst 1, 1) := by decide +kernel
theorem dX1_turnsAt_21 : decode cX1_turnsAt 21 = .ok (.goto 4, 3) := by decide +kernel
theorem dX1_turnsAt_24 : decode cX1_turnsAt 24 = .ok (.iconst 0, 1) := by decide +kernel
theorem dX1_turnsAt_25 : decode cX1_turnsAt 25 = .ok (.ireturn, 1) := by decide +kernel
theorem dX1_turnsOddlyAt_0 : decode cX1_turnsOddlyAt 0 = .ok (.iconst 5, 1) := by decide +kernel
theorem dX1_turnsOddlyAt_1 : decode cX1_turnsOddlyAt 1 = .ok (.aload_n 0, 1) := by decide +kernel
theorem dX1_turnsOddlyAt_2 : decode cX1_turnsOddlyAt 2 = .ok (.getfield 12, 3) := by decide +kernel
theorem dX1_turnsOddlyAt_5 : decode cX1_turnsOddlyAt 5 = .ok (.getfield 50, 3) := by decide +kernel
theorem dX1_turnsOddlyAt_8 : decode cX1_turnsOddlyAt 8 = .ok (.imul, 1) := by decide +kernel
theorem dX1_turnsOddlyAt_9 : decode cX1_turnsOddlyAt 9 = .ok (.istore_n 2, 1) := by decide +kernel
theorem dX1_turnsOddlyAt_10 : decode cX1_turnsOddlyAt 10 = .ok (.iload_n 2, 1) := by decide +kernel
theorem dX1_turnsOddlyAt_11 : decode cX1_turnsOddlyAt 11 = .ok (.ifCond .le 16, 3) := by decide +kernel
theorem dX1_turnsOddlyAt_14 : decode cX1_turnsOddlyAt 14 = .ok (.iload_n 1, 1) := by decide +kernel
theorem dX1_turnsOddlyAt_15 : decode cX1_turnsOddlyAt 15 = .ok (.iconst 2, 1) := by decide +kernel
theorem dX1_turnsOddlyAt_16 : decode cX1_turnsOddlyAt 16 = .ok (.iload_n 2, 1) := by decide +kernel
theorem dX1_turnsOddlyAt_17 : decode cX1_turnsOddlyAt 17 = .ok (.imul, 1) := by decide +kernel
theorem dX1_turnsOddlyAt_18 : decode cX1_turnsOddlyAt 18 = .ok (.irem, 1) := by decide +kernel
theorem dX1_turnsOddlyAt_19 : decode cX1_turnsOddlyAt 19 = .ok (.iload_n 2, 1) := by decide +kernel
theorem dX1_turnsOddlyAt_20 : decode cX1_turnsOddlyAt 20 = .ok (.if_icmp .ne 7, 3) := by decide +kernel
theorem dX1_turnsOddlyAt_23 : decode cX1_turnsOddlyAt 23 = .ok (.iconst 1, 1) := by decide +kernel
theorem dX1_turnsOddlyAt_24 : decode cX1_turnsOddlyAt 24 = .ok (.goto 4, 3) := by decide +kernel
theorem dX1_turnsOddlyAt_27 : decode cX1_turnsOddlyAt 27 = .ok (.iconst 0, 1) := by decide +kernel
theorem dX1_turnsOddlyAt_28 : decode cX1_turnsOddlyAt 28 = .ok (.ireturn, 1) := by decide +kernel
theorem dX1_isHeadedBy_0 : decode cX1_isHeadedBy 0 = .ok (.aload_n 0, 1) := by decide +kernel
theorem dX1_isHeadedBy_1 : decode cX1_isHeadedBy 1 = .ok (.getfield 38, 3) := by decide +kernel
theorem dX1_isHeadedBy_4 : decode cX1_isHeadedBy 4 = .ok (.ifCond .eq 9, 3) := by decide +kernel
theorem dX1_isHeadedBy_7 : decode cX1_isHeadedBy 7 = .ok (.iload_n 1, 1) := by decide +kernel
theorem dX1_isHeadedBy_8 : decode cX1_isHeadedBy 8 = .ok (.iconst 5, 1) := by decide +kernel
theorem dX1_isHeadedBy_9 : decode cX1_isHeadedBy 9 = .ok (.idiv, 1) := by decide +kernel
theorem dX1_isHeadedBy_10 : decode cX1_isHeadedBy 10 = .ok (.goto 7, 3) := by decide +kernel
theorem dX1_isHeadedBy_13 : decode cX1_isHeadedBy 13 = .ok (.iload_n 1, 1) := by decide +kernel
theorem dX1_isHeadedBy_14 : decode cX1_isHeadedBy 14 = .ok (.iconst 5, 1) := by decide +kernel
theorem dX1_isHeadedBy_15 : decode cX1_isHeadedBy 15 = .ok (.idiv, 1) := by decide +kernel
theorem dX1_isHeadedBy_16 : decode cX1_isHeadedBy 16 = .ok (.ineg, 1) := by decide +kernel
theorem dX1_isHeadedBy_17 : decode cX1_isHeadedBy 17 = .ok (.istore_n 2, 1) := by decide +kernel
theorem dX1_isHeadedBy_18 : decode cX1_isHeadedBy 18 = .ok (.iload_n 2, 1) := by decide +kernel
theorem dX1_isHeadedBy_19 : decode cX1_isHeadedBy 19 = .ok (.aload_n 0, 1) := by decide +kernel
theorem dX1_isHeadedBy_20 : decode cX1_isHeadedBy 20 = .ok (.getfield 12, 3) := by decide +kernel
theorem dX1_isHeadedBy_23 : decode cX1_isHeadedBy 23 = .ok (.getfield 50, 3) := by decide +kernel
theorem dX1_isHeadedBy_26 : decode cX1_isHeadedBy 26 = .ok (.iconst 5, 1) := by decide +kernel
theorem dX1_isHeadedBy_27 : decode cX1_isHeadedBy 27 = .ok (.idiv, 1) := by decide +kernel
theorem dX1_isHeadedBy_28 : decode cX1_isHeadedBy 28 = .ok (.iconst 1, 1) := by decide +kernel
theorem dX1_isHeadedBy_29 : decode cX1_isHeadedBy 29 = .ok (.iadd, 1) := by decide +kernel
theorem dX1_isHeadedBy_30 : decode cX1_isHeadedBy 30 = .ok (.if_icmp .lt 7, 3) := by decide +kernel
theorem dX1_isHeadedBy_33 : decode cX1_isHeadedBy 33 = .ok (.iconst 1, 1) := by decide +kernel
theorem dX1_isHeadedBy_34 : decode cX1_isHeadedBy 34 = .ok (.goto 4, 3) := by decide +kernel
theorem dX1_isHeadedBy_37 : decode cX1_isHeadedBy 37 = .ok (.iconst 0, 1) := by decide +kernel
theorem dX1_isHeadedBy_38 : decode cX1_isHeadedBy 38 = .ok (.ireturn, 1) := by decide +kernel
theorem dX1_isFarAside_0 : decode cX1_isFarAside 0 = .ok (.aload_n 0, 1) := by decide +kernel
theorem dX1_isFarAside_1 : decode cX1_isFarAside 1 = .ok (.getfield 38, 3) := by decide +kernel
theorem dX1_isFarAside_4 : decode cX1_isFarAside 4 = .ok (.ifCond .eq 10, 3) := by decide +kernel
theorem dX1_isFarAside_7 : decode cX1_isFarAside 7 = .ok (.aload_n 0, 1) := by decide +kernel
theorem dX1_isFarAside_8 : decode cX1_isFarAside 8 = .ok (.getfield 32, 3) := by decide +kernel
theorem dX1_isFarAside_11 : decode cX1_isFarAside 11 = .ok (.goto 8, 3) := by decide +kernel
theorem dX1_isFarAside_14 : decode cX1_isFarAside 14 = .ok (.aload_n 0, 1) := by decide +kernel
theorem dX1_isFarAside_15 : decode cX1_isFarAside 15 = .ok (.getfield 32, 3) := by decide +kernel
theorem dX1_isFarAside_18 : decode cX1_isFarAside 18 = .ok (.ineg, 1) := by decide +kernel
theorem dX1_isFarAside_19 : decode cX1_isFarAside 19 = .ok (.iconst 5, 1) := by decide +kernel
theorem dX1_isFarAside_20 : decode cX1_isFarAside 20 = .ok (.aload_n 0, 1) := by decide +kernel
theorem dX1_isFarAside_21 : decode cX1_isFarAside 21 = .ok (.getfield 12, 3) := by decide +kernel
theorem dX1_isFarAside_24 : decode cX1_isFarAside 24 = .ok (.getfield 50, 3) := by decide +kernel
theorem dX1_isFarAside_27 : decode cX1_isFarAside 27 = .ok (.imul, 1) := by decide +kernel
theorem dX1_isFarAside_28 : decode cX1_isFarAside 28 = .ok (.if_icmp .lt 7, 3) := by decide +kernel
theorem dX1_isFarAside_31 : decode cX1_isFarAside 31 = .ok (.iconst 1, 1) := by decide +kernel
theorem dX1_isFarAside_32 : decode cX1_isFarAside 32 = .ok (.goto 4, 3) := by decide +kernel
theorem dX1_isFarAside_35 : decode cX1_isFarAside 35 = .ok (.iconst 0, 1) := by decide +kernel
theorem dX1_isFarAside_36 : decode cX1_isFarAside 36 = .ok (.ireturn, 1) := by decide +kernel
theorem dX1_isOnItsLast_0 : decode cX1_isOnItsLast 0 = .ok (.aload_n 0, 1) := by decide +kernel
theorem dX1_isOnItsLast_1 : decode cX1_isOnItsLast 1 = .ok (.getfield 38, 3) := by decide +kernel
theorem dX1_isOnItsLast_4 : decode cX1_isOnItsLast 4 = .ok (.ifCond .eq 18, 3) := by decide +kernel
theorem dX1_isOnItsLast_7 : decode cX1_isOnItsLast 7 = .ok (.aload_n 0, 1) := by decide +kernel
theorem dX1_isOnItsLast_8 : decode cX1_isOnItsLast 8 = .ok (.getfield 32, 3) := by decide +kernel
theorem dX1_isOnItsLast_11 : decode cX1_isOnItsLast 11 = .ok (.ifCond .le 7, 3) := by decide +kernel
theorem dX1_isOnItsLast_14 : decode cX1_isOnItsLast 14 = .ok (.iconst 1, 1) := by decide +kernel
theorem dX1_isOnItsLast_15 : decode cX1_isOnItsLast 15 = .ok (.goto 19, 3) := by decide +kernel
theorem dX1_isOnItsLast_18 : decode cX1_isOnItsLast 18 = .ok (.iconst 0, 1) := by decide +kernel
theorem dX1_isOnItsLast_19 : decode cX1_isOnItsLast 19 = .ok (.goto 15, 3) := by decide +kernel
theorem dX1_isOnItsLast_22 : decode cX1_isOnItsLast 22 = .ok (.aload_n 0, 1) := by decide +kernel
theorem dX1_isOnItsLast_23 : decode cX1_isOnItsLast 23 = .ok (.getfield 32, 3) := by decide +kernel
theorem dX1_isOnItsLast_26 : decode cX1_isOnItsLast 26 = .ok (.ifCond .ge 7, 3) := by decide +kernel
theorem dX1_isOnItsLast_29 : decode cX1_isOnItsLast 29 = .ok (.iconst 1, 1) := by decide +kernel
theorem dX1_isOnItsLast_30 : decode cX1_isOnItsLast 30 = .ok (.goto 4, 3) := by decide +kernel
theorem dX1_isOnItsLast_33 : decode cX1_isOnItsLast 33 = .ok (.iconst 0, 1) := by decide +kernel
theorem dX1_isOnItsLast_34 : decode cX1_isOnItsLast 34 = .ok (.istore_n 2, 1) := by decide +kernel
theorem dX1_isOnItsLast_35 : decode cX1_isOnItsLast 35 = .ok (.iload_n 2, 1) := by decide +kernel
theorem dX1_isOnItsLast_36 : decode cX1_isOnItsLast 36 = .ok (.ifCond .eq 29, 3) := by decide +kernel
theorem dX1_isOnItsLast_39 : decode cX1_isOnItsLast 39 = .ok (.bipush 8, 2) := by decide +kernel
theorem dX1_isOnItsLast_41 : decode cX1_isOnItsLast 41 = .ok (.iload_n 1, 1) := by decide +kernel
theorem dX1_isOnItsLast_42 : decode cX1_isOnItsLast 42 = .ok (.aload_n 0, 1) := by decide +kernel
theorem dX1_isOnItsLast_43 : decode cX1_isOnItsLast 43 = .ok (.getfield 35, 3) := by decide +kernel
theorem dX1_isOnItsLast_46 : decode cX1_isOnItsLast 46 = .ok (.isub, 1) := by decide +kernel
theorem dX1_isOnItsLast_47 : decode cX1_isOnItsLast 47 = .ok (.imul, 1) := by decide +kernel
theorem dX1_isOnItsLast_48 : decode cX1_isOnItsLast 48 = .ok (.bipush 6, 2) := by decide +kernel
theorem dX1_isOnItsLast_50 : decode cX1_isOnItsLast 50 = .ok (.idiv, 1) := by decide +kernel
theorem dX1_isOnItsLast_51 : decode cX1_isOnItsLast 51 = .ok (.aload_n 0, 1) := by decide +kernel
theorem dX1_isOnItsLast_52 : decode cX1_isOnItsLast 52 = .ok (.getfield 32, 3) := by decide +kernel
theorem dX1_isOnItsLast_55 : decode cX1_isOnItsLast 55 = .ok (.invokestatic 85, 3) := by decide +kernel
theorem dX1_isOnItsLast_58 : decode cX1_isOnItsLast 58 = .ok (.if_icmp .gt 7, 3) := by decide +kernel
theorem dX1_isOnItsLast_61 : decode cX1_isOnItsLast 61 = .ok (.iconst 1, 1) := by decide +kernel
theorem dX1_isOnItsLast_62 : decode cX1_isOnItsLast 62 = .ok (.goto 4, 3) := by decide +kernel
theorem dX1_isOnItsLast_65 : decode cX1_isOnItsLast 65 = .ok (.iconst 0, 1) := by decide +kernel
theorem dX1_isOnItsLast_66 : decode cX1_isOnItsLast 66 = .ok (.ireturn, 1) := by decide +kernel
theorem dX1_turnsByBitsAt_0 : decode cX1_turnsByBitsAt 0 = .ok (.iload_n 1, 1) := by decide +kernel
theorem dX1_turnsByBitsAt_1 : decode cX1_turnsByBitsAt 1 = .ok (.bipush 10, 2) := by decide +kernel
theorem dX1_turnsByBitsAt_3 : decode cX1_turnsByBitsAt 3 = .ok (.idiv, 1) := by decide +kernel
theorem dX1_turnsByBitsAt_4 : decode cX1_turnsByBitsAt 4 = .ok (.iconst 1, 1) := by decide +kernel
theorem dX1_turnsByBitsAt_5 : decode cX1_turnsByBitsAt 5 = .ok (.isub, 1) := by decide +kernel
theorem dX1_turnsByBitsAt_6 : decode cX1_turnsByBitsAt 6 = .ok (.istore_n 2, 1) := by decide +kernel
theorem dX1_turnsByBitsAt_7 : decode cX1_turnsByBitsAt 7 = .ok (.iload_n 1, 1) := by decide +kernel
theorem dX1_turnsByBitsAt_8 : decode cX1_turnsByBitsAt 8 = .ok (.bipush 10, 2) := by decide +kernel
theorem dX1_turnsByBitsAt_10 : decode cX1_turnsByBitsAt 10 = .ok (.irem, 1) := by decide +kernel
theorem dX1_turnsByBitsAt_11 : decode cX1_turnsByBitsAt 11 = .ok (.ifCond .ne 32, 3) := by decide +kernel
theorem dX1_turnsByBitsAt_14 : decode cX1_turnsByBitsAt 14 = .ok (.iload_n 2, 1) := by decide +kernel
theorem dX1_turnsByBitsAt_15 : decode cX1_turnsByBitsAt 15 = .ok (.ifCond .lt 28, 3) := by decide +kernel
theorem dX1_turnsByBitsAt_18 : decode cX1_turnsByBitsAt 18 = .ok (.iload_n 2, 1) := by decide +kernel
theorem dX1_turnsByBitsAt_19 : decode cX1_turnsByBitsAt 19 = .ok (.bipush 8, 2) := by decide +kernel
theorem dX1_turnsByBitsAt_21 : decode cX1_turnsByBitsAt 21 = .ok (.if_icmp .ge 22, 3) := by decide +kernel
theorem dX1_turnsByBitsAt_24 : decode cX1_turnsByBitsAt 24 = .ok (.aload_n 0, 1) := by decide +kernel
theorem dX1_turnsByBitsAt_25 : decode cX1_turnsByBitsAt 25 = .ok (.getfield 12, 3) := by decide +kernel
theorem dX1_turnsByBitsAt_28 : decode cX1_turnsByBitsAt 28 = .ok (.getfield 50, 3) := by decide +kernel
theorem dX1_turnsByBitsAt_31 : decode cX1_turnsByBitsAt 31 = .ok (.iload_n 2, 1) := by decide +kernel
theorem dX1_turnsByBitsAt_32 : decode cX1_turnsByBitsAt 32 = .ok (.ishr, 1) := by decide +kernel
theorem dX1_turnsByBitsAt_33 : decode cX1_turnsByBitsAt 33 = .ok (.iconst 1, 1) := by decide +kernel
theorem dX1_turnsByBitsAt_34 : decode cX1_turnsByBitsAt 34 = .ok (.iand, 1) := by decide +kernel
theorem dX1_turnsByBitsAt_35 : decode cX1_turnsByBitsAt 35 = .ok (.iconst 1, 1) := by decide +kernel
theorem dX1_turnsByBitsAt_36 : decode cX1_turnsByBitsAt 36 = .ok (.if_icmp .ne 7, 3) := by decide +kernel
theorem dX1_turnsByBitsAt_39 : decode cX1_turnsByBitsAt 39 = .ok (.iconst 1, 1) := by decide +kernel
theorem dX1_turnsByBitsAt_40 : decode cX1_turnsByBitsAt 40 = .ok (.goto 4, 3) := by decide +kernel
theorem dX1_turnsByBitsAt_43 : decode cX1_turnsByBitsAt 43 = .ok (.iconst 0, 1) := by decide +kernel
theorem dX1_turnsByBitsAt_44 : decode cX1_turnsByBitsAt 44 = .ok (.ireturn, 1) := by decide +kernel
theorem dX1_fouls_0 : decode cX1_fouls 0 = .ok (.aload_n 0, 1) := by decide +kernel
theorem dX1_fouls_1 : decode cX1_fouls 1 = .ok (.getfield 35, 3) := by decide +kernel
theorem dX1_fouls_4 : decode cX1_fouls 4 = .ok (.aload_n 1, 1) := by decide +kernel
theorem dX1_fouls_5 : decode cX1_fouls 5 = .ok (.getfield 35, 3) := by decide +kernel
theorem dX1_fouls_8 : decode cX1_fouls 8 = .ok (.isub, 1) := by decide +kernel
theorem dX1_fouls_9 : decode cX1_fouls 9 = .ok (.istore_n 2, 1) := by decide +kernel
theorem dX1_fouls_10 : decode cX1_fouls 10 = .ok (.aload_n 0, 1) := by decide +kernel
theorem dX1_fouls_11 : decode cX1_fouls 11 = .ok (.getfield 18, 3) := by decide +kernel
theorem dX1_fouls_14 : decode cX1_fouls 14 = .ok (.bipush (-4), 2) := by decide +kernel
theorem dX1_fouls_16 : decode cX1_fouls 16 = .ok (.if_icmp .ne 44, 3) := by decide +kernel
theorem dX1_fouls_19 : decode cX1_fouls 19 = .ok (.aload_n 1, 1) := by decide +kernel
theorem dX1_fouls_20 : decode cX1_fouls 20 = .ok (.getfield 18, 3) := by decide +kernel
theorem dX1_fouls_23 : decode cX1_fouls 23 = .ok (.bipush (-4), 2) := by decide +kernel
theorem dX1_fouls_25 : decode cX1_fouls 25 = .ok (.if_icmp .ne 35, 3) := by decide +kernel
theorem dX1_fouls_28 : decode cX1_fouls 28 = .ok (.iload_n 2, 1) := by decide +kernel
theorem dX1_fouls_29 : decode cX1_fouls 29 = .ok (.iconst 1, 1) := by decide +kernel
theorem dX1_fouls_30 : decode cX1_fouls 30 = .ok (.if_icmp .lt 30, 3) := by decide +kernel
theorem dX1_fouls_33 : decode cX1_fouls 33 = .ok (.iload_n 2, 1) := by decide +kernel
theorem dX1_fouls_34 : decode cX1_fouls 34 = .ok (.bipush 20, 2) := by decide +kernel
theorem dX1_fouls_36 : decode cX1_fouls 36 = .ok (.if_icmp .gt 24, 3) := by decide +kernel
theorem dX1_fouls_39 : decode cX1_fouls 39 = .ok (.aload_n 0, 1) := by decide +kernel
theorem dX1_fouls_40 : decode cX1_fouls 40 = .ok (.getfield 32, 3) := by decide +kernel
theorem dX1_fouls_43 : decode cX1_fouls 43 = .ok (.aload_n 1, 1) := by decide +kernel
theorem dX1_fouls_44 : decode cX1_fouls 44 = .ok (.getfield 32, 3) := by decide +kernel
theorem dX1_fouls_47 : decode cX1_fouls 47 = .ok (.isub, 1) := by decide +kernel
theorem dX1_fouls_48 : decode cX1_fouls 48 = .ok (.invokestatic 85, 3) := by decide +kernel
theorem dX1_fouls_51 : decode cX1_fouls 51 = .ok (.bipush 6, 2) := by decide +kernel
theorem dX1_fouls_53 : decode cX1_fouls 53 = .ok (.if_icmp .gt 7, 3) := by decide +kernel
theorem dX1_fouls_56 : decode cX1_fouls 56 = .ok (.iconst 1, 1) := by decide +kernel
theorem dX1_fouls_57 : decode cX1_fouls 57 = .ok (.goto 4, 3) := by decide +kernel
theorem dX1_fouls_60 : decode cX1_fouls 60 = .ok (.iconst 0, 1) := by decide +kernel
theorem dX1_fouls_61 : decode cX1_fouls 61 = .ok (.ireturn, 1) := by decide +kernel
theorem dX1_gain_0 : decode cX1_gain 0 = .ok (.aload_n 0, 1) := by decide +kernel
theorem dX1_gain_1 : decode cX1_gain 1 = .ok (.aload_n 0, 1) := by decide +kernel
theorem dX1_gain_2 : decode cX1_gain 2 = .ok (.getfield 35, 3) := by decide +kernel
theorem dX1_gain_5 : decode cX1_gain 5 = .ok (.iload_n 2, 1) := by decide +kernel
theorem dX1_gain_6 : decode cX1_gain 6 = .ok (.aload_n 0, 1) := by decide +kernel
theorem dX1_gain_7 : decode cX1_gain 7 = .ok (.getfield 35, 3) := by decide +kernel
theorem dX1_gain_10 : decode cX1_gain 10 = .ok (.iload_n 1, 1) := by decide +kernel
theorem dX1_gain_11 : decode cX1_gain 11 = .ok (.iadd, 1) := by decide +kernel
theorem dX1_gain_12 : decode cX1_gain 12 = .ok (.invokestatic 75, 3) := by decide +kernel
theorem dX1_gain_15 : decode cX1_gain 15 = .ok (.invokestatic 69, 3) := by decide +kernel
theorem dX1_gain_18 : decode cX1_gain 18 = .ok (.putfield 35, 3) := by decide +kernel
theorem dX1_gain_21 : decode cX1_gain 21 = .ok (.return_, 1) := by decide +kernel
theorem dX1_height_0 : decode cX1_height 0 = .ok (.aload_n 0, 1) := by decide +kernel
theorem dX1_height_1 : decode cX1_height 1 = .ok (.getfield 35, 3) := by decide +kernel
theorem dX1_height_4 : decode cX1_height 4 = .ok (.aload_n 0, 1) := by decide +kernel
theorem dX1_height_5 : decode cX1_height 5 = .ok (.getfield 32, 3) := by decide +kernel
theorem dX1_height_8 : decode cX1_height 8 = .ok (.invokestatic 85, 3) := by decide +kernel
theorem dX1_height_11 : decode cX1_height 11 = .ok (.iconst 2, 1) := by decide +kernel
theorem dX1_height_12 : decode cX1_height 12 = .ok (.idiv, 1) := by decide +kernel
theorem dX1_height_13 : decode cX1_height 13 = .ok (.isub, 1) := by decide +kernel
theorem dX1_height_14 : decode cX1_height 14 = .ok (.ireturn, 1) := by decide +kernel
theorem dX1_isAheadOf_0 : decode cX1_isAheadOf 0 = .ok (.aload_n 0, 1) := by decide +kernel
theorem dX1_isAheadOf_1 : decode cX1_isAheadOf 1 = .ok (.getfield 18, 3) := by decide +kernel
theorem dX1_isAheadOf_4 : decode cX1_isAheadOf 4 = .ok (.aload_n 1, 1) := by decide +kernel
theorem dX1_isAheadOf_5 : decode cX1_isAheadOf 5 = .ok (.getfield 18, 3) := by decide +kernel
theorem dX1_isAheadOf_8 : decode cX1_isAheadOf 8 = .ok (.if_icmp .eq 34, 3) := by decide +kernel
theorem dX1_isAheadOf_11 : decode cX1_isAheadOf 11 = .ok (.aload_n 0, 1) := by decide +kernel
theorem dX1_isAheadOf_12 : decode cX1_isAheadOf 12 = .ok (.invokevirtual 60, 3) := by decide +kernel
theorem dX1_isAheadOf_15 : decode cX1_isAheadOf 15 = .ok (.ifCond .eq 25, 3) := by decide +kernel
theorem dX1_isAheadOf_18 : decode cX1_isAheadOf 18 = .ok (.aload_n 1, 1) := by decide +kernel
theorem dX1_isAheadOf_19 : decode cX1_isAheadOf 19 = .ok (.invokevirtual 60, 3) := by decide +kernel
theorem dX1_isAheadOf_22 : decode cX1_isAheadOf 22 = .ok (.ifCond .eq 14, 3) := by decide +kernel
theorem dX1_isAheadOf_25 : decode cX1_isAheadOf 25 = .ok (.aload_n 0, 1) := by decide +kernel
theorem dX1_isAheadOf_26 : decode cX1_isAheadOf 26 = .ok (.getfield 18, 3) := by decide +kernel
theorem dX1_isAheadOf_29 : decode cX1_isAheadOf 29 = .ok (.aload_n 1, 1) := by decide +kernel
theorem dX1_isAheadOf_30 : decode cX1_isAheadOf 30 = .ok (.getfield 18, 3) := by decide +kernel
theorem dX1_isAheadOf_33 : decode cX1_isAheadOf 33 = .ok (.if_icmp .ge 7, 3) := by decide +kernel
theorem dX1_isAheadOf_36 : decode cX1_isAheadOf 36 = .ok (.iconst 1, 1) := by decide +kernel
theorem dX1_isAheadOf_37 : decode cX1_isAheadOf 37 = .ok (.goto 4, 3) := by decide +kernel
theorem dX1_isAheadOf_40 : decode cX1_isAheadOf 40 = .ok (.iconst 0, 1) := by decide +kernel
theorem dX1_isAheadOf_41 : decode cX1_isAheadOf 41 = .ok (.ireturn, 1) := by decide +kernel
theorem dX1_isAheadOf_42 : decode cX1_isAheadOf 42 = .ok (.aload_n 0, 1) := by decide +kernel
theorem dX1_isAheadOf_43 : decode cX1_isAheadOf 43 = .ok (.invokevirtual 88, 3) := by decide +kernel
theorem dX1_isAheadOf_46 : decode cX1_isAheadOf 46 = .ok (.aload_n 1, 1) := by decide +kernel
theorem dX1_isAheadOf_47 : decode cX1_isAheadOf 47 = .ok (.invokevirtual 88, 3) := by decide +kernel
theorem dX1_isAheadOf_50 : decode cX1_isAheadOf 50 = .ok (.if_icmp .eq 20, 3) := by decide +kernel
theorem dX1_isAheadOf_53 : decode cX1_isAheadOf 53 = .ok (.aload_n 0, 1) := by decide +kernel
theorem dX1_isAheadOf_54 : decode cX1_isAheadOf 54 = .ok (.invokevirtual 88, 3) := by decide +kernel
theorem dX1_isAheadOf_57 : decode cX1_isAheadOf 57 = .ok (.aload_n 1, 1) := by decide +kernel
theorem dX1_isAheadOf_58 : decode cX1_isAheadOf 58 = .ok (.invokevirtual 88, 3) := by decide +kernel
theorem dX1_isAheadOf_61 : decode cX1_isAheadOf 61 = .ok (.if_icmp .le 7, 3) := by decide +kernel
theorem dX1_isAheadOf_64 : decode cX1_isAheadOf 64 = .ok (.iconst 1, 1) := by decide +kernel
theorem dX1_isAheadOf_65 : decode cX1_isAheadOf 65 = .ok (.goto 4, 3) := by decide +kernel
theorem dX1_isAheadOf_68 : decode cX1_isAheadOf 68 = .ok (.iconst 0, 1) := by decide +kernel
theorem dX1_isAheadOf_69 : decode cX1_isAheadOf 69 = .ok (.ireturn, 1) := by decide +kernel
theorem dX1_isAheadOf_70 : decode cX1_isAheadOf 70 = .ok (.aload_n 0, 1) := by decide +kernel
theorem dX1_isAheadOf_71 : decode cX1_isAheadOf 71 = .ok (.getfield 12, 3) := by decide +kernel
theorem dX1_isAheadOf_74 : decode cX1_isAheadOf 74 = .ok (.getfield 53, 3) := by decide +kernel
theorem dX1_isAheadOf_77 : decode cX1_isAheadOf 77 = .ok (.aload_n 1, 1) := by decide +kernel
theorem dX1_isAheadOf_78 : decode cX1_isAheadOf 78 = .ok (.getfield 12, 3) := by decide +kernel
theorem dX1_isAheadOf_81 : decode cX1_isAheadOf 81 = .ok (.getfield 53, 3) := by decide +kernel
theorem dX1_isAheadOf_84 : decode cX1_isAheadOf 84 = .ok (.if_icmp .ge 7, 3) := by decide +kernel
theorem dX1_isAheadOf_87 : decode cX1_isAheadOf 87 = .ok (.iconst 1, 1) := by decide +kernel
theorem dX1_isAheadOf_88 : decode cX1_isAheadOf 88 = .ok (.goto 4, 3) := by decide +kernel
theorem dX1_isAheadOf_91 : decode cX1_isAheadOf 91 = .ok (.iconst 0, 1) := by decide +kernel
theorem dX1_isAheadOf_92 : decode cX1_isAheadOf 92 = .ok (.ireturn, 1) := by decide +kernel
theorem dX2_init_0 : decode cX2_init 0 = .ok (.aload_n 0, 1) := by decide +kernel
theorem dX2_init_1 : decode cX2_init 1 = .ok (.invokespecial 3, 3) := by decide +kernel
theorem dX2_init_4 : decode cX2_init 4 = .ok (.aload_n 0, 1) := by decide +kernel
theorem dX2_init_5 : decode cX2_init 5 = .ok (.bipush 100, 2) := by decide +kernel
theorem dX2_init_7 : decode cX2_init 7 = .ok (.newarray .int, 2) := by decide +kernel
theorem dX2_init_9 : decode cX2_init 9 = .ok (.putfield 9, 3) := by decide +kernel
theorem dX2_init_12 : decode cX2_init 12 = .ok (.aload_n 0, 1) := by decide +kernel
theorem dX2_init_13 : decode cX2_init 13 = .ok (.bipush 100, 2) := by decide +kernel
theorem dX2_init_15 : decode cX2_init 15 = .ok (.newarray .int, 2) := by decide +kernel
theorem dX2_init_17 : decode cX2_init 17 = .ok (.putfield 15, 3) := by decide +kernel
theorem dX2_init_20 : decode cX2_init 20 = .ok (.aload_n 0, 1) := by decide +kernel
theorem dX2_init_21 : decode cX2_init 21 = .ok (.bipush 100, 2) := by decide +kernel
theorem dX2_init_23 : decode cX2_init 23 = .ok (.newarray .int, 2) := by decide +kernel
theorem dX2_init_25 : decode cX2_init 25 = .ok (.putfield 18, 3) := by decide +kernel
theorem dX2_init_28 : decode cX2_init 28 = .ok (.return_, 1) := by decide +kernel
theorem dX2_faultIn_0 : decode cX2_faultIn 0 = .ok (.iconst 0, 1) := by decide +kernel
theorem dX2_faultIn_1 : decode cX2_faultIn 1 = .ok (.istore_n 2, 1) := by decide +kernel
theorem dX2_faultIn_2 : decode cX2_faultIn 2 = .ok (.iconst 0, 1) := by decide +kernel
theorem dX2_faultIn_3 : decode cX2_faultIn 3 = .ok (.istore_n 3, 1) := by decide +kernel
theorem dX2_faultIn_4 : decode cX2_faultIn 4 = .ok (.iconst 1, 1) := by decide +kernel
theorem dX2_faultIn_5 : decode cX2_faultIn 5 = .ok (.istore 4, 2) := by decide +kernel
theorem dX2_faultIn_7 : decode cX2_faultIn 7 = .ok (.iconst 0, 1) := by decide +kernel
theorem dX2_faultIn_8 : decode cX2_faultIn 8 = .ok (.istore 5, 2) := by decide +kernel
theorem dX2_faultIn_10 : decode cX2_faultIn 10 = .ok (.iload 5, 2) := by decide +kernel
theorem dX2_faultIn_12 : decode cX2_faultIn 12 = .ok (.iload_n 1, 1) := by decide +kernel
theorem dX2_faultIn_13 : decode cX2_faultIn 13 = .ok (.if_icmp .ge 177, 3) := by decide +kernel
theorem dX2_faultIn_16 : decode cX2_faultIn 16 = .ok (.iload 5, 2) := by decide +kernel
theorem dX2_faultIn_18 : decode cX2_faultIn 18 = .ok (.aload_n 0, 1) := by decide +kernel
theorem dX2_faultIn_19 : decode cX2_faultIn 19 = .ok (.arraylength, 1) := by decide +kernel
theorem dX2_faultIn_20 : decode cX2_faultIn 20 = .ok (.if_icmp .ge 170, 3) := by decide +kernel
theorem dX2_faultIn_23 : decode cX2_faultIn 23 = .ok (.aload_n 0, 1) := by decide +kernel
theorem dX2_faultIn_24 : decode cX2_faultIn 24 = .ok (.iload 5, 2) := by decide +kernel
theorem dX2_faultIn_26 : decode cX2_faultIn 26 = .ok (.iaload, 1) := by decide +kernel
theorem dX2_faultIn_27 : decode cX2_faultIn 27 = .ok (.istore 6, 2) := by decide +kernel
theorem dX2_faultIn_29 : decode cX2_faultIn 29 = .ok (.iload 4, 2) := by decide +kernel
theorem dX2_faultIn_31 : decode cX2_faultIn 31 = .ok (.ifCond .eq 22, 3) := by decide +kernel
theorem dX2_faultIn_34 : decode cX2_faultIn 34 = .ok (.iload 6, 2) := by decide +kernel
theorem dX2_faultIn_36 : decode cX2_faultIn 36 = .ok (.bipush 40, 2) := by decide +kernel
theorem dX2_faultIn_38 : decode cX2_faultIn 38 = .ok (.if_icmp .ne 15, 3) := by decide +kernel
theorem dX2_faultIn_41 : decode cX2_faultIn 41 = .ok (.iload_n 2, 1) := by decide +kernel
theorem dX2_faultIn_42 : decode cX2_faultIn 42 = .ok (.bipush 6, 2) := by decide +kernel
theorem dX2_faultIn_44 : decode cX2_faultIn 44 = .ok (.if_icmp .ge 9, 3) := by decide +kernel
theorem dX2_faultIn_47 : decode cX2_faultIn 47 = .ok (.iinc 2 1, 3) := by decide +kernel
theorem dX2_faultIn_50 : decode cX2_faultIn 50 = .ok (.goto 134, 3) := by decide +kernel
theorem dX2_faultIn_53 : decode cX2_faultIn 53 = .ok (.iload 4, 2) := by decide +kernel
theorem dX2_faultIn_55 : decode cX2_faultIn 55 = .ok (.ifCond .eq 52, 3) := by decide +kernel
theorem dX2_faultIn_58 : decode cX2_faultIn 58 = .ok (.iload 6, 2) := by decide +kernel
theorem dX2_faultIn_60 : decode cX2_faultIn 60 = .ok (.invokestatic 21, 3) := by decide +kernel
theorem dX2_faultIn_63 : decode cX2_faultIn 63 = .ok (.ifCond .ne 17, 3) := by decide +kernel
theorem dX2_faultIn_66 : decode cX2_faultIn 66 = .ok (.iload 6, 2) := by decide +kernel
theorem dX2_faultIn_68 : decode cX2_faultIn 68 = .ok (.bipush 116, 2) := by decide +kernel
theorem dX2_faultIn_70 : decode cX2_faultIn 70 = .ok (.if_icmp .eq 10, 3) := by decide +kernel
theorem dX2_faultIn_73 : decode cX2_faultIn 73 = .ok (.iload 6, 2) := by decide +kernel
theorem dX2_faultIn_75 : decode cX2_faultIn 75 = .ok (.bipush 115, 2) := by decide +kernel
theorem dX2_faultIn_77 : decode cX2_faultIn 77 = .ok (.if_icmp .ne 30, 3) := by decide +kernel
theorem dX2_faultIn_80 : decode cX2_faultIn 80 = .ok (.iconst 0, 1) := by decide +kernel
theorem dX2_faultIn_81 : decode cX2_faultIn 81 = .ok (.istore 4, 2) := by decide +kernel
theorem dX2_faultIn_83 : decode cX2_faultIn 83 = .ok (.iload 6, 2) := by decide +kernel
theorem dX2_faultIn_85 : decode cX2_faultIn 85 = .ok (.invokestatic 21, 3) := by decide +kernel
theorem dX2_faultIn_88 : decode cX2_faultIn 88 = .ok (.ifCond .eq 14, 3) := by decide +kernel
theorem dX2_faultIn_91 : decode cX2_faultIn 91 = .ok (.iload 6, 2) := by decide +kernel
theorem dX2_faultIn_93 : decode cX2_faultIn 93 = .ok (.bipush 48, 2) := by decide +kernel
theorem dX2_faultIn_95 : decode cX2_faultIn 95 = .ok (.if_icmp .eq 7, 3) := by decide +kernel
theorem dX2_faultIn_98 : decode cX2_faultIn 98 = .ok (.iconst 2, 1) := by decide +kernel
theorem dX2_faultIn_99 : decode cX2_faultIn 99 = .ok (.goto 4, 3) := by decide +kernel
theorem dX2_faultIn_102 : decode cX2_faultIn 102 = .ok (.iconst 0, 1) := by decide +kernel
theorem dX2_faultIn_103 : decode cX2_faultIn 103 = .ok (.istore_n 3, 1) := by decide +kernel
theorem dX2_faultIn_104 : decode cX2_faultIn 104 = .ok (.goto 80, 3) := by decide +kernel
theorem dX2_faultIn_107 : decode cX2_faultIn 107 = .ok (.iload 4, 2) := by decide +kernel
theorem dX2_faultIn_109 : decode cX2_faultIn 109 = .ok (.ifCond .ne 21, 3) := by decide +kernel
theorem dX2_faultIn_112 : decode cX2_faultIn 112 = .ok (.iload 6, 2) := by decide +kernel
theorem dX2_faultIn_114 : decode cX2_faultIn 114 = .ok (.invokestatic 21, 3) := by decide +kernel
theorem dX2_faultIn_117 : decode cX2_faultIn 117 = .ok (.ifCond .eq 13, 3) := by decide +kernel
theorem dX2_faultIn_120 : decode cX2_faultIn 120 = .ok (.iload_n 3, 1) := by decide +kernel
theorem dX2_faultIn_121 : decode cX2_faultIn 121 = .ok (.ifCond .le 9, 3) := by decide +kernel
theorem dX2_faultIn_124 : decode cX2_faultIn 124 = .ok (.iinc 3 (-1), 3) := by decide +kernel
theorem dX2_faultIn_127 : decode cX2_faultIn 127 = .ok (.goto 57, 3) := by decide +kernel
theorem dX2_faultIn_130 : decode cX2_faultIn 130 = .ok (.iload 4, 2) := by decide +kernel
theorem dX2_faultIn_132 : decode cX2_faultIn 132 = .ok (.ifCond .ne 25, 3) := by decide +kernel
theorem dX2_faultIn_135 : decode cX2_faultIn 135 = .ok (.iload 6, 2) := by decide +kernel
theorem dX2_faultIn_137 : decode cX2_faultIn 137 = .ok (.invokestatic 25, 3) := by decide +kernel
theorem dX2_faultIn_140 : decode cX2_faultIn 140 = .ok (.ifCond .ne 11, 3) := by decide +kernel
theorem dX2_faultIn_143 : decode cX2_faultIn 143 = .ok (.iload 6, 2) := by decide +kernel
theorem dX2_faultIn_145 : decode cX2_faultIn 145 = .ok (.invokestatic 28, 3) := by decide +kernel
theorem dX2_faultIn_148 : decode cX2_faultIn 148 = .ok (.ifCond .eq 9, 3) := by decide +kernel
theorem dX2_faultIn_151 : decode cX2_faultIn 151 = .ok (.iconst 1, 1) := by decide +kernel
theorem dX2_faultIn_152 : decode cX2_faultIn 152 = .ok (.istore 4, 2) := by decide +kernel
theorem dX2_faultIn_154 : decode cX2_faultIn 154 = .ok (.goto 30, 3) := by decide +kernel
theorem dX2_faultIn_157 : decode cX2_faultIn 157 = .ok (.iload 4, 2) := by decide +kernel
theorem dX2_faultIn_159 : decode cX2_faultIn 159 = .ok (.ifCond .ne 22, 3) := by decide +kernel
theorem dX2_faultIn_162 : decode cX2_faultIn 162 = .ok (.iload 6, 2) := by decide +kernel
theorem dX2_faultIn_164 : decode cX2_faultIn 164 = .ok (.bipush 41, 2) := by decide +kernel
theorem dX2_faultIn_166 : decode cX2_faultIn 166 = .ok (.if_icmp .ne 15, 3) := by decide +kernel
theorem dX2_faultIn_169 : decode cX2_faultIn 169 = .ok (.iload_n 2, 1) := by decide +kernel
theorem dX2_faultIn_170 : decode cX2_faultIn 170 = .ok (.ifCond .le 11, 3) := by decide +kernel
theorem dX2_faultIn_173 : decode cX2_faultIn 173 = .ok (.iinc 2 (-1), 3) := by decide +kernel
theorem dX2_faultIn_176 : decode cX2_faultIn 176 = .ok (.iconst 0, 1) := by decide +kernel
theorem dX2_faultIn_177 : decode cX2_faultIn 177 = .ok (.istore_n 3, 1) := by decide +kernel
theorem dX2_faultIn_178 : decode cX2_faultIn 178 = .ok (.goto 6, 3) := by decide +kernel
theorem dX2_faultIn_181 : decode cX2_faultIn 181 = .ok (.iload 5, 2) := by decide +kernel
theorem dX2_faultIn_183 : decode cX2_faultIn 183 = .ok (.ireturn, 1) := by decide +kernel
theorem dX2_faultIn_184 : decode cX2_faultIn 184 = .ok (.iinc 5 1, 3) := by decide +kernel
theorem dX2_faultIn_187 : decode cX2_faultIn 187 = .ok (.goto (-177), 3) := by decide +kernel
theorem dX2_faultIn_190 : decode cX2_faultIn 190 = .ok (.iload 4, 2) := by decide +kernel
theorem dX2_faultIn_192 : decode cX2_faultIn 192 = .ok (.ifCond .ne 7, 3) := by decide +kernel
theorem dX2_faultIn_195 : decode cX2_faultIn 195 = .ok (.iload_n 2, 1) := by decide +kernel
theorem dX2_faultIn_196 : decode cX2_faultIn 196 = .ok (.ifCond .le 7, 3) := by decide +kernel
theorem dX2_faultIn_199 : decode cX2_faultIn 199 = .ok (.iload_n 1, 1) := by decide +kernel
theorem dX2_faultIn_200 : decode cX2_faultIn 200 = .ok (.goto 5, 3) := by decide +kernel
theorem dX2_faultIn_203 : decode cX2_faultIn 203 = .ok (.bipush (-4), 2) := by decide +kernel
theorem dX2_faultIn_205 : decode cX2_faultIn 205 = .ok (.ireturn, 1) := by decide +kernel
theorem dX2_isDigit_0 : decode cX2_isDigit 0 = .ok (.iload_n 0, 1) := by decide +kernel
theorem dX2_isDigit_1 : decode cX2_isDigit 1 = .ok (.bipush 48, 2) := by decide +kernel
theorem dX2_isDigit_3 : decode cX2_isDigit 3 = .ok (.if_icmp .lt 13, 3) := by decide +kernel
theorem dX2_isDigit_6 : decode cX2_isDigit 6 = .ok (.iload_n 0, 1) := by decide +kernel
theorem dX2_isDigit_7 : decode cX2_isDigit 7 = .ok (.bipush 57, 2) := by decide +kernel
theorem dX2_isDigit_9 : decode cX2_isDigit 9 = .ok (.if_icmp .gt 7, 3) := by decide +kernel
theorem dX2_isDigit_12 : decode cX2_isDigit 12 = .ok (.iconst 1, 1) := by decide +kernel
theorem dX2_isDigit_13 : decode cX2_isDigit 13 = .ok (.goto 4, 3) := by decide +kernel
theorem dX2_isDigit_16 : decode cX2_isDigit 16 = .ok (.iconst 0, 1) := by decide +kernel
theorem dX2_isDigit_17 : decode cX2_isDigit 17 = .ok (.ireturn, 1) := by decide +kernel
theorem dX2_isSumSign_0 : decode cX2_isSumSign 0 = .ok (.iload_n 0, 1) := by decide +kernel
theorem dX2_isSumSign_1 : decode cX2_isSumSign 1 = .ok (.bipush 43, 2) := by decide +kernel
theorem dX2_isSumSign_3 : decode cX2_isSumSign 3 = .ok (.if_icmp .eq 9, 3) := by decide +kernel
theorem dX2_isSumSign_6 : decode cX2_isSumSign 6 = .ok (.iload_n 0, 1) := by decide +kernel
theorem dX2_isSumSign_7 : decode cX2_isSumSign 7 = .ok (.bipush 45, 2) := by decide +kernel
theorem dX2_isSumSign_9 : decode cX2_isSumSign 9 = .ok (.if_icmp .ne 7, 3) := by decide +kernel
theorem dX2_isSumSign_12 : decode cX2_isSumSign 12 = .ok (.iconst 1, 1) := by decide +kernel
theorem dX2_isSumSign_13 : decode cX2_isSumSign 13 = .ok (.goto 4, 3) := by decide +kernel
theorem dX2_isSumSign_16 : decode cX2_isSumSign 16 = .ok (.iconst 0, 1) := by decide +kernel
theorem dX2_isSumSign_17 : decode cX2_isSumSign 17 = .ok (.ireturn, 1) := by decide +kernel
theorem dX2_isProductSign_0 : decode cX2_isProductSign 0 = .ok (.iload_n 0, 1) := by decide +kernel
theorem dX2_isProductSign_1 : decode cX2_isProductSign 1 = .ok (.bipush 42, 2) := by decide +kernel
theorem dX2_isProductSign_3 : decode cX2_isProductSign 3 = .ok (.if_icmp .eq 15, 3) := by decide +kernel
theorem dX2_isProductSign_6 : decode cX2_isProductSign 6 = .ok (.iload_n 0, 1) := by decide +kernel
theorem dX2_isProductSign_7 : decode cX2_isProductSign 7 = .ok (.bipush 47, 2) := by decide +kernel
theorem dX2_isProductSign_9 : decode cX2_isProductSign 9 = .ok (.if_icmp .eq 9, 3) := by decide +kernel
theorem dX2_isProductSign_12 : decode cX2_isProductSign 12 = .ok (.iload_n 0, 1) := by decide +kernel
theorem dX2_isProductSign_13 : decode cX2_isProductSign 13 = .ok (.bipush 37, 2) := by decide +kernel
theorem dX2_isProductSign_15 : decode cX2_isProductSign 15 = .ok (.if_icmp .ne 7, 3) := by decide +kernel
theorem dX2_isProductSign_18 : decode cX2_isProductSign 18 = .ok (.iconst 1, 1) := by decide +kernel
theorem dX2_isProductSign_19 : decode cX2_isProductSign 19 = .ok (.goto 4, 3) := by decide +kernel
theorem dX2_isProductSign_22 : decode cX2_isProductSign 22 = .ok (.iconst 0, 1) := by decide +kernel
theorem dX2_isProductSign_23 : decode cX2_isProductSign 23 = .ok (.ireturn, 1) := by decide +kernel
theorem dX2_take_0 : decode cX2_take 0 = .ok (.aload_n 0, 1) := by decide +kernel
theorem dX2_take_1 : decode cX2_take 1 = .ok (.iconst 0, 1) := by decide +kernel
theorem dX2_take_2 : decode cX2_take 2 = .ok (.aload_n 1, 1) := by decide +kernel
theorem dX2_take_3 : decode cX2_take 3 = .ok (.getfield 31, 3) := by decide +kernel
theorem dX2_take_6 : decode cX2_take 6 = .ok (.aload_n 0, 1) := by decide +kernel
theorem dX2_take_7 : decode cX2_take 7 = .ok (.getfield 9, 3) := by decide +kernel
theorem dX2_take_10 : decode cX2_take 10 = .ok (.arraylength, 1) := by decide +kernel
theorem dX2_take_11 : decode cX2_take 11 = .ok (.invokestatic 35, 3) := by decide +kernel
theorem dX2_take_14 : decode cX2_take 14 = .ok (.invokestatic 41, 3) := by decide +kernel
theorem dX2_take_17 : decode cX2_take 17 = .ok (.putfield 31, 3) := by decide +kernel
theorem dX2_take_20 : decode cX2_take 20 = .ok (.aload_n 1, 1) := by decide +kernel
theorem dX2_take_21 : decode cX2_take 21 = .ok (.getfield 9, 3) := by decide +kernel
theorem dX2_take_24 : decode cX2_take 24 = .ok (.iconst 0, 1) := by decide +kernel
theorem dX2_take_25 : decode cX2_take 25 = .ok (.aload_n 0, 1) := by decide +kernel
theorem dX2_take_26 : decode cX2_take 26 = .ok (.getfield 9, 3) := by decide +kernel
theorem dX2_take_29 : decode cX2_take 29 = .ok (.iconst 0, 1) := by decide +kernel
theorem dX2_take_30 : decode cX2_take 30 = .ok (.aload_n 0, 1) := by decide +kernel
theorem dX2_take_31 : decode cX2_take 31 = .ok (.getfield 31, 3) := by decide +kernel
theorem dX2_take_34 : decode cX2_take 34 = .ok (.invokestatic 44, 3) := by decide +kernel
theorem dX2_take_37 : decode cX2_take 37 = .ok (.return_, 1) := by decide +kernel
theorem dX2_tell_0 : decode cX2_tell 0 = .ok (.aload_n 0, 1) := by decide +kernel
theorem dX2_tell_1 : decode cX2_tell 1 = .ok (.iconst 0, 1) := by decide +kernel
theorem dX2_tell_2 : decode cX2_tell 2 = .ok (.putfield 31, 3) := by decide +kernel
theorem dX2_tell_5 : decode cX2_tell 5 = .ok (.aload_n 0, 1) := by decide +kernel
theorem dX2_tell_6 : decode cX2_tell 6 = .ok (.iconst 0, 1) := by decide +kernel
theorem dX2_tell_7 : decode cX2_tell 7 = .ok (.putfield 50, 3) := by decide +kernel
theorem dX2_tell_10 : decode cX2_tell 10 = .ok (.iconst 0, 1) := by decide +kernel
theorem dX2_tell_11 : decode cX2_tell 11 = .ok (.istore_n 3, 1) := by decide +kernel
theorem dX2_tell_12 : decode cX2_tell 12 = .ok (.iconst 0, 1) := by decide +kernel
theorem dX2_tell_13 : decode cX2_tell 13 = .ok (.istore 4, 2) := by decide +kernel
theorem dX2_tell_15 : decode cX2_tell 15 = .ok (.iload 4, 2) := by decide +kernel
theorem dX2_tell_17 : decode cX2_tell 17 = .ok (.iload_n 2, 1) := by decide +kernel
theorem dX2_tell_18 : decode cX2_tell 18 = .ok (.if_icmp .ge 120, 3) := by decide +kernel
theorem dX2_tell_21 : decode cX2_tell 21 = .ok (.iload 4, 2) := by decide +kernel
theorem dX2_tell_23 : decode cX2_tell 23 = .ok (.aload_n 1, 1) := by decide +kernel
theorem dX2_tell_24 : decode cX2_tell 24 = .ok (.arraylength, 1) := by decide +kernel
theorem dX2_tell_25 : decode cX2_tell 25 = .ok (.if_icmp .ge 113, 3) := by decide +kernel
theorem dX2_tell_28 : decode cX2_tell 28 = .ok (.aload_n 1, 1) := by decide +kernel
theorem dX2_tell_29 : decode cX2_tell 29 = .ok (.iload 4, 2) := by decide +kernel
theorem dX2_tell_31 : decode cX2_tell 31 = .ok (.iaload, 1) := by decide +kernel
theorem dX2_tell_32 : decode cX2_tell 32 = .ok (.istore 5, 2) := by decide +kernel
theorem dX2_tell_34 : decode cX2_tell 34 = .ok (.iload 5, 2) := by decide +kernel
theorem dX2_tell_36 : decode cX2_tell 36 = .ok (.invokestatic 21, 3) := by decide +kernel
theorem dX2_tell_39 : decode cX2_tell 39 = .ok (.ifCond .eq 53, 3) := by decide +kernel
theorem dX2_tell_42 : decode cX2_tell 42 = .ok (.iload_n 3, 1) := by decide +kernel
theorem dX2_tell_43 : decode cX2_tell 43 = .ok (.bipush 10, 2) := by decide +kernel
theorem dX2_tell_45 : decode cX2_tell 45 = .ok (.imul, 1) := by decide +kernel
theorem dX2_tell_46 : decode cX2_tell 46 = .ok (.iload 5, 2) := by decide +kernel
theorem dX2_tell_48 : decode cX2_tell 48 = .ok (.iadd, 1) := by decide +kernel
theorem dX2_tell_49 : decode cX2_tell 49 = .ok (.bipush 48, 2) := by decide +kernel
theorem dX2_tell_51 : decode cX2_tell 51 = .ok (.isub, 1) := by decide +kernel
theorem dX2_tell_52 : decode cX2_tell 52 = .ok (.istore_n 3, 1) := by decide +kernel
theorem dX2_tell_53 : decode cX2_tell 53 = .ok (.iload 4, 2) := by decide +kernel
theorem dX2_tell_55 : decode cX2_tell 55 = .ok (.iconst 1, 1) := by decide +kernel
theorem dX2_tell_56 : decode cX2_tell 56 = .ok (.iadd, 1) := by decide +kernel
theorem dX2_tell_57 : decode cX2_tell 57 = .ok (.iload_n 2, 1) := by decide +kernel
theorem dX2_tell_58 : decode cX2_tell 58 = .ok (.if_icmp .ge 24, 3) := by decide +kernel
theorem dX2_tell_61 : decode cX2_tell 61 = .ok (.iload 4, 2) := by decide +kernel
theorem dX2_tell_63 : decode cX2_tell 63 = .ok (.iconst 1, 1) := by decide +kernel
theorem dX2_tell_64 : decode cX2_tell 64 = .ok (.iadd, 1) := by decide +kernel
theorem dX2_tell_65 : decode cX2_tell 65 = .ok (.aload_n 1, 1) := by decide +kernel
theorem dX2_tell_66 : decode cX2_tell 66 = .ok (.arraylength, 1) := by decide +kernel
theorem dX2_tell_67 : decode cX2_tell 67 = .ok (.if_icmp .ge 15, 3) := by decide +kernel
theorem dX2_tell_70 : decode cX2_tell 70 = .ok (.aload_n 1, 1) := by decide +kernel
theorem dX2_tell_71 : decode cX2_tell 71 = .ok (.iload 4, 2) := by decide +kernel
theorem dX2_tell_73 : decode cX2_tell 73 = .ok (.iconst 1, 1) := by decide +kernel
theorem dX2_tell_74 : decode cX2_tell 74 = .ok (.iadd, 1) := by decide +kernel
theorem dX2_tell_75 : decode cX2_tell 75 = .ok (.iaload, 1) := by decide +kernel
theorem dX2_tell_76 : decode cX2_tell 76 = .ok (.invokestatic 21, 3) := by decide +kernel
theorem dX2_tell_79 : decode cX2_tell 79 = .ok (.ifCond .ne 53, 3) := by decide +kernel
theorem dX2_tell_82 : decode cX2_tell 82 = .ok (.aload_n 0, 1) := by decide +kernel
theorem dX2_tell_83 : decode cX2_tell 83 = .ok (.iload_n 3, 1) := by decide +kernel
theorem dX2_tell_84 : decode cX2_tell 84 = .ok (.invokevirtual 53, 3) := by decide +kernel
theorem dX2_tell_87 : decode cX2_tell 87 = .ok (.iconst 0, 1) := by decide +kernel
theorem dX2_tell_88 : decode cX2_tell 88 = .ok (.istore_n 3, 1) := by decide +kernel
theorem dX2_tell_89 : decode cX2_tell 89 = .ok (.goto 43, 3) := by decide +kernel
theorem dX2_tell_92 : decode cX2_tell 92 = .ok (.iload 5, 2) := by decide +kernel
theorem dX2_tell_94 : decode cX2_tell 94 = .ok (.bipush 116, 2) := by decide +kernel
theorem dX2_tell_96 : decode cX2_tell 96 = .ok (.if_icmp .eq 10, 3) := by decide +kernel
theorem dX2_tell_99 : decode cX2_tell 99 = .ok (.iload 5, 2) := by decide +kernel
theorem dX2_tell_101 : decode cX2_tell 101 = .ok (.bipush 115, 2) := by decide +kernel
theorem dX2_tell_103 : decode cX2_tell 103 = .ok (.if_icmp .ne 23, 3) := by decide +kernel
theorem dX2_tell_106 : decode cX2_tell 106 = .ok (.aload_n 0, 1) := by decide +kernel
theorem dX2_tell_107 : decode cX2_tell 107 = .ok (.iload 5, 2) := by decide +kernel
theorem dX2_tell_109 : decode cX2_tell 109 = .ok (.bipush 116, 2) := by decide +kernel
theorem dX2_tell_111 : decode cX2_tell 111 = .ok (.if_icmp .ne 7, 3) := by decide +kernel
theorem dX2_tell_114 : decode cX2_tell 114 = .ok (.iconst (-1), 1) := by decide +kernel
theorem dX2_tell_115 : decode cX2_tell 115 = .ok (.goto 5, 3) := by decide +kernel
theorem dX2_tell_118 : decode cX2_tell 118 = .ok (.bipush (-2), 2) := by decide +kernel
theorem dX2_tell_120 : decode cX2_tell 120 = .ok (.invokevirtual 53, 3) := by decide +kernel
theorem dX2_tell_123 : decode cX2_tell 123 = .ok (.goto 9, 3) := by decide +kernel
theorem dX2_tell_126 : decode cX2_tell 126 = .ok (.aload_n 0, 1) := by decide +kernel
theorem dX2_tell_127 : decode cX2_tell 127 = .ok (.iload 5, 2) := by decide +kernel
theorem dX2_tell_129 : decode cX2_tell 129 = .ok (.invokevirtual 57, 3) := by decide +kernel
theorem dX2_tell_132 : decode cX2_tell 132 = .ok (.iinc 4 1, 3) := by decide +kernel
theorem dX2_tell_135 : decode cX2_tell 135 = .ok (.goto (-120), 3) := by decide +kernel
theorem dX2_tell_138 : decode cX2_tell 138 = .ok (.aload_n 0, 1) := by decide +kernel
theorem dX2_tell_139 : decode cX2_tell 139 = .ok (.iconst 1, 1) := by decide +kernel
theorem dX2_tell_140 : decode cX2_tell 140 = .ok (.invokevirtual 60, 3) := by decide +kernel
theorem dX2_tell_143 : decode cX2_tell 143 = .ok (.return_, 1) := by decide +kernel
theorem dX2_tellSign_0 : decode cX2_tellSign 0 = .ok (.iload_n 1, 1) := by decide +kernel
theorem dX2_tellSign_1 : decode cX2_tellSign 1 = .ok (.bipush 41, 2) := by decide +kernel
theorem dX2_tellSign_3 : decode cX2_tellSign 3 = .ok (.if_icmp .ne 23, 3) := by decide +kernel
theorem dX2_tellSign_6 : decode cX2_tellSign 6 = .ok (.aload_n 0, 1) := by decide +kernel
theorem dX2_tellSign_7 : decode cX2_tellSign 7 = .ok (.iconst 1, 1) := by decide +kernel
theorem dX2_tellSign_8 : decode cX2_tellSign 8 = .ok (.invokevirtual 60, 3) := by decide +kernel
theorem dX2_tellSign_11 : decode cX2_tellSign 11 = .ok (.aload_n 0, 1) := by decide +kernel
theorem dX2_tellSign_12 : decode cX2_tellSign 12 = .ok (.iconst 0, 1) := by decide +kernel
theorem dX2_tellSign_13 : decode cX2_tellSign 13 = .ok (.aload_n 0, 1) := by decide +kernel
theorem dX2_tellSign_14 : decode cX2_tellSign 14 = .ok (.getfield 50, 3) := by decide +kernel
theorem dX2_tellSign_17 : decode cX2_tellSign 17 = .ok (.iconst 1, 1) := by decide +kernel
theorem dX2_tellSign_18 : decode cX2_tellSign 18 = .ok (.isub, 1) := by decide +kernel
theorem dX2_tellSign_19 : decode cX2_tellSign 19 = .ok (.invokestatic 41, 3) := by decide +kernel
theorem dX2_tellSign_22 : decode cX2_tellSign 22 = .ok (.putfield 50, 3) := by decide +kernel
theorem dX2_tellSign_25 : decode cX2_tellSign 25 = .ok (.return_, 1) := by decide +kernel
theorem dX2_tellSign_26 : decode cX2_tellSign 26 = .ok (.iload_n 1, 1) := by decide +kernel
theorem dX2_tellSign_27 : decode cX2_tellSign 27 = .ok (.bipush 40, 2) := by decide +kernel
theorem dX2_tellSign_29 : decode cX2_tellSign 29 = .ok (.if_icmp .eq 11, 3) := by decide +kernel
theorem dX2_tellSign_32 : decode cX2_tellSign 32 = .ok (.aload_n 0, 1) := by decide +kernel
theorem dX2_tellSign_33 : decode cX2_tellSign 33 = .ok (.iload_n 1, 1) := by decide +kernel
theorem dX2_tellSign_34 : decode cX2_tellSign 34 = .ok (.invokestatic 63, 3) := by decide +kernel
theorem dX2_tellSign_37 : decode cX2_tellSign 37 = .ok (.invokevirtual 60, 3) := by decide +kernel
theorem dX2_tellSign_40 : decode cX2_tellSign 40 = .ok (.aload_n 0, 1) := by decide +kernel
theorem dX2_tellSign_41 : decode cX2_tellSign 41 = .ok (.getfield 50, 3) := by decide +kernel
theorem dX2_tellSign_44 : decode cX2_tellSign 44 = .ok (.ifCond .lt 35, 3) := by decide +kernel
theorem dX2_tellSign_47 : decode cX2_tellSign 47 = .ok (.aload_n 0, 1) := by decide +kernel
theorem dX2_tellSign_48 : decode cX2_tellSign 48 = .ok (.getfield 50, 3) := by decide +kernel
theorem dX2_tellSign_51 : decode cX2_tellSign 51 = .ok (.aload_n 0, 1) := by decide +kernel
theorem dX2_tellSign_52 : decode cX2_tellSign 52 = .ok (.getfield 15, 3) := by decide +kernel
theorem dX2_tellSign_55 : decode cX2_tellSign 55 = .ok (.arraylength, 1) := by decide +kernel
theorem dX2_tellSign_56 : decode cX2_tellSign 56 = .ok (.if_icmp .ge 23, 3) := by decide +kernel
theorem dX2_tellSign_59 : decode cX2_tellSign 59 = .ok (.aload_n 0, 1) := by decide +kernel
theorem dX2_tellSign_60 : decode cX2_tellSign 60 = .ok (.getfield 15, 3) := by decide +kernel
theorem dX2_tellSign_63 : decode cX2_tellSign 63 = .ok (.aload_n 0, 1) := by decide +kernel
theorem dX2_tellSign_64 : decode cX2_tellSign 64 = .ok (.getfield 50, 3) := by decide +kernel
theorem dX2_tellSign_67 : decode cX2_tellSign 67 = .ok (.iload_n 1, 1) := by decide +kernel
theorem dX2_tellSign_68 : decode cX2_tellSign 68 = .ok (.iastore, 1) := by decide +kernel
theorem dX2_tellSign_69 : decode cX2_tellSign 69 = .ok (.aload_n 0, 1) := by decide +kernel
theorem dX2_tellSign_70 : decode cX2_tellSign 70 = .ok (.dup, 1) := by decide +kernel
theorem dX2_tellSign_71 : decode cX2_tellSign 71 = .ok (.getfield 50, 3) := by decide +kernel
theorem dX2_tellSign_74 : decode cX2_tellSign 74 = .ok (.iconst 1, 1) := by decide +kernel
theorem dX2_tellSign_75 : decode cX2_tellSign 75 = .ok (.iadd, 1) := by decide +kernel
theorem dX2_tellSign_76 : decode cX2_tellSign 76 = .ok (.putfield 50, 3) := by decide +kernel
theorem dX2_tellSign_79 : decode cX2_tellSign 79 = .ok (.return_, 1) := by decide +kernel
theorem dX2_addStep_0 : decode cX2_addStep 0 = .ok (.aload_n 0, 1) := by decide +kernel
theorem dX2_addStep_1 : decode cX2_addStep 1 = .ok (.getfield 31, 3) := by decide +kernel
theorem dX2_addStep_4 : decode cX2_addStep 4 = .ok (.ifCond .lt 35, 3) := by decide +kernel
theorem dX2_addStep_7 : decode cX2_addStep 7 = .ok (.aload_n 0, 1) := by decide +kernel
theorem dX2_addStep_8 : decode cX2_addStep 8 = .ok (.getfield 31, 3) := by decide +kernel
theorem dX2_addStep_11 : decode cX2_addStep 11 = .ok (.aload_n 0, 1) := by decide +kernel
theorem dX2_addStep_12 : decode cX2_addStep 12 = .ok (.getfield 9, 3) := by decide +kernel
theorem dX2_addStep_15 : decode cX2_addStep 15 = .ok (.arraylength, 1) := by decide +kernel
theorem dX2_addStep_16 : decode cX2_addStep 16 = .ok (.if_icmp .ge 23, 3) := by decide +kernel
theorem dX2_addStep_19 : decode cX2_addStep 19 = .ok (.aload_n 0, 1) := by decide +kernel
theorem dX2_addStep_20 : decode cX2_addStep 20 = .ok (.getfield 9, 3) := by decide +kernel
theorem dX2_addStep_23 : decode cX2_addStep 23 = .ok (.aload_n 0, 1) := by decide +kernel
theorem dX2_addStep_24 : decode cX2_addStep 24 = .ok (.getfield 31, 3) := by decide +kernel
theorem dX2_addStep_27 : decode cX2_addStep 27 = .ok (.iload_n 1, 1) := by decide +kernel
theorem dX2_addStep_28 : decode cX2_addStep 28 = .ok (.iastore, 1) := by decide +kernel
theorem dX2_addStep_29 : decode cX2_addStep 29 = .ok (.aload_n 0, 1) := by decide +kernel
theorem dX2_addStep_30 : decode cX2_addStep 30 = .ok (.dup, 1) := by decide +kernel
theorem dX2_addStep_31 : decode cX2_addStep 31 = .ok (.getfield 31, 3) := by decide +kernel
theorem dX2_addStep_34 : decode cX2_addStep 34 = .ok (.iconst 1, 1) := by decide +kernel
theorem dX2_addStep_35 : decode cX2_addStep 35 = .ok (.iadd, 1) := by decide +kernel
theorem dX2_addStep_36 : decode cX2_addStep 36 = .ok (.putfield 31, 3) := by decide +kernel
theorem dX2_addStep_39 : decode cX2_addStep 39 = .ok (.return_, 1) := by decide +kernel
theorem dX2_endWaits_0 : decode cX2_endWaits 0 = .ok (.aload_n 0, 1) := by decide +kernel
theorem dX2_endWaits_1 : decode cX2_endWaits 1 = .ok (.getfield 50, 3) := by decide +kernel
theorem dX2_endWaits_4 : decode cX2_endWaits 4 = .ok (.ifCond .le 60, 3) := by decide +kernel
theorem dX2_endWaits_7 : decode cX2_endWaits 7 = .ok (.aload_n 0, 1) := by decide +kernel
theorem dX2_endWaits_8 : decode cX2_endWaits 8 = .ok (.getfield 50, 3) := by decide +kernel
theorem dX2_endWaits_11 : decode cX2_endWaits 11 = .ok (.aload_n 0, 1) := by decide +kernel
theorem dX2_endWaits_12 : decode cX2_endWaits 12 = .ok (.getfield 15, 3) := by decide +kernel
theorem dX2_endWaits_15 : decode cX2_endWaits 15 = .ok (.arraylength, 1) := by decide +kernel
theorem dX2_endWaits_16 : decode cX2_endWaits 16 = .ok (.if_icmp .gt 48, 3) := by decide +kernel
theorem dX2_endWaits_19 : decode cX2_endWaits 19 = .ok (.aload_n 0, 1) := by decide +kernel
theorem dX2_endWaits_20 : decode cX2_endWaits 20 = .ok (.getfield 15, 3) := by decide +kernel
theorem dX2_endWaits_23 : decode cX2_endWaits 23 = .ok (.aload_n 0, 1) := by decide +kernel
theorem dX2_endWaits_24 : decode cX2_endWaits 24 = .ok (.getfield 50, 3) := by decide +kernel
theorem dX2_endWaits_27 : decode cX2_endWaits 27 = .ok (.iconst 1, 1) := by decide +kernel
theorem dX2_endWaits_28 : decode cX2_endWaits 28 = .ok (.isub, 1) := by decide +kernel
theorem dX2_endWaits_29 : decode cX2_endWaits 29 = .ok (.iaload, 1) := by decide +kernel
theorem dX2_endWaits_30 : decode cX2_endWaits 30 = .ok (.invokestatic 63, 3) := by decide +kernel
theorem dX2_endWaits_33 : decode cX2_endWaits 33 = .ok (.iload_n 1, 1) := by decide +kernel
theorem dX2_endWaits_34 : decode cX2_endWaits 34 = .ok (.if_icmp .lt 30, 3) := by decide +kernel
theorem dX2_endWaits_37 : decode cX2_endWaits 37 = .ok (.aload_n 0, 1) := by decide +kernel
theorem dX2_endWaits_38 : decode cX2_endWaits 38 = .ok (.dup, 1) := by decide +kernel
theorem dX2_endWaits_39 : decode cX2_endWaits 39 = .ok (.getfield 50, 3) := by decide +kernel
theorem dX2_endWaits_42 : decode cX2_endWaits 42 = .ok (.iconst 1, 1) := by decide +kernel
theorem dX2_endWaits_43 : decode cX2_endWaits 43 = .ok (.isub, 1) := by decide +kernel
theorem dX2_endWaits_44 : decode cX2_endWaits 44 = .ok (.putfield 50, 3) := by decide +kernel
theorem dX2_endWaits_47 : decode cX2_endWaits 47 = .ok (.aload_n 0, 1) := by decide +kernel
theorem dX2_endWaits_48 : decode cX2_endWaits 48 = .ok (.aload_n 0, 1) := by decide +kernel
theorem dX2_endWaits_49 : decode cX2_endWaits 49 = .ok (.getfield 15, 3) := by decide +kernel
theorem dX2_endWaits_52 : decode cX2_endWaits 52 = .ok (.aload_n 0, 1) := by decide +kernel
theorem dX2_endWaits_53 : decode cX2_endWaits 53 = .ok (.getfield 50, 3) := by decide +kernel
theorem dX2_endWaits_56 : decode cX2_endWaits 56 = .ok (.iaload, 1) := by decide +kernel
theorem dX2_endWaits_57 : decode cX2_endWaits 57 = .ok (.ineg, 1) := by decide +kernel
theorem dX2_endWaits_58 : decode cX2_endWaits 58 = .ok (.invokevirtual 53, 3) := by decide +kernel
theorem dX2_endWaits_61 : decode cX2_endWaits 61 = .ok (.goto (-61), 3) := by decide +kernel
theorem dX2_endWaits_64 : decode cX2_endWaits 64 = .ok (.return_, 1) := by decide +kernel
theorem dX2_tightness_0 : decode cX2_tightness 0 = .ok (.iload_n 0, 1) := by decide +kernel
theorem dX2_tightness_1 : decode cX2_tightness 1 = .ok (.invokestatic 28, 3) := by decide +kernel
theorem dX2_tightness_4 : decode cX2_tightness 4 = .ok (.ifCond .eq 5, 3) := by decide +kernel
theorem dX2_tightness_7 : decode cX2_tightness 7 = .ok (.iconst 2, 1) := by decide +kernel
theorem dX2_tightness_8 : decode cX2_tightness 8 = .ok (.ireturn, 1) := by decide +kernel
theorem dX2_tightness_9 : decode cX2_tightness 9 = .ok (.iload_n 0, 1) := by decide +kernel
theorem dX2_tightness_10 : decode cX2_tightness 10 = .ok (.invokestatic 25, 3) := by decide +kernel
theorem dX2_tightness_13 : decode cX2_tightness 13 = .ok (.ifCond .eq 7, 3) := by decide +kernel
theorem dX2_tightness_16 : decode cX2_tightness 16 = .ok (.iconst 1, 1) := by decide +kernel
theorem dX2_tightness_17 : decode cX2_tightness 17 = .ok (.goto 4, 3) := by decide +kernel
theorem dX2_tightness_20 : decode cX2_tightness 20 = .ok (.iconst 0, 1) := by decide +kernel
theorem dX2_tightness_21 : decode cX2_tightness 21 = .ok (.ireturn, 1) := by decide +kernel
theorem dX2_valueAt_0 : decode cX2_valueAt 0 = .ok (.iconst 0, 1) := by decide +kernel
theorem dX2_valueAt_1 : decode cX2_valueAt 1 = .ok (.istore_n 3, 1) := by decide +kernel
theorem dX2_valueAt_2 : decode cX2_valueAt 2 = .ok (.iconst 0, 1) := by decide +kernel
theorem dX2_valueAt_3 : decode cX2_valueAt 3 = .ok (.istore 4, 2) := by decide +kernel
theorem dX2_valueAt_5 : decode cX2_valueAt 5 = .ok (.iload 4, 2) := by decide +kernel
theorem dX2_valueAt_7 : decode cX2_valueAt 7 = .ok (.aload_n 0, 1) := by decide +kernel
theorem dX2_valueAt_8 : decode cX2_valueAt 8 = .ok (.getfield 31, 3) := by decide +kernel
theorem dX2_valueAt_11 : decode cX2_valueAt 11 = .ok (.if_icmp .ge 129, 3) := by decide +kernel
theorem dX2_valueAt_14 : decode cX2_valueAt 14 = .ok (.iload 4, 2) := by decide +kernel
theorem dX2_valueAt_16 : decode cX2_valueAt 16 = .ok (.aload_n 0, 1) := by decide +kernel
theorem dX2_valueAt_17 : decode cX2_valueAt 17 = .ok (.getfield 9, 3) := by decide +kernel
theorem dX2_valueAt_20 : decode cX2_valueAt 20 = .ok (.arraylength, 1) := by decide +kernel
theorem dX2_valueAt_21 : decode cX2_valueAt 21 = .ok (.if_icmp .ge 119, 3) := by decide +kernel
theorem dX2_valueAt_24 : decode cX2_valueAt 24 = .ok (.aload_n 0, 1) := by decide +kernel
theorem dX2_valueAt_25 : decode cX2_valueAt 25 = .ok (.getfield 9, 3) := by decide +kernel
theorem dX2_valueAt_28 : decode cX2_valueAt 28 = .ok (.iload 4, 2) := by decide +kernel
theorem dX2_valueAt_30 : decode cX2_valueAt 30 = .ok (.iaload, 1) := by decide +kernel
theorem dX2_valueAt_31 : decode cX2_valueAt 31 = .ok (.istore 5, 2) := by decide +kernel
theorem dX2_valueAt_33 : decode cX2_valueAt 33 = .ok (.iload 5, 2) := by decide +kernel
theorem dX2_valueAt_35 : decode cX2_valueAt 35 = .ok (.bipush (-2), 2) := by decide +kernel
theorem dX2_valueAt_37 : decode cX2_valueAt 37 = .ok (.if_icmp .ge 51, 3) := by decide +kernel
theorem dX2_valueAt_40 : decode cX2_valueAt 40 = .ok (.iload_n 3, 1) := by decide +kernel
theorem dX2_valueAt_41 : decode cX2_valueAt 41 = .ok (.iconst 2, 1) := by decide +kernel
theorem dX2_valueAt_42 : decode cX2_valueAt 42 = .ok (.if_icmp .lt 46, 3) := by decide +kernel
theorem dX2_valueAt_45 : decode cX2_valueAt 45 = .ok (.iload_n 3, 1) := by decide +kernel
theorem dX2_valueAt_46 : decode cX2_valueAt 46 = .ok (.aload_n 0, 1) := by decide +kernel
theorem dX2_valueAt_47 : decode cX2_valueAt 47 = .ok (.getfield 18, 3) := by decide +kernel
theorem dX2_valueAt_50 : decode cX2_valueAt 50 = .ok (.arraylength, 1) := by decide +kernel
theorem dX2_valueAt_51 : decode cX2_valueAt 51 = .ok (.if_icmp .gt 37, 3) := by decide +kernel
theorem dX2_valueAt_54 : decode cX2_valueAt 54 = .ok (.iinc 3 (-1), 3) := by decide +kernel
theorem dX2_valueAt_57 : decode cX2_valueAt 57 = .ok (.aload_n 0, 1) := by decide +kernel
theorem dX2_valueAt_58 : decode cX2_valueAt 58 = .ok (.getfield 18, 3) := by decide +kernel
theorem dX2_valueAt_61 : decode cX2_valueAt 61 = .ok (.iload_n 3, 1) := by decide +kernel
theorem dX2_valueAt_62 : decode cX2_valueAt 62 = .ok (.iconst 1, 1) := by decide +kernel
theorem dX2_valueAt_63 : decode cX2_valueAt 63 = .ok (.isub, 1) := by decide +kernel
theorem dX2_valueAt_64 : decode cX2_valueAt 64 = .ok (.iload 5, 2) := by decide +kernel
theorem dX2_valueAt_66 : decode cX2_valueAt 66 = .ok (.ineg, 1) := by decide +kernel
theorem dX2_valueAt_67 : decode cX2_valueAt 67 = .ok (.aload_n 0, 1) := by decide +kernel
theorem dX2_valueAt_68 : decode cX2_valueAt 68 = .ok (.getfield 18, 3) := by decide +kernel
theorem dX2_valueAt_71 : decode cX2_valueAt 71 = .ok (.iload_n 3, 1) := by decide +kernel
theorem dX2_valueAt_72 : decode cX2_valueAt 72 = .ok (.iconst 1, 1) := by decide +kernel
theorem dX2_valueAt_73 : decode cX2_valueAt 73 = .ok (.isub, 1) := by decide +kernel
theorem dX2_valueAt_74 : decode cX2_valueAt 74 = .ok (.iaload, 1) := by decide +kernel
theorem dX2_valueAt_75 : decode cX2_valueAt 75 = .ok (.aload_n 0, 1) := by decide +kernel
theorem dX2_valueAt_76 : decode cX2_valueAt 76 = .ok (.getfield 18, 3) := by decide +kernel
theorem dX2_valueAt_79 : decode cX2_valueAt 79 = .ok (.iload_n 3, 1) := by decide +kernel
theorem dX2_valueAt_80 : decode cX2_valueAt 80 = .ok (.iaload, 1) := by decide +kernel
theorem dX2_valueAt_81 : decode cX2_valueAt 81 = .ok (.invokestatic 67, 3) := by decide +kernel
theorem dX2_valueAt_84 : decode cX2_valueAt 84 = .ok (.iastore, 1) := by decide +kernel
theorem dX2_valueAt_85 : decode cX2_valueAt 85 = .ok (.goto 49, 3) := by decide +kernel
theorem dX2_valueAt_88 : decode cX2_valueAt 88 = .ok (.iload 5, 2) := by decide +kernel
theorem dX2_valueAt_90 : decode cX2_valueAt 90 = .ok (.bipush (-2), 2) := by decide +kernel
theorem dX2_valueAt_92 : decode cX2_valueAt 92 = .ok (.if_icmp .lt 42, 3) := by decide +kernel
theorem dX2_valueAt_95 : decode cX2_valueAt 95 = .ok (.iload_n 3, 1) := by decide +kernel
theorem dX2_valueAt_96 : decode cX2_valueAt 96 = .ok (.aload_n 0, 1) := by decide +kernel
theorem dX2_valueAt_97 : decode cX2_valueAt 97 = .ok (.getfield 18, 3) := by decide +kernel
theorem dX2_valueAt_100 : decode cX2_valueAt 100 = .ok (.arraylength, 1) := by decide +kernel
theorem dX2_valueAt_101 : decode cX2_valueAt 101 = .ok (.if_icmp .ge 33, 3) := by decide +kernel
theorem dX2_valueAt_104 : decode cX2_valueAt 104 = .ok (.aload_n 0, 1) := by decide +kernel
theorem dX2_valueAt_105 : decode cX2_valueAt 105 = .ok (.getfield 18, 3) := by decide +kernel
theorem dX2_valueAt_108 : decode cX2_valueAt 108 = .ok (.iload_n 3, 1) := by decide +kernel
theorem dX2_valueAt_109 : decode cX2_valueAt 109 = .ok (.iload 5, 2) := by decide +kernel
theorem dX2_valueAt_111 : decode cX2_valueAt 111 = .ok (.ifCond .lt 8, 3) := by decide +kernel
theorem dX2_valueAt_114 : decode cX2_valueAt 114 = .ok (.iload 5, 2) := by decide +kernel
theorem dX2_valueAt_116 : decode cX2_valueAt 116 = .ok (.goto 14, 3) := by decide +kernel
theorem dX2_valueAt_119 : decode cX2_valueAt 119 = .ok (.iload 5, 2) := by decide +kernel
theorem dX2_valueAt_121 : decode cX2_valueAt 121 = .ok (.iconst (-1), 1) := by decide +kernel
theorem dX2_valueAt_122 : decode cX2_valueAt 122 = .ok (.if_icmp .ne 7, 3) := by decide +kernel
theorem dX2_valueAt_125 : decode cX2_valueAt 125 = .ok (.iload_n 1, 1) := by decide +kernel
theorem dX2_valueAt_126 : decode cX2_valueAt 126 = .ok (.goto 4, 3) := by decide +kernel
theorem dX2_valueAt_129 : decode cX2_valueAt 129 = .ok (.iload_n 2, 1) := by decide +kernel
theorem dX2_valueAt_130 : decode cX2_valueAt 130 = .ok (.iastore, 1) := by decide +kernel
theorem dX2_valueAt_131 : decode cX2_valueAt 131 = .ok (.iinc 3 1, 3) := by decide +kernel
theorem dX2_valueAt_134 : decode cX2_valueAt 134 = .ok (.iinc 4 1, 3) := by decide +kernel
theorem dX2_valueAt_137 : decode cX2_valueAt 137 = .ok (.goto (-132), 3) := by decide +kernel
theorem dX2_valueAt_140 : decode cX2_valueAt 140 = .ok (.iload_n 3, 1) := by decide +kernel
theorem dX2_valueAt_141 : decode cX2_valueAt 141 = .ok (.ifCond .ne 7, 3) := by decide +kernel
theorem dX2_valueAt_144 : decode cX2_valueAt 144 = .ok (.iconst 0, 1) := by decide +kernel
theorem dX2_valueAt_145 : decode cX2_valueAt 145 = .ok (.goto 9, 3) := by decide +kernel
theorem dX2_valueAt_148 : decode cX2_valueAt 148 = .ok (.aload_n 0, 1) := by decide +kernel
theorem dX2_valueAt_149 : decode cX2_valueAt 149 = .ok (.getfield 18, 3) := by decide +kernel
theorem dX2_valueAt_152 : decode cX2_valueAt 152 = .ok (.iconst 0, 1) := by decide +kernel
theorem dX2_valueAt_153 : decode cX2_valueAt 153 = .ok (.iaload, 1) := by decide +kernel
theorem dX2_valueAt_154 : decode cX2_valueAt 154 = .ok (.ireturn, 1) := by decide +kernel
theorem dX2_joined_0 : decode cX2_joined 0 = .ok (.iload_n 0, 1) := by decide +kernel
theorem dX2_joined_1 : decode cX2_joined 1 = .ok (.tableswitch 63 42 47 #[47, 39, 63, 43, 63, 51], 39) := by decide +kernel
theorem dX2_joined_40 : decode cX2_joined 40 = .ok (.iload_n 1, 1) := by decide +kernel
theorem dX2_joined_41 : decode cX2_joined 41 = .ok (.iload_n 2, 1) := by decide +kernel
theorem dX2_joined_42 : decode cX2_joined 42 = .ok (.iadd, 1) := by decide +kernel
theorem dX2_joined_43 : decode cX2_joined 43 = .ok (.ireturn, 1) := by decide +kernel
theorem dX2_joined_44 : decode cX2_joined 44 = .ok (.iload_n 1, 1) := by decide +kernel
theorem dX2_joined_45 : decode cX2_joined 45 = .ok (.iload_n 2, 1) := by decide +kernel
theorem dX2_joined_46 : decode cX2_joined 46 = .ok (.isub, 1) := by decide +kernel
theorem dX2_joined_47 : decode cX2_joined 47 = .ok (.ireturn, 1) := by decide +kernel
theorem dX2_joined_48 : decode cX2_joined 48 = .ok (.iload_n 1, 1) := by decide +kernel
theorem dX2_joined_49 : decode cX2_joined 49 = .ok (.iload_n 2, 1) := by decide +kernel
theorem dX2_joined_50 : decode cX2_joined 50 = .ok (.imul, 1) := by decide +kernel
theorem dX2_joined_51 : decode cX2_joined 51 = .ok (.ireturn, 1) := by decide +kernel
theorem dX2_joined_52 : decode cX2_joined 52 = .ok (.iload_n 2, 1) := by decide +kernel
theorem dX2_joined_53 : decode cX2_joined 53 = .ok (.ifCond .ne 7, 3) := by decide +kernel
theorem dX2_joined_56 : decode cX2_joined 56 = .ok (.iconst 0, 1) := by decide +kernel
theorem dX2_joined_57 : decode cX2_joined 57 = .ok (.goto 6, 3) := by decide +kernel
theorem dX2_joined_60 : decode cX2_joined 60 = .ok (.iload_n 1, 1) := by decide +kernel
theorem dX2_joined_61 : decode cX2_joined 61 = .ok (.iload_n 2, 1) := by decide +kernel
theorem dX2_joined_62 : decode cX2_joined 62 = .ok (.idiv, 1) := by decide +kernel
theorem dX2_joined_63 : decode cX2_joined 63 = .ok (.ireturn, 1) := by decide +kernel
theorem dX2_joined_64 : decode cX2_joined 64 = .ok (.iload_n 2, 1) := by decide +kernel
theorem dX2_joined_65 : decode cX2_joined 65 = .ok (.ifCond .ne 7, 3) := by decide +kernel
theorem dX2_joined_68 : decode cX2_joined 68 = .ok (.iconst 0, 1) := by decide +kernel
theorem dX2_joined_69 : decode cX2_joined 69 = .ok (.goto 6, 3) := by decide +kernel
theorem dX2_joined_72 : decode cX2_joined 72 = .ok (.iload_n 1, 1) := by decide +kernel
theorem dX2_joined_73 : decode cX2_joined 73 = .ok (.iload_n 2, 1) := by decide +kernel
theorem dX2_joined_74 : decode cX2_joined 74 = .ok (.irem, 1) := by decide +kernel
theorem dX2_joined_75 : decode cX2_joined 75 = .ok (.ireturn, 1) := by decide +kernel
theorem dX3_init_0 : decode cX3_init 0 = .ok (.aload_n 0, 1) := by decide +kernel
theorem dX3_init_1 : decode cX3_init 1 = .ok (.invokespecial 3, 3) := by decide +kernel
theorem dX3_init_4 : decode cX3_init 4 = .ok (.aload_n 0, 1) := by decide +kernel
theorem dX3_init_5 : decode cX3_init 5 = .ok (.iconst 4, 1) := by decide +kernel
theorem dX3_init_6 : decode cX3_init 6 = .ok (.anewarray 9, 3) := by decide +kernel
theorem dX3_init_9 : decode cX3_init 9 = .ok (.putfield 11, 3) := by decide +kernel
theorem dX3_init_12 : decode cX3_init 12 = .ok (.iconst 0, 1) := by decide +kernel
theorem dX3_init_13 : decode cX3_init 13 = .ok (.istore_n 1, 1) := by decide +kernel
theorem dX3_init_14 : decode cX3_init 14 = .ok (.iload_n 1, 1) := by decide +kernel
theorem dX3_init_15 : decode cX3_init 15 = .ok (.aload_n 0, 1) := by decide +kernel
theorem dX3_init_16 : decode cX3_init 16 = .ok (.getfield 11, 3) := by decide +kernel
theorem dX3_init_19 : decode cX3_init 19 = .ok (.arraylength, 1) := by decide +kernel
theorem dX3_init_20 : decode cX3_init 20 = .ok (.if_icmp .ge 22, 3) := by decide +kernel
theorem dX3_init_23 : decode cX3_init 23 = .ok (.aload_n 0, 1) := by decide +kernel
theorem dX3_init_24 : decode cX3_init 24 = .ok (.getfield 11, 3) := by decide +kernel
theorem dX3_init_27 : decode cX3_init 27 = .ok (.iload_n 1, 1) := by decide +kernel
theorem dX3_init_28 : decode cX3_init 28 = .ok (.new 9, 3) := by decide +kernel
theorem dX3_init_31 : decode cX3_init 31 = .ok (.dup, 1) := by decide +kernel
theorem dX3_init_32 : decode cX3_init 32 = .ok (.invokespecial 17, 3) := by decide +kernel
theorem dX3_init_35 : decode cX3_init 35 = .ok (.aastore, 1) := by decide +kernel
theorem dX3_init_36 : decode cX3_init 36 = .ok (.iinc 1 1, 3) := by decide +kernel
theorem dX3_init_39 : decode cX3_init 39 = .ok (.goto (-25), 3) := by decide +kernel
theorem dX3_init_42 : decode cX3_init 42 = .ok (.return_, 1) := by decide +kernel
theorem dX3_boatAt_0 : decode cX3_boatAt 0 = .ok (.iload_n 1, 1) := by decide +kernel
theorem dX3_boatAt_1 : decode cX3_boatAt 1 = .ok (.ifCond .lt 29, 3) := by decide +kernel
theorem dX3_boatAt_4 : decode cX3_boatAt 4 = .ok (.iload_n 1, 1) := by decide +kernel
theorem dX3_boatAt_5 : decode cX3_boatAt 5 = .ok (.aload_n 0, 1) := by decide +kernel
theorem dX3_boatAt_6 : decode cX3_boatAt 6 = .ok (.getfield 18, 3) := by decide +kernel
theorem dX3_boatAt_9 : decode cX3_boatAt 9 = .ok (.if_icmp .ge 21, 3) := by decide +kernel
theorem dX3_boatAt_12 : decode cX3_boatAt 12 = .ok (.iload_n 1, 1) := by decide +kernel
theorem dX3_boatAt_13 : decode cX3_boatAt 13 = .ok (.aload_n 0, 1) := by decide +kernel
theorem dX3_boatAt_14 : decode cX3_boatAt 14 = .ok (.getfield 11, 3) := by decide +kernel
theorem dX3_boatAt_17 : decode cX3_boatAt 17 = .ok (.arraylength, 1) := by decide +kernel
theorem dX3_boatAt_18 : decode cX3_boatAt 18 = .ok (.if_icmp .ge 12, 3) := by decide +kernel
theorem dX3_boatAt_21 : decode cX3_boatAt 21 = .ok (.aload_n 0, 1) := by decide +kernel
theorem dX3_boatAt_22 : decode cX3_boatAt 22 = .ok (.getfield 11, 3) := by decide +kernel
theorem dX3_boatAt_25 : decode cX3_boatAt 25 = .ok (.iload_n 1, 1) := by decide +kernel
theorem dX3_boatAt_26 : decode cX3_boatAt 26 = .ok (.aaload, 1) := by decide +kernel
theorem dX3_boatAt_27 : decode cX3_boatAt 27 = .ok (.goto 4, 3) := by decide +kernel
theorem dX3_boatAt_30 : decode cX3_boatAt 30 = .ok (.aconst_null, 1) := by decide +kernel
theorem dX3_boatAt_31 : decode cX3_boatAt 31 = .ok (.areturn, 1) := by decide +kernel
theorem dX3_isFull_0 : decode cX3_isFull 0 = .ok (.aload_n 0, 1) := by decide +kernel
theorem dX3_isFull_1 : decode cX3_isFull 1 = .ok (.getfield 18, 3) := by decide +kernel
theorem dX3_isFull_4 : decode cX3_isFull 4 = .ok (.aload_n 0, 1) := by decide +kernel
theorem dX3_isFull_5 : decode cX3_isFull 5 = .ok (.getfield 11, 3) := by decide +kernel
theorem dX3_isFull_8 : decode cX3_isFull 8 = .ok (.arraylength, 1) := by decide +kernel
theorem dX3_isFull_9 : decode cX3_isFull 9 = .ok (.if_icmp .lt 7, 3) := by decide +kernel
theorem dX3_isFull_12 : decode cX3_isFull 12 = .ok (.iconst 1, 1) := by decide +kernel
theorem dX3_isFull_13 : decode cX3_isFull 13 = .ok (.goto 4, 3) := by decide +kernel
theorem dX3_isFull_16 : decode cX3_isFull 16 = .ok (.iconst 0, 1) := by decide +kernel
theorem dX3_isFull_17 : decode cX3_isFull 17 = .ok (.ireturn, 1) := by decide +kernel
theorem dX3_clear_0 : decode cX3_clear 0 = .ok (.aload_n 0, 1) := by decide +kernel
theorem dX3_clear_1 : decode cX3_clear 1 = .ok (.iconst 0, 1) := by decide +kernel
theorem dX3_clear_2 : decode cX3_clear 2 = .ok (.putfield 18, 3) := by decide +kernel
theorem dX3_clear_5 : decode cX3_clear 5 = .ok (.aload_n 0, 1) := by decide +kernel
theorem dX3_clear_6 : decode cX3_clear 6 = .ok (.iconst 0, 1) := by decide +kernel
theorem dX3_clear_7 : decode cX3_clear 7 = .ok (.putfield 22, 3) := by decide +kernel
theorem dX3_clear_10 : decode cX3_clear 10 = .ok (.return_, 1) := by decide +kernel
theorem dX3_enter_0 : decode cX3_enter 0 = .ok (.aload_n 0, 1) := by decide +kernel
theorem dX3_enter_1 : decode cX3_enter 1 = .ok (.getfield 18, 3) := by decide +kernel
theorem dX3_enter_4 : decode cX3_enter 4 = .ok (.ifCond .lt 10, 3) := by decide +kernel
theorem dX3_enter_7 : decode cX3_enter 7 = .ok (.aload_n 0, 1) := by decide +kernel
theorem dX3_enter_8 : decode cX3_enter 8 = .ok (.invokevirtual 25, 3) := by decide +kernel
theorem dX3_enter_11 : decode cX3_enter 11 = .ok (.ifCond .eq 6, 3) := by decide +kernel
theorem dX3_enter_14 : decode cX3_enter 14 = .ok (.bipush (-2), 2) := by decide +kernel
theorem dX3_enter_16 : decode cX3_enter 16 = .ok (.ireturn, 1) := by decide +kernel
theorem dX3_enter_17 : decode cX3_enter 17 = .ok (.aload_n 0, 1) := by decide +kernel
theorem dX3_enter_18 : decode cX3_enter 18 = .ok (.getfield 11, 3) := by decide +kernel
theorem dX3_enter_21 : decode cX3_enter 21 = .ok (.aload_n 0, 1) := by decide +kernel
theorem dX3_enter_22 : decode cX3_enter 22 = .ok (.getfield 18, 3) := by decide +kernel
theorem dX3_enter_25 : decode cX3_enter 25 = .ok (.aaload, 1) := by decide +kernel
theorem dX3_enter_26 : decode cX3_enter 26 = .ok (.astore 5, 2) := by decide +kernel
theorem dX3_enter_28 : decode cX3_enter 28 = .ok (.aload 5, 2) := by decide +kernel
theorem dX3_enter_30 : decode cX3_enter 30 = .ok (.getfield 29, 3) := by decide +kernel
theorem dX3_enter_33 : decode cX3_enter 33 = .ok (.iload_n 1, 1) := by decide +kernel
theorem dX3_enter_34 : decode cX3_enter 34 = .ok (.iload 4, 2) := by decide +kernel
theorem dX3_enter_36 : decode cX3_enter 36 = .ok (.aload_n 0, 1) := by decide +kernel
theorem dX3_enter_37 : decode cX3_enter 37 = .ok (.getfield 18, 3) := by decide +kernel
theorem dX3_enter_40 : decode cX3_enter 40 = .ok (.invokevirtual 33, 3) := by decide +kernel
theorem dX3_enter_43 : decode cX3_enter 43 = .ok (.aload 5, 2) := by decide +kernel
theorem dX3_enter_45 : decode cX3_enter 45 = .ok (.iload_n 2, 1) := by decide +kernel
theorem dX3_enter_46 : decode cX3_enter 46 = .ok (.iload_n 3, 1) := by decide +kernel
theorem dX3_enter_47 : decode cX3_enter 47 = .ok (.invokevirtual 39, 3) := by decide +kernel
theorem dX3_enter_50 : decode cX3_enter 50 = .ok (.aload_n 0, 1) := by decide +kernel
theorem dX3_enter_51 : decode cX3_enter 51 = .ok (.dup, 1) := by decide +kernel
theorem dX3_enter_52 : decode cX3_enter 52 = .ok (.getfield 18, 3) := by decide +kernel
theorem dX3_enter_55 : decode cX3_enter 55 = .ok (.iconst 1, 1) := by decide +kernel
theorem dX3_enter_56 : decode cX3_enter 56 = .ok (.iadd, 1) := by decide +kernel
theorem dX3_enter_57 : decode cX3_enter 57 = .ok (.putfield 18, 3) := by decide +kernel
theorem dX3_enter_60 : decode cX3_enter 60 = .ok (.aload 5, 2) := by decide +kernel
theorem dX3_enter_62 : decode cX3_enter 62 = .ok (.getfield 29, 3) := by decide +kernel
theorem dX3_enter_65 : decode cX3_enter 65 = .ok (.getfield 43, 3) := by decide +kernel
theorem dX3_enter_68 : decode cX3_enter 68 = .ok (.ireturn, 1) := by decide +kernel
theorem dX3_take_0 : decode cX3_take 0 = .ok (.aload_n 0, 1) := by decide +kernel
theorem dX3_take_1 : decode cX3_take 1 = .ok (.aload_n 1, 1) := by decide +kernel
theorem dX3_take_2 : decode cX3_take 2 = .ok (.getfield 18, 3) := by decide +kernel
theorem dX3_take_5 : decode cX3_take 5 = .ok (.putfield 18, 3) := by decide +kernel
theorem dX3_take_8 : decode cX3_take 8 = .ok (.aload_n 0, 1) := by decide +kernel
theorem dX3_take_9 : decode cX3_take 9 = .ok (.aload_n 1, 1) := by decide +kernel
theorem dX3_take_10 : decode cX3_take 10 = .ok (.getfield 22, 3) := by decide +kernel
theorem dX3_take_13 : decode cX3_take 13 = .ok (.putfield 22, 3) := by decide +kernel
theorem dX3_take_16 : decode cX3_take 16 = .ok (.iconst 0, 1) := by decide +kernel
theorem dX3_take_17 : decode cX3_take 17 = .ok (.istore_n 2, 1) := by decide +kernel
theorem dX3_take_18 : decode cX3_take 18 = .ok (.iload_n 2, 1) := by decide +kernel
theorem dX3_take_19 : decode cX3_take 19 = .ok (.aload_n 0, 1) := by decide +kernel
theorem dX3_take_20 : decode cX3_take 20 = .ok (.getfield 11, 3) := by decide +kernel
theorem dX3_take_23 : decode cX3_take 23 = .ok (.arraylength, 1) := by decide +kernel
theorem dX3_take_24 : decode cX3_take 24 = .ok (.if_icmp .ge 33, 3) := by decide +kernel
theorem dX3_take_27 : decode cX3_take 27 = .ok (.iload_n 2, 1) := by decide +kernel
theorem dX3_take_28 : decode cX3_take 28 = .ok (.aload_n 1, 1) := by decide +kernel
theorem dX3_take_29 : decode cX3_take 29 = .ok (.getfield 11, 3) := by decide +kernel
theorem dX3_take_32 : decode cX3_take 32 = .ok (.arraylength, 1) := by decide +kernel
theorem dX3_take_33 : decode cX3_take 33 = .ok (.if_icmp .ge 24, 3) := by decide +kernel
theorem dX3_take_36 : decode cX3_take 36 = .ok (.aload_n 0, 1) := by decide +kernel
theorem dX3_take_37 : decode cX3_take 37 = .ok (.getfield 11, 3) := by decide +kernel
theorem dX3_take_40 : decode cX3_take 40 = .ok (.iload_n 2, 1) := by decide +kernel
theorem dX3_take_41 : decode cX3_take 41 = .ok (.aaload, 1) := by decide +kernel
theorem dX3_take_42 : decode cX3_take 42 = .ok (.aload_n 1, 1) := by decide +kernel
theorem dX3_take_43 : decode cX3_take 43 = .ok (.getfield 11, 3) := by decide +kernel
theorem dX3_take_46 : decode cX3_take 46 = .ok (.iload_n 2, 1) := by decide +kernel
theorem dX3_take_47 : decode cX3_take 47 = .ok (.aaload, 1) := by decide +kernel
theorem dX3_take_48 : decode cX3_take 48 = .ok (.invokevirtual 46, 3) := by decide +kernel
theorem dX3_take_51 : decode cX3_take 51 = .ok (.iinc 2 1, 3) := by decide +kernel
theorem dX3_take_54 : decode cX3_take 54 = .ok (.goto (-36), 3) := by decide +kernel
theorem dX3_take_57 : decode cX3_take 57 = .ok (.return_, 1) := by decide +kernel
theorem dX3_beginAnew_0 : decode cX3_beginAnew 0 = .ok (.aload_n 0, 1) := by decide +kernel
theorem dX3_beginAnew_1 : decode cX3_beginAnew 1 = .ok (.iconst 0, 1) := by decide +kernel
theorem dX3_beginAnew_2 : decode cX3_beginAnew 2 = .ok (.putfield 22, 3) := by decide +kernel
theorem dX3_beginAnew_5 : decode cX3_beginAnew 5 = .ok (.iconst 0, 1) := by decide +kernel
theorem dX3_beginAnew_6 : decode cX3_beginAnew 6 = .ok (.istore_n 1, 1) := by decide +kernel
theorem dX3_beginAnew_7 : decode cX3_beginAnew 7 = .ok (.iload_n 1, 1) := by decide +kernel
theorem dX3_beginAnew_8 : decode cX3_beginAnew 8 = .ok (.aload_n 0, 1) := by decide +kernel
theorem dX3_beginAnew_9 : decode cX3_beginAnew 9 = .ok (.getfield 18, 3) := by decide +kernel
theorem dX3_beginAnew_12 : decode cX3_beginAnew 12 = .ok (.if_icmp .ge 27, 3) := by decide +kernel
theorem dX3_beginAnew_15 : decode cX3_beginAnew 15 = .ok (.iload_n 1, 1) := by decide +kernel
theorem dX3_beginAnew_16 : decode cX3_beginAnew 16 = .ok (.aload_n 0, 1) := by decide +kernel
theorem dX3_beginAnew_17 : decode cX3_beginAnew 17 = .ok (.getfield 11, 3) := by decide +kernel
theorem dX3_beginAnew_20 : decode cX3_beginAnew 20 = .ok (.arraylength, 1) := by decide +kernel
theorem dX3_beginAnew_21 : decode cX3_beginAnew 21 = .ok (.if_icmp .ge 18, 3) := by decide +kernel
theorem dX3_beginAnew_24 : decode cX3_beginAnew 24 = .ok (.aload_n 0, 1) := by decide +kernel
theorem dX3_beginAnew_25 : decode cX3_beginAnew 25 = .ok (.getfield 11, 3) := by decide +kernel
theorem dX3_beginAnew_28 : decode cX3_beginAnew 28 = .ok (.iload_n 1, 1) := by decide +kernel
theorem dX3_beginAnew_29 : decode cX3_beginAnew 29 = .ok (.aaload, 1) := by decide +kernel
theorem dX3_beginAnew_30 : decode cX3_beginAnew 30 = .ok (.invokevirtual 50, 3) := by decide +kernel
theorem dX3_beginAnew_33 : decode cX3_beginAnew 33 = .ok (.iinc 1 1, 3) := by decide +kernel
theorem dX3_beginAnew_36 : decode cX3_beginAnew 36 = .ok (.goto (-29), 3) := by decide +kernel
theorem dX3_beginAnew_39 : decode cX3_beginAnew 39 = .ok (.return_, 1) := by decide +kernel
theorem dX3_reaches_0 : decode cX3_reaches 0 = .ok (.iconst 0, 1) := by decide +kernel
theorem dX3_reaches_1 : decode cX3_reaches 1 = .ok (.istore_n 2, 1) := by decide +kernel
theorem dX3_reaches_2 : decode cX3_reaches 2 = .ok (.iload_n 2, 1) := by decide +kernel
theorem dX3_reaches_3 : decode cX3_reaches 3 = .ok (.aload_n 0, 1) := by decide +kernel
theorem dX3_reaches_4 : decode cX3_reaches 4 = .ok (.getfield 18, 3) := by decide +kernel
theorem dX3_reaches_7 : decode cX3_reaches 7 = .ok (.if_icmp .ge 33, 3) := by decide +kernel
theorem dX3_reaches_10 : decode cX3_reaches 10 = .ok (.iload_n 2, 1) := by decide +kernel
theorem dX3_reaches_11 : decode cX3_reaches 11 = .ok (.aload_n 0, 1) := by decide +kernel
theorem dX3_reaches_12 : decode cX3_reaches 12 = .ok (.getfield 11, 3) := by decide +kernel
theorem dX3_reaches_15 : decode cX3_reaches 15 = .ok (.arraylength, 1) := by decide +kernel
theorem dX3_reaches_16 : decode cX3_reaches 16 = .ok (.if_icmp .ge 24, 3) := by decide +kernel
theorem dX3_reaches_19 : decode cX3_reaches 19 = .ok (.aload_n 0, 1) := by decide +kernel
theorem dX3_reaches_20 : decode cX3_reaches 20 = .ok (.getfield 11, 3) := by decide +kernel
theorem dX3_reaches_23 : decode cX3_reaches 23 = .ok (.iload_n 2, 1) := by decide +kernel
theorem dX3_reaches_24 : decode cX3_reaches 24 = .ok (.aaload, 1) := by decide +kernel
theorem dX3_reaches_25 : decode cX3_reaches 25 = .ok (.getfield 53, 3) := by decide +kernel
theorem dX3_reaches_28 : decode cX3_reaches 28 = .ok (.iload_n 1, 1) := by decide +kernel
theorem dX3_reaches_29 : decode cX3_reaches 29 = .ok (.if_icmp .lt 5, 3) := by decide +kernel
theorem dX3_reaches_32 : decode cX3_reaches 32 = .ok (.iconst 1, 1) := by decide +kernel
theorem dX3_reaches_33 : decode cX3_reaches 33 = .ok (.ireturn, 1) := by decide +kernel
theorem dX3_reaches_34 : decode cX3_reaches 34 = .ok (.iinc 2 1, 3) := by decide +kernel
theorem dX3_reaches_37 : decode cX3_reaches 37 = .ok (.goto (-35), 3) := by decide +kernel
theorem dX3_reaches_40 : decode cX3_reaches 40 = .ok (.iconst 0, 1) := by decide +kernel
theorem dX3_reaches_41 : decode cX3_reaches 41 = .ok (.ireturn, 1) := by decide +kernel
theorem dX3_hasEnded_0 : decode cX3_hasEnded 0 = .ok (.aload_n 0, 1) := by decide +kernel
theorem dX3_hasEnded_1 : decode cX3_hasEnded 1 = .ok (.getfield 22, 3) := by decide +kernel
theorem dX3_hasEnded_4 : decode cX3_hasEnded 4 = .ok (.sipush 400, 3) := by decide +kernel
theorem dX3_hasEnded_7 : decode cX3_hasEnded 7 = .ok (.if_icmp .ge 21, 3) := by decide +kernel
theorem dX3_hasEnded_10 : decode cX3_hasEnded 10 = .ok (.aload_n 0, 1) := by decide +kernel
theorem dX3_hasEnded_11 : decode cX3_hasEnded 11 = .ok (.getfield 18, 3) := by decide +kernel
theorem dX3_hasEnded_14 : decode cX3_hasEnded 14 = .ok (.ifCond .le 18, 3) := by decide +kernel
theorem dX3_hasEnded_17 : decode cX3_hasEnded 17 = .ok (.aload_n 0, 1) := by decide +kernel
theorem dX3_hasEnded_18 : decode cX3_hasEnded 18 = .ok (.invokevirtual 56, 3) := by decide +kernel
theorem dX3_hasEnded_21 : decode cX3_hasEnded 21 = .ok (.aload_n 0, 1) := by decide +kernel
theorem dX3_hasEnded_22 : decode cX3_hasEnded 22 = .ok (.getfield 18, 3) := by decide +kernel
theorem dX3_hasEnded_25 : decode cX3_hasEnded 25 = .ok (.if_icmp .ne 7, 3) := by decide +kernel
theorem dX3_hasEnded_28 : decode cX3_hasEnded 28 = .ok (.iconst 1, 1) := by decide +kernel
theorem dX3_hasEnded_29 : decode cX3_hasEnded 29 = .ok (.goto 4, 3) := by decide +kernel
theorem dX3_hasEnded_32 : decode cX3_hasEnded 32 = .ok (.iconst 0, 1) := by decide +kernel
theorem dX3_hasEnded_33 : decode cX3_hasEnded 33 = .ok (.ireturn, 1) := by decide +kernel
theorem dX3_goOn_0 : decode cX3_goOn 0 = .ok (.iconst 0, 1) := by decide +kernel
theorem dX3_goOn_1 : decode cX3_goOn 1 = .ok (.istore_n 3, 1) := by decide +kernel
theorem dX3_goOn_2 : decode cX3_goOn 2 = .ok (.iload_n 3, 1) := by decide +kernel
theorem dX3_goOn_3 : decode cX3_goOn 3 = .ok (.iload_n 2, 1) := by decide +kernel
theorem dX3_goOn_4 : decode cX3_goOn 4 = .ok (.if_icmp .ge 39, 3) := by decide +kernel
theorem dX3_goOn_7 : decode cX3_goOn 7 = .ok (.aload_n 0, 1) := by decide +kernel
theorem dX3_goOn_8 : decode cX3_goOn 8 = .ok (.invokevirtual 60, 3) := by decide +kernel
theorem dX3_goOn_11 : decode cX3_goOn 11 = .ok (.ifCond .ne 32, 3) := by decide +kernel
theorem dX3_goOn_14 : decode cX3_goOn 14 = .ok (.aload_n 0, 1) := by decide +kernel
theorem dX3_goOn_15 : decode cX3_goOn 15 = .ok (.aload_n 1, 1) := by decide +kernel
theorem dX3_goOn_16 : decode cX3_goOn 16 = .ok (.aload_n 1, 1) := by decide +kernel
theorem dX3_goOn_17 : decode cX3_goOn 17 = .ok (.aload_n 0, 1) := by decide +kernel
theorem dX3_goOn_18 : decode cX3_goOn 18 = .ok (.getfield 22, 3) := by decide +kernel
theorem dX3_goOn_21 : decode cX3_goOn 21 = .ok (.invokevirtual 63, 3) := by decide +kernel
theorem dX3_goOn_24 : decode cX3_goOn 24 = .ok (.aload_n 1, 1) := by decide +kernel
theorem dX3_goOn_25 : decode cX3_goOn 25 = .ok (.aload_n 0, 1) := by decide +kernel
theorem dX3_goOn_26 : decode cX3_goOn 26 = .ok (.getfield 22, 3) := by decide +kernel
theorem dX3_goOn_29 : decode cX3_goOn 29 = .ok (.iconst 1, 1) := by decide +kernel
theorem dX3_goOn_30 : decode cX3_goOn 30 = .ok (.iadd, 1) := by decide +kernel
theorem dX3_goOn_31 : decode cX3_goOn 31 = .ok (.invokevirtual 63, 3) := by decide +kernel
theorem dX3_goOn_34 : decode cX3_goOn 34 = .ok (.invokevirtual 69, 3) := by decide +kernel
theorem dX3_goOn_37 : decode cX3_goOn 37 = .ok (.iinc 3 1, 3) := by decide +kernel
theorem dX3_goOn_40 : decode cX3_goOn 40 = .ok (.goto (-38), 3) := by decide +kernel
theorem dX3_goOn_43 : decode cX3_goOn 43 = .ok (.return_, 1) := by decide +kernel
theorem dX3_step_0 : decode cX3_step 0 = .ok (.aload_n 0, 1) := by decide +kernel
theorem dX3_step_1 : decode cX3_step 1 = .ok (.invokevirtual 73, 3) := by decide +kernel
theorem dX3_step_4 : decode cX3_step 4 = .ok (.aload_n 0, 1) := by decide +kernel
theorem dX3_step_5 : decode cX3_step 5 = .ok (.dup, 1) := by decide +kernel
theorem dX3_step_6 : decode cX3_step 6 = .ok (.getfield 22, 3) := by decide +kernel
theorem dX3_step_9 : decode cX3_step 9 = .ok (.iconst 1, 1) := by decide +kernel
theorem dX3_step_10 : decode cX3_step 10 = .ok (.iadd, 1) := by decide +kernel
theorem dX3_step_11 : decode cX3_step 11 = .ok (.putfield 22, 3) := by decide +kernel
theorem dX3_step_14 : decode cX3_step 14 = .ok (.iconst 0, 1) := by decide +kernel
theorem dX3_step_15 : decode cX3_step 15 = .ok (.istore 4, 2) := by decide +kernel
theorem dX3_step_17 : decode cX3_step 17 = .ok (.iload 4, 2) := by decide +kernel
theorem dX3_step_19 : decode cX3_step 19 = .ok (.aload_n 0, 1) := by decide +kernel
theorem dX3_step_20 : decode cX3_step 20 = .ok (.getfield 18, 3) := by decide +kernel
theorem dX3_step_23 : decode cX3_step 23 = .ok (.if_icmp .ge 35, 3) := by decide +kernel
theorem dX3_step_26 : decode cX3_step 26 = .ok (.iload 4, 2) := by decide +kernel
theorem dX3_step_28 : decode cX3_step 28 = .ok (.aload_n 0, 1) := by decide +kernel
theorem dX3_step_29 : decode cX3_step 29 = .ok (.getfield 11, 3) := by decide +kernel
theorem dX3_step_32 : decode cX3_step 32 = .ok (.arraylength, 1) := by decide +kernel
theorem dX3_step_33 : decode cX3_step 33 = .ok (.if_icmp .ge 25, 3) := by decide +kernel
theorem dX3_step_36 : decode cX3_step 36 = .ok (.aload_n 0, 1) := by decide +kernel
theorem dX3_step_37 : decode cX3_step 37 = .ok (.getfield 11, 3) := by decide +kernel
theorem dX3_step_40 : decode cX3_step 40 = .ok (.iload 4, 2) := by decide +kernel
theorem dX3_step_42 : decode cX3_step 42 = .ok (.aaload, 1) := by decide +kernel
theorem dX3_step_43 : decode cX3_step 43 = .ok (.aload_n 1, 1) := by decide +kernel
theorem dX3_step_44 : decode cX3_step 44 = .ok (.iload_n 2, 1) := by decide +kernel
theorem dX3_step_45 : decode cX3_step 45 = .ok (.aload_n 0, 1) := by decide +kernel
theorem dX3_step_46 : decode cX3_step 46 = .ok (.getfield 22, 3) := by decide +kernel
theorem dX3_step_49 : decode cX3_step 49 = .ok (.invokevirtual 76, 3) := by decide +kernel
theorem dX3_step_52 : decode cX3_step 52 = .ok (.iinc 4 1, 3) := by decide +kernel
theorem dX3_step_55 : decode cX3_step 55 = .ok (.goto (-38), 3) := by decide +kernel
theorem dX3_step_58 : decode cX3_step 58 = .ok (.aload_n 0, 1) := by decide +kernel
theorem dX3_step_59 : decode cX3_step 59 = .ok (.invokevirtual 73, 3) := by decide +kernel
theorem dX3_step_62 : decode cX3_step 62 = .ok (.iconst 0, 1) := by decide +kernel
theorem dX3_step_63 : decode cX3_step 63 = .ok (.istore 4, 2) := by decide +kernel
theorem dX3_step_65 : decode cX3_step 65 = .ok (.iload 4, 2) := by decide +kernel
theorem dX3_step_67 : decode cX3_step 67 = .ok (.aload_n 0, 1) := by decide +kernel
theorem dX3_step_68 : decode cX3_step 68 = .ok (.getfield 18, 3) := by decide +kernel
theorem dX3_step_71 : decode cX3_step 71 = .ok (.if_icmp .ge 66, 3) := by decide +kernel
theorem dX3_step_74 : decode cX3_step 74 = .ok (.iload 4, 2) := by decide +kernel
theorem dX3_step_76 : decode cX3_step 76 = .ok (.aload_n 0, 1) := by decide +kernel
theorem dX3_step_77 : decode cX3_step 77 = .ok (.getfield 11, 3) := by decide +kernel
theorem dX3_step_80 : decode cX3_step 80 = .ok (.arraylength, 1) := by decide +kernel
theorem dX3_step_81 : decode cX3_step 81 = .ok (.if_icmp .ge 56, 3) := by decide +kernel
theorem dX3_step_84 : decode cX3_step 84 = .ok (.aload_n 0, 1) := by decide +kernel
theorem dX3_step_85 : decode cX3_step 85 = .ok (.getfield 11, 3) := by decide +kernel
theorem dX3_step_88 : decode cX3_step 88 = .ok (.iload 4, 2) := by decide +kernel
theorem dX3_step_90 : decode cX3_step 90 = .ok (.aaload, 1) := by decide +kernel
theorem dX3_step_91 : decode cX3_step 91 = .ok (.astore 5, 2) := by decide +kernel
theorem dX3_step_93 : decode cX3_step 93 = .ok (.aload 5, 2) := by decide +kernel
theorem dX3_step_95 : decode cX3_step 95 = .ok (.aload 5, 2) := by decide +kernel
theorem dX3_step_97 : decode cX3_step 97 = .ok (.aload_n 1, 1) := by decide +kernel
theorem dX3_step_98 : decode cX3_step 98 = .ok (.invokevirtual 79, 3) := by decide +kernel
theorem dX3_step_101 : decode cX3_step 101 = .ok (.ifCond .eq 26, 3) := by decide +kernel
theorem dX3_step_104 : decode cX3_step 104 = .ok (.aload 5, 2) := by decide +kernel
theorem dX3_step_106 : decode cX3_step 106 = .ok (.invokevirtual 83, 3) := by decide +kernel
theorem dX3_step_109 : decode cX3_step 109 = .ok (.ifCond .ne 14, 3) := by decide +kernel
theorem dX3_step_112 : decode cX3_step 112 = .ok (.aload_n 0, 1) := by decide +kernel
theorem dX3_step_113 : decode cX3_step 113 = .ok (.aload 5, 2) := by decide +kernel
theorem dX3_step_115 : decode cX3_step 115 = .ok (.aload_n 1, 1) := by decide +kernel
theorem dX3_step_116 : decode cX3_step 116 = .ok (.iload_n 3, 1) := by decide +kernel
theorem dX3_step_117 : decode cX3_step 117 = .ok (.invokevirtual 86, 3) := by decide +kernel
theorem dX3_step_120 : decode cX3_step 120 = .ok (.ifCond .eq 7, 3) := by decide +kernel
theorem dX3_step_123 : decode cX3_step 123 = .ok (.iconst 1, 1) := by decide +kernel
theorem dX3_step_124 : decode cX3_step 124 = .ok (.goto 4, 3) := by decide +kernel
theorem dX3_step_127 : decode cX3_step 127 = .ok (.iconst 0, 1) := by decide +kernel
theorem dX3_step_128 : decode cX3_step 128 = .ok (.putfield 90, 3) := by decide +kernel
theorem dX3_step_131 : decode cX3_step 131 = .ok (.iinc 4 1, 3) := by decide +kernel
theorem dX3_step_134 : decode cX3_step 134 = .ok (.goto (-69), 3) := by decide +kernel
theorem dX3_step_137 : decode cX3_step 137 = .ok (.iconst 0, 1) := by decide +kernel
theorem dX3_step_138 : decode cX3_step 138 = .ok (.istore 4, 2) := by decide +kernel
theorem dX3_step_140 : decode cX3_step 140 = .ok (.iload 4, 2) := by decide +kernel
theorem dX3_step_142 : decode cX3_step 142 = .ok (.aload_n 0, 1) := by decide +kernel
theorem dX3_step_143 : decode cX3_step 143 = .ok (.getfield 18, 3) := by decide +kernel
theorem dX3_step_146 : decode cX3_step 146 = .ok (.if_icmp .ge 46, 3) := by decide +kernel
theorem dX3_step_149 : decode cX3_step 149 = .ok (.iload 4, 2) := by decide +kernel
theorem dX3_step_151 : decode cX3_step 151 = .ok (.aload_n 0, 1) := by decide +kernel
theorem dX3_step_152 : decode cX3_step 152 = .ok (.getfield 11, 3) := by decide +kernel
theorem dX3_step_155 : decode cX3_step 155 = .ok (.arraylength, 1) := by decide +kernel
theorem dX3_step_156 : decode cX3_step 156 = .ok (.if_icmp .ge 36, 3) := by decide +kernel
theorem dX3_step_159 : decode cX3_step 159 = .ok (.aload_n 0, 1) := by decide +kernel
theorem dX3_step_160 : decode cX3_step 160 = .ok (.getfield 11, 3) := by decide +kernel
theorem dX3_step_163 : decode cX3_step 163 = .ok (.iload 4, 2) := by decide +kernel
theorem dX3_step_165 : decode cX3_step 165 = .ok (.aaload, 1) := by decide +kernel
theorem dX3_step_166 : decode cX3_step 166 = .ok (.getfield 90, 3) := by decide +kernel
theorem dX3_step_169 : decode cX3_step 169 = .ok (.ifCond .eq 17, 3) := by decide +kernel
theorem dX3_step_172 : decode cX3_step 172 = .ok (.aload_n 0, 1) := by decide +kernel
theorem dX3_step_173 : decode cX3_step 173 = .ok (.getfield 11, 3) := by decide +kernel
theorem dX3_step_176 : decode cX3_step 176 = .ok (.iload 4, 2) := by decide +kernel
theorem dX3_step_178 : decode cX3_step 178 = .ok (.aaload, 1) := by decide +kernel
theorem dX3_step_179 : decode cX3_step 179 = .ok (.aload_n 1, 1) := by decide +kernel
theorem dX3_step_180 : decode cX3_step 180 = .ok (.getfield 94, 3) := by decide +kernel
theorem dX3_step_183 : decode cX3_step 183 = .ok (.invokevirtual 97, 3) := by decide +kernel
theorem dX3_step_186 : decode cX3_step 186 = .ok (.iinc 4 1, 3) := by decide +kernel
theorem dX3_step_189 : decode cX3_step 189 = .ok (.goto (-49), 3) := by decide +kernel
theorem dX3_step_192 : decode cX3_step 192 = .ok (.return_, 1) := by decide +kernel
theorem dX3_wantsToTurn_0 : decode cX3_wantsToTurn 0 = .ok (.aload_n 1, 1) := by decide +kernel
theorem dX3_wantsToTurn_1 : decode cX3_wantsToTurn 1 = .ok (.getfield 29, 3) := by decide +kernel
theorem dX3_wantsToTurn_4 : decode cX3_wantsToTurn 4 = .ok (.getfield 101, 3) := by decide +kernel
theorem dX3_wantsToTurn_7 : decode cX3_wantsToTurn 7 = .ok (.tableswitch 156 0 7 #[45, 54, 60, 65, 86, 95, 100, 124], 45) := by decide +kernel
theorem dX3_wantsToTurn_52 : decode cX3_wantsToTurn 52 = .ok (.aload_n 1, 1) := by decide +kernel
theorem dX3_wantsToTurn_53 : decode cX3_wantsToTurn 53 = .ok (.aload_n 0, 1) := by decide +kernel
theorem dX3_wantsToTurn_54 : decode cX3_wantsToTurn 54 = .ok (.getfield 22, 3) := by decide +kernel
theorem dX3_wantsToTurn_57 : decode cX3_wantsToTurn 57 = .ok (.invokevirtual 104, 3) := by decide +kernel
theorem dX3_wantsToTurn_60 : decode cX3_wantsToTurn 60 = .ok (.ireturn, 1) := by decide +kernel
theorem dX3_wantsToTurn_61 : decode cX3_wantsToTurn 61 = .ok (.aload_n 1, 1) := by decide +kernel
theorem dX3_wantsToTurn_62 : decode cX3_wantsToTurn 62 = .ok (.iload_n 3, 1) := by decide +kernel
theorem dX3_wantsToTurn_63 : decode cX3_wantsToTurn 63 = .ok (.invokevirtual 108, 3) := by decide +kernel
theorem dX3_wantsToTurn_66 : decode cX3_wantsToTurn 66 = .ok (.ireturn, 1) := by decide +kernel
theorem dX3_wantsToTurn_67 : decode cX3_wantsToTurn 67 = .ok (.aload_n 1, 1) := by decide +kernel
theorem dX3_wantsToTurn_68 : decode cX3_wantsToTurn 68 = .ok (.getfield 111, 3) := by decide +kernel
theorem dX3_wantsToTurn_71 : decode cX3_wantsToTurn 71 = .ok (.ireturn, 1) := by decide +kernel
theorem dX3_wantsToTurn_72 : decode cX3_wantsToTurn 72 = .ok (.aload_n 1, 1) := by decide +kernel
theorem dX3_wantsToTurn_73 : decode cX3_wantsToTurn 73 = .ok (.getfield 111, 3) := by decide +kernel
theorem dX3_wantsToTurn_76 : decode cX3_wantsToTurn 76 = .ok (.ifCond .ne 11, 3) := by decide +kernel
theorem dX3_wantsToTurn_79 : decode cX3_wantsToTurn 79 = .ok (.aload_n 0, 1) := by decide +kernel
theorem dX3_wantsToTurn_80 : decode cX3_wantsToTurn 80 = .ok (.aload_n 1, 1) := by decide +kernel
theorem dX3_wantsToTurn_81 : decode cX3_wantsToTurn 81 = .ok (.invokevirtual 114, 3) := by decide +kernel
theorem dX3_wantsToTurn_84 : decode cX3_wantsToTurn 84 = .ok (.ifCond .eq 7, 3) := by decide +kernel
theorem dX3_wantsToTurn_87 : decode cX3_wantsToTurn 87 = .ok (.iconst 1, 1) := by decide +kernel
theorem dX3_wantsToTurn_88 : decode cX3_wantsToTurn 88 = .ok (.goto 4, 3) := by decide +kernel
theorem dX3_wantsToTurn_91 : decode cX3_wantsToTurn 91 = .ok (.iconst 0, 1) := by decide +kernel
theorem dX3_wantsToTurn_92 : decode cX3_wantsToTurn 92 = .ok (.ireturn, 1) := by decide +kernel
theorem dX3_wantsToTurn_93 : decode cX3_wantsToTurn 93 = .ok (.aload_n 1, 1) := by decide +kernel
theorem dX3_wantsToTurn_94 : decode cX3_wantsToTurn 94 = .ok (.aload_n 0, 1) := by decide +kernel
theorem dX3_wantsToTurn_95 : decode cX3_wantsToTurn 95 = .ok (.getfield 22, 3) := by decide +kernel
theorem dX3_wantsToTurn_98 : decode cX3_wantsToTurn 98 = .ok (.invokevirtual 118, 3) := by decide +kernel
theorem dX3_wantsToTurn_101 : decode cX3_wantsToTurn 101 = .ok (.ireturn, 1) := by decide +kernel
theorem dX3_wantsToTurn_102 : decode cX3_wantsToTurn 102 = .ok (.aload_n 1, 1) := by decide +kernel
theorem dX3_wantsToTurn_103 : decode cX3_wantsToTurn 103 = .ok (.invokevirtual 121, 3) := by decide +kernel
theorem dX3_wantsToTurn_106 : decode cX3_wantsToTurn 106 = .ok (.ireturn, 1) := by decide +kernel
theorem dX3_wantsToTurn_107 : decode cX3_wantsToTurn 107 = .ok (.aload_n 1, 1) := by decide +kernel
theorem dX3_wantsToTurn_108 : decode cX3_wantsToTurn 108 = .ok (.invokevirtual 121, 3) := by decide +kernel
theorem dX3_wantsToTurn_111 : decode cX3_wantsToTurn 111 = .ok (.ifCond .ne 14, 3) := by decide +kernel
theorem dX3_wantsToTurn_114 : decode cX3_wantsToTurn 114 = .ok (.aload_n 1, 1) := by decide +kernel
theorem dX3_wantsToTurn_115 : decode cX3_wantsToTurn 115 = .ok (.aload_n 2, 1) := by decide +kernel
theorem dX3_wantsToTurn_116 : decode cX3_wantsToTurn 116 = .ok (.getfield 124, 3) := by decide +kernel
theorem dX3_wantsToTurn_119 : decode cX3_wantsToTurn 119 = .ok (.invokevirtual 127, 3) := by decide +kernel
theorem dX3_wantsToTurn_122 : decode cX3_wantsToTurn 122 = .ok (.ifCond .eq 7, 3) := by decide +kernel
theorem dX3_wantsToTurn_125 : decode cX3_wantsToTurn 125 = .ok (.iconst 1, 1) := by decide +kernel
theorem dX3_wantsToTurn_126 : decode cX3_wantsToTurn 126 = .ok (.goto 4, 3) := by decide +kernel
theorem dX3_wantsToTurn_129 : decode cX3_wantsToTurn 129 = .ok (.iconst 0, 1) := by decide +kernel
theorem dX3_wantsToTurn_130 : decode cX3_wantsToTurn 130 = .ok (.ireturn, 1) := by decide +kernel
theorem dX3_wantsToTurn_131 : decode cX3_wantsToTurn 131 = .ok (.aload_n 1, 1) := by decide +kernel
theorem dX3_wantsToTurn_132 : decode cX3_wantsToTurn 132 = .ok (.iload_n 3, 1) := by decide +kernel
theorem dX3_wantsToTurn_133 : decode cX3_wantsToTurn 133 = .ok (.invokevirtual 108, 3) := by decide +kernel
theorem dX3_wantsToTurn_136 : decode cX3_wantsToTurn 136 = .ok (.ifCond .eq 25, 3) := by decide +kernel
theorem dX3_wantsToTurn_139 : decode cX3_wantsToTurn 139 = .ok (.aload_n 2, 1) := by decide +kernel
theorem dX3_wantsToTurn_140 : decode cX3_wantsToTurn 140 = .ok (.getfield 94, 3) := by decide +kernel
theorem dX3_wantsToTurn_143 : decode cX3_wantsToTurn 143 = .ok (.iconst 2, 1) := by decide +kernel
theorem dX3_wantsToTurn_144 : decode cX3_wantsToTurn 144 = .ok (.if_icmp .le 13, 3) := by decide +kernel
theorem dX3_wantsToTurn_147 : decode cX3_wantsToTurn 147 = .ok (.aload_n 0, 1) := by decide +kernel
theorem dX3_wantsToTurn_148 : decode cX3_wantsToTurn 148 = .ok (.getfield 22, 3) := by decide +kernel
theorem dX3_wantsToTurn_151 : decode cX3_wantsToTurn 151 = .ok (.bipush 10, 2) := by decide +kernel
theorem dX3_wantsToTurn_153 : decode cX3_wantsToTurn 153 = .ok (.irem, 1) := by decide +kernel
theorem dX3_wantsToTurn_154 : decode cX3_wantsToTurn 154 = .ok (.ifCond .ne 7, 3) := by decide +kernel
theorem dX3_wantsToTurn_157 : decode cX3_wantsToTurn 157 = .ok (.iconst 1, 1) := by decide +kernel
theorem dX3_wantsToTurn_158 : decode cX3_wantsToTurn 158 = .ok (.goto 4, 3) := by decide +kernel
theorem dX3_wantsToTurn_161 : decode cX3_wantsToTurn 161 = .ok (.iconst 0, 1) := by decide +kernel
theorem dX3_wantsToTurn_162 : decode cX3_wantsToTurn 162 = .ok (.ireturn, 1) := by decide +kernel
theorem dX3_wantsToTurn_163 : decode cX3_wantsToTurn 163 = .ok (.aload_n 1, 1) := by decide +kernel
theorem dX3_wantsToTurn_164 : decode cX3_wantsToTurn 164 = .ok (.aload_n 0, 1) := by decide +kernel
theorem dX3_wantsToTurn_165 : decode cX3_wantsToTurn 165 = .ok (.getfield 22, 3) := by decide +kernel
theorem dX3_wantsToTurn_168 : decode cX3_wantsToTurn 168 = .ok (.invokevirtual 130, 3) := by decide +kernel
theorem dX3_wantsToTurn_171 : decode cX3_wantsToTurn 171 = .ok (.ireturn, 1) := by decide +kernel
theorem dX3_hasToCover_0 : decode cX3_hasToCover 0 = .ok (.aload_n 1, 1) := by decide +kernel
theorem dX3_hasToCover_1 : decode cX3_hasToCover 1 = .ok (.getfield 29, 3) := by decide +kernel
theorem dX3_hasToCover_4 : decode cX3_hasToCover 4 = .ok (.getfield 43, 3) := by decide +kernel
theorem dX3_hasToCover_7 : decode cX3_hasToCover 7 = .ok (.ifCond .le 15, 3) := by decide +kernel
theorem dX3_hasToCover_10 : decode cX3_hasToCover 10 = .ok (.aload_n 1, 1) := by decide +kernel
theorem dX3_hasToCover_11 : decode cX3_hasToCover 11 = .ok (.getfield 29, 3) := by decide +kernel
theorem dX3_hasToCover_14 : decode cX3_hasToCover 14 = .ok (.getfield 43, 3) := by decide +kernel
theorem dX3_hasToCover_17 : decode cX3_hasToCover 17 = .ok (.iconst 1, 1) := by decide +kernel
theorem dX3_hasToCover_18 : decode cX3_hasToCover 18 = .ok (.isub, 1) := by decide +kernel
theorem dX3_hasToCover_19 : decode cX3_hasToCover 19 = .ok (.goto 9, 3) := by decide +kernel
theorem dX3_hasToCover_22 : decode cX3_hasToCover 22 = .ok (.aload_n 0, 1) := by decide +kernel
theorem dX3_hasToCover_23 : decode cX3_hasToCover 23 = .ok (.getfield 18, 3) := by decide +kernel
theorem dX3_hasToCover_26 : decode cX3_hasToCover 26 = .ok (.iconst 1, 1) := by decide +kernel
theorem dX3_hasToCover_27 : decode cX3_hasToCover 27 = .ok (.isub, 1) := by decide +kernel
theorem dX3_hasToCover_28 : decode cX3_hasToCover 28 = .ok (.istore_n 2, 1) := by decide +kernel
theorem dX3_hasToCover_29 : decode cX3_hasToCover 29 = .ok (.iload_n 2, 1) := by decide +kernel
theorem dX3_hasToCover_30 : decode cX3_hasToCover 30 = .ok (.ifCond .lt 22, 3) := by decide +kernel
theorem dX3_hasToCover_33 : decode cX3_hasToCover 33 = .ok (.iload_n 2, 1) := by decide +kernel
theorem dX3_hasToCover_34 : decode cX3_hasToCover 34 = .ok (.aload_n 0, 1) := by decide +kernel
theorem dX3_hasToCover_35 : decode cX3_hasToCover 35 = .ok (.getfield 11, 3) := by decide +kernel
theorem dX3_hasToCover_38 : decode cX3_hasToCover 38 = .ok (.arraylength, 1) := by decide +kernel
theorem dX3_hasToCover_39 : decode cX3_hasToCover 39 = .ok (.if_icmp .ge 13, 3) := by decide +kernel
theorem dX3_hasToCover_42 : decode cX3_hasToCover 42 = .ok (.aload_n 0, 1) := by decide +kernel
theorem dX3_hasToCover_43 : decode cX3_hasToCover 43 = .ok (.getfield 11, 3) := by decide +kernel
theorem dX3_hasToCover_46 : decode cX3_hasToCover 46 = .ok (.iload_n 2, 1) := by decide +kernel
theorem dX3_hasToCover_47 : decode cX3_hasToCover 47 = .ok (.aaload, 1) := by decide +kernel
theorem dX3_hasToCover_48 : decode cX3_hasToCover 48 = .ok (.aload_n 1, 1) := by decide +kernel
theorem dX3_hasToCover_49 : decode cX3_hasToCover 49 = .ok (.if_acmp .ne 5, 3) := by decide +kernel
theorem dX3_hasToCover_52 : decode cX3_hasToCover 52 = .ok (.iconst 0, 1) := by decide +kernel
theorem dX3_hasToCover_53 : decode cX3_hasToCover 53 = .ok (.ireturn, 1) := by decide +kernel
theorem dX3_hasToCover_54 : decode cX3_hasToCover 54 = .ok (.aload_n 0, 1) := by decide +kernel
theorem dX3_hasToCover_55 : decode cX3_hasToCover 55 = .ok (.getfield 11, 3) := by decide +kernel
theorem dX3_hasToCover_58 : decode cX3_hasToCover 58 = .ok (.iload_n 2, 1) := by decide +kernel
theorem dX3_hasToCover_59 : decode cX3_hasToCover 59 = .ok (.aaload, 1) := by decide +kernel
theorem dX3_hasToCover_60 : decode cX3_hasToCover 60 = .ok (.getfield 133, 3) := by decide +kernel
theorem dX3_hasToCover_63 : decode cX3_hasToCover 63 = .ok (.aload_n 1, 1) := by decide +kernel
theorem dX3_hasToCover_64 : decode cX3_hasToCover 64 = .ok (.getfield 133, 3) := by decide +kernel
theorem dX3_hasToCover_67 : decode cX3_hasToCover 67 = .ok (.if_icmp .eq 23, 3) := by decide +kernel
theorem dX3_hasToCover_70 : decode cX3_hasToCover 70 = .ok (.aload_n 0, 1) := by decide +kernel
theorem dX3_hasToCover_71 : decode cX3_hasToCover 71 = .ok (.getfield 11, 3) := by decide +kernel
theorem dX3_hasToCover_74 : decode cX3_hasToCover 74 = .ok (.iload_n 2, 1) := by decide +kernel
theorem dX3_hasToCover_75 : decode cX3_hasToCover 75 = .ok (.aaload, 1) := by decide +kernel
theorem dX3_hasToCover_76 : decode cX3_hasToCover 76 = .ok (.getfield 53, 3) := by decide +kernel
theorem dX3_hasToCover_79 : decode cX3_hasToCover 79 = .ok (.aload_n 1, 1) := by decide +kernel
theorem dX3_hasToCover_80 : decode cX3_hasToCover 80 = .ok (.getfield 53, 3) := by decide +kernel
theorem dX3_hasToCover_83 : decode cX3_hasToCover 83 = .ok (.if_icmp .ge 7, 3) := by decide +kernel
theorem dX3_hasToCover_86 : decode cX3_hasToCover 86 = .ok (.iconst 1, 1) := by decide +kernel
theorem dX3_hasToCover_87 : decode cX3_hasToCover 87 = .ok (.goto 4, 3) := by decide +kernel
theorem dX3_hasToCover_90 : decode cX3_hasToCover 90 = .ok (.iconst 0, 1) := by decide +kernel
theorem dX3_hasToCover_91 : decode cX3_hasToCover 91 = .ok (.ireturn, 1) := by decide +kernel
theorem dX3_tellBadAir_0 : decode cX3_tellBadAir 0 = .ok (.iconst 0, 1) := by decide +kernel
theorem dX3_tellBadAir_1 : decode cX3_tellBadAir 1 = .ok (.istore_n 1, 1) := by decide +kernel
theorem dX3_tellBadAir_2 : decode cX3_tellBadAir 2 = .ok (.iload_n 1, 1) := by decide +kernel
theorem dX3_tellBadAir_3 : decode cX3_tellBadAir 3 = .ok (.aload_n 0, 1) := by decide +kernel
theorem dX3_tellBadAir_4 : decode cX3_tellBadAir 4 = .ok (.getfield 18, 3) := by decide +kernel
theorem dX3_tellBadAir_7 : decode cX3_tellBadAir 7 = .ok (.if_icmp .ge 81, 3) := by decide +kernel
theorem dX3_tellBadAir_10 : decode cX3_tellBadAir 10 = .ok (.iload_n 1, 1) := by decide +kernel
theorem dX3_tellBadAir_11 : decode cX3_tellBadAir 11 = .ok (.aload_n 0, 1) := by decide +kernel
theorem dX3_tellBadAir_12 : decode cX3_tellBadAir 12 = .ok (.getfield 11, 3) := by decide +kernel
theorem dX3_tellBadAir_15 : decode cX3_tellBadAir 15 = .ok (.arraylength, 1) := by decide +kernel
theorem dX3_tellBadAir_16 : decode cX3_tellBadAir 16 = .ok (.if_icmp .ge 72, 3) := by decide +kernel
theorem dX3_tellBadAir_19 : decode cX3_tellBadAir 19 = .ok (.aload_n 0, 1) := by decide +kernel
theorem dX3_tellBadAir_20 : decode cX3_tellBadAir 20 = .ok (.getfield 11, 3) := by decide +kernel
theorem dX3_tellBadAir_23 : decode cX3_tellBadAir 23 = .ok (.iload_n 1, 1) := by decide +kernel
theorem dX3_tellBadAir_24 : decode cX3_tellBadAir 24 = .ok (.aaload, 1) := by decide +kernel
theorem dX3_tellBadAir_25 : decode cX3_tellBadAir 25 = .ok (.iconst 0, 1) := by decide +kernel
theorem dX3_tellBadAir_26 : decode cX3_tellBadAir 26 = .ok (.putfield 111, 3) := by decide +kernel
theorem dX3_tellBadAir_29 : decode cX3_tellBadAir 29 = .ok (.iconst 0, 1) := by decide +kernel
theorem dX3_tellBadAir_30 : decode cX3_tellBadAir 30 = .ok (.istore_n 2, 1) := by decide +kernel
theorem dX3_tellBadAir_31 : decode cX3_tellBadAir 31 = .ok (.iload_n 2, 1) := by decide +kernel
theorem dX3_tellBadAir_32 : decode cX3_tellBadAir 32 = .ok (.aload_n 0, 1) := by decide +kernel
theorem dX3_tellBadAir_33 : decode cX3_tellBadAir 33 = .ok (.getfield 18, 3) := by decide +kernel
theorem dX3_tellBadAir_36 : decode cX3_tellBadAir 36 = .ok (.if_icmp .ge 46, 3) := by decide +kernel
theorem dX3_tellBadAir_39 : decode cX3_tellBadAir 39 = .ok (.iload_n 2, 1) := by decide +kernel
theorem dX3_tellBadAir_40 : decode cX3_tellBadAir 40 = .ok (.aload_n 0, 1) := by decide +kernel
theorem dX3_tellBadAir_41 : decode cX3_tellBadAir 41 = .ok (.getfield 11, 3) := by decide +kernel
theorem dX3_tellBadAir_44 : decode cX3_tellBadAir 44 = .ok (.arraylength, 1) := by decide +kernel
theorem dX3_tellBadAir_45 : decode cX3_tellBadAir 45 = .ok (.if_icmp .ge 37, 3) := by decide +kernel
theorem dX3_tellBadAir_48 : decode cX3_tellBadAir 48 = .ok (.aload_n 0, 1) := by decide +kernel
theorem dX3_tellBadAir_49 : decode cX3_tellBadAir 49 = .ok (.getfield 11, 3) := by decide +kernel
theorem dX3_tellBadAir_52 : decode cX3_tellBadAir 52 = .ok (.iload_n 2, 1) := by decide +kernel
theorem dX3_tellBadAir_53 : decode cX3_tellBadAir 53 = .ok (.aaload, 1) := by decide +kernel
theorem dX3_tellBadAir_54 : decode cX3_tellBadAir 54 = .ok (.aload_n 0, 1) := by decide +kernel
theorem dX3_tellBadAir_55 : decode cX3_tellBadAir 55 = .ok (.getfield 11, 3) := by decide +kernel
theorem dX3_tellBadAir_58 : decode cX3_tellBadAir 58 = .ok (.iload_n 1, 1) := by decide +kernel
theorem dX3_tellBadAir_59 : decode cX3_tellBadAir 59 = .ok (.aaload, 1) := by decide +kernel
theorem dX3_tellBadAir_60 : decode cX3_tellBadAir 60 = .ok (.invokevirtual 136, 3) := by decide +kernel
theorem dX3_tellBadAir_63 : decode cX3_tellBadAir 63 = .ok (.ifCond .eq 13, 3) := by decide +kernel
theorem dX3_tellBadAir_66 : decode cX3_tellBadAir 66 = .ok (.aload_n 0, 1) := by decide +kernel
theorem dX3_tellBadAir_67 : decode cX3_tellBadAir 67 = .ok (.getfield 11, 3) := by decide +kernel
theorem dX3_tellBadAir_70 : decode cX3_tellBadAir 70 = .ok (.iload_n 1, 1) := by decide +kernel
theorem dX3_tellBadAir_71 : decode cX3_tellBadAir 71 = .ok (.aaload, 1) := by decide +kernel
theorem dX3_tellBadAir_72 : decode cX3_tellBadAir 72 = .ok (.iconst 1, 1) := by decide +kernel
theorem dX3_tellBadAir_73 : decode cX3_tellBadAir 73 = .ok (.putfield 111, 3) := by decide +kernel
theorem dX3_tellBadAir_76 : decode cX3_tellBadAir 76 = .ok (.iinc 2 1, 3) := by decide +kernel
theorem dX3_tellBadAir_79 : decode cX3_tellBadAir 79 = .ok (.goto (-48), 3) := by decide +kernel
theorem dX3_tellBadAir_82 : decode cX3_tellBadAir 82 = .ok (.iinc 1 1, 3) := by decide +kernel
theorem dX3_tellBadAir_85 : decode cX3_tellBadAir 85 = .ok (.goto (-83), 3) := by decide +kernel
theorem dX3_tellBadAir_88 : decode cX3_tellBadAir 88 = .ok (.return_, 1) := by decide +kernel
theorem dX3_howManyIn_0 : decode cX3_howManyIn 0 = .ok (.iconst 0, 1) := by decide +kernel
theorem dX3_howManyIn_1 : decode cX3_howManyIn 1 = .ok (.istore_n 1, 1) := by decide +kernel
theorem dX3_howManyIn_2 : decode cX3_howManyIn 2 = .ok (.iconst 0, 1) := by decide +kernel
theorem dX3_howManyIn_3 : decode cX3_howManyIn 3 = .ok (.istore_n 2, 1) := by decide +kernel
theorem dX3_howManyIn_4 : decode cX3_howManyIn 4 = .ok (.iload_n 2, 1) := by decide +kernel
theorem dX3_howManyIn_5 : decode cX3_howManyIn 5 = .ok (.aload_n 0, 1) := by decide +kernel
theorem dX3_howManyIn_6 : decode cX3_howManyIn 6 = .ok (.getfield 18, 3) := by decide +kernel
theorem dX3_howManyIn_9 : decode cX3_howManyIn 9 = .ok (.if_icmp .ge 38, 3) := by decide +kernel
theorem dX3_howManyIn_12 : decode cX3_howManyIn 12 = .ok (.iload_n 2, 1) := by decide +kernel
theorem dX3_howManyIn_13 : decode cX3_howManyIn 13 = .ok (.aload_n 0, 1) := by decide +kernel
theorem dX3_howManyIn_14 : decode cX3_howManyIn 14 = .ok (.getfield 11, 3) := by decide +kernel
theorem dX3_howManyIn_17 : decode cX3_howManyIn 17 = .ok (.arraylength, 1) := by decide +kernel
theorem dX3_howManyIn_18 : decode cX3_howManyIn 18 = .ok (.if_icmp .ge 29, 3) := by decide +kernel
theorem dX3_howManyIn_21 : decode cX3_howManyIn 21 = .ok (.iload_n 1, 1) := by decide +kernel
theorem dX3_howManyIn_22 : decode cX3_howManyIn 22 = .ok (.aload_n 0, 1) := by decide +kernel
theorem dX3_howManyIn_23 : decode cX3_howManyIn 23 = .ok (.getfield 11, 3) := by decide +kernel
theorem dX3_howManyIn_26 : decode cX3_howManyIn 26 = .ok (.iload_n 2, 1) := by decide +kernel
theorem dX3_howManyIn_27 : decode cX3_howManyIn 27 = .ok (.aaload, 1) := by decide +kernel
theorem dX3_howManyIn_28 : decode cX3_howManyIn 28 = .ok (.invokevirtual 139, 3) := by decide +kernel
theorem dX3_howManyIn_31 : decode cX3_howManyIn 31 = .ok (.ifCond .eq 7, 3) := by decide +kernel
theorem dX3_howManyIn_34 : decode cX3_howManyIn 34 = .ok (.iconst 1, 1) := by decide +kernel
theorem dX3_howManyIn_35 : decode cX3_howManyIn 35 = .ok (.goto 4, 3) := by decide +kernel
theorem dX3_howManyIn_38 : decode cX3_howManyIn 38 = .ok (.iconst 0, 1) := by decide +kernel
theorem dX3_howManyIn_39 : decode cX3_howManyIn 39 = .ok (.iadd, 1) := by decide +kernel
theorem dX3_howManyIn_40 : decode cX3_howManyIn 40 = .ok (.istore_n 1, 1) := by decide +kernel
theorem dX3_howManyIn_41 : decode cX3_howManyIn 41 = .ok (.iinc 2 1, 3) := by decide +kernel
theorem dX3_howManyIn_44 : decode cX3_howManyIn 44 = .ok (.goto (-40), 3) := by decide +kernel
theorem dX3_howManyIn_47 : decode cX3_howManyIn 47 = .ok (.iload_n 1, 1) := by decide +kernel
theorem dX3_howManyIn_48 : decode cX3_howManyIn 48 = .ok (.ireturn, 1) := by decide +kernel
theorem dX3_howManyInBadAir_0 : decode cX3_howManyInBadAir 0 = .ok (.aload_n 0, 1) := by decide +kernel
theorem dX3_howManyInBadAir_1 : decode cX3_howManyInBadAir 1 = .ok (.invokevirtual 73, 3) := by decide +kernel
theorem dX3_howManyInBadAir_4 : decode cX3_howManyInBadAir 4 = .ok (.iconst 0, 1) := by decide +kernel
theorem dX3_howManyInBadAir_5 : decode cX3_howManyInBadAir 5 = .ok (.istore_n 1, 1) := by decide +kernel
theorem dX3_howManyInBadAir_6 : decode cX3_howManyInBadAir 6 = .ok (.iconst 0, 1) := by decide +kernel
theorem dX3_howManyInBadAir_7 : decode cX3_howManyInBadAir 7 = .ok (.istore_n 2, 1) := by decide +kernel
theorem dX3_howManyInBadAir_8 : decode cX3_howManyInBadAir 8 = .ok (.iload_n 2, 1) := by decide +kernel
theorem dX3_howManyInBadAir_9 : decode cX3_howManyInBadAir 9 = .ok (.aload_n 0, 1) := by decide +kernel
theorem dX3_howManyInBadAir_10 : decode cX3_howManyInBadAir 10 = .ok (.getfield 18, 3) := by decide +kernel
theorem dX3_howManyInBadAir_13 : decode cX3_howManyInBadAir 13 = .ok (.if_icmp .ge 38, 3) := by decide +kernel
theorem dX3_howManyInBadAir_16 : decode cX3_howManyInBadAir 16 = .ok (.iload_n 2, 1) := by decide +kernel
theorem dX3_howManyInBadAir_17 : decode cX3_howManyInBadAir 17 = .ok (.aload_n 0, 1) := by decide +kernel
theorem dX3_howManyInBadAir_18 : decode cX3_howManyInBadAir 18 = .ok (.getfield 11, 3) := by decide +kernel
theorem dX3_howManyInBadAir_21 : decode cX3_howManyInBadAir 21 = .ok (.arraylength, 1) := by decide +kernel
theorem dX3_howManyInBadAir_22 : decode cX3_howManyInBadAir 22 = .ok (.if_icmp .ge 29, 3) := by decide +kernel
theorem dX3_howManyInBadAir_25 : decode cX3_howManyInBadAir 25 = .ok (.iload_n 1, 1) := by decide +kernel
theorem dX3_howManyInBadAir_26 : decode cX3_howManyInBadAir 26 = .ok (.aload_n 0, 1) := by decide +kernel
theorem dX3_howManyInBadAir_27 : decode cX3_howManyInBadAir 27 = .ok (.getfield 11, 3) := by decide +kernel
theorem dX3_howManyInBadAir_30 : decode cX3_howManyInBadAir 30 = .ok (.iload_n 2, 1) := by decide +kernel
theorem dX3_howManyInBadAir_31 : decode cX3_howManyInBadAir 31 = .ok (.aaload, 1) := by decide +kernel
theorem dX3_howManyInBadAir_32 : decode cX3_howManyInBadAir 32 = .ok (.getfield 111, 3) := by decide +kernel
theorem dX3_howManyInBadAir_35 : decode cX3_howManyInBadAir 35 = .ok (.ifCond .eq 7, 3) := by decide +kernel
theorem dX3_howManyInBadAir_38 : decode cX3_howManyInBadAir 38 = .ok (.iconst 1, 1) := by decide +kernel
theorem dX3_howManyInBadAir_39 : decode cX3_howManyInBadAir 39 = .ok (.goto 4, 3) := by decide +kernel
theorem dX3_howManyInBadAir_42 : decode cX3_howManyInBadAir 42 = .ok (.iconst 0, 1) := by decide +kernel
theorem dX3_howManyInBadAir_43 : decode cX3_howManyInBadAir 43 = .ok (.iadd, 1) := by decide +kernel
theorem dX3_howManyInBadAir_44 : decode cX3_howManyInBadAir 44 = .ok (.istore_n 1, 1) := by decide +kernel
theorem dX3_howManyInBadAir_45 : decode cX3_howManyInBadAir 45 = .ok (.iinc 2 1, 3) := by decide +kernel
theorem dX3_howManyInBadAir_48 : decode cX3_howManyInBadAir 48 = .ok (.goto (-40), 3) := by decide +kernel
theorem dX3_howManyInBadAir_51 : decode cX3_howManyInBadAir 51 = .ok (.iload_n 1, 1) := by decide +kernel
theorem dX3_howManyInBadAir_52 : decode cX3_howManyInBadAir 52 = .ok (.ireturn, 1) := by decide +kernel
theorem dX3_allTurns_0 : decode cX3_allTurns 0 = .ok (.iconst 0, 1) := by decide +kernel
theorem dX3_allTurns_1 : decode cX3_allTurns 1 = .ok (.istore_n 1, 1) := by decide +kernel
theorem dX3_allTurns_2 : decode cX3_allTurns 2 = .ok (.iconst 0, 1) := by decide +kernel
theorem dX3_allTurns_3 : decode cX3_allTurns 3 = .ok (.istore_n 2, 1) := by decide +kernel
theorem dX3_allTurns_4 : decode cX3_allTurns 4 = .ok (.iload_n 2, 1) := by decide +kernel
theorem dX3_allTurns_5 : decode cX3_allTurns 5 = .ok (.aload_n 0, 1) := by decide +kernel
theorem dX3_allTurns_6 : decode cX3_allTurns 6 = .ok (.getfield 18, 3) := by decide +kernel
theorem dX3_allTurns_9 : decode cX3_allTurns 9 = .ok (.if_icmp .ge 30, 3) := by decide +kernel
theorem dX3_allTurns_12 : decode cX3_allTurns 12 = .ok (.iload_n 2, 1) := by decide +kernel
theorem dX3_allTurns_13 : decode cX3_allTurns 13 = .ok (.aload_n 0, 1) := by decide +kernel
theorem dX3_allTurns_14 : decode cX3_allTurns 14 = .ok (.getfield 11, 3) := by decide +kernel
theorem dX3_allTurns_17 : decode cX3_allTurns 17 = .ok (.arraylength, 1) := by decide +kernel
theorem dX3_allTurns_18 : decode cX3_allTurns 18 = .ok (.if_icmp .ge 21, 3) := by decide +kernel
theorem dX3_allTurns_21 : decode cX3_allTurns 21 = .ok (.iload_n 1, 1) := by decide +kernel
theorem dX3_allTurns_22 : decode cX3_allTurns 22 = .ok (.aload_n 0, 1) := by decide +kernel
theorem dX3_allTurns_23 : decode cX3_allTurns 23 = .ok (.getfield 11, 3) := by decide +kernel
theorem dX3_allTurns_26 : decode cX3_allTurns 26 = .ok (.iload_n 2, 1) := by decide +kernel
theorem dX3_allTurns_27 : decode cX3_allTurns 27 = .ok (.aaload, 1) := by decide +kernel
theorem dX3_allTurns_28 : decode cX3_allTurns 28 = .ok (.getfield 142, 3) := by decide +kernel
theorem dX3_allTurns_31 : decode cX3_allTurns 31 = .ok (.iadd, 1) := by decide +kernel
theorem dX3_allTurns_32 : decode cX3_allTurns 32 = .ok (.istore_n 1, 1) := by decide +kernel
theorem dX3_allTurns_33 : decode cX3_allTurns 33 = .ok (.iinc 2 1, 3) := by decide +kernel
theorem dX3_allTurns_36 : decode cX3_allTurns 36 = .ok (.goto (-32), 3) := by decide +kernel
theorem dX3_allTurns_39 : decode cX3_allTurns 39 = .ok (.iload_n 1, 1) := by decide +kernel
theorem dX3_allTurns_40 : decode cX3_allTurns 40 = .ok (.ireturn, 1) := by decide +kernel
theorem dX3_placeOf_0 : decode cX3_placeOf 0 = .ok (.iconst 1, 1) := by decide +kernel
theorem dX3_placeOf_1 : decode cX3_placeOf 1 = .ok (.istore_n 2, 1) := by decide +kernel
theorem dX3_placeOf_2 : decode cX3_placeOf 2 = .ok (.iconst 0, 1) := by decide +kernel
theorem dX3_placeOf_3 : decode cX3_placeOf 3 = .ok (.istore_n 3, 1) := by decide +kernel
theorem dX3_placeOf_4 : decode cX3_placeOf 4 = .ok (.aload_n 1, 1) := by decide +kernel
theorem dX3_placeOf_5 : decode cX3_placeOf 5 = .ok (.ifnull 47, 3) := by decide +kernel
theorem dX3_placeOf_8 : decode cX3_placeOf 8 = .ok (.iload_n 3, 1) := by decide +kernel
theorem dX3_placeOf_9 : decode cX3_placeOf 9 = .ok (.aload_n 0, 1) := by decide +kernel
theorem dX3_placeOf_10 : decode cX3_placeOf 10 = .ok (.getfield 18, 3) := by decide +kernel
theorem dX3_placeOf_13 : decode cX3_placeOf 13 = .ok (.if_icmp .ge 39, 3) := by decide +kernel
theorem dX3_placeOf_16 : decode cX3_placeOf 16 = .ok (.iload_n 3, 1) := by decide +kernel
theorem dX3_placeOf_17 : decode cX3_placeOf 17 = .ok (.aload_n 0, 1) := by decide +kernel
theorem dX3_placeOf_18 : decode cX3_placeOf 18 = .ok (.getfield 11, 3) := by decide +kernel
theorem dX3_placeOf_21 : decode cX3_placeOf 21 = .ok (.arraylength, 1) := by decide +kernel
theorem dX3_placeOf_22 : decode cX3_placeOf 22 = .ok (.if_icmp .ge 30, 3) := by decide +kernel
theorem dX3_placeOf_25 : decode cX3_placeOf 25 = .ok (.iload_n 2, 1) := by decide +kernel
theorem dX3_placeOf_26 : decode cX3_placeOf 26 = .ok (.aload_n 0, 1) := by decide +kernel
theorem dX3_placeOf_27 : decode cX3_placeOf 27 = .ok (.getfield 11, 3) := by decide +kernel
theorem dX3_placeOf_30 : decode cX3_placeOf 30 = .ok (.iload_n 3, 1) := by decide +kernel
theorem dX3_placeOf_31 : decode cX3_placeOf 31 = .ok (.aaload, 1) := by decide +kernel
theorem dX3_placeOf_32 : decode cX3_placeOf 32 = .ok (.aload_n 1, 1) := by decide +kernel
theorem dX3_placeOf_33 : decode cX3_placeOf 33 = .ok (.invokevirtual 145, 3) := by decide +kernel
theorem dX3_placeOf_36 : decode cX3_placeOf 36 = .ok (.ifCond .eq 7, 3) := by decide +kernel
theorem dX3_placeOf_39 : decode cX3_placeOf 39 = .ok (.iconst 1, 1) := by decide +kernel
theorem dX3_placeOf_40 : decode cX3_placeOf 40 = .ok (.goto 4, 3) := by decide +kernel
theorem dX3_placeOf_43 : decode cX3_placeOf 43 = .ok (.iconst 0, 1) := by decide +kernel
theorem dX3_placeOf_44 : decode cX3_placeOf 44 = .ok (.iadd, 1) := by decide +kernel
theorem dX3_placeOf_45 : decode cX3_placeOf 45 = .ok (.istore_n 2, 1) := by decide +kernel
theorem dX3_placeOf_46 : decode cX3_placeOf 46 = .ok (.iinc 3 1, 3) := by decide +kernel
theorem dX3_placeOf_49 : decode cX3_placeOf 49 = .ok (.goto (-45), 3) := by decide +kernel
theorem dX3_placeOf_52 : decode cX3_placeOf 52 = .ok (.iload_n 2, 1) := by decide +kernel
theorem dX3_placeOf_53 : decode cX3_placeOf 53 = .ok (.ireturn, 1) := by decide +kernel
theorem dX3_boatAtPlace_0 : decode cX3_boatAtPlace 0 = .ok (.iconst 0, 1) := by decide +kernel
theorem dX3_boatAtPlace_1 : decode cX3_boatAtPlace 1 = .ok (.istore_n 2, 1) := by decide +kernel
theorem dX3_boatAtPlace_2 : decode cX3_boatAtPlace 2 = .ok (.iload_n 2, 1) := by decide +kernel
theorem dX3_boatAtPlace_3 : decode cX3_boatAtPlace 3 = .ok (.aload_n 0, 1) := by decide +kernel
theorem dX3_boatAtPlace_4 : decode cX3_boatAtPlace 4 = .ok (.getfield 18, 3) := by decide +kernel
theorem dX3_boatAtPlace_7 : decode cX3_boatAtPlace 7 = .ok (.if_icmp .ge 34, 3) := by decide +kernel
theorem dX3_boatAtPlace_10 : decode cX3_boatAtPlace 10 = .ok (.iload_n 2, 1) := by decide +kernel
theorem dX3_boatAtPlace_11 : decode cX3_boatAtPlace 11 = .ok (.aload_n 0, 1) := by decide +kernel
theorem dX3_boatAtPlace_12 : decode cX3_boatAtPlace 12 = .ok (.getfield 11, 3) := by decide +kernel
theorem dX3_boatAtPlace_15 : decode cX3_boatAtPlace 15 = .ok (.arraylength, 1) := by decide +kernel
theorem dX3_boatAtPlace_16 : decode cX3_boatAtPlace 16 = .ok (.if_icmp .ge 25, 3) := by decide +kernel
theorem dX3_boatAtPlace_19 : decode cX3_boatAtPlace 19 = .ok (.aload_n 0, 1) := by decide +kernel
theorem dX3_boatAtPlace_20 : decode cX3_boatAtPlace 20 = .ok (.aload_n 0, 1) := by decide +kernel
theorem dX3_boatAtPlace_21 : decode cX3_boatAtPlace 21 = .ok (.getfield 11, 3) := by decide +kernel
theorem dX3_boatAtPlace_24 : decode cX3_boatAtPlace 24 = .ok (.iload_n 2, 1) := by decide +kernel
theorem dX3_boatAtPlace_25 : decode cX3_boatAtPlace 25 = .ok (.aaload, 1) := by decide +kernel
theorem dX3_boatAtPlace_26 : decode cX3_boatAtPlace 26 = .ok (.invokevirtual 148, 3) := by decide +kernel
theorem dX3_boatAtPlace_29 : decode cX3_boatAtPlace 29 = .ok (.iload_n 1, 1) := by decide +kernel
theorem dX3_boatAtPlace_30 : decode cX3_boatAtPlace 30 = .ok (.if_icmp .ne 5, 3) := by decide +kernel
theorem dX3_boatAtPlace_33 : decode cX3_boatAtPlace 33 = .ok (.iload_n 2, 1) := by decide +kernel
theorem dX3_boatAtPlace_34 : decode cX3_boatAtPlace 34 = .ok (.ireturn, 1) := by decide +kernel
theorem dX3_boatAtPlace_35 : decode cX3_boatAtPlace 35 = .ok (.iinc 2 1, 3) := by decide +kernel
theorem dX3_boatAtPlace_38 : decode cX3_boatAtPlace 38 = .ok (.goto (-36), 3) := by decide +kernel
theorem dX3_boatAtPlace_41 : decode cX3_boatAtPlace 41 = .ok (.bipush (-4), 2) := by decide +kernel
theorem dX3_boatAtPlace_43 : decode cX3_boatAtPlace 43 = .ok (.ireturn, 1) := by decide +kernel
theorem dX3_leadOfFirst_0 : decode cX3_leadOfFirst 0 = .ok (.aload_n 0, 1) := by decide +kernel
theorem dX3_leadOfFirst_1 : decode cX3_leadOfFirst 1 = .ok (.iconst 0, 1) := by decide +kernel
theorem dX3_leadOfFirst_2 : decode cX3_leadOfFirst 2 = .ok (.invokevirtual 152, 3) := by decide +kernel
theorem dX3_leadOfFirst_5 : decode cX3_leadOfFirst 5 = .ok (.astore_n 2, 1) := by decide +kernel
theorem dX3_leadOfFirst_6 : decode cX3_leadOfFirst 6 = .ok (.aload_n 0, 1) := by decide +kernel
theorem dX3_leadOfFirst_7 : decode cX3_leadOfFirst 7 = .ok (.iconst 1, 1) := by decide +kernel
theorem dX3_leadOfFirst_8 : decode cX3_leadOfFirst 8 = .ok (.invokevirtual 152, 3) := by decide +kernel
theorem dX3_leadOfFirst_11 : decode cX3_leadOfFirst 11 = .ok (.astore_n 3, 1) := by decide +kernel
theorem dX3_leadOfFirst_12 : decode cX3_leadOfFirst 12 = .ok (.aload_n 2, 1) := by decide +kernel
theorem dX3_leadOfFirst_13 : decode cX3_leadOfFirst 13 = .ok (.ifnull 7, 3) := by decide +kernel
theorem dX3_leadOfFirst_16 : decode cX3_leadOfFirst 16 = .ok (.aload_n 3, 1) := by decide +kernel
theorem dX3_leadOfFirst_17 : decode cX3_leadOfFirst 17 = .ok (.ifnonnull 5, 3) := by decide +kernel
theorem dX3_leadOfFirst_20 : decode cX3_leadOfFirst 20 = .ok (.iconst 0, 1) := by decide +kernel
theorem dX3_leadOfFirst_21 : decode cX3_leadOfFirst 21 = .ok (.ireturn, 1) := by decide +kernel
theorem dX3_leadOfFirst_22 : decode cX3_leadOfFirst 22 = .ok (.aload_n 2, 1) := by decide +kernel
theorem dX3_leadOfFirst_23 : decode cX3_leadOfFirst 23 = .ok (.invokevirtual 139, 3) := by decide +kernel
theorem dX3_leadOfFirst_26 : decode cX3_leadOfFirst 26 = .ok (.ifCond .eq 7, 3) := by decide +kernel
theorem dX3_leadOfFirst_29 : decode cX3_leadOfFirst 29 = .ok (.iload_n 1, 1) := by decide +kernel
theorem dX3_leadOfFirst_30 : decode cX3_leadOfFirst 30 = .ok (.goto 7, 3) := by decide +kernel
theorem dX3_leadOfFirst_33 : decode cX3_leadOfFirst 33 = .ok (.aload_n 2, 1) := by decide +kernel
theorem dX3_leadOfFirst_34 : decode cX3_leadOfFirst 34 = .ok (.invokevirtual 156, 3) := by decide +kernel
theorem dX3_leadOfFirst_37 : decode cX3_leadOfFirst 37 = .ok (.aload_n 3, 1) := by decide +kernel
theorem dX3_leadOfFirst_38 : decode cX3_leadOfFirst 38 = .ok (.invokevirtual 139, 3) := by decide +kernel
theorem dX3_leadOfFirst_41 : decode cX3_leadOfFirst 41 = .ok (.ifCond .eq 7, 3) := by decide +kernel
theorem dX3_leadOfFirst_44 : decode cX3_leadOfFirst 44 = .ok (.iload_n 1, 1) := by decide +kernel
theorem dX3_leadOfFirst_45 : decode cX3_leadOfFirst 45 = .ok (.goto 7, 3) := by decide +kernel
theorem dX3_leadOfFirst_48 : decode cX3_leadOfFirst 48 = .ok (.aload_n 3, 1) := by decide +kernel
theorem dX3_leadOfFirst_49 : decode cX3_leadOfFirst 49 = .ok (.invokevirtual 156, 3) := by decide +kernel
theorem dX3_leadOfFirst_52 : decode cX3_leadOfFirst 52 = .ok (.isub, 1) := by decide +kernel
theorem dX3_leadOfFirst_53 : decode cX3_leadOfFirst 53 = .ok (.ireturn, 1) := by decide +kernel
theorem dX4_init_0 : decode cX4_init 0 = .ok (.aload_n 0, 1) := by decide +kernel
theorem dX4_init_1 : decode cX4_init 1 = .ok (.invokespecial 3, 3) := by decide +kernel
theorem dX4_init_4 : decode cX4_init 4 = .ok (.return_, 1) := by decide +kernel
theorem dX4_become_0 : decode cX4_become 0 = .ok (.aload_n 0, 1) := by decide +kernel
theorem dX4_become_1 : decode cX4_become 1 = .ok (.iload_n 1, 1) := by decide +kernel
theorem dX4_become_2 : decode cX4_become 2 = .ok (.putfield 9, 3) := by decide +kernel
theorem dX4_become_5 : decode cX4_become 5 = .ok (.aload_n 0, 1) := by decide +kernel
theorem dX4_become_6 : decode cX4_become 6 = .ok (.iload_n 2, 1) := by decide +kernel
theorem dX4_become_7 : decode cX4_become 7 = .ok (.putfield 15, 3) := by decide +kernel
theorem dX4_become_10 : decode cX4_become 10 = .ok (.aload_n 0, 1) := by decide +kernel
theorem dX4_become_11 : decode cX4_become 11 = .ok (.iload_n 3, 1) := by decide +kernel
theorem dX4_become_12 : decode cX4_become 12 = .ok (.putfield 18, 3) := by decide +kernel
theorem dX4_become_15 : decode cX4_become 15 = .ok (.return_, 1) := by decide +kernel
theorem dX4_skilled_0 : decode cX4_skilled 0 = .ok (.aload_n 0, 1) := by decide +kernel
theorem dX4_skilled_1 : decode cX4_skilled 1 = .ok (.getfield 9, 3) := by decide +kernel
theorem dX4_skilled_4 : decode cX4_skilled 4 = .ok (.tableswitch 87 1 7 #[44, 52, 55, 58, 66, 69, 77], 44) := by decide +kernel
theorem dX4_skilled_48 : decode cX4_skilled 48 = .ok (.bipush 10, 2) := by decide +kernel
theorem dX4_skilled_50 : decode cX4_skilled 50 = .ok (.aload_n 0, 1) := by decide +kernel
theorem dX4_skilled_51 : decode cX4_skilled 51 = .ok (.getfield 15, 3) := by decide +kernel
theorem dX4_skilled_54 : decode cX4_skilled 54 = .ok (.iadd, 1) := by decide +kernel
theorem dX4_skilled_55 : decode cX4_skilled 55 = .ok (.ireturn, 1) := by decide +kernel
theorem dX4_skilled_56 : decode cX4_skilled 56 = .ok (.bipush 13, 2) := by decide +kernel
theorem dX4_skilled_58 : decode cX4_skilled 58 = .ok (.ireturn, 1) := by decide +kernel
theorem dX4_skilled_59 : decode cX4_skilled 59 = .ok (.bipush 26, 2) := by decide +kernel
theorem dX4_skilled_61 : decode cX4_skilled 61 = .ok (.ireturn, 1) := by decide +kernel
theorem dX4_skilled_62 : decode cX4_skilled 62 = .ok (.bipush 10, 2) := by decide +kernel
theorem dX4_skilled_64 : decode cX4_skilled 64 = .ok (.aload_n 0, 1) := by decide +kernel
theorem dX4_skilled_65 : decode cX4_skilled 65 = .ok (.getfield 15, 3) := by decide +kernel
theorem dX4_skilled_68 : decode cX4_skilled 68 = .ok (.isub, 1) := by decide +kernel
theorem dX4_skilled_69 : decode cX4_skilled 69 = .ok (.ireturn, 1) := by decide +kernel
theorem dX4_skilled_70 : decode cX4_skilled 70 = .ok (.bipush 15, 2) := by decide +kernel
theorem dX4_skilled_72 : decode cX4_skilled 72 = .ok (.ireturn, 1) := by decide +kernel
theorem dX4_skilled_73 : decode cX4_skilled 73 = .ok (.bipush 15, 2) := by decide +kernel
theorem dX4_skilled_75 : decode cX4_skilled 75 = .ok (.aload_n 0, 1) := by decide +kernel
theorem dX4_skilled_76 : decode cX4_skilled 76 = .ok (.getfield 15, 3) := by decide +kernel
theorem dX4_skilled_79 : decode cX4_skilled 79 = .ok (.iadd, 1) := by decide +kernel
theorem dX4_skilled_80 : decode cX4_skilled 80 = .ok (.ireturn, 1) := by decide +kernel
theorem dX4_skilled_81 : decode cX4_skilled 81 = .ok (.bipush 10, 2) := by decide +kernel
theorem dX4_skilled_83 : decode cX4_skilled 83 = .ok (.aload_n 0, 1) := by decide +kernel
theorem dX4_skilled_84 : decode cX4_skilled 84 = .ok (.getfield 15, 3) := by decide +kernel
theorem dX4_skilled_87 : decode cX4_skilled 87 = .ok (.iadd, 1) := by decide +kernel
theorem dX4_skilled_88 : decode cX4_skilled 88 = .ok (.iconst 2, 1) := by decide +kernel
theorem dX4_skilled_89 : decode cX4_skilled 89 = .ok (.idiv, 1) := by decide +kernel
theorem dX4_skilled_90 : decode cX4_skilled 90 = .ok (.ireturn, 1) := by decide +kernel
theorem dX4_skilled_91 : decode cX4_skilled 91 = .ok (.bipush 10, 2) := by decide +kernel
theorem dX4_skilled_93 : decode cX4_skilled 93 = .ok (.ireturn, 1) := by decide +kernel
theorem dX4_hasFailure_0 : decode cX4_hasFailure 0 = .ok (.aload_n 0, 1) := by decide +kernel
theorem dX4_hasFailure_1 : decode cX4_hasFailure 1 = .ok (.getfield 9, 3) := by decide +kernel
theorem dX4_hasFailure_4 : decode cX4_hasFailure 4 = .ok (.iconst 4, 1) := by decide +kernel
theorem dX4_hasFailure_5 : decode cX4_hasFailure 5 = .ok (.if_icmp .eq 14, 3) := by decide +kernel
theorem dX4_hasFailure_8 : decode cX4_hasFailure 8 = .ok (.aload_n 0, 1) := by decide +kernel
theorem dX4_hasFailure_9 : decode cX4_hasFailure 9 = .ok (.getfield 15, 3) := by decide +kernel
theorem dX4_hasFailure_12 : decode cX4_hasFailure 12 = .ok (.ifCond .le 7, 3) := by decide +kernel
theorem dX4_hasFailure_15 : decode cX4_hasFailure 15 = .ok (.iconst 1, 1) := by decide +kernel
theorem dX4_hasFailure_16 : decode cX4_hasFailure 16 = .ok (.goto 4, 3) := by decide +kernel
theorem dX4_hasFailure_19 : decode cX4_hasFailure 19 = .ok (.iconst 0, 1) := by decide +kernel
theorem dX4_hasFailure_20 : decode cX4_hasFailure 20 = .ok (.ireturn, 1) := by decide +kernel
theorem dX4_fail_0 : decode cX4_fail 0 = .ok (.aload_n 0, 1) := by decide +kernel
theorem dX4_fail_1 : decode cX4_fail 1 = .ok (.invokevirtual 21, 3) := by decide +kernel
theorem dX4_fail_4 : decode cX4_fail 4 = .ok (.ifCond .eq 13, 3) := by decide +kernel
theorem dX4_fail_7 : decode cX4_fail 7 = .ok (.new 25, 3) := by decide +kernel
theorem dX4_fail_10 : decode cX4_fail 10 = .ok (.dup, 1) := by decide +kernel
theorem dX4_fail_11 : decode cX4_fail 11 = .ok (.ldc 27, 2) := by decide +kernel
theorem dX4_fail_13 : decode cX4_fail 13 = .ok (.invokespecial 29, 3) := by decide +kernel
theorem dX4_fail_16 : decode cX4_fail 16 = .ok (.athrow, 1) := by decide +kernel
theorem dX4_fail_17 : decode cX4_fail 17 = .ok (.return_, 1) := by decide +kernel
theorem dX4_failureNumber_0 : decode cX4_failureNumber 0 = .ok (.aload_n 0, 1) := by decide +kernel
theorem dX4_failureNumber_1 : decode cX4_failureNumber 1 = .ok (.getfield 9, 3) := by decide +kernel
theorem dX4_failureNumber_4 : decode cX4_failureNumber 4 = .ok (.lookupswitch 45 #[(3, 37), (6, 28)], 28) := by decide +kernel
theorem dX4_failureNumber_32 : decode cX4_failureNumber 32 = .ok (.sipush 200, 3) := by decide +kernel
theorem dX4_failureNumber_35 : decode cX4_failureNumber 35 = .ok (.aload_n 0, 1) := by decide +kernel
theorem dX4_failureNumber_36 : decode cX4_failureNumber 36 = .ok (.invokevirtual 32, 3) := by decide +kernel
theorem dX4_failureNumber_39 : decode cX4_failureNumber 39 = .ok (.iadd, 1) := by decide +kernel
theorem dX4_failureNumber_40 : decode cX4_failureNumber 40 = .ok (.ireturn, 1) := by decide +kernel
theorem dX4_failureNumber_41 : decode cX4_failureNumber 41 = .ok (.bipush 100, 2) := by decide +kernel
theorem dX4_failureNumber_43 : decode cX4_failureNumber 43 = .ok (.aload_n 0, 1) := by decide +kernel
theorem dX4_failureNumber_44 : decode cX4_failureNumber 44 = .ok (.getfield 18, 3) := by decide +kernel
theorem dX4_failureNumber_47 : decode cX4_failureNumber 47 = .ok (.iadd, 1) := by decide +kernel
theorem dX4_failureNumber_48 : decode cX4_failureNumber 48 = .ok (.ireturn, 1) := by decide +kernel
theorem dX4_failureNumber_49 : decode cX4_failureNumber 49 = .ok (.aload_n 0, 1) := by decide +kernel
theorem dX4_failureNumber_50 : decode cX4_failureNumber 50 = .ok (.getfield 18, 3) := by decide +kernel
theorem dX4_failureNumber_53 : decode cX4_failureNumber 53 = .ok (.ireturn, 1) := by decide +kernel
theorem dX5_init_0 : decode cX5_init 0 = .ok (.aload_n 0, 1) := by decide +kernel
theorem dX5_init_1 : decode cX5_init 1 = .ok (.invokespecial 3, 3) := by decide +kernel
theorem dX5_init_4 : decode cX5_init 4 = .ok (.aload_n 0, 1) := by decide +kernel
theorem dX5_init_5 : decode cX5_init 5 = .ok (.iconst 0, 1) := by decide +kernel
theorem dX5_init_6 : decode cX5_init 6 = .ok (.putfield 9, 3) := by decide +kernel
theorem dX5_init_9 : decode cX5_init 9 = .ok (.aload_n 0, 1) := by decide +kernel
theorem dX5_init_10 : decode cX5_init 10 = .ok (.new 15, 3) := by decide +kernel
theorem dX5_init_13 : decode cX5_init 13 = .ok (.dup, 1) := by decide +kernel
theorem dX5_init_14 : decode cX5_init 14 = .ok (.invokespecial 17, 3) := by decide +kernel
theorem dX5_init_17 : decode cX5_init 17 = .ok (.putfield 18, 3) := by decide +kernel
theorem dX5_init_20 : decode cX5_init 20 = .ok (.aload_n 0, 1) := by decide +kernel
theorem dX5_init_21 : decode cX5_init 21 = .ok (.bipush 100, 2) := by decide +kernel
theorem dX5_init_23 : decode cX5_init 23 = .ok (.newarray .int, 2) := by decide +kernel
theorem dX5_init_25 : decode cX5_init 25 = .ok (.putfield 22, 3) := by decide +kernel
theorem dX5_init_28 : decode cX5_init 28 = .ok (.return_, 1) := by decide +kernel
theorem dX5_holdSailor_0 : decode cX5_holdSailor 0 = .ok (.aload_n 0, 1) := by decide +kernel
theorem dX5_holdSailor_1 : decode cX5_holdSailor 1 = .ok (.iconst 1, 1) := by decide +kernel
theorem dX5_holdSailor_2 : decode cX5_holdSailor 2 = .ok (.putfield 9, 3) := by decide +kernel
theorem dX5_holdSailor_5 : decode cX5_holdSailor 5 = .ok (.aload_n 0, 1) := by decide +kernel
theorem dX5_holdSailor_6 : decode cX5_holdSailor 6 = .ok (.getfield 18, 3) := by decide +kernel
theorem dX5_holdSailor_9 : decode cX5_holdSailor 9 = .ok (.aload_n 1, 1) := by decide +kernel
theorem dX5_holdSailor_10 : decode cX5_holdSailor 10 = .ok (.getfield 26, 3) := by decide +kernel
theorem dX5_holdSailor_13 : decode cX5_holdSailor 13 = .ok (.aload_n 1, 1) := by decide +kernel
theorem dX5_holdSailor_14 : decode cX5_holdSailor 14 = .ok (.getfield 29, 3) := by decide +kernel
theorem dX5_holdSailor_17 : decode cX5_holdSailor 17 = .ok (.aload_n 1, 1) := by decide +kernel
theorem dX5_holdSailor_18 : decode cX5_holdSailor 18 = .ok (.getfield 32, 3) := by decide +kernel
theorem dX5_holdSailor_21 : decode cX5_holdSailor 21 = .ok (.invokevirtual 35, 3) := by decide +kernel
theorem dX5_holdSailor_24 : decode cX5_holdSailor 24 = .ok (.return_, 1) := by decide +kernel
theorem dX5_holdRow_0 : decode cX5_holdRow 0 = .ok (.aload_n 0, 1) := by decide +kernel
theorem dX5_holdRow_1 : decode cX5_holdRow 1 = .ok (.iconst 2, 1) := by decide +kernel
theorem dX5_holdRow_2 : decode cX5_holdRow 2 = .ok (.putfield 9, 3) := by decide +kernel
theorem dX5_holdRow_5 : decode cX5_holdRow 5 = .ok (.aload_n 0, 1) := by decide +kernel
theorem dX5_holdRow_6 : decode cX5_holdRow 6 = .ok (.iload_n 1, 1) := by decide +kernel
theorem dX5_holdRow_7 : decode cX5_holdRow 7 = .ok (.putfield 39, 3) := by decide +kernel
theorem dX5_holdRow_10 : decode cX5_holdRow 10 = .ok (.aload_n 0, 1) := by decide +kernel
theorem dX5_holdRow_11 : decode cX5_holdRow 11 = .ok (.iload_n 2, 1) := by decide +kernel
theorem dX5_holdRow_12 : decode cX5_holdRow 12 = .ok (.putfield 42, 3) := by decide +kernel
theorem dX5_holdRow_15 : decode cX5_holdRow 15 = .ok (.aload_n 0, 1) := by decide +kernel
theorem dX5_holdRow_16 : decode cX5_holdRow 16 = .ok (.getfield 22, 3) := by decide +kernel
theorem dX5_holdRow_19 : decode cX5_holdRow 19 = .ok (.iconst 0, 1) := by decide +kernel
theorem dX5_holdRow_20 : decode cX5_holdRow 20 = .ok (.invokestatic 45, 3) := by decide +kernel
theorem dX5_holdRow_23 : decode cX5_holdRow 23 = .ok (.return_, 1) := by decide +kernel
theorem dX5_rowRefusal_0 : decode cX5_rowRefusal 0 = .ok (.aload_n 0, 1) := by decide +kernel
theorem dX5_rowRefusal_1 : decode cX5_rowRefusal 1 = .ok (.getfield 9, 3) := by decide +kernel
theorem dX5_rowRefusal_4 : decode cX5_rowRefusal 4 = .ok (.ifCond .ne 6, 3) := by decide +kernel
theorem dX5_rowRefusal_7 : decode cX5_rowRefusal 7 = .ok (.bipush (-11), 2) := by decide +kernel
theorem dX5_rowRefusal_9 : decode cX5_rowRefusal 9 = .ok (.ireturn, 1) := by decide +kernel
theorem dX5_rowRefusal_10 : decode cX5_rowRefusal 10 = .ok (.aload_n 0, 1) := by decide +kernel
theorem dX5_rowRefusal_11 : decode cX5_rowRefusal 11 = .ok (.getfield 9, 3) := by decide +kernel
theorem dX5_rowRefusal_14 : decode cX5_rowRefusal 14 = .ok (.iconst 2, 1) := by decide +kernel
theorem dX5_rowRefusal_15 : decode cX5_rowRefusal 15 = .ok (.if_icmp .ne 7, 3) := by decide +kernel
theorem dX5_rowRefusal_18 : decode cX5_rowRefusal 18 = .ok (.iconst 0, 1) := by decide +kernel
theorem dX5_rowRefusal_19 : decode cX5_rowRefusal 19 = .ok (.goto 5, 3) := by decide +kernel
theorem dX5_rowRefusal_22 : decode cX5_rowRefusal 22 = .ok (.bipush (-12), 2) := by decide +kernel
theorem dX5_rowRefusal_24 : decode cX5_rowRefusal 24 = .ok (.ireturn, 1) := by decide +kernel
theorem dX5_textRefusal_0 : decode cX5_textRefusal 0 = .ok (.aload_n 0, 1) := by decide +kernel
theorem dX5_textRefusal_1 : decode cX5_textRefusal 1 = .ok (.invokevirtual 51, 3) := by decide +kernel
theorem dX5_textRefusal_4 : decode cX5_textRefusal 4 = .ok (.istore_n 1, 1) := by decide +kernel
theorem dX5_textRefusal_5 : decode cX5_textRefusal 5 = .ok (.iload_n 1, 1) := by decide +kernel
theorem dX5_textRefusal_6 : decode cX5_textRefusal 6 = .ok (.ifCond .ne 15, 3) := by decide +kernel
theorem dX5_textRefusal_9 : decode cX5_textRefusal 9 = .ok (.aload_n 0, 1) := by decide +kernel
theorem dX5_textRefusal_10 : decode cX5_textRefusal 10 = .ok (.getfield 39, 3) := by decide +kernel
theorem dX5_textRefusal_13 : decode cX5_textRefusal 13 = .ok (.ifCond .eq 8, 3) := by decide +kernel
theorem dX5_textRefusal_16 : decode cX5_textRefusal 16 = .ok (.bipush (-12), 2) := by decide +kernel
theorem dX5_textRefusal_18 : decode cX5_textRefusal 18 = .ok (.goto 4, 3) := by decide +kernel
theorem dX5_textRefusal_21 : decode cX5_textRefusal 21 = .ok (.iload_n 1, 1) := by decide +kernel
theorem dX5_textRefusal_22 : decode cX5_textRefusal 22 = .ok (.ireturn, 1) := by decide +kernel
theorem dX5_sailorRefusal_0 : decode cX5_sailorRefusal 0 = .ok (.aload_n 0, 1) := by decide +kernel
theorem dX5_sailorRefusal_1 : decode cX5_sailorRefusal 1 = .ok (.getfield 9, 3) := by decide +kernel
theorem dX5_sailorRefusal_4 : decode cX5_sailorRefusal 4 = .ok (.ifCond .ne 6, 3) := by decide +kernel
