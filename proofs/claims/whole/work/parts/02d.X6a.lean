theorem dX6_init_0 : decode cX6_init 0 = .ok (.aload_n 0, 1) := by decide +kernel
theorem dX6_init_1 : decode cX6_init 1 = .ok (.invokespecial 3, 3) := by decide +kernel
theorem dX6_init_4 : decode cX6_init 4 = .ok (.aload_n 0, 1) := by decide +kernel
theorem dX6_init_5 : decode cX6_init 5 = .ok (.new 9, 3) := by decide +kernel
theorem dX6_init_8 : decode cX6_init 8 = .ok (.dup, 1) := by decide +kernel
theorem dX6_init_9 : decode cX6_init 9 = .ok (.invokespecial 11, 3) := by decide +kernel
theorem dX6_init_12 : decode cX6_init 12 = .ok (.putfield 12, 3) := by decide +kernel
theorem dX6_init_15 : decode cX6_init 15 = .ok (.aload_n 0, 1) := by decide +kernel
theorem dX6_init_16 : decode cX6_init 16 = .ok (.bipush 58, 2) := by decide +kernel
theorem dX6_init_18 : decode cX6_init 18 = .ok (.newarray .int, 2) := by decide +kernel
theorem dX6_init_20 : decode cX6_init 20 = .ok (.putfield 18, 3) := by decide +kernel
theorem dX6_init_23 : decode cX6_init 23 = .ok (.aload_n 0, 1) := by decide +kernel
theorem dX6_init_24 : decode cX6_init 24 = .ok (.bipush 58, 2) := by decide +kernel
theorem dX6_init_26 : decode cX6_init 26 = .ok (.newarray .int, 2) := by decide +kernel
theorem dX6_init_28 : decode cX6_init 28 = .ok (.putfield 22, 3) := by decide +kernel
theorem dX6_init_31 : decode cX6_init 31 = .ok (.aload_n 0, 1) := by decide +kernel
theorem dX6_init_32 : decode cX6_init 32 = .ok (.bipush 58, 2) := by decide +kernel
theorem dX6_init_34 : decode cX6_init 34 = .ok (.newarray .int, 2) := by decide +kernel
theorem dX6_init_36 : decode cX6_init 36 = .ok (.putfield 25, 3) := by decide +kernel
theorem dX6_init_39 : decode cX6_init 39 = .ok (.aload_n 0, 1) := by decide +kernel
theorem dX6_init_40 : decode cX6_init 40 = .ok (.aload_n 1, 1) := by decide +kernel
theorem dX6_init_41 : decode cX6_init 41 = .ok (.putfield 28, 3) := by decide +kernel
theorem dX6_init_44 : decode cX6_init 44 = .ok (.return_, 1) := by decide +kernel
theorem dX6_read_0 : decode cX6_read 0 = .ok (.aload_n 0, 1) := by decide +kernel
theorem dX6_read_1 : decode cX6_read 1 = .ok (.iload_n 1, 1) := by decide +kernel
theorem dX6_read_2 : decode cX6_read 2 = .ok (.aload_n 0, 1) := by decide +kernel
theorem dX6_read_3 : decode cX6_read 3 = .ok (.getfield 28, 3) := by decide +kernel
theorem dX6_read_6 : decode cX6_read 6 = .ok (.arraylength, 1) := by decide +kernel
theorem dX6_read_7 : decode cX6_read 7 = .ok (.invokestatic 32, 3) := by decide +kernel
theorem dX6_read_10 : decode cX6_read 10 = .ok (.putfield 38, 3) := by decide +kernel
theorem dX6_read_13 : decode cX6_read 13 = .ok (.aload_n 0, 1) := by decide +kernel
theorem dX6_read_14 : decode cX6_read 14 = .ok (.iconst 0, 1) := by decide +kernel
theorem dX6_read_15 : decode cX6_read 15 = .ok (.putfield 42, 3) := by decide +kernel
theorem dX6_read_18 : decode cX6_read 18 = .ok (.aload_n 0, 1) := by decide +kernel
theorem dX6_read_19 : decode cX6_read 19 = .ok (.iconst (-1), 1) := by decide +kernel
theorem dX6_read_20 : decode cX6_read 20 = .ok (.putfield 45, 3) := by decide +kernel
theorem dX6_read_23 : decode cX6_read 23 = .ok (.aload_n 0, 1) := by decide +kernel
theorem dX6_read_24 : decode cX6_read 24 = .ok (.iconst 0, 1) := by decide +kernel
theorem dX6_read_25 : decode cX6_read 25 = .ok (.putfield 48, 3) := by decide +kernel
theorem dX6_read_28 : decode cX6_read 28 = .ok (.aload_n 0, 1) := by decide +kernel
theorem dX6_read_29 : decode cX6_read 29 = .ok (.getfield 12, 3) := by decide +kernel
theorem dX6_read_32 : decode cX6_read 32 = .ok (.invokevirtual 51, 3) := by decide +kernel
theorem dX6_read_35 : decode cX6_read 35 = .ok (.aload_n 0, 1) := by decide +kernel
theorem dX6_read_36 : decode cX6_read 36 = .ok (.iconst 0, 1) := by decide +kernel
theorem dX6_read_37 : decode cX6_read 37 = .ok (.putfield 54, 3) := by decide +kernel
theorem dX6_read_40 : decode cX6_read 40 = .ok (.aload_n 0, 1) := by decide +kernel
theorem dX6_read_41 : decode cX6_read 41 = .ok (.invokevirtual 57, 3) := by decide +kernel
theorem dX6_read_44 : decode cX6_read 44 = .ok (.iconst 1, 1) := by decide +kernel
theorem dX6_read_45 : decode cX6_read 45 = .ok (.istore_n 2, 1) := by decide +kernel
theorem dX6_read_46 : decode cX6_read 46 = .ok (.iconst 0, 1) := by decide +kernel
theorem dX6_read_47 : decode cX6_read 47 = .ok (.istore_n 3, 1) := by decide +kernel
theorem dX6_read_48 : decode cX6_read 48 = .ok (.iload_n 3, 1) := by decide +kernel
theorem dX6_read_49 : decode cX6_read 49 = .ok (.aload_n 0, 1) := by decide +kernel
theorem dX6_read_50 : decode cX6_read 50 = .ok (.getfield 38, 3) := by decide +kernel
theorem dX6_read_53 : decode cX6_read 53 = .ok (.if_icmp .gt 25, 3) := by decide +kernel
theorem dX6_read_56 : decode cX6_read 56 = .ok (.iload_n 2, 1) := by decide +kernel
theorem dX6_read_57 : decode cX6_read 57 = .ok (.ifCond .eq 21, 3) := by decide +kernel
theorem dX6_read_60 : decode cX6_read 60 = .ok (.aload_n 0, 1) := by decide +kernel
theorem dX6_read_61 : decode cX6_read 61 = .ok (.getfield 60, 3) := by decide +kernel
theorem dX6_read_64 : decode cX6_read 64 = .ok (.ifCond .eq 14, 3) := by decide +kernel
theorem dX6_read_67 : decode cX6_read 67 = .ok (.aload_n 0, 1) := by decide +kernel
theorem dX6_read_68 : decode cX6_read 68 = .ok (.invokevirtual 63, 3) := by decide +kernel
theorem dX6_read_71 : decode cX6_read 71 = .ok (.istore_n 2, 1) := by decide +kernel
theorem dX6_read_72 : decode cX6_read 72 = .ok (.iinc 3 1, 3) := by decide +kernel
theorem dX6_read_75 : decode cX6_read 75 = .ok (.goto (-27), 3) := by decide +kernel
theorem dX6_read_78 : decode cX6_read 78 = .ok (.aload_n 0, 1) := by decide +kernel
theorem dX6_read_79 : decode cX6_read 79 = .ok (.getfield 42, 3) := by decide +kernel
theorem dX6_read_82 : decode cX6_read 82 = .ok (.ifCond .ne 7, 3) := by decide +kernel
theorem dX6_read_85 : decode cX6_read 85 = .ok (.iconst 1, 1) := by decide +kernel
theorem dX6_read_86 : decode cX6_read 86 = .ok (.goto 4, 3) := by decide +kernel
theorem dX6_read_89 : decode cX6_read 89 = .ok (.iconst 0, 1) := by decide +kernel
theorem dX6_read_90 : decode cX6_read 90 = .ok (.ireturn, 1) := by decide +kernel
theorem dX6_enterAll_0 : decode cX6_enterAll 0 = .ok (.aload_n 1, 1) := by decide +kernel
theorem dX6_enterAll_1 : decode cX6_enterAll 1 = .ok (.aload_n 0, 1) := by decide +kernel
theorem dX6_enterAll_2 : decode cX6_enterAll 2 = .ok (.getfield 12, 3) := by decide +kernel
theorem dX6_enterAll_5 : decode cX6_enterAll 5 = .ok (.invokevirtual 67, 3) := by decide +kernel
theorem dX6_enterAll_8 : decode cX6_enterAll 8 = .ok (.iconst 0, 1) := by decide +kernel
theorem dX6_enterAll_9 : decode cX6_enterAll 9 = .ok (.istore_n 3, 1) := by decide +kernel
theorem dX6_enterAll_10 : decode cX6_enterAll 10 = .ok (.iload_n 3, 1) := by decide +kernel
theorem dX6_enterAll_11 : decode cX6_enterAll 11 = .ok (.aload_n 0, 1) := by decide +kernel
theorem dX6_enterAll_12 : decode cX6_enterAll 12 = .ok (.getfield 48, 3) := by decide +kernel
theorem dX6_enterAll_15 : decode cX6_enterAll 15 = .ok (.if_icmp .ge 46, 3) := by decide +kernel
theorem dX6_enterAll_18 : decode cX6_enterAll 18 = .ok (.aload_n 2, 1) := by decide +kernel
theorem dX6_enterAll_19 : decode cX6_enterAll 19 = .ok (.aload_n 1, 1) := by decide +kernel
theorem dX6_enterAll_20 : decode cX6_enterAll 20 = .ok (.aload_n 0, 1) := by decide +kernel
theorem dX6_enterAll_21 : decode cX6_enterAll 21 = .ok (.getfield 18, 3) := by decide +kernel
theorem dX6_enterAll_24 : decode cX6_enterAll 24 = .ok (.iload_n 3, 1) := by decide +kernel
theorem dX6_enterAll_25 : decode cX6_enterAll 25 = .ok (.iaload, 1) := by decide +kernel
theorem dX6_enterAll_26 : decode cX6_enterAll 26 = .ok (.aload_n 0, 1) := by decide +kernel
theorem dX6_enterAll_27 : decode cX6_enterAll 27 = .ok (.getfield 22, 3) := by decide +kernel
theorem dX6_enterAll_30 : decode cX6_enterAll 30 = .ok (.iload_n 3, 1) := by decide +kernel
theorem dX6_enterAll_31 : decode cX6_enterAll 31 = .ok (.iaload, 1) := by decide +kernel
theorem dX6_enterAll_32 : decode cX6_enterAll 32 = .ok (.invokevirtual 72, 3) := by decide +kernel
theorem dX6_enterAll_35 : decode cX6_enterAll 35 = .ok (.ifCond .ge 20, 3) := by decide +kernel
theorem dX6_enterAll_38 : decode cX6_enterAll 38 = .ok (.aload_n 0, 1) := by decide +kernel
theorem dX6_enterAll_39 : decode cX6_enterAll 39 = .ok (.iconst 4, 1) := by decide +kernel
theorem dX6_enterAll_40 : decode cX6_enterAll 40 = .ok (.putfield 42, 3) := by decide +kernel
theorem dX6_enterAll_43 : decode cX6_enterAll 43 = .ok (.aload_n 0, 1) := by decide +kernel
theorem dX6_enterAll_44 : decode cX6_enterAll 44 = .ok (.aload_n 0, 1) := by decide +kernel
theorem dX6_enterAll_45 : decode cX6_enterAll 45 = .ok (.getfield 25, 3) := by decide +kernel
theorem dX6_enterAll_48 : decode cX6_enterAll 48 = .ok (.iload_n 3, 1) := by decide +kernel
theorem dX6_enterAll_49 : decode cX6_enterAll 49 = .ok (.iaload, 1) := by decide +kernel
theorem dX6_enterAll_50 : decode cX6_enterAll 50 = .ok (.putfield 45, 3) := by decide +kernel
theorem dX6_enterAll_53 : decode cX6_enterAll 53 = .ok (.iconst 0, 1) := by decide +kernel
theorem dX6_enterAll_54 : decode cX6_enterAll 54 = .ok (.ireturn, 1) := by decide +kernel
theorem dX6_enterAll_55 : decode cX6_enterAll 55 = .ok (.iinc 3 1, 3) := by decide +kernel
theorem dX6_enterAll_58 : decode cX6_enterAll 58 = .ok (.goto (-48), 3) := by decide +kernel
theorem dX6_enterAll_61 : decode cX6_enterAll 61 = .ok (.iconst 1, 1) := by decide +kernel
theorem dX6_enterAll_62 : decode cX6_enterAll 62 = .ok (.ireturn, 1) := by decide +kernel
theorem dX6_readLine_0 : decode cX6_readLine 0 = .ok (.aload_n 0, 1) := by decide +kernel
theorem dX6_readLine_1 : decode cX6_readLine 1 = .ok (.getfield 60, 3) := by decide +kernel
theorem dX6_readLine_4 : decode cX6_readLine 4 = .ok (.iconst 1, 1) := by decide +kernel
theorem dX6_readLine_5 : decode cX6_readLine 5 = .ok (.if_icmp .ne 12, 3) := by decide +kernel
theorem dX6_readLine_8 : decode cX6_readLine 8 = .ok (.aload_n 0, 1) := by decide +kernel
theorem dX6_readLine_9 : decode cX6_readLine 9 = .ok (.ldc 78, 2) := by decide +kernel
theorem dX6_readLine_11 : decode cX6_readLine 11 = .ok (.invokevirtual 80, 3) := by decide +kernel
theorem dX6_readLine_14 : decode cX6_readLine 14 = .ok (.goto 4, 3) := by decide +kernel
theorem dX6_readLine_17 : decode cX6_readLine 17 = .ok (.iconst (-1), 1) := by decide +kernel
theorem dX6_readLine_18 : decode cX6_readLine 18 = .ok (.istore_n 1, 1) := by decide +kernel
theorem dX6_readLine_19 : decode cX6_readLine 19 = .ok (.iload_n 1, 1) := by decide +kernel
theorem dX6_readLine_20 : decode cX6_readLine 20 = .ok (.ifCond .ge 8, 3) := by decide +kernel
theorem dX6_readLine_23 : decode cX6_readLine 23 = .ok (.aload_n 0, 1) := by decide +kernel
theorem dX6_readLine_24 : decode cX6_readLine 24 = .ok (.invokevirtual 84, 3) := by decide +kernel
theorem dX6_readLine_27 : decode cX6_readLine 27 = .ok (.ireturn, 1) := by decide +kernel
theorem dX6_readLine_28 : decode cX6_readLine 28 = .ok (.aload_n 0, 1) := by decide +kernel
theorem dX6_readLine_29 : decode cX6_readLine 29 = .ok (.invokevirtual 57, 3) := by decide +kernel
theorem dX6_readLine_32 : decode cX6_readLine 32 = .ok (.iload_n 1, 1) := by decide +kernel
theorem dX6_readLine_33 : decode cX6_readLine 33 = .ok (.iconst 5, 1) := by decide +kernel
theorem dX6_readLine_34 : decode cX6_readLine 34 = .ok (.if_icmp .gt 12, 3) := by decide +kernel
theorem dX6_readLine_37 : decode cX6_readLine 37 = .ok (.aload_n 0, 1) := by decide +kernel
theorem dX6_readLine_38 : decode cX6_readLine 38 = .ok (.iload_n 1, 1) := by decide +kernel
theorem dX6_readLine_39 : decode cX6_readLine 39 = .ok (.invokevirtual 87, 3) := by decide +kernel
theorem dX6_readLine_42 : decode cX6_readLine 42 = .ok (.istore_n 2, 1) := by decide +kernel
theorem dX6_readLine_43 : decode cX6_readLine 43 = .ok (.goto 38, 3) := by decide +kernel
theorem dX6_readLine_46 : decode cX6_readLine 46 = .ok (.iload_n 1, 1) := by decide +kernel
theorem dX6_readLine_47 : decode cX6_readLine 47 = .ok (.bipush 7, 2) := by decide +kernel
theorem dX6_readLine_49 : decode cX6_readLine 49 = .ok (.if_icmp .gt 12, 3) := by decide +kernel
theorem dX6_readLine_52 : decode cX6_readLine 52 = .ok (.aload_n 0, 1) := by decide +kernel
theorem dX6_readLine_53 : decode cX6_readLine 53 = .ok (.iload_n 1, 1) := by decide +kernel
theorem dX6_readLine_54 : decode cX6_readLine 54 = .ok (.invokevirtual 91, 3) := by decide +kernel
theorem dX6_readLine_57 : decode cX6_readLine 57 = .ok (.istore_n 2, 1) := by decide +kernel
theorem dX6_readLine_58 : decode cX6_readLine 58 = .ok (.goto 23, 3) := by decide +kernel
theorem dX6_readLine_61 : decode cX6_readLine 61 = .ok (.iload_n 1, 1) := by decide +kernel
theorem dX6_readLine_62 : decode cX6_readLine 62 = .ok (.bipush 9, 2) := by decide +kernel
theorem dX6_readLine_64 : decode cX6_readLine 64 = .ok (.if_icmp .gt 12, 3) := by decide +kernel
theorem dX6_readLine_67 : decode cX6_readLine 67 = .ok (.aload_n 0, 1) := by decide +kernel
theorem dX6_readLine_68 : decode cX6_readLine 68 = .ok (.iload_n 1, 1) := by decide +kernel
theorem dX6_readLine_69 : decode cX6_readLine 69 = .ok (.invokevirtual 94, 3) := by decide +kernel
theorem dX6_readLine_72 : decode cX6_readLine 72 = .ok (.istore_n 2, 1) := by decide +kernel
theorem dX6_readLine_73 : decode cX6_readLine 73 = .ok (.goto 8, 3) := by decide +kernel
theorem dX6_readLine_76 : decode cX6_readLine 76 = .ok (.aload_n 0, 1) := by decide +kernel
theorem dX6_readLine_77 : decode cX6_readLine 77 = .ok (.invokevirtual 97, 3) := by decide +kernel
theorem dX6_readLine_80 : decode cX6_readLine 80 = .ok (.istore_n 2, 1) := by decide +kernel
theorem dX6_readLine_81 : decode cX6_readLine 81 = .ok (.iload_n 2, 1) := by decide +kernel
theorem dX6_readLine_82 : decode cX6_readLine 82 = .ok (.ifCond .eq 11, 3) := by decide +kernel
theorem dX6_readLine_85 : decode cX6_readLine 85 = .ok (.aload_n 0, 1) := by decide +kernel
theorem dX6_readLine_86 : decode cX6_readLine 86 = .ok (.getfield 60, 3) := by decide +kernel
theorem dX6_readLine_89 : decode cX6_readLine 89 = .ok (.iconst 3, 1) := by decide +kernel
theorem dX6_readLine_90 : decode cX6_readLine 90 = .ok (.if_icmp .eq 20, 3) := by decide +kernel
theorem dX6_readLine_93 : decode cX6_readLine 93 = .ok (.iload_n 2, 1) := by decide +kernel
theorem dX6_readLine_94 : decode cX6_readLine 94 = .ok (.ifCond .eq 14, 3) := by decide +kernel
theorem dX6_readLine_97 : decode cX6_readLine 97 = .ok (.aload_n 0, 1) := by decide +kernel
theorem dX6_readLine_98 : decode cX6_readLine 98 = .ok (.invokevirtual 84, 3) := by decide +kernel
theorem dX6_readLine_101 : decode cX6_readLine 101 = .ok (.ifCond .eq 7, 3) := by decide +kernel
theorem dX6_readLine_104 : decode cX6_readLine 104 = .ok (.iconst 1, 1) := by decide +kernel
theorem dX6_readLine_105 : decode cX6_readLine 105 = .ok (.goto 4, 3) := by decide +kernel
theorem dX6_readLine_108 : decode cX6_readLine 108 = .ok (.iconst 0, 1) := by decide +kernel
theorem dX6_readLine_109 : decode cX6_readLine 109 = .ok (.ireturn, 1) := by decide +kernel
theorem dX6_readLine_110 : decode cX6_readLine 110 = .ok (.aload_n 0, 1) := by decide +kernel
theorem dX6_readLine_111 : decode cX6_readLine 111 = .ok (.invokevirtual 57, 3) := by decide +kernel
theorem dX6_readLine_114 : decode cX6_readLine 114 = .ok (.iconst 1, 1) := by decide +kernel
theorem dX6_readLine_115 : decode cX6_readLine 115 = .ok (.ireturn, 1) := by decide +kernel
theorem dX6_readSetting_0 : decode cX6_readSetting 0 = .ok (.aload_n 0, 1) := by decide +kernel
theorem dX6_readSetting_1 : decode cX6_readSetting 1 = .ok (.getstatic 100, 3) := by decide +kernel
theorem dX6_readSetting_4 : decode cX6_readSetting 4 = .ok (.iload_n 1, 1) := by decide +kernel
theorem dX6_readSetting_5 : decode cX6_readSetting 5 = .ok (.iaload, 1) := by decide +kernel
theorem dX6_readSetting_6 : decode cX6_readSetting 6 = .ok (.getstatic 103, 3) := by decide +kernel
theorem dX6_readSetting_9 : decode cX6_readSetting 9 = .ok (.iload_n 1, 1) := by decide +kernel
theorem dX6_readSetting_10 : decode cX6_readSetting 10 = .ok (.iaload, 1) := by decide +kernel
theorem dX6_readSetting_11 : decode cX6_readSetting 11 = .ok (.invokevirtual 106, 3) := by decide +kernel
theorem dX6_readSetting_14 : decode cX6_readSetting 14 = .ok (.ifCond .ne 5, 3) := by decide +kernel
theorem dX6_readSetting_17 : decode cX6_readSetting 17 = .ok (.iconst 0, 1) := by decide +kernel
theorem dX6_readSetting_18 : decode cX6_readSetting 18 = .ok (.ireturn, 1) := by decide +kernel
theorem dX6_readSetting_19 : decode cX6_readSetting 19 = .ok (.iload_n 1, 1) := by decide +kernel
theorem dX6_readSetting_20 : decode cX6_readSetting 20 = .ok (.tableswitch 106 0 4 #[36, 50, 64, 78, 92], 36) := by decide +kernel
theorem dX6_readSetting_56 : decode cX6_readSetting 56 = .ok (.aload_n 0, 1) := by decide +kernel
theorem dX6_readSetting_57 : decode cX6_readSetting 57 = .ok (.getfield 12, 3) := by decide +kernel
theorem dX6_readSetting_60 : decode cX6_readSetting 60 = .ok (.aload_n 0, 1) := by decide +kernel
theorem dX6_readSetting_61 : decode cX6_readSetting 61 = .ok (.getfield 110, 3) := by decide +kernel
theorem dX6_readSetting_64 : decode cX6_readSetting 64 = .ok (.putfield 113, 3) := by decide +kernel
theorem dX6_readSetting_67 : decode cX6_readSetting 67 = .ok (.goto 73, 3) := by decide +kernel
theorem dX6_readSetting_70 : decode cX6_readSetting 70 = .ok (.aload_n 0, 1) := by decide +kernel
theorem dX6_readSetting_71 : decode cX6_readSetting 71 = .ok (.getfield 12, 3) := by decide +kernel
theorem dX6_readSetting_74 : decode cX6_readSetting 74 = .ok (.aload_n 0, 1) := by decide +kernel
theorem dX6_readSetting_75 : decode cX6_readSetting 75 = .ok (.getfield 110, 3) := by decide +kernel
theorem dX6_readSetting_78 : decode cX6_readSetting 78 = .ok (.putfield 116, 3) := by decide +kernel
theorem dX6_readSetting_81 : decode cX6_readSetting 81 = .ok (.goto 59, 3) := by decide +kernel
theorem dX6_readSetting_84 : decode cX6_readSetting 84 = .ok (.aload_n 0, 1) := by decide +kernel
theorem dX6_readSetting_85 : decode cX6_readSetting 85 = .ok (.getfield 12, 3) := by decide +kernel
theorem dX6_readSetting_88 : decode cX6_readSetting 88 = .ok (.aload_n 0, 1) := by decide +kernel
theorem dX6_readSetting_89 : decode cX6_readSetting 89 = .ok (.getfield 110, 3) := by decide +kernel
theorem dX6_readSetting_92 : decode cX6_readSetting 92 = .ok (.putfield 119, 3) := by decide +kernel
theorem dX6_readSetting_95 : decode cX6_readSetting 95 = .ok (.goto 45, 3) := by decide +kernel
theorem dX6_readSetting_98 : decode cX6_readSetting 98 = .ok (.aload_n 0, 1) := by decide +kernel
theorem dX6_readSetting_99 : decode cX6_readSetting 99 = .ok (.getfield 12, 3) := by decide +kernel
theorem dX6_readSetting_102 : decode cX6_readSetting 102 = .ok (.aload_n 0, 1) := by decide +kernel
theorem dX6_readSetting_103 : decode cX6_readSetting 103 = .ok (.getfield 110, 3) := by decide +kernel
theorem dX6_readSetting_106 : decode cX6_readSetting 106 = .ok (.putfield 122, 3) := by decide +kernel
theorem dX6_readSetting_109 : decode cX6_readSetting 109 = .ok (.goto 31, 3) := by decide +kernel
theorem dX6_readSetting_112 : decode cX6_readSetting 112 = .ok (.aload_n 0, 1) := by decide +kernel
theorem dX6_readSetting_113 : decode cX6_readSetting 113 = .ok (.getfield 12, 3) := by decide +kernel
theorem dX6_readSetting_116 : decode cX6_readSetting 116 = .ok (.aload_n 0, 1) := by decide +kernel
theorem dX6_readSetting_117 : decode cX6_readSetting 117 = .ok (.getfield 110, 3) := by decide +kernel
theorem dX6_readSetting_120 : decode cX6_readSetting 120 = .ok (.putfield 125, 3) := by decide +kernel
theorem dX6_readSetting_123 : decode cX6_readSetting 123 = .ok (.goto 17, 3) := by decide +kernel
theorem dX6_readSetting_126 : decode cX6_readSetting 126 = .ok (.aload_n 0, 1) := by decide +kernel
theorem dX6_readSetting_127 : decode cX6_readSetting 127 = .ok (.getfield 12, 3) := by decide +kernel
theorem dX6_readSetting_130 : decode cX6_readSetting 130 = .ok (.getfield 128, 3) := by decide +kernel
theorem dX6_readSetting_133 : decode cX6_readSetting 133 = .ok (.aload_n 0, 1) := by decide +kernel
theorem dX6_readSetting_134 : decode cX6_readSetting 134 = .ok (.getfield 110, 3) := by decide +kernel
theorem dX6_readSetting_137 : decode cX6_readSetting 137 = .ok (.putfield 132, 3) := by decide +kernel
theorem dX6_readSetting_140 : decode cX6_readSetting 140 = .ok (.iconst 1, 1) := by decide +kernel
theorem dX6_readSetting_141 : decode cX6_readSetting 141 = .ok (.ireturn, 1) := by decide +kernel
theorem dX6_readChoice_0 : decode cX6_readChoice 0 = .ok (.aload_n 0, 1) := by decide +kernel
theorem dX6_readChoice_1 : decode cX6_readChoice 1 = .ok (.getfield 60, 3) := by decide +kernel
theorem dX6_readChoice_4 : decode cX6_readChoice 4 = .ok (.iconst 1, 1) := by decide +kernel
theorem dX6_readChoice_5 : decode cX6_readChoice 5 = .ok (.if_icmp .ne 23, 3) := by decide +kernel
theorem dX6_readChoice_8 : decode cX6_readChoice 8 = .ok (.aload_n 0, 1) := by decide +kernel
theorem dX6_readChoice_9 : decode cX6_readChoice 9 = .ok (.iload_n 1, 1) := by decide +kernel
theorem dX6_readChoice_10 : decode cX6_readChoice 10 = .ok (.bipush 6, 2) := by decide +kernel
theorem dX6_readChoice_12 : decode cX6_readChoice 12 = .ok (.if_icmp .ne 8, 3) := by decide +kernel
theorem dX6_readChoice_15 : decode cX6_readChoice 15 = .ok (.ldc 137, 2) := by decide +kernel
theorem dX6_readChoice_17 : decode cX6_readChoice 17 = .ok (.goto 5, 3) := by decide +kernel
theorem dX6_readChoice_20 : decode cX6_readChoice 20 = .ok (.ldc 139, 2) := by decide +kernel
theorem dX6_readChoice_22 : decode cX6_readChoice 22 = .ok (.invokevirtual 80, 3) := by decide +kernel
theorem dX6_readChoice_25 : decode cX6_readChoice 25 = .ok (.goto 4, 3) := by decide +kernel
theorem dX6_readChoice_28 : decode cX6_readChoice 28 = .ok (.iconst (-1), 1) := by decide +kernel
theorem dX6_readChoice_29 : decode cX6_readChoice 29 = .ok (.istore_n 2, 1) := by decide +kernel
theorem dX6_readChoice_30 : decode cX6_readChoice 30 = .ok (.iload_n 2, 1) := by decide +kernel
theorem dX6_readChoice_31 : decode cX6_readChoice 31 = .ok (.ifCond .ge 8, 3) := by decide +kernel
theorem dX6_readChoice_34 : decode cX6_readChoice 34 = .ok (.aload_n 0, 1) := by decide +kernel
theorem dX6_readChoice_35 : decode cX6_readChoice 35 = .ok (.invokevirtual 84, 3) := by decide +kernel
theorem dX6_readChoice_38 : decode cX6_readChoice 38 = .ok (.ireturn, 1) := by decide +kernel
theorem dX6_readChoice_39 : decode cX6_readChoice 39 = .ok (.iload_n 1, 1) := by decide +kernel
theorem dX6_readChoice_40 : decode cX6_readChoice 40 = .ok (.bipush 6, 2) := by decide +kernel
theorem dX6_readChoice_42 : decode cX6_readChoice 42 = .ok (.if_icmp .ne 14, 3) := by decide +kernel
theorem dX6_readChoice_45 : decode cX6_readChoice 45 = .ok (.aload_n 0, 1) := by decide +kernel
theorem dX6_readChoice_46 : decode cX6_readChoice 46 = .ok (.getfield 12, 3) := by decide +kernel
theorem dX6_readChoice_49 : decode cX6_readChoice 49 = .ok (.iload_n 2, 1) := by decide +kernel
theorem dX6_readChoice_50 : decode cX6_readChoice 50 = .ok (.putfield 141, 3) := by decide +kernel
theorem dX6_readChoice_53 : decode cX6_readChoice 53 = .ok (.goto 11, 3) := by decide +kernel
theorem dX6_readChoice_56 : decode cX6_readChoice 56 = .ok (.aload_n 0, 1) := by decide +kernel
theorem dX6_readChoice_57 : decode cX6_readChoice 57 = .ok (.getfield 12, 3) := by decide +kernel
theorem dX6_readChoice_60 : decode cX6_readChoice 60 = .ok (.iload_n 2, 1) := by decide +kernel
theorem dX6_readChoice_61 : decode cX6_readChoice 61 = .ok (.putfield 144, 3) := by decide +kernel
theorem dX6_readChoice_64 : decode cX6_readChoice 64 = .ok (.aload_n 0, 1) := by decide +kernel
theorem dX6_readChoice_65 : decode cX6_readChoice 65 = .ok (.invokevirtual 57, 3) := by decide +kernel
theorem dX6_readChoice_68 : decode cX6_readChoice 68 = .ok (.iconst 1, 1) := by decide +kernel
theorem dX6_readChoice_69 : decode cX6_readChoice 69 = .ok (.ireturn, 1) := by decide +kernel
theorem dX6_readHash_0 : decode cX6_readHash 0 = .ok (.aload_n 0, 1) := by decide +kernel
theorem dX6_readHash_1 : decode cX6_readHash 1 = .ok (.iconst 1, 1) := by decide +kernel
theorem dX6_readHash_2 : decode cX6_readHash 2 = .ok (.sipush 1008, 3) := by decide +kernel
theorem dX6_readHash_5 : decode cX6_readHash 5 = .ok (.invokevirtual 106, 3) := by decide +kernel
theorem dX6_readHash_8 : decode cX6_readHash 8 = .ok (.ifCond .ne 5, 3) := by decide +kernel
theorem dX6_readHash_11 : decode cX6_readHash 11 = .ok (.iconst 0, 1) := by decide +kernel
theorem dX6_readHash_12 : decode cX6_readHash 12 = .ok (.ireturn, 1) := by decide +kernel
theorem dX6_readHash_13 : decode cX6_readHash 13 = .ok (.aload_n 0, 1) := by decide +kernel
theorem dX6_readHash_14 : decode cX6_readHash 14 = .ok (.getfield 110, 3) := by decide +kernel
theorem dX6_readHash_17 : decode cX6_readHash 17 = .ok (.istore_n 2, 1) := by decide +kernel
theorem dX6_readHash_18 : decode cX6_readHash 18 = .ok (.aload_n 0, 1) := by decide +kernel
theorem dX6_readHash_19 : decode cX6_readHash 19 = .ok (.iconst 0, 1) := by decide +kernel
theorem dX6_readHash_20 : decode cX6_readHash 20 = .ok (.sipush 1008, 3) := by decide +kernel
theorem dX6_readHash_23 : decode cX6_readHash 23 = .ok (.invokevirtual 106, 3) := by decide +kernel
theorem dX6_readHash_26 : decode cX6_readHash 26 = .ok (.ifCond .ne 5, 3) := by decide +kernel
theorem dX6_readHash_29 : decode cX6_readHash 29 = .ok (.iconst 0, 1) := by decide +kernel
theorem dX6_readHash_30 : decode cX6_readHash 30 = .ok (.ireturn, 1) := by decide +kernel
theorem dX6_readHash_31 : decode cX6_readHash 31 = .ok (.iload_n 1, 1) := by decide +kernel
theorem dX6_readHash_32 : decode cX6_readHash 32 = .ok (.bipush 8, 2) := by decide +kernel
theorem dX6_readHash_34 : decode cX6_readHash 34 = .ok (.if_icmp .ne 32, 3) := by decide +kernel
theorem dX6_readHash_37 : decode cX6_readHash 37 = .ok (.aload_n 0, 1) := by decide +kernel
theorem dX6_readHash_38 : decode cX6_readHash 38 = .ok (.getfield 12, 3) := by decide +kernel
theorem dX6_readHash_41 : decode cX6_readHash 41 = .ok (.iload_n 2, 1) := by decide +kernel
theorem dX6_readHash_42 : decode cX6_readHash 42 = .ok (.aload_n 0, 1) := by decide +kernel
theorem dX6_readHash_43 : decode cX6_readHash 43 = .ok (.getfield 110, 3) := by decide +kernel
theorem dX6_readHash_46 : decode cX6_readHash 46 = .ok (.aload_n 0, 1) := by decide +kernel
theorem dX6_readHash_47 : decode cX6_readHash 47 = .ok (.getfield 12, 3) := by decide +kernel
theorem dX6_readHash_50 : decode cX6_readHash 50 = .ok (.getfield 147, 3) := by decide +kernel
theorem dX6_readHash_53 : decode cX6_readHash 53 = .ok (.aload_n 0, 1) := by decide +kernel
theorem dX6_readHash_54 : decode cX6_readHash 54 = .ok (.getfield 12, 3) := by decide +kernel
theorem dX6_readHash_57 : decode cX6_readHash 57 = .ok (.getfield 150, 3) := by decide +kernel
theorem dX6_readHash_60 : decode cX6_readHash 60 = .ok (.invokevirtual 153, 3) := by decide +kernel
theorem dX6_readHash_63 : decode cX6_readHash 63 = .ok (.goto 29, 3) := by decide +kernel
theorem dX6_readHash_66 : decode cX6_readHash 66 = .ok (.aload_n 0, 1) := by decide +kernel
theorem dX6_readHash_67 : decode cX6_readHash 67 = .ok (.getfield 12, 3) := by decide +kernel
theorem dX6_readHash_70 : decode cX6_readHash 70 = .ok (.aload_n 0, 1) := by decide +kernel
theorem dX6_readHash_71 : decode cX6_readHash 71 = .ok (.getfield 12, 3) := by decide +kernel
theorem dX6_readHash_74 : decode cX6_readHash 74 = .ok (.getfield 157, 3) := by decide +kernel
theorem dX6_readHash_77 : decode cX6_readHash 77 = .ok (.aload_n 0, 1) := by decide +kernel
theorem dX6_readHash_78 : decode cX6_readHash 78 = .ok (.getfield 12, 3) := by decide +kernel
theorem dX6_readHash_81 : decode cX6_readHash 81 = .ok (.getfield 160, 3) := by decide +kernel
theorem dX6_readHash_84 : decode cX6_readHash 84 = .ok (.iload_n 2, 1) := by decide +kernel
theorem dX6_readHash_85 : decode cX6_readHash 85 = .ok (.aload_n 0, 1) := by decide +kernel
theorem dX6_readHash_86 : decode cX6_readHash 86 = .ok (.getfield 110, 3) := by decide +kernel
theorem dX6_readHash_89 : decode cX6_readHash 89 = .ok (.invokevirtual 153, 3) := by decide +kernel
theorem dX6_readHash_92 : decode cX6_readHash 92 = .ok (.iconst 1, 1) := by decide +kernel
theorem dX6_readHash_93 : decode cX6_readHash 93 = .ok (.ireturn, 1) := by decide +kernel
theorem dX6_readHas_0 : decode cX6_readHas 0 = .ok (.aload_n 0, 1) := by decide +kernel
theorem dX6_readHas_1 : decode cX6_readHas 1 = .ok (.getfield 163, 3) := by decide +kernel
theorem dX6_readHas_4 : decode cX6_readHas 4 = .ok (.istore_n 1, 1) := by decide +kernel
theorem dX6_readHas_5 : decode cX6_readHas 5 = .ok (.aload_n 0, 1) := by decide +kernel
theorem dX6_readHas_6 : decode cX6_readHas 6 = .ok (.iconst 0, 1) := by decide +kernel
theorem dX6_readHas_7 : decode cX6_readHas 7 = .ok (.sipush 999, 3) := by decide +kernel
theorem dX6_readHas_10 : decode cX6_readHas 10 = .ok (.invokevirtual 106, 3) := by decide +kernel
theorem dX6_readHas_13 : decode cX6_readHas 13 = .ok (.ifCond .ne 5, 3) := by decide +kernel
theorem dX6_readHas_16 : decode cX6_readHas 16 = .ok (.iconst 0, 1) := by decide +kernel
theorem dX6_readHas_17 : decode cX6_readHas 17 = .ok (.ireturn, 1) := by decide +kernel
theorem dX6_readHas_18 : decode cX6_readHas 18 = .ok (.aload_n 0, 1) := by decide +kernel
theorem dX6_readHas_19 : decode cX6_readHas 19 = .ok (.getfield 110, 3) := by decide +kernel
theorem dX6_readHas_22 : decode cX6_readHas 22 = .ok (.istore_n 2, 1) := by decide +kernel
theorem dX6_readHas_23 : decode cX6_readHas 23 = .ok (.iconst 0, 1) := by decide +kernel
theorem dX6_readHas_24 : decode cX6_readHas 24 = .ok (.istore_n 3, 1) := by decide +kernel
theorem dX6_readHas_25 : decode cX6_readHas 25 = .ok (.iload_n 3, 1) := by decide +kernel
theorem dX6_readHas_26 : decode cX6_readHas 26 = .ok (.aload_n 0, 1) := by decide +kernel
theorem dX6_readHas_27 : decode cX6_readHas 27 = .ok (.getfield 48, 3) := by decide +kernel
theorem dX6_readHas_30 : decode cX6_readHas 30 = .ok (.if_icmp .ge 25, 3) := by decide +kernel
theorem dX6_readHas_33 : decode cX6_readHas 33 = .ok (.aload_n 0, 1) := by decide +kernel
theorem dX6_readHas_34 : decode cX6_readHas 34 = .ok (.getfield 18, 3) := by decide +kernel
theorem dX6_readHas_37 : decode cX6_readHas 37 = .ok (.iload_n 3, 1) := by decide +kernel
theorem dX6_readHas_38 : decode cX6_readHas 38 = .ok (.iaload, 1) := by decide +kernel
theorem dX6_readHas_39 : decode cX6_readHas 39 = .ok (.iload_n 2, 1) := by decide +kernel
theorem dX6_readHas_40 : decode cX6_readHas 40 = .ok (.if_icmp .ne 9, 3) := by decide +kernel
theorem dX6_readHas_43 : decode cX6_readHas 43 = .ok (.aload_n 0, 1) := by decide +kernel
theorem dX6_readHas_44 : decode cX6_readHas 44 = .ok (.iconst 3, 1) := by decide +kernel
theorem dX6_readHas_45 : decode cX6_readHas 45 = .ok (.iload_n 1, 1) := by decide +kernel
theorem dX6_readHas_46 : decode cX6_readHas 46 = .ok (.invokevirtual 166, 3) := by decide +kernel
theorem dX6_readHas_49 : decode cX6_readHas 49 = .ok (.iinc 3 1, 3) := by decide +kernel
theorem dX6_readHas_52 : decode cX6_readHas 52 = .ok (.goto (-27), 3) := by decide +kernel
theorem dX6_readHas_55 : decode cX6_readHas 55 = .ok (.aload_n 0, 1) := by decide +kernel
theorem dX6_readHas_56 : decode cX6_readHas 56 = .ok (.iconst 0, 1) := by decide +kernel
theorem dX6_readHas_57 : decode cX6_readHas 57 = .ok (.sipush 999, 3) := by decide +kernel
theorem dX6_readHas_60 : decode cX6_readHas 60 = .ok (.invokevirtual 106, 3) := by decide +kernel
theorem dX6_readHas_63 : decode cX6_readHas 63 = .ok (.ifCond .ne 5, 3) := by decide +kernel
theorem dX6_readHas_66 : decode cX6_readHas 66 = .ok (.iconst 0, 1) := by decide +kernel
theorem dX6_readHas_67 : decode cX6_readHas 67 = .ok (.ireturn, 1) := by decide +kernel
theorem dX6_readHas_68 : decode cX6_readHas 68 = .ok (.aload_n 0, 1) := by decide +kernel
theorem dX6_readHas_69 : decode cX6_readHas 69 = .ok (.getfield 48, 3) := by decide +kernel
theorem dX6_readHas_72 : decode cX6_readHas 72 = .ok (.aload_n 0, 1) := by decide +kernel
theorem dX6_readHas_73 : decode cX6_readHas 73 = .ok (.getfield 18, 3) := by decide +kernel
theorem dX6_readHas_76 : decode cX6_readHas 76 = .ok (.arraylength, 1) := by decide +kernel
theorem dX6_readHas_77 : decode cX6_readHas 77 = .ok (.if_icmp .ge 46, 3) := by decide +kernel
theorem dX6_readHas_80 : decode cX6_readHas 80 = .ok (.aload_n 0, 1) := by decide +kernel
theorem dX6_readHas_81 : decode cX6_readHas 81 = .ok (.getfield 18, 3) := by decide +kernel
theorem dX6_readHas_84 : decode cX6_readHas 84 = .ok (.aload_n 0, 1) := by decide +kernel
theorem dX6_readHas_85 : decode cX6_readHas 85 = .ok (.getfield 48, 3) := by decide +kernel
theorem dX6_readHas_88 : decode cX6_readHas 88 = .ok (.iload_n 2, 1) := by decide +kernel
theorem dX6_readHas_89 : decode cX6_readHas 89 = .ok (.iastore, 1) := by decide +kernel
theorem dX6_readHas_90 : decode cX6_readHas 90 = .ok (.aload_n 0, 1) := by decide +kernel
theorem dX6_readHas_91 : decode cX6_readHas 91 = .ok (.getfield 22, 3) := by decide +kernel
theorem dX6_readHas_94 : decode cX6_readHas 94 = .ok (.aload_n 0, 1) := by decide +kernel
theorem dX6_readHas_95 : decode cX6_readHas 95 = .ok (.getfield 48, 3) := by decide +kernel
theorem dX6_readHas_98 : decode cX6_readHas 98 = .ok (.aload_n 0, 1) := by decide +kernel
theorem dX6_readHas_99 : decode cX6_readHas 99 = .ok (.getfield 110, 3) := by decide +kernel
theorem dX6_readHas_102 : decode cX6_readHas 102 = .ok (.iastore, 1) := by decide +kernel
theorem dX6_readHas_103 : decode cX6_readHas 103 = .ok (.aload_n 0, 1) := by decide +kernel
theorem dX6_readHas_104 : decode cX6_readHas 104 = .ok (.getfield 25, 3) := by decide +kernel
theorem dX6_readHas_107 : decode cX6_readHas 107 = .ok (.aload_n 0, 1) := by decide +kernel
theorem dX6_readHas_108 : decode cX6_readHas 108 = .ok (.getfield 48, 3) := by decide +kernel
theorem dX6_readHas_111 : decode cX6_readHas 111 = .ok (.iload_n 1, 1) := by decide +kernel
theorem dX6_readHas_112 : decode cX6_readHas 112 = .ok (.iastore, 1) := by decide +kernel
theorem dX6_readHas_113 : decode cX6_readHas 113 = .ok (.aload_n 0, 1) := by decide +kernel
theorem dX6_readHas_114 : decode cX6_readHas 114 = .ok (.dup, 1) := by decide +kernel
theorem dX6_readHas_115 : decode cX6_readHas 115 = .ok (.getfield 48, 3) := by decide +kernel
theorem dX6_readHas_118 : decode cX6_readHas 118 = .ok (.iconst 1, 1) := by decide +kernel
theorem dX6_readHas_119 : decode cX6_readHas 119 = .ok (.iadd, 1) := by decide +kernel
theorem dX6_readHas_120 : decode cX6_readHas 120 = .ok (.putfield 48, 3) := by decide +kernel
theorem dX6_readHas_123 : decode cX6_readHas 123 = .ok (.iconst 1, 1) := by decide +kernel
theorem dX6_readHas_124 : decode cX6_readHas 124 = .ok (.ireturn, 1) := by decide +kernel
theorem dX6_readNumber_0 : decode cX6_readNumber 0 = .ok (.aload_n 0, 1) := by decide +kernel
theorem dX6_readNumber_1 : decode cX6_readNumber 1 = .ok (.getfield 60, 3) := by decide +kernel
theorem dX6_readNumber_4 : decode cX6_readNumber 4 = .ok (.iconst 2, 1) := by decide +kernel
theorem dX6_readNumber_5 : decode cX6_readNumber 5 = .ok (.if_icmp .eq 8, 3) := by decide +kernel
theorem dX6_readNumber_8 : decode cX6_readNumber 8 = .ok (.aload_n 0, 1) := by decide +kernel
theorem dX6_readNumber_9 : decode cX6_readNumber 9 = .ok (.invokevirtual 84, 3) := by decide +kernel
theorem dX6_readNumber_12 : decode cX6_readNumber 12 = .ok (.ireturn, 1) := by decide +kernel
theorem dX6_readNumber_13 : decode cX6_readNumber 13 = .ok (.aload_n 0, 1) := by decide +kernel
theorem dX6_readNumber_14 : decode cX6_readNumber 14 = .ok (.aload_n 0, 1) := by decide +kernel
theorem dX6_readNumber_15 : decode cX6_readNumber 15 = .ok (.getfield 170, 3) := by decide +kernel
theorem dX6_readNumber_18 : decode cX6_readNumber 18 = .ok (.putfield 110, 3) := by decide +kernel
theorem dX6_readNumber_21 : decode cX6_readNumber 21 = .ok (.aload_n 0, 1) := by decide +kernel
theorem dX6_readNumber_22 : decode cX6_readNumber 22 = .ok (.getfield 110, 3) := by decide +kernel
theorem dX6_readNumber_25 : decode cX6_readNumber 25 = .ok (.iload_n 1, 1) := by decide +kernel
theorem dX6_readNumber_26 : decode cX6_readNumber 26 = .ok (.if_icmp .lt 11, 3) := by decide +kernel
theorem dX6_readNumber_29 : decode cX6_readNumber 29 = .ok (.aload_n 0, 1) := by decide +kernel
theorem dX6_readNumber_30 : decode cX6_readNumber 30 = .ok (.getfield 110, 3) := by decide +kernel
theorem dX6_readNumber_33 : decode cX6_readNumber 33 = .ok (.iload_n 2, 1) := by decide +kernel
theorem dX6_readNumber_34 : decode cX6_readNumber 34 = .ok (.if_icmp .le 12, 3) := by decide +kernel
theorem dX6_readNumber_37 : decode cX6_readNumber 37 = .ok (.aload_n 0, 1) := by decide +kernel
theorem dX6_readNumber_38 : decode cX6_readNumber 38 = .ok (.iconst 2, 1) := by decide +kernel
theorem dX6_readNumber_39 : decode cX6_readNumber 39 = .ok (.aload_n 0, 1) := by decide +kernel
theorem dX6_readNumber_40 : decode cX6_readNumber 40 = .ok (.getfield 163, 3) := by decide +kernel
theorem dX6_readNumber_43 : decode cX6_readNumber 43 = .ok (.invokevirtual 166, 3) := by decide +kernel
theorem dX6_readNumber_46 : decode cX6_readNumber 46 = .ok (.aload_n 0, 1) := by decide +kernel
theorem dX6_readNumber_47 : decode cX6_readNumber 47 = .ok (.invokevirtual 57, 3) := by decide +kernel
theorem dX6_readNumber_50 : decode cX6_readNumber 50 = .ok (.iconst 1, 1) := by decide +kernel
theorem dX6_readNumber_51 : decode cX6_readNumber 51 = .ok (.ireturn, 1) := by decide +kernel
theorem dX6_note_0 : decode cX6_note 0 = .ok (.aload_n 0, 1) := by decide +kernel
theorem dX6_note_1 : decode cX6_note 1 = .ok (.getfield 42, 3) := by decide +kernel
theorem dX6_note_4 : decode cX6_note 4 = .ok (.ifCond .ne 13, 3) := by decide +kernel
theorem dX6_note_7 : decode cX6_note 7 = .ok (.aload_n 0, 1) := by decide +kernel
theorem dX6_note_8 : decode cX6_note 8 = .ok (.iload_n 1, 1) := by decide +kernel
theorem dX6_note_9 : decode cX6_note 9 = .ok (.putfield 42, 3) := by decide +kernel
theorem dX6_note_12 : decode cX6_note 12 = .ok (.aload_n 0, 1) := by decide +kernel
theorem dX6_note_13 : decode cX6_note 13 = .ok (.iload_n 2, 1) := by decide +kernel
theorem dX6_note_14 : decode cX6_note 14 = .ok (.putfield 45, 3) := by decide +kernel
theorem dX6_note_17 : decode cX6_note 17 = .ok (.return_, 1) := by decide +kernel
theorem dX6_stop_0 : decode cX6_stop 0 = .ok (.aload_n 0, 1) := by decide +kernel
theorem dX6_stop_1 : decode cX6_stop 1 = .ok (.iconst 1, 1) := by decide +kernel
theorem dX6_stop_2 : decode cX6_stop 2 = .ok (.putfield 42, 3) := by decide +kernel
theorem dX6_stop_5 : decode cX6_stop 5 = .ok (.aload_n 0, 1) := by decide +kernel
theorem dX6_stop_6 : decode cX6_stop 6 = .ok (.aload_n 0, 1) := by decide +kernel
theorem dX6_stop_7 : decode cX6_stop 7 = .ok (.getfield 163, 3) := by decide +kernel
theorem dX6_stop_10 : decode cX6_stop 10 = .ok (.putfield 45, 3) := by decide +kernel
theorem dX6_stop_13 : decode cX6_stop 13 = .ok (.iconst 0, 1) := by decide +kernel
theorem dX6_stop_14 : decode cX6_stop 14 = .ok (.ireturn, 1) := by decide +kernel
theorem dX6_step_0 : decode cX6_step 0 = .ok (.aload_n 0, 1) := by decide +kernel
theorem dX6_step_1 : decode cX6_step 1 = .ok (.getfield 54, 3) := by decide +kernel
theorem dX6_step_4 : decode cX6_step 4 = .ok (.aload_n 0, 1) := by decide +kernel
theorem dX6_step_5 : decode cX6_step 5 = .ok (.getfield 38, 3) := by decide +kernel
theorem dX6_step_8 : decode cX6_step 8 = .ok (.if_icmp .ge 44, 3) := by decide +kernel
theorem dX6_step_11 : decode cX6_step 11 = .ok (.aload_n 0, 1) := by decide +kernel
theorem dX6_step_12 : decode cX6_step 12 = .ok (.getfield 28, 3) := by decide +kernel
theorem dX6_step_15 : decode cX6_step 15 = .ok (.aload_n 0, 1) := by decide +kernel
theorem dX6_step_16 : decode cX6_step 16 = .ok (.getfield 54, 3) := by decide +kernel
theorem dX6_step_19 : decode cX6_step 19 = .ok (.baload, 1) := by decide +kernel
theorem dX6_step_20 : decode cX6_step 20 = .ok (.bipush 10, 2) := by decide +kernel
theorem dX6_step_22 : decode cX6_step 22 = .ok (.if_icmp .eq 17, 3) := by decide +kernel
theorem dX6_step_25 : decode cX6_step 25 = .ok (.aload_n 0, 1) := by decide +kernel
theorem dX6_step_26 : decode cX6_step 26 = .ok (.getfield 28, 3) := by decide +kernel
theorem dX6_step_29 : decode cX6_step 29 = .ok (.aload_n 0, 1) := by decide +kernel
theorem dX6_step_30 : decode cX6_step 30 = .ok (.getfield 54, 3) := by decide +kernel
theorem dX6_step_33 : decode cX6_step 33 = .ok (.baload, 1) := by decide +kernel
theorem dX6_step_34 : decode cX6_step 34 = .ok (.bipush 32, 2) := by decide +kernel
theorem dX6_step_36 : decode cX6_step 36 = .ok (.if_icmp .ne 16, 3) := by decide +kernel
theorem dX6_step_39 : decode cX6_step 39 = .ok (.aload_n 0, 1) := by decide +kernel
theorem dX6_step_40 : decode cX6_step 40 = .ok (.dup, 1) := by decide +kernel
theorem dX6_step_41 : decode cX6_step 41 = .ok (.getfield 54, 3) := by decide +kernel
theorem dX6_step_44 : decode cX6_step 44 = .ok (.iconst 1, 1) := by decide +kernel
theorem dX6_step_45 : decode cX6_step 45 = .ok (.iadd, 1) := by decide +kernel
theorem dX6_step_46 : decode cX6_step 46 = .ok (.putfield 54, 3) := by decide +kernel
theorem dX6_step_49 : decode cX6_step 49 = .ok (.goto (-49), 3) := by decide +kernel
theorem dX6_step_52 : decode cX6_step 52 = .ok (.aload_n 0, 1) := by decide +kernel
theorem dX6_step_53 : decode cX6_step 53 = .ok (.aload_n 0, 1) := by decide +kernel
theorem dX6_step_54 : decode cX6_step 54 = .ok (.getfield 54, 3) := by decide +kernel
theorem dX6_step_57 : decode cX6_step 57 = .ok (.putfield 163, 3) := by decide +kernel
theorem dX6_step_60 : decode cX6_step 60 = .ok (.aload_n 0, 1) := by decide +kernel
theorem dX6_step_61 : decode cX6_step 61 = .ok (.getfield 54, 3) := by decide +kernel
theorem dX6_step_64 : decode cX6_step 64 = .ok (.aload_n 0, 1) := by decide +kernel
theorem dX6_step_65 : decode cX6_step 65 = .ok (.getfield 38, 3) := by decide +kernel
theorem dX6_step_68 : decode cX6_step 68 = .ok (.if_icmp .lt 11, 3) := by decide +kernel
theorem dX6_step_71 : decode cX6_step 71 = .ok (.aload_n 0, 1) := by decide +kernel
theorem dX6_step_72 : decode cX6_step 72 = .ok (.iconst 0, 1) := by decide +kernel
theorem dX6_step_73 : decode cX6_step 73 = .ok (.putfield 60, 3) := by decide +kernel
theorem dX6_step_76 : decode cX6_step 76 = .ok (.goto 129, 3) := by decide +kernel
theorem dX6_step_79 : decode cX6_step 79 = .ok (.aload_n 0, 1) := by decide +kernel
theorem dX6_step_80 : decode cX6_step 80 = .ok (.getfield 28, 3) := by decide +kernel
theorem dX6_step_83 : decode cX6_step 83 = .ok (.aload_n 0, 1) := by decide +kernel
theorem dX6_step_84 : decode cX6_step 84 = .ok (.getfield 54, 3) := by decide +kernel
theorem dX6_step_87 : decode cX6_step 87 = .ok (.baload, 1) := by decide +kernel
theorem dX6_step_88 : decode cX6_step 88 = .ok (.bipush 59, 2) := by decide +kernel
theorem dX6_step_90 : decode cX6_step 90 = .ok (.if_icmp .ne 21, 3) := by decide +kernel
theorem dX6_step_93 : decode cX6_step 93 = .ok (.aload_n 0, 1) := by decide +kernel
theorem dX6_step_94 : decode cX6_step 94 = .ok (.iconst 3, 1) := by decide +kernel
theorem dX6_step_95 : decode cX6_step 95 = .ok (.putfield 60, 3) := by decide +kernel
theorem dX6_step_98 : decode cX6_step 98 = .ok (.aload_n 0, 1) := by decide +kernel
theorem dX6_step_99 : decode cX6_step 99 = .ok (.dup, 1) := by decide +kernel
theorem dX6_step_100 : decode cX6_step 100 = .ok (.getfield 54, 3) := by decide +kernel
theorem dX6_step_103 : decode cX6_step 103 = .ok (.iconst 1, 1) := by decide +kernel
theorem dX6_step_104 : decode cX6_step 104 = .ok (.iadd, 1) := by decide +kernel
theorem dX6_step_105 : decode cX6_step 105 = .ok (.putfield 54, 3) := by decide +kernel
theorem dX6_step_108 : decode cX6_step 108 = .ok (.goto 97, 3) := by decide +kernel
theorem dX6_step_111 : decode cX6_step 111 = .ok (.aload_n 0, 1) := by decide +kernel
theorem dX6_step_112 : decode cX6_step 112 = .ok (.getfield 28, 3) := by decide +kernel
theorem dX6_step_115 : decode cX6_step 115 = .ok (.aload_n 0, 1) := by decide +kernel
theorem dX6_step_116 : decode cX6_step 116 = .ok (.getfield 54, 3) := by decide +kernel
theorem dX6_step_119 : decode cX6_step 119 = .ok (.baload, 1) := by decide +kernel
theorem dX6_step_120 : decode cX6_step 120 = .ok (.invokestatic 173, 3) := by decide +kernel
theorem dX6_step_123 : decode cX6_step 123 = .ok (.ifCond .eq 10, 3) := by decide +kernel
theorem dX6_step_126 : decode cX6_step 126 = .ok (.aload_n 0, 1) := by decide +kernel
theorem dX6_step_127 : decode cX6_step 127 = .ok (.invokevirtual 176, 3) := by decide +kernel
theorem dX6_step_130 : decode cX6_step 130 = .ok (.goto 75, 3) := by decide +kernel
theorem dX6_step_133 : decode cX6_step 133 = .ok (.aload_n 0, 1) := by decide +kernel
theorem dX6_step_134 : decode cX6_step 134 = .ok (.getfield 54, 3) := by decide +kernel
theorem dX6_step_137 : decode cX6_step 137 = .ok (.aload_n 0, 1) := by decide +kernel
theorem dX6_step_138 : decode cX6_step 138 = .ok (.getfield 38, 3) := by decide +kernel
theorem dX6_step_141 : decode cX6_step 141 = .ok (.if_icmp .ge 44, 3) := by decide +kernel
theorem dX6_step_144 : decode cX6_step 144 = .ok (.aload_n 0, 1) := by decide +kernel
theorem dX6_step_145 : decode cX6_step 145 = .ok (.getfield 28, 3) := by decide +kernel
theorem dX6_step_148 : decode cX6_step 148 = .ok (.aload_n 0, 1) := by decide +kernel
theorem dX6_step_149 : decode cX6_step 149 = .ok (.getfield 54, 3) := by decide +kernel
theorem dX6_step_152 : decode cX6_step 152 = .ok (.baload, 1) := by decide +kernel
theorem dX6_step_153 : decode cX6_step 153 = .ok (.bipush 97, 2) := by decide +kernel
theorem dX6_step_155 : decode cX6_step 155 = .ok (.if_icmp .lt 30, 3) := by decide +kernel
theorem dX6_step_158 : decode cX6_step 158 = .ok (.aload_n 0, 1) := by decide +kernel
theorem dX6_step_159 : decode cX6_step 159 = .ok (.getfield 28, 3) := by decide +kernel
theorem dX6_step_162 : decode cX6_step 162 = .ok (.aload_n 0, 1) := by decide +kernel
theorem dX6_step_163 : decode cX6_step 163 = .ok (.getfield 54, 3) := by decide +kernel
theorem dX6_step_166 : decode cX6_step 166 = .ok (.baload, 1) := by decide +kernel
theorem dX6_step_167 : decode cX6_step 167 = .ok (.bipush 122, 2) := by decide +kernel
theorem dX6_step_169 : decode cX6_step 169 = .ok (.if_icmp .gt 16, 3) := by decide +kernel
theorem dX6_step_172 : decode cX6_step 172 = .ok (.aload_n 0, 1) := by decide +kernel
theorem dX6_step_173 : decode cX6_step 173 = .ok (.dup, 1) := by decide +kernel
theorem dX6_step_174 : decode cX6_step 174 = .ok (.getfield 54, 3) := by decide +kernel
theorem dX6_step_177 : decode cX6_step 177 = .ok (.iconst 1, 1) := by decide +kernel
theorem dX6_step_178 : decode cX6_step 178 = .ok (.iadd, 1) := by decide +kernel
theorem dX6_step_179 : decode cX6_step 179 = .ok (.putfield 54, 3) := by decide +kernel
theorem dX6_step_182 : decode cX6_step 182 = .ok (.goto (-49), 3) := by decide +kernel
theorem dX6_step_185 : decode cX6_step 185 = .ok (.aload_n 0, 1) := by decide +kernel
theorem dX6_step_186 : decode cX6_step 186 = .ok (.aload_n 0, 1) := by decide +kernel
theorem dX6_step_187 : decode cX6_step 187 = .ok (.getfield 54, 3) := by decide +kernel
theorem dX6_step_190 : decode cX6_step 190 = .ok (.aload_n 0, 1) := by decide +kernel
theorem dX6_step_191 : decode cX6_step 191 = .ok (.getfield 163, 3) := by decide +kernel
theorem dX6_step_194 : decode cX6_step 194 = .ok (.if_icmp .le 7, 3) := by decide +kernel
theorem dX6_step_197 : decode cX6_step 197 = .ok (.iconst 1, 1) := by decide +kernel
theorem dX6_step_198 : decode cX6_step 198 = .ok (.goto 4, 3) := by decide +kernel
theorem dX6_step_201 : decode cX6_step 201 = .ok (.iconst 4, 1) := by decide +kernel
theorem dX6_step_202 : decode cX6_step 202 = .ok (.putfield 60, 3) := by decide +kernel
theorem dX6_step_205 : decode cX6_step 205 = .ok (.return_, 1) := by decide +kernel
theorem dX6_stepOverDigits_0 : decode cX6_stepOverDigits 0 = .ok (.iconst 0, 1) := by decide +kernel
theorem dX6_stepOverDigits_1 : decode cX6_stepOverDigits 1 = .ok (.istore_n 1, 1) := by decide +kernel
theorem dX6_stepOverDigits_2 : decode cX6_stepOverDigits 2 = .ok (.aload_n 0, 1) := by decide +kernel
theorem dX6_stepOverDigits_3 : decode cX6_stepOverDigits 3 = .ok (.getfield 54, 3) := by decide +kernel
theorem dX6_stepOverDigits_6 : decode cX6_stepOverDigits 6 = .ok (.aload_n 0, 1) := by decide +kernel
theorem dX6_stepOverDigits_7 : decode cX6_stepOverDigits 7 = .ok (.getfield 38, 3) := by decide +kernel
theorem dX6_stepOverDigits_10 : decode cX6_stepOverDigits 10 = .ok (.if_icmp .ge 66, 3) := by decide +kernel
theorem dX6_stepOverDigits_13 : decode cX6_stepOverDigits 13 = .ok (.aload_n 0, 1) := by decide +kernel
theorem dX6_stepOverDigits_14 : decode cX6_stepOverDigits 14 = .ok (.getfield 28, 3) := by decide +kernel
theorem dX6_stepOverDigits_17 : decode cX6_stepOverDigits 17 = .ok (.aload_n 0, 1) := by decide +kernel
theorem dX6_stepOverDigits_18 : decode cX6_stepOverDigits 18 = .ok (.getfield 54, 3) := by decide +kernel
theorem dX6_stepOverDigits_21 : decode cX6_stepOverDigits 21 = .ok (.baload, 1) := by decide +kernel
theorem dX6_stepOverDigits_22 : decode cX6_stepOverDigits 22 = .ok (.invokestatic 173, 3) := by decide +kernel
theorem dX6_stepOverDigits_25 : decode cX6_stepOverDigits 25 = .ok (.ifCond .eq 51, 3) := by decide +kernel
theorem dX6_stepOverDigits_28 : decode cX6_stepOverDigits 28 = .ok (.aload_n 0, 1) := by decide +kernel
theorem dX6_stepOverDigits_29 : decode cX6_stepOverDigits 29 = .ok (.getfield 54, 3) := by decide +kernel
theorem dX6_stepOverDigits_32 : decode cX6_stepOverDigits 32 = .ok (.aload_n 0, 1) := by decide +kernel
theorem dX6_stepOverDigits_33 : decode cX6_stepOverDigits 33 = .ok (.getfield 163, 3) := by decide +kernel
theorem dX6_stepOverDigits_36 : decode cX6_stepOverDigits 36 = .ok (.isub, 1) := by decide +kernel
theorem dX6_stepOverDigits_37 : decode cX6_stepOverDigits 37 = .ok (.iconst 4, 1) := by decide +kernel
theorem dX6_stepOverDigits_38 : decode cX6_stepOverDigits 38 = .ok (.if_icmp .ge 23, 3) := by decide +kernel
theorem dX6_stepOverDigits_41 : decode cX6_stepOverDigits 41 = .ok (.bipush 10, 2) := by decide +kernel
theorem dX6_stepOverDigits_43 : decode cX6_stepOverDigits 43 = .ok (.iload_n 1, 1) := by decide +kernel
theorem dX6_stepOverDigits_44 : decode cX6_stepOverDigits 44 = .ok (.imul, 1) := by decide +kernel
theorem dX6_stepOverDigits_45 : decode cX6_stepOverDigits 45 = .ok (.aload_n 0, 1) := by decide +kernel
theorem dX6_stepOverDigits_46 : decode cX6_stepOverDigits 46 = .ok (.getfield 28, 3) := by decide +kernel
theorem dX6_stepOverDigits_49 : decode cX6_stepOverDigits 49 = .ok (.aload_n 0, 1) := by decide +kernel
theorem dX6_stepOverDigits_50 : decode cX6_stepOverDigits 50 = .ok (.getfield 54, 3) := by decide +kernel
theorem dX6_stepOverDigits_53 : decode cX6_stepOverDigits 53 = .ok (.baload, 1) := by decide +kernel
theorem dX6_stepOverDigits_54 : decode cX6_stepOverDigits 54 = .ok (.iadd, 1) := by decide +kernel
theorem dX6_stepOverDigits_55 : decode cX6_stepOverDigits 55 = .ok (.bipush 48, 2) := by decide +kernel
theorem dX6_stepOverDigits_57 : decode cX6_stepOverDigits 57 = .ok (.isub, 1) := by decide +kernel
theorem dX6_stepOverDigits_58 : decode cX6_stepOverDigits 58 = .ok (.goto 4, 3) := by decide +kernel
theorem dX6_stepOverDigits_61 : decode cX6_stepOverDigits 61 = .ok (.iload_n 1, 1) := by decide +kernel
theorem dX6_stepOverDigits_62 : decode cX6_stepOverDigits 62 = .ok (.istore_n 1, 1) := by decide +kernel
theorem dX6_stepOverDigits_63 : decode cX6_stepOverDigits 63 = .ok (.aload_n 0, 1) := by decide +kernel
theorem dX6_stepOverDigits_64 : decode cX6_stepOverDigits 64 = .ok (.dup, 1) := by decide +kernel
theorem dX6_stepOverDigits_65 : decode cX6_stepOverDigits 65 = .ok (.getfield 54, 3) := by decide +kernel
theorem dX6_stepOverDigits_68 : decode cX6_stepOverDigits 68 = .ok (.iconst 1, 1) := by decide +kernel
theorem dX6_stepOverDigits_69 : decode cX6_stepOverDigits 69 = .ok (.iadd, 1) := by decide +kernel
theorem dX6_stepOverDigits_70 : decode cX6_stepOverDigits 70 = .ok (.putfield 54, 3) := by decide +kernel
theorem dX6_stepOverDigits_73 : decode cX6_stepOverDigits 73 = .ok (.goto (-71), 3) := by decide +kernel
theorem dX6_stepOverDigits_76 : decode cX6_stepOverDigits 76 = .ok (.aload_n 0, 1) := by decide +kernel
theorem dX6_stepOverDigits_77 : decode cX6_stepOverDigits 77 = .ok (.iload_n 1, 1) := by decide +kernel
theorem dX6_stepOverDigits_78 : decode cX6_stepOverDigits 78 = .ok (.putfield 170, 3) := by decide +kernel
theorem dX6_stepOverDigits_81 : decode cX6_stepOverDigits 81 = .ok (.aload_n 0, 1) := by decide +kernel
theorem dX6_stepOverDigits_82 : decode cX6_stepOverDigits 82 = .ok (.aload_n 0, 1) := by decide +kernel
theorem dX6_stepOverDigits_83 : decode cX6_stepOverDigits 83 = .ok (.getfield 54, 3) := by decide +kernel
theorem dX6_stepOverDigits_86 : decode cX6_stepOverDigits 86 = .ok (.aload_n 0, 1) := by decide +kernel
theorem dX6_stepOverDigits_87 : decode cX6_stepOverDigits 87 = .ok (.getfield 163, 3) := by decide +kernel
theorem dX6_stepOverDigits_90 : decode cX6_stepOverDigits 90 = .ok (.isub, 1) := by decide +kernel
theorem dX6_stepOverDigits_91 : decode cX6_stepOverDigits 91 = .ok (.iconst 4, 1) := by decide +kernel
theorem dX6_stepOverDigits_92 : decode cX6_stepOverDigits 92 = .ok (.if_icmp .gt 7, 3) := by decide +kernel
theorem dX6_stepOverDigits_95 : decode cX6_stepOverDigits 95 = .ok (.iconst 2, 1) := by decide +kernel
theorem dX6_stepOverDigits_96 : decode cX6_stepOverDigits 96 = .ok (.goto 4, 3) := by decide +kernel
theorem dX6_stepOverDigits_99 : decode cX6_stepOverDigits 99 = .ok (.iconst 4, 1) := by decide +kernel
theorem dX6_stepOverDigits_100 : decode cX6_stepOverDigits 100 = .ok (.putfield 60, 3) := by decide +kernel
theorem dX6_stepOverDigits_103 : decode cX6_stepOverDigits 103 = .ok (.return_, 1) := by decide +kernel
theorem dX6_isDigit_0 : decode cX6_isDigit 0 = .ok (.iload_n 0, 1) := by decide +kernel
theorem dX6_isDigit_1 : decode cX6_isDigit 1 = .ok (.bipush 48, 2) := by decide +kernel
theorem dX6_isDigit_3 : decode cX6_isDigit 3 = .ok (.if_icmp .lt 13, 3) := by decide +kernel
theorem dX6_isDigit_6 : decode cX6_isDigit 6 = .ok (.iload_n 0, 1) := by decide +kernel
theorem dX6_isDigit_7 : decode cX6_isDigit 7 = .ok (.bipush 57, 2) := by decide +kernel
theorem dX6_isDigit_9 : decode cX6_isDigit 9 = .ok (.if_icmp .gt 7, 3) := by decide +kernel
theorem dX6_isDigit_12 : decode cX6_isDigit 12 = .ok (.iconst 1, 1) := by decide +kernel
theorem dX6_isDigit_13 : decode cX6_isDigit 13 = .ok (.goto 4, 3) := by decide +kernel
theorem dX6_isDigit_16 : decode cX6_isDigit 16 = .ok (.iconst 0, 1) := by decide +kernel
theorem dX6_isDigit_17 : decode cX6_isDigit 17 = .ok (.ireturn, 1) := by decide +kernel
theorem dX6_wordOf_0 : decode cX6_wordOf 0 = .ok (.iconst 0, 1) := by decide +kernel
theorem dX6_wordOf_1 : decode cX6_wordOf 1 = .ok (.istore_n 2, 1) := by decide +kernel
theorem dX6_wordOf_2 : decode cX6_wordOf 2 = .ok (.aload_n 0, 1) := by decide +kernel
theorem dX6_wordOf_3 : decode cX6_wordOf 3 = .ok (.getfield 163, 3) := by decide +kernel
theorem dX6_wordOf_6 : decode cX6_wordOf 6 = .ok (.istore_n 3, 1) := by decide +kernel
theorem dX6_wordOf_7 : decode cX6_wordOf 7 = .ok (.iconst 1, 1) := by decide +kernel
theorem dX6_wordOf_8 : decode cX6_wordOf 8 = .ok (.istore 4, 2) := by decide +kernel
theorem dX6_wordOf_10 : decode cX6_wordOf 10 = .ok (.iconst 0, 1) := by decide +kernel
theorem dX6_wordOf_11 : decode cX6_wordOf 11 = .ok (.istore 5, 2) := by decide +kernel
theorem dX6_wordOf_13 : decode cX6_wordOf 13 = .ok (.iload 5, 2) := by decide +kernel
theorem dX6_wordOf_15 : decode cX6_wordOf 15 = .ok (.aload_n 1, 1) := by decide +kernel
theorem dX6_wordOf_16 : decode cX6_wordOf 16 = .ok (.invokevirtual 179, 3) := by decide +kernel
theorem dX6_wordOf_19 : decode cX6_wordOf 19 = .ok (.if_icmp .ge 87, 3) := by decide +kernel
theorem dX6_wordOf_22 : decode cX6_wordOf 22 = .ok (.aload_n 1, 1) := by decide +kernel
theorem dX6_wordOf_23 : decode cX6_wordOf 23 = .ok (.iload 5, 2) := by decide +kernel
theorem dX6_wordOf_25 : decode cX6_wordOf 25 = .ok (.invokevirtual 184, 3) := by decide +kernel
theorem dX6_wordOf_28 : decode cX6_wordOf 28 = .ok (.bipush 32, 2) := by decide +kernel
theorem dX6_wordOf_30 : decode cX6_wordOf 30 = .ok (.if_icmp .ne 32, 3) := by decide +kernel
theorem dX6_wordOf_33 : decode cX6_wordOf 33 = .ok (.iload 4, 2) := by decide +kernel
theorem dX6_wordOf_35 : decode cX6_wordOf 35 = .ok (.ifCond .eq 13, 3) := by decide +kernel
theorem dX6_wordOf_38 : decode cX6_wordOf 38 = .ok (.iload_n 3, 1) := by decide +kernel
theorem dX6_wordOf_39 : decode cX6_wordOf 39 = .ok (.aload_n 0, 1) := by decide +kernel
theorem dX6_wordOf_40 : decode cX6_wordOf 40 = .ok (.getfield 54, 3) := by decide +kernel
theorem dX6_wordOf_43 : decode cX6_wordOf 43 = .ok (.if_icmp .ne 5, 3) := by decide +kernel
theorem dX6_wordOf_46 : decode cX6_wordOf 46 = .ok (.iload_n 2, 1) := by decide +kernel
theorem dX6_wordOf_47 : decode cX6_wordOf 47 = .ok (.ireturn, 1) := by decide +kernel
theorem dX6_wordOf_48 : decode cX6_wordOf 48 = .ok (.iinc 2 1, 3) := by decide +kernel
theorem dX6_wordOf_51 : decode cX6_wordOf 51 = .ok (.aload_n 0, 1) := by decide +kernel
theorem dX6_wordOf_52 : decode cX6_wordOf 52 = .ok (.getfield 163, 3) := by decide +kernel
theorem dX6_wordOf_55 : decode cX6_wordOf 55 = .ok (.istore_n 3, 1) := by decide +kernel
theorem dX6_wordOf_56 : decode cX6_wordOf 56 = .ok (.iconst 1, 1) := by decide +kernel
theorem dX6_wordOf_57 : decode cX6_wordOf 57 = .ok (.istore 4, 2) := by decide +kernel
theorem dX6_wordOf_59 : decode cX6_wordOf 59 = .ok (.goto 41, 3) := by decide +kernel
theorem dX6_wordOf_62 : decode cX6_wordOf 62 = .ok (.iload 4, 2) := by decide +kernel
theorem dX6_wordOf_64 : decode cX6_wordOf 64 = .ok (.ifCond .eq 30, 3) := by decide +kernel
theorem dX6_wordOf_67 : decode cX6_wordOf 67 = .ok (.iload_n 3, 1) := by decide +kernel
theorem dX6_wordOf_68 : decode cX6_wordOf 68 = .ok (.aload_n 0, 1) := by decide +kernel
theorem dX6_wordOf_69 : decode cX6_wordOf 69 = .ok (.getfield 54, 3) := by decide +kernel
theorem dX6_wordOf_72 : decode cX6_wordOf 72 = .ok (.if_icmp .ge 22, 3) := by decide +kernel
theorem dX6_wordOf_75 : decode cX6_wordOf 75 = .ok (.aload_n 0, 1) := by decide +kernel
theorem dX6_wordOf_76 : decode cX6_wordOf 76 = .ok (.getfield 28, 3) := by decide +kernel
theorem dX6_wordOf_79 : decode cX6_wordOf 79 = .ok (.iload_n 3, 1) := by decide +kernel
theorem dX6_wordOf_80 : decode cX6_wordOf 80 = .ok (.baload, 1) := by decide +kernel
theorem dX6_wordOf_81 : decode cX6_wordOf 81 = .ok (.aload_n 1, 1) := by decide +kernel
theorem dX6_wordOf_82 : decode cX6_wordOf 82 = .ok (.iload 5, 2) := by decide +kernel
theorem dX6_wordOf_84 : decode cX6_wordOf 84 = .ok (.invokevirtual 184, 3) := by decide +kernel
theorem dX6_wordOf_87 : decode cX6_wordOf 87 = .ok (.if_icmp .ne 7, 3) := by decide +kernel
theorem dX6_wordOf_90 : decode cX6_wordOf 90 = .ok (.iconst 1, 1) := by decide +kernel
theorem dX6_wordOf_91 : decode cX6_wordOf 91 = .ok (.goto 4, 3) := by decide +kernel
theorem dX6_wordOf_94 : decode cX6_wordOf 94 = .ok (.iconst 0, 1) := by decide +kernel
theorem dX6_wordOf_95 : decode cX6_wordOf 95 = .ok (.istore 4, 2) := by decide +kernel
theorem dX6_wordOf_97 : decode cX6_wordOf 97 = .ok (.iinc 3 1, 3) := by decide +kernel
theorem dX6_wordOf_100 : decode cX6_wordOf 100 = .ok (.iinc 5 1, 3) := by decide +kernel
theorem dX6_wordOf_103 : decode cX6_wordOf 103 = .ok (.goto (-90), 3) := by decide +kernel
theorem dX6_wordOf_106 : decode cX6_wordOf 106 = .ok (.iconst (-1), 1) := by decide +kernel
theorem dX6_wordOf_107 : decode cX6_wordOf 107 = .ok (.ireturn, 1) := by decide +kernel
