theorem dX0_init_0 : decode cX0_init 0 = .ok (.aload_n 0, 1) := by decide +kernel
theorem dX0_init_1 : decode cX0_init 1 = .ok (.invokespecial 3, 3) := by decide +kernel
theorem dX0_init_4 : decode cX0_init 4 = .ok (.aload_n 0, 1) := by decide +kernel
theorem dX0_init_5 : decode cX0_init 5 = .ok (.new 9, 3) := by decide +kernel
theorem dX0_init_8 : decode cX0_init 8 = .ok (.dup, 1) := by decide +kernel
theorem dX0_init_9 : decode cX0_init 9 = .ok (.sipush 144, 3) := by decide +kernel
theorem dX0_init_12 : decode cX0_init 12 = .ok (.invokespecial 11, 3) := by decide +kernel
theorem dX0_init_15 : decode cX0_init 15 = .ok (.putfield 14, 3) := by decide +kernel
theorem dX0_init_18 : decode cX0_init 18 = .ok (.aload_n 0, 1) := by decide +kernel
theorem dX0_init_19 : decode cX0_init 19 = .ok (.aload_n 1, 1) := by decide +kernel
theorem dX0_init_20 : decode cX0_init 20 = .ok (.putfield 20, 3) := by decide +kernel
theorem dX0_init_23 : decode cX0_init 23 = .ok (.return_, 1) := by decide +kernel
theorem dX0_takeSettings_0 : decode cX0_takeSettings 0 = .ok (.aload_n 0, 1) := by decide +kernel
theorem dX0_takeSettings_1 : decode cX0_takeSettings 1 = .ok (.getfield 14, 3) := by decide +kernel
theorem dX0_takeSettings_4 : decode cX0_takeSettings 4 = .ok (.getfield 24, 3) := by decide +kernel
theorem dX0_takeSettings_7 : decode cX0_takeSettings 7 = .ok (.aload_n 1, 1) := by decide +kernel
theorem dX0_takeSettings_8 : decode cX0_takeSettings 8 = .ok (.getfield 24, 3) := by decide +kernel
theorem dX0_takeSettings_11 : decode cX0_takeSettings 11 = .ok (.invokevirtual 28, 3) := by decide +kernel
theorem dX0_takeSettings_14 : decode cX0_takeSettings 14 = .ok (.return_, 1) := by decide +kernel
theorem dX0_allFit_0 : decode cX0_allFit 0 = .ok (.aload_n 0, 1) := by decide +kernel
theorem dX0_allFit_1 : decode cX0_allFit 1 = .ok (.aload_n 1, 1) := by decide +kernel
theorem dX0_allFit_2 : decode cX0_allFit 2 = .ok (.iload_n 2, 1) := by decide +kernel
theorem dX0_allFit_3 : decode cX0_allFit 3 = .ok (.iconst 1, 1) := by decide +kernel
theorem dX0_allFit_4 : decode cX0_allFit 4 = .ok (.invokevirtual 34, 3) := by decide +kernel
theorem dX0_allFit_7 : decode cX0_allFit 7 = .ok (.ifCond .ne 7, 3) := by decide +kernel
theorem dX0_allFit_10 : decode cX0_allFit 10 = .ok (.iconst 1, 1) := by decide +kernel
theorem dX0_allFit_11 : decode cX0_allFit 11 = .ok (.goto 4, 3) := by decide +kernel
theorem dX0_allFit_14 : decode cX0_allFit 14 = .ok (.iconst 0, 1) := by decide +kernel
theorem dX0_allFit_15 : decode cX0_allFit 15 = .ok (.ireturn, 1) := by decide +kernel
theorem dX0_leftOut_0 : decode cX0_leftOut 0 = .ok (.aload_n 0, 1) := by decide +kernel
theorem dX0_leftOut_1 : decode cX0_leftOut 1 = .ok (.getfield 14, 3) := by decide +kernel
theorem dX0_leftOut_4 : decode cX0_leftOut 4 = .ok (.invokevirtual 38, 3) := by decide +kernel
theorem dX0_leftOut_7 : decode cX0_leftOut 7 = .ok (.iload_n 2, 1) := by decide +kernel
theorem dX0_leftOut_8 : decode cX0_leftOut 8 = .ok (.ifCond .lt 11, 3) := by decide +kernel
theorem dX0_leftOut_11 : decode cX0_leftOut 11 = .ok (.aload_n 0, 1) := by decide +kernel
theorem dX0_leftOut_12 : decode cX0_leftOut 12 = .ok (.iload_n 2, 1) := by decide +kernel
theorem dX0_leftOut_13 : decode cX0_leftOut 13 = .ok (.invokevirtual 41, 3) := by decide +kernel
theorem dX0_leftOut_16 : decode cX0_leftOut 16 = .ok (.goto 4, 3) := by decide +kernel
theorem dX0_leftOut_19 : decode cX0_leftOut 19 = .ok (.iconst 0, 1) := by decide +kernel
theorem dX0_leftOut_20 : decode cX0_leftOut 20 = .ok (.istore 4, 2) := by decide +kernel
theorem dX0_leftOut_22 : decode cX0_leftOut 22 = .ok (.iconst 0, 1) := by decide +kernel
theorem dX0_leftOut_23 : decode cX0_leftOut 23 = .ok (.istore 5, 2) := by decide +kernel
theorem dX0_leftOut_25 : decode cX0_leftOut 25 = .ok (.iload 5, 2) := by decide +kernel
theorem dX0_leftOut_27 : decode cX0_leftOut 27 = .ok (.aload_n 1, 1) := by decide +kernel
theorem dX0_leftOut_28 : decode cX0_leftOut 28 = .ok (.getfield 45, 3) := by decide +kernel
theorem dX0_leftOut_31 : decode cX0_leftOut 31 = .ok (.if_icmp .ge 45, 3) := by decide +kernel
theorem dX0_leftOut_34 : decode cX0_leftOut 34 = .ok (.iload 4, 2) := by decide +kernel
theorem dX0_leftOut_36 : decode cX0_leftOut 36 = .ok (.iload_n 3, 1) := by decide +kernel
theorem dX0_leftOut_37 : decode cX0_leftOut 37 = .ok (.if_icmp .ge 39, 3) := by decide +kernel
theorem dX0_leftOut_40 : decode cX0_leftOut 40 = .ok (.iload 4, 2) := by decide +kernel
theorem dX0_leftOut_42 : decode cX0_leftOut 42 = .ok (.aload_n 1, 1) := by decide +kernel
theorem dX0_leftOut_43 : decode cX0_leftOut 43 = .ok (.getfield 49, 3) := by decide +kernel
theorem dX0_leftOut_46 : decode cX0_leftOut 46 = .ok (.iload 5, 2) := by decide +kernel
theorem dX0_leftOut_48 : decode cX0_leftOut 48 = .ok (.iaload, 1) := by decide +kernel
theorem dX0_leftOut_49 : decode cX0_leftOut 49 = .ok (.ifCond .lt 17, 3) := by decide +kernel
theorem dX0_leftOut_52 : decode cX0_leftOut 52 = .ok (.aload_n 0, 1) := by decide +kernel
theorem dX0_leftOut_53 : decode cX0_leftOut 53 = .ok (.aload_n 1, 1) := by decide +kernel
theorem dX0_leftOut_54 : decode cX0_leftOut 54 = .ok (.getfield 49, 3) := by decide +kernel
theorem dX0_leftOut_57 : decode cX0_leftOut 57 = .ok (.iload 5, 2) := by decide +kernel
theorem dX0_leftOut_59 : decode cX0_leftOut 59 = .ok (.iaload, 1) := by decide +kernel
theorem dX0_leftOut_60 : decode cX0_leftOut 60 = .ok (.invokevirtual 41, 3) := by decide +kernel
theorem dX0_leftOut_63 : decode cX0_leftOut 63 = .ok (.goto 4, 3) := by decide +kernel
theorem dX0_leftOut_66 : decode cX0_leftOut 66 = .ok (.iconst 0, 1) := by decide +kernel
theorem dX0_leftOut_67 : decode cX0_leftOut 67 = .ok (.iadd, 1) := by decide +kernel
theorem dX0_leftOut_68 : decode cX0_leftOut 68 = .ok (.istore 4, 2) := by decide +kernel
theorem dX0_leftOut_70 : decode cX0_leftOut 70 = .ok (.iinc 5 1, 3) := by decide +kernel
theorem dX0_leftOut_73 : decode cX0_leftOut 73 = .ok (.goto (-48), 3) := by decide +kernel
theorem dX0_leftOut_76 : decode cX0_leftOut 76 = .ok (.iload 4, 2) := by decide +kernel
theorem dX0_leftOut_78 : decode cX0_leftOut 78 = .ok (.ireturn, 1) := by decide +kernel
theorem dX0_layKey_0 : decode cX0_layKey 0 = .ok (.aload_n 0, 1) := by decide +kernel
theorem dX0_layKey_1 : decode cX0_layKey 1 = .ok (.getfield 14, 3) := by decide +kernel
theorem dX0_layKey_4 : decode cX0_layKey 4 = .ok (.iload_n 1, 1) := by decide +kernel
theorem dX0_layKey_5 : decode cX0_layKey 5 = .ok (.iconst 0, 1) := by decide +kernel
theorem dX0_layKey_6 : decode cX0_layKey 6 = .ok (.iconst 0, 1) := by decide +kernel
theorem dX0_layKey_7 : decode cX0_layKey 7 = .ok (.iconst 0, 1) := by decide +kernel
theorem dX0_layKey_8 : decode cX0_layKey 8 = .ok (.invokevirtual 53, 3) := by decide +kernel
theorem dX0_layKey_11 : decode cX0_layKey 11 = .ok (.aload_n 0, 1) := by decide +kernel
theorem dX0_layKey_12 : decode cX0_layKey 12 = .ok (.getfield 14, 3) := by decide +kernel
theorem dX0_layKey_15 : decode cX0_layKey 15 = .ok (.aload_n 0, 1) := by decide +kernel
theorem dX0_layKey_16 : decode cX0_layKey 16 = .ok (.getfield 14, 3) := by decide +kernel
theorem dX0_layKey_19 : decode cX0_layKey 19 = .ok (.getfield 45, 3) := by decide +kernel
theorem dX0_layKey_22 : decode cX0_layKey 22 = .ok (.invokevirtual 57, 3) := by decide +kernel
theorem dX0_layKey_25 : decode cX0_layKey 25 = .ok (.istore_n 2, 1) := by decide +kernel
theorem dX0_layKey_26 : decode cX0_layKey 26 = .ok (.iload_n 2, 1) := by decide +kernel
theorem dX0_layKey_27 : decode cX0_layKey 27 = .ok (.ifCond .lt 27, 3) := by decide +kernel
theorem dX0_layKey_30 : decode cX0_layKey 30 = .ok (.aload_n 0, 1) := by decide +kernel
theorem dX0_layKey_31 : decode cX0_layKey 31 = .ok (.getfield 14, 3) := by decide +kernel
theorem dX0_layKey_34 : decode cX0_layKey 34 = .ok (.aload_n 0, 1) := by decide +kernel
theorem dX0_layKey_35 : decode cX0_layKey 35 = .ok (.getfield 14, 3) := by decide +kernel
theorem dX0_layKey_38 : decode cX0_layKey 38 = .ok (.getfield 45, 3) := by decide +kernel
theorem dX0_layKey_41 : decode cX0_layKey 41 = .ok (.aload_n 0, 1) := by decide +kernel
theorem dX0_layKey_42 : decode cX0_layKey 42 = .ok (.getfield 14, 3) := by decide +kernel
theorem dX0_layKey_45 : decode cX0_layKey 45 = .ok (.iload_n 2, 1) := by decide +kernel
theorem dX0_layKey_46 : decode cX0_layKey 46 = .ok (.invokevirtual 60, 3) := by decide +kernel
theorem dX0_layKey_49 : decode cX0_layKey 49 = .ok (.invokevirtual 63, 3) := by decide +kernel
theorem dX0_layKey_52 : decode cX0_layKey 52 = .ok (.iconst 0, 1) := by decide +kernel
theorem dX0_layKey_53 : decode cX0_layKey 53 = .ok (.ireturn, 1) := by decide +kernel
theorem dX0_layKey_54 : decode cX0_layKey 54 = .ok (.aload_n 0, 1) := by decide +kernel
theorem dX0_layKey_55 : decode cX0_layKey 55 = .ok (.getfield 20, 3) := by decide +kernel
theorem dX0_layKey_58 : decode cX0_layKey 58 = .ok (.aload_n 0, 1) := by decide +kernel
theorem dX0_layKey_59 : decode cX0_layKey 59 = .ok (.getfield 14, 3) := by decide +kernel
theorem dX0_layKey_62 : decode cX0_layKey 62 = .ok (.aload_n 0, 1) := by decide +kernel
theorem dX0_layKey_63 : decode cX0_layKey 63 = .ok (.getfield 14, 3) := by decide +kernel
theorem dX0_layKey_66 : decode cX0_layKey 66 = .ok (.getfield 45, 3) := by decide +kernel
theorem dX0_layKey_69 : decode cX0_layKey 69 = .ok (.invokevirtual 67, 3) := by decide +kernel
theorem dX0_layKey_72 : decode cX0_layKey 72 = .ok (.ifCond .eq 23, 3) := by decide +kernel
theorem dX0_layKey_75 : decode cX0_layKey 75 = .ok (.aload_n 0, 1) := by decide +kernel
theorem dX0_layKey_76 : decode cX0_layKey 76 = .ok (.getfield 20, 3) := by decide +kernel
theorem dX0_layKey_79 : decode cX0_layKey 79 = .ok (.aload_n 0, 1) := by decide +kernel
theorem dX0_layKey_80 : decode cX0_layKey 80 = .ok (.getfield 14, 3) := by decide +kernel
theorem dX0_layKey_83 : decode cX0_layKey 83 = .ok (.aload_n 0, 1) := by decide +kernel
theorem dX0_layKey_84 : decode cX0_layKey 84 = .ok (.getfield 14, 3) := by decide +kernel
theorem dX0_layKey_87 : decode cX0_layKey 87 = .ok (.getfield 45, 3) := by decide +kernel
theorem dX0_layKey_90 : decode cX0_layKey 90 = .ok (.invokevirtual 73, 3) := by decide +kernel
theorem dX0_layKey_93 : decode cX0_layKey 93 = .ok (.iconst 0, 1) := by decide +kernel
theorem dX0_layKey_94 : decode cX0_layKey 94 = .ok (.ireturn, 1) := by decide +kernel
theorem dX0_layKey_95 : decode cX0_layKey 95 = .ok (.aload_n 0, 1) := by decide +kernel
theorem dX0_layKey_96 : decode cX0_layKey 96 = .ok (.getfield 14, 3) := by decide +kernel
theorem dX0_layKey_99 : decode cX0_layKey 99 = .ok (.invokevirtual 77, 3) := by decide +kernel
theorem dX0_layKey_102 : decode cX0_layKey 102 = .ok (.iconst 1, 1) := by decide +kernel
theorem dX0_layKey_103 : decode cX0_layKey 103 = .ok (.ireturn, 1) := by decide +kernel
theorem dX0_leastOf_0 : decode cX0_leastOf 0 = .ok (.aload_n 0, 1) := by decide +kernel
theorem dX0_leastOf_1 : decode cX0_leastOf 1 = .ok (.aload_n 1, 1) := by decide +kernel
theorem dX0_leastOf_2 : decode cX0_leastOf 2 = .ok (.invokevirtual 80, 3) := by decide +kernel
theorem dX0_leastOf_5 : decode cX0_leastOf 5 = .ok (.iload_n 2, 1) := by decide +kernel
theorem dX0_leastOf_6 : decode cX0_leastOf 6 = .ok (.invokestatic 84, 3) := by decide +kernel
theorem dX0_leastOf_9 : decode cX0_leastOf 9 = .ok (.istore_n 3, 1) := by decide +kernel
theorem dX0_leastOf_10 : decode cX0_leastOf 10 = .ok (.iconst 1, 1) := by decide +kernel
theorem dX0_leastOf_11 : decode cX0_leastOf 11 = .ok (.istore 4, 2) := by decide +kernel
theorem dX0_leastOf_13 : decode cX0_leastOf 13 = .ok (.iload 4, 2) := by decide +kernel
theorem dX0_leastOf_15 : decode cX0_leastOf 15 = .ok (.iload_n 3, 1) := by decide +kernel
theorem dX0_leastOf_16 : decode cX0_leastOf 16 = .ok (.if_icmp .gt 28, 3) := by decide +kernel
theorem dX0_leastOf_19 : decode cX0_leastOf 19 = .ok (.aload_n 0, 1) := by decide +kernel
theorem dX0_leastOf_20 : decode cX0_leastOf 20 = .ok (.iload_n 2, 1) := by decide +kernel
theorem dX0_leastOf_21 : decode cX0_leastOf 21 = .ok (.iload 4, 2) := by decide +kernel
theorem dX0_leastOf_23 : decode cX0_leastOf 23 = .ok (.invokevirtual 87, 3) := by decide +kernel
theorem dX0_leastOf_26 : decode cX0_leastOf 26 = .ok (.aload_n 0, 1) := by decide +kernel
theorem dX0_leastOf_27 : decode cX0_leastOf 27 = .ok (.aload_n 1, 1) := by decide +kernel
theorem dX0_leastOf_28 : decode cX0_leastOf 28 = .ok (.iconst (-1), 1) := by decide +kernel
theorem dX0_leastOf_29 : decode cX0_leastOf 29 = .ok (.invokevirtual 90, 3) := by decide +kernel
theorem dX0_leastOf_32 : decode cX0_leastOf 32 = .ok (.ifCond .eq 6, 3) := by decide +kernel
theorem dX0_leastOf_35 : decode cX0_leastOf 35 = .ok (.iload 4, 2) := by decide +kernel
theorem dX0_leastOf_37 : decode cX0_leastOf 37 = .ok (.ireturn, 1) := by decide +kernel
theorem dX0_leastOf_38 : decode cX0_leastOf 38 = .ok (.iinc 4 1, 3) := by decide +kernel
theorem dX0_leastOf_41 : decode cX0_leastOf 41 = .ok (.goto (-28), 3) := by decide +kernel
theorem dX0_leastOf_44 : decode cX0_leastOf 44 = .ok (.iconst (-1), 1) := by decide +kernel
theorem dX0_leastOf_45 : decode cX0_leastOf 45 = .ok (.ireturn, 1) := by decide +kernel
theorem dX0_mostOf_0 : decode cX0_mostOf 0 = .ok (.iload_n 0, 1) := by decide +kernel
theorem dX0_mostOf_1 : decode cX0_mostOf 1 = .ok (.tableswitch 36 0 2 #[27, 30, 33], 27) := by decide +kernel
theorem dX0_mostOf_28 : decode cX0_mostOf 28 = .ok (.bipush 32, 2) := by decide +kernel
theorem dX0_mostOf_30 : decode cX0_mostOf 30 = .ok (.ireturn, 1) := by decide +kernel
theorem dX0_mostOf_31 : decode cX0_mostOf 31 = .ok (.bipush 9, 2) := by decide +kernel
theorem dX0_mostOf_33 : decode cX0_mostOf 33 = .ok (.ireturn, 1) := by decide +kernel
theorem dX0_mostOf_34 : decode cX0_mostOf 34 = .ok (.bipush 40, 2) := by decide +kernel
theorem dX0_mostOf_36 : decode cX0_mostOf 36 = .ok (.ireturn, 1) := by decide +kernel
theorem dX0_mostOf_37 : decode cX0_mostOf 37 = .ok (.iconst 0, 1) := by decide +kernel
theorem dX0_mostOf_38 : decode cX0_mostOf 38 = .ok (.ireturn, 1) := by decide +kernel
theorem dX0_change_0 : decode cX0_change 0 = .ok (.iload_n 1, 1) := by decide +kernel
theorem dX0_change_1 : decode cX0_change 1 = .ok (.ifCond .ne 17, 3) := by decide +kernel
theorem dX0_change_4 : decode cX0_change 4 = .ok (.aload_n 0, 1) := by decide +kernel
theorem dX0_change_5 : decode cX0_change 5 = .ok (.getfield 14, 3) := by decide +kernel
theorem dX0_change_8 : decode cX0_change 8 = .ok (.getfield 24, 3) := by decide +kernel
theorem dX0_change_11 : decode cX0_change 11 = .ok (.iload_n 2, 1) := by decide +kernel
theorem dX0_change_12 : decode cX0_change 12 = .ok (.putfield 93, 3) := by decide +kernel
theorem dX0_change_15 : decode cX0_change 15 = .ok (.goto 46, 3) := by decide +kernel
theorem dX0_change_18 : decode cX0_change 18 = .ok (.iload_n 1, 1) := by decide +kernel
theorem dX0_change_19 : decode cX0_change 19 = .ok (.iconst 1, 1) := by decide +kernel
theorem dX0_change_20 : decode cX0_change 20 = .ok (.if_icmp .ne 17, 3) := by decide +kernel
theorem dX0_change_23 : decode cX0_change 23 = .ok (.aload_n 0, 1) := by decide +kernel
theorem dX0_change_24 : decode cX0_change 24 = .ok (.getfield 14, 3) := by decide +kernel
theorem dX0_change_27 : decode cX0_change 27 = .ok (.getfield 24, 3) := by decide +kernel
theorem dX0_change_30 : decode cX0_change 30 = .ok (.iload_n 2, 1) := by decide +kernel
theorem dX0_change_31 : decode cX0_change 31 = .ok (.putfield 96, 3) := by decide +kernel
theorem dX0_change_34 : decode cX0_change 34 = .ok (.goto 27, 3) := by decide +kernel
theorem dX0_change_37 : decode cX0_change 37 = .ok (.aload_n 0, 1) := by decide +kernel
theorem dX0_change_38 : decode cX0_change 38 = .ok (.getfield 14, 3) := by decide +kernel
theorem dX0_change_41 : decode cX0_change 41 = .ok (.getfield 24, 3) := by decide +kernel
theorem dX0_change_44 : decode cX0_change 44 = .ok (.getfield 99, 3) := by decide +kernel
theorem dX0_change_47 : decode cX0_change 47 = .ok (.iload_n 2, 1) := by decide +kernel
theorem dX0_change_48 : decode cX0_change 48 = .ok (.putfield 103, 3) := by decide +kernel
theorem dX0_change_51 : decode cX0_change 51 = .ok (.aload_n 0, 1) := by decide +kernel
theorem dX0_change_52 : decode cX0_change 52 = .ok (.getfield 14, 3) := by decide +kernel
theorem dX0_change_55 : decode cX0_change 55 = .ok (.getfield 24, 3) := by decide +kernel
theorem dX0_change_58 : decode cX0_change 58 = .ok (.invokevirtual 108, 3) := by decide +kernel
theorem dX0_change_61 : decode cX0_change 61 = .ok (.return_, 1) := by decide +kernel
