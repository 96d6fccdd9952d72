theorem dX7_init_0 : decode cX7_init 0 = .ok (.aload_n 0, 1) := by decide +kernel
theorem dX7_init_1 : decode cX7_init 1 = .ok (.invokespecial 3, 3) := by decide +kernel
theorem dX7_init_4 : decode cX7_init 4 = .ok (.aload_n 0, 1) := by decide +kernel
theorem dX7_init_5 : decode cX7_init 5 = .ok (.bipush 68, 2) := by decide +kernel
theorem dX7_init_7 : decode cX7_init 7 = .ok (.newarray .int, 2) := by decide +kernel
theorem dX7_init_9 : decode cX7_init 9 = .ok (.putfield 9, 3) := by decide +kernel
theorem dX7_init_12 : decode cX7_init 12 = .ok (.aload_n 0, 1) := by decide +kernel
theorem dX7_init_13 : decode cX7_init 13 = .ok (.bipush 68, 2) := by decide +kernel
theorem dX7_init_15 : decode cX7_init 15 = .ok (.newarray .boolean, 2) := by decide +kernel
theorem dX7_init_17 : decode cX7_init 17 = .ok (.putfield 15, 3) := by decide +kernel
theorem dX7_init_20 : decode cX7_init 20 = .ok (.aload_n 0, 1) := by decide +kernel
theorem dX7_init_21 : decode cX7_init 21 = .ok (.bipush 68, 2) := by decide +kernel
theorem dX7_init_23 : decode cX7_init 23 = .ok (.newarray .int, 2) := by decide +kernel
theorem dX7_init_25 : decode cX7_init 25 = .ok (.putfield 19, 3) := by decide +kernel
theorem dX7_init_28 : decode cX7_init 28 = .ok (.aload_n 0, 1) := by decide +kernel
theorem dX7_init_29 : decode cX7_init 29 = .ok (.bipush 68, 2) := by decide +kernel
theorem dX7_init_31 : decode cX7_init 31 = .ok (.newarray .int, 2) := by decide +kernel
theorem dX7_init_33 : decode cX7_init 33 = .ok (.putfield 22, 3) := by decide +kernel
theorem dX7_init_36 : decode cX7_init 36 = .ok (.aload_n 0, 1) := by decide +kernel
theorem dX7_init_37 : decode cX7_init 37 = .ok (.bipush 32, 2) := by decide +kernel
theorem dX7_init_39 : decode cX7_init 39 = .ok (.newarray .int, 2) := by decide +kernel
theorem dX7_init_41 : decode cX7_init 41 = .ok (.putfield 25, 3) := by decide +kernel
theorem dX7_init_44 : decode cX7_init 44 = .ok (.return_, 1) := by decide +kernel
theorem dX7_gather_0 : decode cX7_gather 0 = .ok (.iload_n 2, 1) := by decide +kernel
theorem dX7_gather_1 : decode cX7_gather 1 = .ok (.ifCond .eq 10, 3) := by decide +kernel
theorem dX7_gather_4 : decode cX7_gather 4 = .ok (.aload_n 1, 1) := by decide +kernel
theorem dX7_gather_5 : decode cX7_gather 5 = .ok (.getfield 28, 3) := by decide +kernel
theorem dX7_gather_8 : decode cX7_gather 8 = .ok (.goto 7, 3) := by decide +kernel
theorem dX7_gather_11 : decode cX7_gather 11 = .ok (.aload_n 1, 1) := by decide +kernel
theorem dX7_gather_12 : decode cX7_gather 12 = .ok (.getfield 33, 3) := by decide +kernel
theorem dX7_gather_15 : decode cX7_gather 15 = .ok (.astore_n 3, 1) := by decide +kernel
theorem dX7_gather_16 : decode cX7_gather 16 = .ok (.aload_n 0, 1) := by decide +kernel
theorem dX7_gather_17 : decode cX7_gather 17 = .ok (.iconst 0, 1) := by decide +kernel
theorem dX7_gather_18 : decode cX7_gather 18 = .ok (.putfield 36, 3) := by decide +kernel
theorem dX7_gather_21 : decode cX7_gather 21 = .ok (.iconst 0, 1) := by decide +kernel
theorem dX7_gather_22 : decode cX7_gather 22 = .ok (.istore 4, 2) := by decide +kernel
theorem dX7_gather_24 : decode cX7_gather 24 = .ok (.iload 4, 2) := by decide +kernel
theorem dX7_gather_26 : decode cX7_gather 26 = .ok (.aload_n 1, 1) := by decide +kernel
theorem dX7_gather_27 : decode cX7_gather 27 = .ok (.getfield 40, 3) := by decide +kernel
theorem dX7_gather_30 : decode cX7_gather 30 = .ok (.if_icmp .ge 98, 3) := by decide +kernel
theorem dX7_gather_33 : decode cX7_gather 33 = .ok (.aload_n 0, 1) := by decide +kernel
theorem dX7_gather_34 : decode cX7_gather 34 = .ok (.getfield 36, 3) := by decide +kernel
theorem dX7_gather_37 : decode cX7_gather 37 = .ok (.bipush 68, 2) := by decide +kernel
theorem dX7_gather_39 : decode cX7_gather 39 = .ok (.if_icmp .ge 89, 3) := by decide +kernel
theorem dX7_gather_42 : decode cX7_gather 42 = .ok (.aload_n 1, 1) := by decide +kernel
theorem dX7_gather_43 : decode cX7_gather 43 = .ok (.getfield 33, 3) := by decide +kernel
theorem dX7_gather_46 : decode cX7_gather 46 = .ok (.iload 4, 2) := by decide +kernel
theorem dX7_gather_48 : decode cX7_gather 48 = .ok (.iaload, 1) := by decide +kernel
theorem dX7_gather_49 : decode cX7_gather 49 = .ok (.ifCond .lt 73, 3) := by decide +kernel
theorem dX7_gather_52 : decode cX7_gather 52 = .ok (.aload_n 0, 1) := by decide +kernel
theorem dX7_gather_53 : decode cX7_gather 53 = .ok (.getfield 36, 3) := by decide +kernel
theorem dX7_gather_56 : decode cX7_gather 56 = .ok (.istore 5, 2) := by decide +kernel
theorem dX7_gather_58 : decode cX7_gather 58 = .ok (.iload 5, 2) := by decide +kernel
theorem dX7_gather_60 : decode cX7_gather 60 = .ok (.ifCond .le 43, 3) := by decide +kernel
theorem dX7_gather_63 : decode cX7_gather 63 = .ok (.aload_n 3, 1) := by decide +kernel
theorem dX7_gather_64 : decode cX7_gather 64 = .ok (.aload_n 0, 1) := by decide +kernel
theorem dX7_gather_65 : decode cX7_gather 65 = .ok (.getfield 9, 3) := by decide +kernel
theorem dX7_gather_68 : decode cX7_gather 68 = .ok (.iload 5, 2) := by decide +kernel
theorem dX7_gather_70 : decode cX7_gather 70 = .ok (.iconst 1, 1) := by decide +kernel
theorem dX7_gather_71 : decode cX7_gather 71 = .ok (.isub, 1) := by decide +kernel
theorem dX7_gather_72 : decode cX7_gather 72 = .ok (.iaload, 1) := by decide +kernel
theorem dX7_gather_73 : decode cX7_gather 73 = .ok (.iaload, 1) := by decide +kernel
theorem dX7_gather_74 : decode cX7_gather 74 = .ok (.aload_n 3, 1) := by decide +kernel
theorem dX7_gather_75 : decode cX7_gather 75 = .ok (.iload 4, 2) := by decide +kernel
theorem dX7_gather_77 : decode cX7_gather 77 = .ok (.iaload, 1) := by decide +kernel
theorem dX7_gather_78 : decode cX7_gather 78 = .ok (.if_icmp .le 25, 3) := by decide +kernel
theorem dX7_gather_81 : decode cX7_gather 81 = .ok (.aload_n 0, 1) := by decide +kernel
theorem dX7_gather_82 : decode cX7_gather 82 = .ok (.getfield 9, 3) := by decide +kernel
theorem dX7_gather_85 : decode cX7_gather 85 = .ok (.iload 5, 2) := by decide +kernel
theorem dX7_gather_87 : decode cX7_gather 87 = .ok (.aload_n 0, 1) := by decide +kernel
theorem dX7_gather_88 : decode cX7_gather 88 = .ok (.getfield 9, 3) := by decide +kernel
theorem dX7_gather_91 : decode cX7_gather 91 = .ok (.iload 5, 2) := by decide +kernel
theorem dX7_gather_93 : decode cX7_gather 93 = .ok (.iconst 1, 1) := by decide +kernel
theorem dX7_gather_94 : decode cX7_gather 94 = .ok (.isub, 1) := by decide +kernel
theorem dX7_gather_95 : decode cX7_gather 95 = .ok (.iaload, 1) := by decide +kernel
theorem dX7_gather_96 : decode cX7_gather 96 = .ok (.iastore, 1) := by decide +kernel
theorem dX7_gather_97 : decode cX7_gather 97 = .ok (.iinc 5 (-1), 3) := by decide +kernel
theorem dX7_gather_100 : decode cX7_gather 100 = .ok (.goto (-42), 3) := by decide +kernel
theorem dX7_gather_103 : decode cX7_gather 103 = .ok (.aload_n 0, 1) := by decide +kernel
theorem dX7_gather_104 : decode cX7_gather 104 = .ok (.getfield 9, 3) := by decide +kernel
theorem dX7_gather_107 : decode cX7_gather 107 = .ok (.iload 5, 2) := by decide +kernel
theorem dX7_gather_109 : decode cX7_gather 109 = .ok (.iload 4, 2) := by decide +kernel
theorem dX7_gather_111 : decode cX7_gather 111 = .ok (.iastore, 1) := by decide +kernel
theorem dX7_gather_112 : decode cX7_gather 112 = .ok (.aload_n 0, 1) := by decide +kernel
theorem dX7_gather_113 : decode cX7_gather 113 = .ok (.dup, 1) := by decide +kernel
theorem dX7_gather_114 : decode cX7_gather 114 = .ok (.getfield 36, 3) := by decide +kernel
theorem dX7_gather_117 : decode cX7_gather 117 = .ok (.iconst 1, 1) := by decide +kernel
theorem dX7_gather_118 : decode cX7_gather 118 = .ok (.iadd, 1) := by decide +kernel
theorem dX7_gather_119 : decode cX7_gather 119 = .ok (.putfield 36, 3) := by decide +kernel
theorem dX7_gather_122 : decode cX7_gather 122 = .ok (.iinc 4 1, 3) := by decide +kernel
theorem dX7_gather_125 : decode cX7_gather 125 = .ok (.goto (-101), 3) := by decide +kernel
theorem dX7_gather_128 : decode cX7_gather 128 = .ok (.return_, 1) := by decide +kernel
theorem dX7_peelOff_0 : decode cX7_peelOff 0 = .ok (.aload_n 0, 1) := by decide +kernel
theorem dX7_peelOff_1 : decode cX7_peelOff 1 = .ok (.aload_n 1, 1) := by decide +kernel
theorem dX7_peelOff_2 : decode cX7_peelOff 2 = .ok (.iconst 0, 1) := by decide +kernel
theorem dX7_peelOff_3 : decode cX7_peelOff 3 = .ok (.invokevirtual 43, 3) := by decide +kernel
theorem dX7_peelOff_6 : decode cX7_peelOff 6 = .ok (.aload_n 0, 1) := by decide +kernel
theorem dX7_peelOff_7 : decode cX7_peelOff 7 = .ok (.getfield 25, 3) := by decide +kernel
theorem dX7_peelOff_10 : decode cX7_peelOff 10 = .ok (.iconst 0, 1) := by decide +kernel
theorem dX7_peelOff_11 : decode cX7_peelOff 11 = .ok (.invokestatic 47, 3) := by decide +kernel
theorem dX7_peelOff_14 : decode cX7_peelOff 14 = .ok (.aload_n 0, 1) := by decide +kernel
theorem dX7_peelOff_15 : decode cX7_peelOff 15 = .ok (.iconst 0, 1) := by decide +kernel
theorem dX7_peelOff_16 : decode cX7_peelOff 16 = .ok (.putfield 53, 3) := by decide +kernel
theorem dX7_peelOff_19 : decode cX7_peelOff 19 = .ok (.iconst 0, 1) := by decide +kernel
theorem dX7_peelOff_20 : decode cX7_peelOff 20 = .ok (.istore_n 2, 1) := by decide +kernel
theorem dX7_peelOff_21 : decode cX7_peelOff 21 = .ok (.iload_n 2, 1) := by decide +kernel
theorem dX7_peelOff_22 : decode cX7_peelOff 22 = .ok (.aload_n 0, 1) := by decide +kernel
theorem dX7_peelOff_23 : decode cX7_peelOff 23 = .ok (.getfield 36, 3) := by decide +kernel
theorem dX7_peelOff_26 : decode cX7_peelOff 26 = .ok (.if_icmp .ge 28, 3) := by decide +kernel
theorem dX7_peelOff_29 : decode cX7_peelOff 29 = .ok (.aload_n 0, 1) := by decide +kernel
theorem dX7_peelOff_30 : decode cX7_peelOff 30 = .ok (.getfield 15, 3) := by decide +kernel
theorem dX7_peelOff_33 : decode cX7_peelOff 33 = .ok (.iload_n 2, 1) := by decide +kernel
theorem dX7_peelOff_34 : decode cX7_peelOff 34 = .ok (.iconst 0, 1) := by decide +kernel
theorem dX7_peelOff_35 : decode cX7_peelOff 35 = .ok (.bastore, 1) := by decide +kernel
theorem dX7_peelOff_36 : decode cX7_peelOff 36 = .ok (.aload_n 0, 1) := by decide +kernel
theorem dX7_peelOff_37 : decode cX7_peelOff 37 = .ok (.aload_n 1, 1) := by decide +kernel
theorem dX7_peelOff_38 : decode cX7_peelOff 38 = .ok (.aload_n 0, 1) := by decide +kernel
theorem dX7_peelOff_39 : decode cX7_peelOff 39 = .ok (.getfield 9, 3) := by decide +kernel
theorem dX7_peelOff_42 : decode cX7_peelOff 42 = .ok (.iload_n 2, 1) := by decide +kernel
theorem dX7_peelOff_43 : decode cX7_peelOff 43 = .ok (.iaload, 1) := by decide +kernel
theorem dX7_peelOff_44 : decode cX7_peelOff 44 = .ok (.iconst 1, 1) := by decide +kernel
theorem dX7_peelOff_45 : decode cX7_peelOff 45 = .ok (.invokevirtual 56, 3) := by decide +kernel
theorem dX7_peelOff_48 : decode cX7_peelOff 48 = .ok (.iinc 2 1, 3) := by decide +kernel
theorem dX7_peelOff_51 : decode cX7_peelOff 51 = .ok (.goto (-30), 3) := by decide +kernel
theorem dX7_peelOff_54 : decode cX7_peelOff 54 = .ok (.aload_n 1, 1) := by decide +kernel
theorem dX7_peelOff_55 : decode cX7_peelOff 55 = .ok (.getfield 60, 3) := by decide +kernel
theorem dX7_peelOff_58 : decode cX7_peelOff 58 = .ok (.getfield 64, 3) := by decide +kernel
theorem dX7_peelOff_61 : decode cX7_peelOff 61 = .ok (.istore_n 2, 1) := by decide +kernel
theorem dX7_peelOff_62 : decode cX7_peelOff 62 = .ok (.iconst 0, 1) := by decide +kernel
theorem dX7_peelOff_63 : decode cX7_peelOff 63 = .ok (.istore_n 3, 1) := by decide +kernel
theorem dX7_peelOff_64 : decode cX7_peelOff 64 = .ok (.iload_n 3, 1) := by decide +kernel
theorem dX7_peelOff_65 : decode cX7_peelOff 65 = .ok (.iload_n 2, 1) := by decide +kernel
theorem dX7_peelOff_66 : decode cX7_peelOff 66 = .ok (.if_icmp .ge 36, 3) := by decide +kernel
theorem dX7_peelOff_69 : decode cX7_peelOff 69 = .ok (.aload_n 0, 1) := by decide +kernel
theorem dX7_peelOff_70 : decode cX7_peelOff 70 = .ok (.iload_n 2, 1) := by decide +kernel
theorem dX7_peelOff_71 : decode cX7_peelOff 71 = .ok (.aload_n 1, 1) := by decide +kernel
theorem dX7_peelOff_72 : decode cX7_peelOff 72 = .ok (.getfield 60, 3) := by decide +kernel
theorem dX7_peelOff_75 : decode cX7_peelOff 75 = .ok (.getfield 69, 3) := by decide +kernel
theorem dX7_peelOff_78 : decode cX7_peelOff 78 = .ok (.invokevirtual 72, 3) := by decide +kernel
theorem dX7_peelOff_81 : decode cX7_peelOff 81 = .ok (.istore 4, 2) := by decide +kernel
theorem dX7_peelOff_83 : decode cX7_peelOff 83 = .ok (.iload 4, 2) := by decide +kernel
theorem dX7_peelOff_85 : decode cX7_peelOff 85 = .ok (.ifCond .ge 4, 3) := by decide +kernel
theorem dX7_peelOff_88 : decode cX7_peelOff 88 = .ok (.return_, 1) := by decide +kernel
theorem dX7_peelOff_89 : decode cX7_peelOff 89 = .ok (.aload_n 0, 1) := by decide +kernel
theorem dX7_peelOff_90 : decode cX7_peelOff 90 = .ok (.aload_n 1, 1) := by decide +kernel
theorem dX7_peelOff_91 : decode cX7_peelOff 91 = .ok (.iload 4, 2) := by decide +kernel
theorem dX7_peelOff_93 : decode cX7_peelOff 93 = .ok (.invokevirtual 76, 3) := by decide +kernel
theorem dX7_peelOff_96 : decode cX7_peelOff 96 = .ok (.iinc 3 1, 3) := by decide +kernel
theorem dX7_peelOff_99 : decode cX7_peelOff 99 = .ok (.goto (-35), 3) := by decide +kernel
theorem dX7_peelOff_102 : decode cX7_peelOff 102 = .ok (.return_, 1) := by decide +kernel
theorem dX7_addDegrees_0 : decode cX7_addDegrees 0 = .ok (.aload_n 1, 1) := by decide +kernel
theorem dX7_addDegrees_1 : decode cX7_addDegrees 1 = .ok (.getfield 80, 3) := by decide +kernel
theorem dX7_addDegrees_4 : decode cX7_addDegrees 4 = .ok (.iload_n 2, 1) := by decide +kernel
theorem dX7_addDegrees_5 : decode cX7_addDegrees 5 = .ok (.iaload, 1) := by decide +kernel
theorem dX7_addDegrees_6 : decode cX7_addDegrees 6 = .ok (.istore 4, 2) := by decide +kernel
theorem dX7_addDegrees_8 : decode cX7_addDegrees 8 = .ok (.aload_n 1, 1) := by decide +kernel
theorem dX7_addDegrees_9 : decode cX7_addDegrees 9 = .ok (.getfield 83, 3) := by decide +kernel
theorem dX7_addDegrees_12 : decode cX7_addDegrees 12 = .ok (.iload_n 2, 1) := by decide +kernel
theorem dX7_addDegrees_13 : decode cX7_addDegrees 13 = .ok (.iaload, 1) := by decide +kernel
theorem dX7_addDegrees_14 : decode cX7_addDegrees 14 = .ok (.istore 5, 2) := by decide +kernel
theorem dX7_addDegrees_16 : decode cX7_addDegrees 16 = .ok (.aload_n 0, 1) := by decide +kernel
theorem dX7_addDegrees_17 : decode cX7_addDegrees 17 = .ok (.getfield 25, 3) := by decide +kernel
theorem dX7_addDegrees_20 : decode cX7_addDegrees 20 = .ok (.iload 4, 2) := by decide +kernel
theorem dX7_addDegrees_22 : decode cX7_addDegrees 22 = .ok (.dup2, 1) := by decide +kernel
theorem dX7_addDegrees_23 : decode cX7_addDegrees 23 = .ok (.iaload, 1) := by decide +kernel
theorem dX7_addDegrees_24 : decode cX7_addDegrees 24 = .ok (.iload_n 3, 1) := by decide +kernel
theorem dX7_addDegrees_25 : decode cX7_addDegrees 25 = .ok (.iadd, 1) := by decide +kernel
theorem dX7_addDegrees_26 : decode cX7_addDegrees 26 = .ok (.iastore, 1) := by decide +kernel
theorem dX7_addDegrees_27 : decode cX7_addDegrees 27 = .ok (.iload 5, 2) := by decide +kernel
theorem dX7_addDegrees_29 : decode cX7_addDegrees 29 = .ok (.iload 4, 2) := by decide +kernel
theorem dX7_addDegrees_31 : decode cX7_addDegrees 31 = .ok (.if_icmp .eq 14, 3) := by decide +kernel
theorem dX7_addDegrees_34 : decode cX7_addDegrees 34 = .ok (.aload_n 0, 1) := by decide +kernel
theorem dX7_addDegrees_35 : decode cX7_addDegrees 35 = .ok (.getfield 25, 3) := by decide +kernel
theorem dX7_addDegrees_38 : decode cX7_addDegrees 38 = .ok (.iload 5, 2) := by decide +kernel
theorem dX7_addDegrees_40 : decode cX7_addDegrees 40 = .ok (.dup2, 1) := by decide +kernel
theorem dX7_addDegrees_41 : decode cX7_addDegrees 41 = .ok (.iaload, 1) := by decide +kernel
theorem dX7_addDegrees_42 : decode cX7_addDegrees 42 = .ok (.iload_n 3, 1) := by decide +kernel
theorem dX7_addDegrees_43 : decode cX7_addDegrees 43 = .ok (.iadd, 1) := by decide +kernel
theorem dX7_addDegrees_44 : decode cX7_addDegrees 44 = .ok (.iastore, 1) := by decide +kernel
theorem dX7_addDegrees_45 : decode cX7_addDegrees 45 = .ok (.return_, 1) := by decide +kernel
theorem dX7_leastOpen_0 : decode cX7_leastOpen 0 = .ok (.iconst 0, 1) := by decide +kernel
theorem dX7_leastOpen_1 : decode cX7_leastOpen 1 = .ok (.istore_n 3, 1) := by decide +kernel
theorem dX7_leastOpen_2 : decode cX7_leastOpen 2 = .ok (.iload_n 3, 1) := by decide +kernel
theorem dX7_leastOpen_3 : decode cX7_leastOpen 3 = .ok (.iload_n 1, 1) := by decide +kernel
theorem dX7_leastOpen_4 : decode cX7_leastOpen 4 = .ok (.if_icmp .ge 30, 3) := by decide +kernel
theorem dX7_leastOpen_7 : decode cX7_leastOpen 7 = .ok (.aload_n 0, 1) := by decide +kernel
theorem dX7_leastOpen_8 : decode cX7_leastOpen 8 = .ok (.getfield 25, 3) := by decide +kernel
theorem dX7_leastOpen_11 : decode cX7_leastOpen 11 = .ok (.iload_n 3, 1) := by decide +kernel
theorem dX7_leastOpen_12 : decode cX7_leastOpen 12 = .ok (.iaload, 1) := by decide +kernel
theorem dX7_leastOpen_13 : decode cX7_leastOpen 13 = .ok (.ifCond .le 15, 3) := by decide +kernel
theorem dX7_leastOpen_16 : decode cX7_leastOpen 16 = .ok (.aload_n 0, 1) := by decide +kernel
theorem dX7_leastOpen_17 : decode cX7_leastOpen 17 = .ok (.getfield 25, 3) := by decide +kernel
theorem dX7_leastOpen_20 : decode cX7_leastOpen 20 = .ok (.iload_n 3, 1) := by decide +kernel
theorem dX7_leastOpen_21 : decode cX7_leastOpen 21 = .ok (.iaload, 1) := by decide +kernel
theorem dX7_leastOpen_22 : decode cX7_leastOpen 22 = .ok (.iload_n 2, 1) := by decide +kernel
theorem dX7_leastOpen_23 : decode cX7_leastOpen 23 = .ok (.if_icmp .gt 5, 3) := by decide +kernel
theorem dX7_leastOpen_26 : decode cX7_leastOpen 26 = .ok (.iload_n 3, 1) := by decide +kernel
theorem dX7_leastOpen_27 : decode cX7_leastOpen 27 = .ok (.ireturn, 1) := by decide +kernel
theorem dX7_leastOpen_28 : decode cX7_leastOpen 28 = .ok (.iinc 3 1, 3) := by decide +kernel
theorem dX7_leastOpen_31 : decode cX7_leastOpen 31 = .ok (.goto (-29), 3) := by decide +kernel
theorem dX7_leastOpen_34 : decode cX7_leastOpen 34 = .ok (.iconst (-1), 1) := by decide +kernel
theorem dX7_leastOpen_35 : decode cX7_leastOpen 35 = .ok (.ireturn, 1) := by decide +kernel
theorem dX7_peelBucket_0 : decode cX7_peelBucket 0 = .ok (.iconst 0, 1) := by decide +kernel
theorem dX7_peelBucket_1 : decode cX7_peelBucket 1 = .ok (.istore_n 3, 1) := by decide +kernel
theorem dX7_peelBucket_2 : decode cX7_peelBucket 2 = .ok (.iload_n 3, 1) := by decide +kernel
theorem dX7_peelBucket_3 : decode cX7_peelBucket 3 = .ok (.aload_n 0, 1) := by decide +kernel
theorem dX7_peelBucket_4 : decode cX7_peelBucket 4 = .ok (.getfield 36, 3) := by decide +kernel
theorem dX7_peelBucket_7 : decode cX7_peelBucket 7 = .ok (.if_icmp .ge 106, 3) := by decide +kernel
theorem dX7_peelBucket_10 : decode cX7_peelBucket 10 = .ok (.aload_n 0, 1) := by decide +kernel
theorem dX7_peelBucket_11 : decode cX7_peelBucket 11 = .ok (.getfield 9, 3) := by decide +kernel
theorem dX7_peelBucket_14 : decode cX7_peelBucket 14 = .ok (.iload_n 3, 1) := by decide +kernel
theorem dX7_peelBucket_15 : decode cX7_peelBucket 15 = .ok (.iaload, 1) := by decide +kernel
theorem dX7_peelBucket_16 : decode cX7_peelBucket 16 = .ok (.istore 4, 2) := by decide +kernel
theorem dX7_peelBucket_18 : decode cX7_peelBucket 18 = .ok (.aload_n 1, 1) := by decide +kernel
theorem dX7_peelBucket_19 : decode cX7_peelBucket 19 = .ok (.getfield 80, 3) := by decide +kernel
theorem dX7_peelBucket_22 : decode cX7_peelBucket 22 = .ok (.iload 4, 2) := by decide +kernel
theorem dX7_peelBucket_24 : decode cX7_peelBucket 24 = .ok (.iaload, 1) := by decide +kernel
theorem dX7_peelBucket_25 : decode cX7_peelBucket 25 = .ok (.iload_n 2, 1) := by decide +kernel
theorem dX7_peelBucket_26 : decode cX7_peelBucket 26 = .ok (.if_icmp .eq 14, 3) := by decide +kernel
theorem dX7_peelBucket_29 : decode cX7_peelBucket 29 = .ok (.aload_n 1, 1) := by decide +kernel
theorem dX7_peelBucket_30 : decode cX7_peelBucket 30 = .ok (.getfield 83, 3) := by decide +kernel
theorem dX7_peelBucket_33 : decode cX7_peelBucket 33 = .ok (.iload 4, 2) := by decide +kernel
theorem dX7_peelBucket_35 : decode cX7_peelBucket 35 = .ok (.iaload, 1) := by decide +kernel
theorem dX7_peelBucket_36 : decode cX7_peelBucket 36 = .ok (.iload_n 2, 1) := by decide +kernel
theorem dX7_peelBucket_37 : decode cX7_peelBucket 37 = .ok (.if_icmp .ne 7, 3) := by decide +kernel
theorem dX7_peelBucket_40 : decode cX7_peelBucket 40 = .ok (.iconst 1, 1) := by decide +kernel
theorem dX7_peelBucket_41 : decode cX7_peelBucket 41 = .ok (.goto 4, 3) := by decide +kernel
theorem dX7_peelBucket_44 : decode cX7_peelBucket 44 = .ok (.iconst 0, 1) := by decide +kernel
theorem dX7_peelBucket_45 : decode cX7_peelBucket 45 = .ok (.istore 5, 2) := by decide +kernel
theorem dX7_peelBucket_47 : decode cX7_peelBucket 47 = .ok (.iload 5, 2) := by decide +kernel
theorem dX7_peelBucket_49 : decode cX7_peelBucket 49 = .ok (.ifCond .eq 58, 3) := by decide +kernel
theorem dX7_peelBucket_52 : decode cX7_peelBucket 52 = .ok (.aload_n 0, 1) := by decide +kernel
theorem dX7_peelBucket_53 : decode cX7_peelBucket 53 = .ok (.getfield 15, 3) := by decide +kernel
theorem dX7_peelBucket_56 : decode cX7_peelBucket 56 = .ok (.iload_n 3, 1) := by decide +kernel
theorem dX7_peelBucket_57 : decode cX7_peelBucket 57 = .ok (.baload, 1) := by decide +kernel
theorem dX7_peelBucket_58 : decode cX7_peelBucket 58 = .ok (.ifCond .ne 49, 3) := by decide +kernel
theorem dX7_peelBucket_61 : decode cX7_peelBucket 61 = .ok (.aload_n 0, 1) := by decide +kernel
theorem dX7_peelBucket_62 : decode cX7_peelBucket 62 = .ok (.getfield 15, 3) := by decide +kernel
theorem dX7_peelBucket_65 : decode cX7_peelBucket 65 = .ok (.iload_n 3, 1) := by decide +kernel
theorem dX7_peelBucket_66 : decode cX7_peelBucket 66 = .ok (.iconst 1, 1) := by decide +kernel
theorem dX7_peelBucket_67 : decode cX7_peelBucket 67 = .ok (.bastore, 1) := by decide +kernel
theorem dX7_peelBucket_68 : decode cX7_peelBucket 68 = .ok (.aload_n 0, 1) := by decide +kernel
theorem dX7_peelBucket_69 : decode cX7_peelBucket 69 = .ok (.aload_n 1, 1) := by decide +kernel
theorem dX7_peelBucket_70 : decode cX7_peelBucket 70 = .ok (.iload 4, 2) := by decide +kernel
theorem dX7_peelBucket_72 : decode cX7_peelBucket 72 = .ok (.iconst (-1), 1) := by decide +kernel
theorem dX7_peelBucket_73 : decode cX7_peelBucket 73 = .ok (.invokevirtual 56, 3) := by decide +kernel
theorem dX7_peelBucket_76 : decode cX7_peelBucket 76 = .ok (.aload_n 0, 1) := by decide +kernel
theorem dX7_peelBucket_77 : decode cX7_peelBucket 77 = .ok (.getfield 19, 3) := by decide +kernel
theorem dX7_peelBucket_80 : decode cX7_peelBucket 80 = .ok (.aload_n 0, 1) := by decide +kernel
theorem dX7_peelBucket_81 : decode cX7_peelBucket 81 = .ok (.getfield 53, 3) := by decide +kernel
theorem dX7_peelBucket_84 : decode cX7_peelBucket 84 = .ok (.iload 4, 2) := by decide +kernel
theorem dX7_peelBucket_86 : decode cX7_peelBucket 86 = .ok (.iastore, 1) := by decide +kernel
theorem dX7_peelBucket_87 : decode cX7_peelBucket 87 = .ok (.aload_n 0, 1) := by decide +kernel
theorem dX7_peelBucket_88 : decode cX7_peelBucket 88 = .ok (.getfield 22, 3) := by decide +kernel
theorem dX7_peelBucket_91 : decode cX7_peelBucket 91 = .ok (.aload_n 0, 1) := by decide +kernel
theorem dX7_peelBucket_92 : decode cX7_peelBucket 92 = .ok (.getfield 53, 3) := by decide +kernel
theorem dX7_peelBucket_95 : decode cX7_peelBucket 95 = .ok (.iload_n 2, 1) := by decide +kernel
theorem dX7_peelBucket_96 : decode cX7_peelBucket 96 = .ok (.iastore, 1) := by decide +kernel
theorem dX7_peelBucket_97 : decode cX7_peelBucket 97 = .ok (.aload_n 0, 1) := by decide +kernel
theorem dX7_peelBucket_98 : decode cX7_peelBucket 98 = .ok (.dup, 1) := by decide +kernel
theorem dX7_peelBucket_99 : decode cX7_peelBucket 99 = .ok (.getfield 53, 3) := by decide +kernel
theorem dX7_peelBucket_102 : decode cX7_peelBucket 102 = .ok (.iconst 1, 1) := by decide +kernel
theorem dX7_peelBucket_103 : decode cX7_peelBucket 103 = .ok (.iadd, 1) := by decide +kernel
theorem dX7_peelBucket_104 : decode cX7_peelBucket 104 = .ok (.putfield 53, 3) := by decide +kernel
theorem dX7_peelBucket_107 : decode cX7_peelBucket 107 = .ok (.iinc 3 1, 3) := by decide +kernel
theorem dX7_peelBucket_110 : decode cX7_peelBucket 110 = .ok (.goto (-108), 3) := by decide +kernel
theorem dX7_peelBucket_113 : decode cX7_peelBucket 113 = .ok (.return_, 1) := by decide +kernel
