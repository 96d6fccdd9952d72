theorem dX4_init_0 : decode cX4_init 0 = .ok (.aload_n 0, 1) := by decide +kernel
theorem dX4_init_1 : decode cX4_init 1 = .ok (.invokespecial 3, 3) := by decide +kernel
theorem dX4_init_4 : decode cX4_init 4 = .ok (.aload_n 0, 1) := by decide +kernel
theorem dX4_init_5 : decode cX4_init 5 = .ok (.bipush 16, 2) := by decide +kernel
theorem dX4_init_7 : decode cX4_init 7 = .ok (.newarray .int, 2) := by decide +kernel
theorem dX4_init_9 : decode cX4_init 9 = .ok (.putfield 9, 3) := by decide +kernel
theorem dX4_init_12 : decode cX4_init 12 = .ok (.aload_n 0, 1) := by decide +kernel
theorem dX4_init_13 : decode cX4_init 13 = .ok (.aload_n 1, 1) := by decide +kernel
theorem dX4_init_14 : decode cX4_init 14 = .ok (.putfield 15, 3) := by decide +kernel
theorem dX4_init_17 : decode cX4_init 17 = .ok (.return_, 1) := by decide +kernel
theorem dX4_comeIn_0 : decode cX4_comeIn 0 = .ok (.aload_n 1, 1) := by decide +kernel
theorem dX4_comeIn_1 : decode cX4_comeIn 1 = .ok (.getfield 19, 3) := by decide +kernel
theorem dX4_comeIn_4 : decode cX4_comeIn 4 = .ok (.istore_n 2, 1) := by decide +kernel
theorem dX4_comeIn_5 : decode cX4_comeIn 5 = .ok (.aload_n 1, 1) := by decide +kernel
theorem dX4_comeIn_6 : decode cX4_comeIn 6 = .ok (.getfield 25, 3) := by decide +kernel
theorem dX4_comeIn_9 : decode cX4_comeIn 9 = .ok (.astore_n 3, 1) := by decide +kernel
theorem dX4_comeIn_10 : decode cX4_comeIn 10 = .ok (.aload_n 1, 1) := by decide +kernel
theorem dX4_comeIn_11 : decode cX4_comeIn 11 = .ok (.iload_n 2, 1) := by decide +kernel
theorem dX4_comeIn_12 : decode cX4_comeIn 12 = .ok (.invokevirtual 29, 3) := by decide +kernel
theorem dX4_comeIn_15 : decode cX4_comeIn 15 = .ok (.istore 4, 2) := by decide +kernel
theorem dX4_comeIn_17 : decode cX4_comeIn 17 = .ok (.iload 4, 2) := by decide +kernel
theorem dX4_comeIn_19 : decode cX4_comeIn 19 = .ok (.ifCond .lt 16, 3) := by decide +kernel
theorem dX4_comeIn_22 : decode cX4_comeIn 22 = .ok (.aload_n 1, 1) := by decide +kernel
theorem dX4_comeIn_23 : decode cX4_comeIn 23 = .ok (.iload_n 2, 1) := by decide +kernel
theorem dX4_comeIn_24 : decode cX4_comeIn 24 = .ok (.aload_n 1, 1) := by decide +kernel
theorem dX4_comeIn_25 : decode cX4_comeIn 25 = .ok (.iload 4, 2) := by decide +kernel
theorem dX4_comeIn_27 : decode cX4_comeIn 27 = .ok (.invokevirtual 33, 3) := by decide +kernel
theorem dX4_comeIn_30 : decode cX4_comeIn 30 = .ok (.invokevirtual 36, 3) := by decide +kernel
theorem dX4_comeIn_33 : decode cX4_comeIn 33 = .ok (.iconst 1, 1) := by decide +kernel
theorem dX4_comeIn_34 : decode cX4_comeIn 34 = .ok (.ireturn, 1) := by decide +kernel
theorem dX4_comeIn_35 : decode cX4_comeIn 35 = .ok (.aload_n 3, 1) := by decide +kernel
theorem dX4_comeIn_36 : decode cX4_comeIn 36 = .ok (.getfield 40, 3) := by decide +kernel
theorem dX4_comeIn_39 : decode cX4_comeIn 39 = .ok (.iconst 2, 1) := by decide +kernel
theorem dX4_comeIn_40 : decode cX4_comeIn 40 = .ok (.if_icmp .ne 48, 3) := by decide +kernel
theorem dX4_comeIn_43 : decode cX4_comeIn 43 = .ok (.aload_n 0, 1) := by decide +kernel
theorem dX4_comeIn_44 : decode cX4_comeIn 44 = .ok (.getfield 15, 3) := by decide +kernel
theorem dX4_comeIn_47 : decode cX4_comeIn 47 = .ok (.aload_n 1, 1) := by decide +kernel
theorem dX4_comeIn_48 : decode cX4_comeIn 48 = .ok (.aload_n 1, 1) := by decide +kernel
theorem dX4_comeIn_49 : decode cX4_comeIn 49 = .ok (.getfield 45, 3) := by decide +kernel
theorem dX4_comeIn_52 : decode cX4_comeIn 52 = .ok (.iload_n 2, 1) := by decide +kernel
theorem dX4_comeIn_53 : decode cX4_comeIn 53 = .ok (.iaload, 1) := by decide +kernel
theorem dX4_comeIn_54 : decode cX4_comeIn 54 = .ok (.aload_n 1, 1) := by decide +kernel
theorem dX4_comeIn_55 : decode cX4_comeIn 55 = .ok (.getfield 48, 3) := by decide +kernel
theorem dX4_comeIn_58 : decode cX4_comeIn 58 = .ok (.iload_n 2, 1) := by decide +kernel
theorem dX4_comeIn_59 : decode cX4_comeIn 59 = .ok (.iaload, 1) := by decide +kernel
theorem dX4_comeIn_60 : decode cX4_comeIn 60 = .ok (.invokevirtual 51, 3) := by decide +kernel
theorem dX4_comeIn_63 : decode cX4_comeIn 63 = .ok (.ifCond .eq 25, 3) := by decide +kernel
theorem dX4_comeIn_66 : decode cX4_comeIn 66 = .ok (.aload_n 0, 1) := by decide +kernel
theorem dX4_comeIn_67 : decode cX4_comeIn 67 = .ok (.getfield 15, 3) := by decide +kernel
theorem dX4_comeIn_70 : decode cX4_comeIn 70 = .ok (.getfield 57, 3) := by decide +kernel
theorem dX4_comeIn_73 : decode cX4_comeIn 73 = .ok (.aload_n 3, 1) := by decide +kernel
theorem dX4_comeIn_74 : decode cX4_comeIn 74 = .ok (.getfield 60, 3) := by decide +kernel
theorem dX4_comeIn_77 : decode cX4_comeIn 77 = .ok (.if_icmp .gt 11, 3) := by decide +kernel
theorem dX4_comeIn_80 : decode cX4_comeIn 80 = .ok (.aload_n 0, 1) := by decide +kernel
theorem dX4_comeIn_81 : decode cX4_comeIn 81 = .ok (.aload_n 1, 1) := by decide +kernel
theorem dX4_comeIn_82 : decode cX4_comeIn 82 = .ok (.iload_n 2, 1) := by decide +kernel
theorem dX4_comeIn_83 : decode cX4_comeIn 83 = .ok (.invokevirtual 63, 3) := by decide +kernel
theorem dX4_comeIn_86 : decode cX4_comeIn 86 = .ok (.iconst 2, 1) := by decide +kernel
theorem dX4_comeIn_87 : decode cX4_comeIn 87 = .ok (.ireturn, 1) := by decide +kernel
theorem dX4_comeIn_88 : decode cX4_comeIn 88 = .ok (.aload_n 3, 1) := by decide +kernel
theorem dX4_comeIn_89 : decode cX4_comeIn 89 = .ok (.getfield 40, 3) := by decide +kernel
theorem dX4_comeIn_92 : decode cX4_comeIn 92 = .ok (.iconst 1, 1) := by decide +kernel
theorem dX4_comeIn_93 : decode cX4_comeIn 93 = .ok (.if_icmp .ne 13, 3) := by decide +kernel
theorem dX4_comeIn_96 : decode cX4_comeIn 96 = .ok (.aload_n 0, 1) := by decide +kernel
theorem dX4_comeIn_97 : decode cX4_comeIn 97 = .ok (.aload_n 1, 1) := by decide +kernel
theorem dX4_comeIn_98 : decode cX4_comeIn 98 = .ok (.invokevirtual 67, 3) := by decide +kernel
theorem dX4_comeIn_101 : decode cX4_comeIn 101 = .ok (.ifCond .eq 5, 3) := by decide +kernel
theorem dX4_comeIn_104 : decode cX4_comeIn 104 = .ok (.iconst 2, 1) := by decide +kernel
theorem dX4_comeIn_105 : decode cX4_comeIn 105 = .ok (.ireturn, 1) := by decide +kernel
theorem dX4_comeIn_106 : decode cX4_comeIn 106 = .ok (.aload_n 1, 1) := by decide +kernel
theorem dX4_comeIn_107 : decode cX4_comeIn 107 = .ok (.getfield 71, 3) := by decide +kernel
theorem dX4_comeIn_110 : decode cX4_comeIn 110 = .ok (.aload_n 3, 1) := by decide +kernel
theorem dX4_comeIn_111 : decode cX4_comeIn 111 = .ok (.getfield 74, 3) := by decide +kernel
theorem dX4_comeIn_114 : decode cX4_comeIn 114 = .ok (.if_icmp .ge 37, 3) := by decide +kernel
theorem dX4_comeIn_117 : decode cX4_comeIn 117 = .ok (.aload_n 1, 1) := by decide +kernel
theorem dX4_comeIn_118 : decode cX4_comeIn 118 = .ok (.getfield 71, 3) := by decide +kernel
theorem dX4_comeIn_121 : decode cX4_comeIn 121 = .ok (.iconst 4, 1) := by decide +kernel
theorem dX4_comeIn_122 : decode cX4_comeIn 122 = .ok (.if_icmp .ge 29, 3) := by decide +kernel
theorem dX4_comeIn_125 : decode cX4_comeIn 125 = .ok (.aload_n 1, 1) := by decide +kernel
theorem dX4_comeIn_126 : decode cX4_comeIn 126 = .ok (.iload_n 2, 1) := by decide +kernel
theorem dX4_comeIn_127 : decode cX4_comeIn 127 = .ok (.aload_n 1, 1) := by decide +kernel
theorem dX4_comeIn_128 : decode cX4_comeIn 128 = .ok (.getfield 77, 3) := by decide +kernel
theorem dX4_comeIn_131 : decode cX4_comeIn 131 = .ok (.aload_n 1, 1) := by decide +kernel
theorem dX4_comeIn_132 : decode cX4_comeIn 132 = .ok (.getfield 71, 3) := by decide +kernel
theorem dX4_comeIn_135 : decode cX4_comeIn 135 = .ok (.iadd, 1) := by decide +kernel
theorem dX4_comeIn_136 : decode cX4_comeIn 136 = .ok (.invokevirtual 36, 3) := by decide +kernel
theorem dX4_comeIn_139 : decode cX4_comeIn 139 = .ok (.aload_n 1, 1) := by decide +kernel
theorem dX4_comeIn_140 : decode cX4_comeIn 140 = .ok (.dup, 1) := by decide +kernel
theorem dX4_comeIn_141 : decode cX4_comeIn 141 = .ok (.getfield 71, 3) := by decide +kernel
theorem dX4_comeIn_144 : decode cX4_comeIn 144 = .ok (.iconst 1, 1) := by decide +kernel
theorem dX4_comeIn_145 : decode cX4_comeIn 145 = .ok (.iadd, 1) := by decide +kernel
theorem dX4_comeIn_146 : decode cX4_comeIn 146 = .ok (.putfield 71, 3) := by decide +kernel
theorem dX4_comeIn_149 : decode cX4_comeIn 149 = .ok (.iconst 3, 1) := by decide +kernel
theorem dX4_comeIn_150 : decode cX4_comeIn 150 = .ok (.ireturn, 1) := by decide +kernel
theorem dX4_comeIn_151 : decode cX4_comeIn 151 = .ok (.iconst 0, 1) := by decide +kernel
theorem dX4_comeIn_152 : decode cX4_comeIn 152 = .ok (.ireturn, 1) := by decide +kernel
theorem dX4_seekFor_0 : decode cX4_seekFor 0 = .ok (.aload_n 0, 1) := by decide +kernel
theorem dX4_seekFor_1 : decode cX4_seekFor 1 = .ok (.getfield 15, 3) := by decide +kernel
theorem dX4_seekFor_4 : decode cX4_seekFor 4 = .ok (.aload_n 1, 1) := by decide +kernel
theorem dX4_seekFor_5 : decode cX4_seekFor 5 = .ok (.aload_n 1, 1) := by decide +kernel
theorem dX4_seekFor_6 : decode cX4_seekFor 6 = .ok (.getfield 45, 3) := by decide +kernel
theorem dX4_seekFor_9 : decode cX4_seekFor 9 = .ok (.iload_n 2, 1) := by decide +kernel
theorem dX4_seekFor_10 : decode cX4_seekFor 10 = .ok (.iaload, 1) := by decide +kernel
theorem dX4_seekFor_11 : decode cX4_seekFor 11 = .ok (.aload_n 1, 1) := by decide +kernel
theorem dX4_seekFor_12 : decode cX4_seekFor 12 = .ok (.getfield 48, 3) := by decide +kernel
theorem dX4_seekFor_15 : decode cX4_seekFor 15 = .ok (.iload_n 2, 1) := by decide +kernel
theorem dX4_seekFor_16 : decode cX4_seekFor 16 = .ok (.iaload, 1) := by decide +kernel
theorem dX4_seekFor_17 : decode cX4_seekFor 17 = .ok (.invokevirtual 51, 3) := by decide +kernel
theorem dX4_seekFor_20 : decode cX4_seekFor 20 = .ok (.ireturn, 1) := by decide +kernel
theorem dX4_follow_0 : decode cX4_follow 0 = .ok (.aload_n 0, 1) := by decide +kernel
theorem dX4_follow_1 : decode cX4_follow 1 = .ok (.getfield 15, 3) := by decide +kernel
theorem dX4_follow_4 : decode cX4_follow 4 = .ok (.getfield 57, 3) := by decide +kernel
theorem dX4_follow_7 : decode cX4_follow 7 = .ok (.iconst 1, 1) := by decide +kernel
theorem dX4_follow_8 : decode cX4_follow 8 = .ok (.if_icmp .ge 4, 3) := by decide +kernel
theorem dX4_follow_11 : decode cX4_follow 11 = .ok (.return_, 1) := by decide +kernel
theorem dX4_follow_12 : decode cX4_follow 12 = .ok (.aload_n 1, 1) := by decide +kernel
theorem dX4_follow_13 : decode cX4_follow 13 = .ok (.aload_n 0, 1) := by decide +kernel
theorem dX4_follow_14 : decode cX4_follow 14 = .ok (.getfield 15, 3) := by decide +kernel
theorem dX4_follow_17 : decode cX4_follow 17 = .ok (.getfield 80, 3) := by decide +kernel
theorem dX4_follow_20 : decode cX4_follow 20 = .ok (.invokevirtual 33, 3) := by decide +kernel
theorem dX4_follow_23 : decode cX4_follow 23 = .ok (.istore_n 3, 1) := by decide +kernel
theorem dX4_follow_24 : decode cX4_follow 24 = .ok (.aload_n 0, 1) := by decide +kernel
theorem dX4_follow_25 : decode cX4_follow 25 = .ok (.getfield 15, 3) := by decide +kernel
theorem dX4_follow_28 : decode cX4_follow 28 = .ok (.getfield 57, 3) := by decide +kernel
theorem dX4_follow_31 : decode cX4_follow 31 = .ok (.iconst 1, 1) := by decide +kernel
theorem dX4_follow_32 : decode cX4_follow 32 = .ok (.isub, 1) := by decide +kernel
theorem dX4_follow_33 : decode cX4_follow 33 = .ok (.istore 4, 2) := by decide +kernel
theorem dX4_follow_35 : decode cX4_follow 35 = .ok (.iload 4, 2) := by decide +kernel
theorem dX4_follow_37 : decode cX4_follow 37 = .ok (.ifCond .lt 42, 3) := by decide +kernel
theorem dX4_follow_40 : decode cX4_follow 40 = .ok (.aload_n 0, 1) := by decide +kernel
theorem dX4_follow_41 : decode cX4_follow 41 = .ok (.getfield 15, 3) := by decide +kernel
theorem dX4_follow_44 : decode cX4_follow 44 = .ok (.getfield 83, 3) := by decide +kernel
theorem dX4_follow_47 : decode cX4_follow 47 = .ok (.iload 4, 2) := by decide +kernel
theorem dX4_follow_49 : decode cX4_follow 49 = .ok (.iaload, 1) := by decide +kernel
theorem dX4_follow_50 : decode cX4_follow 50 = .ok (.istore 5, 2) := by decide +kernel
theorem dX4_follow_52 : decode cX4_follow 52 = .ok (.aload_n 1, 1) := by decide +kernel
theorem dX4_follow_53 : decode cX4_follow 53 = .ok (.getfield 86, 3) := by decide +kernel
theorem dX4_follow_56 : decode cX4_follow 56 = .ok (.iload 5, 2) := by decide +kernel
theorem dX4_follow_58 : decode cX4_follow 58 = .ok (.dup2, 1) := by decide +kernel
theorem dX4_follow_59 : decode cX4_follow 59 = .ok (.iaload, 1) := by decide +kernel
theorem dX4_follow_60 : decode cX4_follow 60 = .ok (.iconst 1, 1) := by decide +kernel
theorem dX4_follow_61 : decode cX4_follow 61 = .ok (.iadd, 1) := by decide +kernel
theorem dX4_follow_62 : decode cX4_follow 62 = .ok (.iastore, 1) := by decide +kernel
theorem dX4_follow_63 : decode cX4_follow 63 = .ok (.aload_n 1, 1) := by decide +kernel
theorem dX4_follow_64 : decode cX4_follow 64 = .ok (.iload 5, 2) := by decide +kernel
theorem dX4_follow_66 : decode cX4_follow 66 = .ok (.iload_n 3, 1) := by decide +kernel
theorem dX4_follow_67 : decode cX4_follow 67 = .ok (.invokevirtual 36, 3) := by decide +kernel
theorem dX4_follow_70 : decode cX4_follow 70 = .ok (.iload 5, 2) := by decide +kernel
theorem dX4_follow_72 : decode cX4_follow 72 = .ok (.istore_n 3, 1) := by decide +kernel
theorem dX4_follow_73 : decode cX4_follow 73 = .ok (.iinc 4 (-1), 3) := by decide +kernel
theorem dX4_follow_76 : decode cX4_follow 76 = .ok (.goto (-41), 3) := by decide +kernel
theorem dX4_follow_79 : decode cX4_follow 79 = .ok (.aload_n 1, 1) := by decide +kernel
theorem dX4_follow_80 : decode cX4_follow 80 = .ok (.iload_n 2, 1) := by decide +kernel
theorem dX4_follow_81 : decode cX4_follow 81 = .ok (.iload_n 3, 1) := by decide +kernel
theorem dX4_follow_82 : decode cX4_follow 82 = .ok (.invokevirtual 36, 3) := by decide +kernel
theorem dX4_follow_85 : decode cX4_follow 85 = .ok (.aload_n 1, 1) := by decide +kernel
theorem dX4_follow_86 : decode cX4_follow 86 = .ok (.aload_n 1, 1) := by decide +kernel
theorem dX4_follow_87 : decode cX4_follow 87 = .ok (.getfield 89, 3) := by decide +kernel
theorem dX4_follow_90 : decode cX4_follow 90 = .ok (.aload_n 0, 1) := by decide +kernel
theorem dX4_follow_91 : decode cX4_follow 91 = .ok (.getfield 15, 3) := by decide +kernel
theorem dX4_follow_94 : decode cX4_follow 94 = .ok (.getfield 57, 3) := by decide +kernel
theorem dX4_follow_97 : decode cX4_follow 97 = .ok (.invokestatic 92, 3) := by decide +kernel
theorem dX4_follow_100 : decode cX4_follow 100 = .ok (.putfield 89, 3) := by decide +kernel
theorem dX4_follow_103 : decode cX4_follow 103 = .ok (.return_, 1) := by decide +kernel
theorem dX4_walk_0 : decode cX4_walk 0 = .ok (.aload_n 1, 1) := by decide +kernel
theorem dX4_walk_1 : decode cX4_walk 1 = .ok (.getfield 25, 3) := by decide +kernel
theorem dX4_walk_4 : decode cX4_walk 4 = .ok (.getfield 98, 3) := by decide +kernel
theorem dX4_walk_7 : decode cX4_walk 7 = .ok (.istore_n 2, 1) := by decide +kernel
theorem dX4_walk_8 : decode cX4_walk 8 = .ok (.aload_n 1, 1) := by decide +kernel
theorem dX4_walk_9 : decode cX4_walk 9 = .ok (.getfield 25, 3) := by decide +kernel
theorem dX4_walk_12 : decode cX4_walk 12 = .ok (.getfield 60, 3) := by decide +kernel
theorem dX4_walk_15 : decode cX4_walk 15 = .ok (.bipush 16, 2) := by decide +kernel
theorem dX4_walk_17 : decode cX4_walk 17 = .ok (.invokestatic 101, 3) := by decide +kernel
theorem dX4_walk_20 : decode cX4_walk 20 = .ok (.istore_n 3, 1) := by decide +kernel
theorem dX4_walk_21 : decode cX4_walk 21 = .ok (.aload_n 1, 1) := by decide +kernel
theorem dX4_walk_22 : decode cX4_walk 22 = .ok (.getfield 45, 3) := by decide +kernel
theorem dX4_walk_25 : decode cX4_walk 25 = .ok (.aload_n 1, 1) := by decide +kernel
theorem dX4_walk_26 : decode cX4_walk 26 = .ok (.getfield 19, 3) := by decide +kernel
theorem dX4_walk_29 : decode cX4_walk 29 = .ok (.iaload, 1) := by decide +kernel
theorem dX4_walk_30 : decode cX4_walk 30 = .ok (.istore 4, 2) := by decide +kernel
theorem dX4_walk_32 : decode cX4_walk 32 = .ok (.iconst 0, 1) := by decide +kernel
theorem dX4_walk_33 : decode cX4_walk 33 = .ok (.istore 5, 2) := by decide +kernel
theorem dX4_walk_35 : decode cX4_walk 35 = .ok (.iload 5, 2) := by decide +kernel
theorem dX4_walk_37 : decode cX4_walk 37 = .ok (.iload_n 3, 1) := by decide +kernel
theorem dX4_walk_38 : decode cX4_walk 38 = .ok (.if_icmp .ge 114, 3) := by decide +kernel
theorem dX4_walk_41 : decode cX4_walk 41 = .ok (.iload 4, 2) := by decide +kernel
theorem dX4_walk_43 : decode cX4_walk 43 = .ok (.iload_n 2, 1) := by decide +kernel
theorem dX4_walk_44 : decode cX4_walk 44 = .ok (.imul, 1) := by decide +kernel
theorem dX4_walk_45 : decode cX4_walk 45 = .ok (.aload_n 1, 1) := by decide +kernel
theorem dX4_walk_46 : decode cX4_walk 46 = .ok (.getfield 25, 3) := by decide +kernel
theorem dX4_walk_49 : decode cX4_walk 49 = .ok (.getfield 104, 3) := by decide +kernel
theorem dX4_walk_52 : decode cX4_walk 52 = .ok (.iload_n 2, 1) := by decide +kernel
theorem dX4_walk_53 : decode cX4_walk 53 = .ok (.invokevirtual 108, 3) := by decide +kernel
theorem dX4_walk_56 : decode cX4_walk 56 = .ok (.iadd, 1) := by decide +kernel
theorem dX4_walk_57 : decode cX4_walk 57 = .ok (.istore 6, 2) := by decide +kernel
theorem dX4_walk_59 : decode cX4_walk 59 = .ok (.aload_n 1, 1) := by decide +kernel
theorem dX4_walk_60 : decode cX4_walk 60 = .ok (.getfield 86, 3) := by decide +kernel
theorem dX4_walk_63 : decode cX4_walk 63 = .ok (.iload 6, 2) := by decide +kernel
theorem dX4_walk_65 : decode cX4_walk 65 = .ok (.dup2, 1) := by decide +kernel
theorem dX4_walk_66 : decode cX4_walk 66 = .ok (.iaload, 1) := by decide +kernel
theorem dX4_walk_67 : decode cX4_walk 67 = .ok (.iconst 1, 1) := by decide +kernel
theorem dX4_walk_68 : decode cX4_walk 68 = .ok (.iadd, 1) := by decide +kernel
theorem dX4_walk_69 : decode cX4_walk 69 = .ok (.iastore, 1) := by decide +kernel
theorem dX4_walk_70 : decode cX4_walk 70 = .ok (.aload_n 1, 1) := by decide +kernel
theorem dX4_walk_71 : decode cX4_walk 71 = .ok (.iload 6, 2) := by decide +kernel
theorem dX4_walk_73 : decode cX4_walk 73 = .ok (.invokevirtual 113, 3) := by decide +kernel
theorem dX4_walk_76 : decode cX4_walk 76 = .ok (.aload_n 0, 1) := by decide +kernel
theorem dX4_walk_77 : decode cX4_walk 77 = .ok (.getfield 9, 3) := by decide +kernel
theorem dX4_walk_80 : decode cX4_walk 80 = .ok (.iload 5, 2) := by decide +kernel
theorem dX4_walk_82 : decode cX4_walk 82 = .ok (.iload 6, 2) := by decide +kernel
theorem dX4_walk_84 : decode cX4_walk 84 = .ok (.iastore, 1) := by decide +kernel
theorem dX4_walk_85 : decode cX4_walk 85 = .ok (.aload_n 1, 1) := by decide +kernel
theorem dX4_walk_86 : decode cX4_walk 86 = .ok (.getfield 45, 3) := by decide +kernel
theorem dX4_walk_89 : decode cX4_walk 89 = .ok (.aload_n 1, 1) := by decide +kernel
theorem dX4_walk_90 : decode cX4_walk 90 = .ok (.getfield 19, 3) := by decide +kernel
theorem dX4_walk_93 : decode cX4_walk 93 = .ok (.iaload, 1) := by decide +kernel
theorem dX4_walk_94 : decode cX4_walk 94 = .ok (.istore 7, 2) := by decide +kernel
theorem dX4_walk_96 : decode cX4_walk 96 = .ok (.iload 7, 2) := by decide +kernel
theorem dX4_walk_98 : decode cX4_walk 98 = .ok (.iload 4, 2) := by decide +kernel
theorem dX4_walk_100 : decode cX4_walk 100 = .ok (.if_icmp .ne 15, 3) := by decide +kernel
theorem dX4_walk_103 : decode cX4_walk 103 = .ok (.aload_n 1, 1) := by decide +kernel
theorem dX4_walk_104 : decode cX4_walk 104 = .ok (.getfield 48, 3) := by decide +kernel
theorem dX4_walk_107 : decode cX4_walk 107 = .ok (.aload_n 1, 1) := by decide +kernel
theorem dX4_walk_108 : decode cX4_walk 108 = .ok (.getfield 19, 3) := by decide +kernel
theorem dX4_walk_111 : decode cX4_walk 111 = .ok (.iaload, 1) := by decide +kernel
theorem dX4_walk_112 : decode cX4_walk 112 = .ok (.goto 5, 3) := by decide +kernel
theorem dX4_walk_115 : decode cX4_walk 115 = .ok (.iload 7, 2) := by decide +kernel
theorem dX4_walk_117 : decode cX4_walk 117 = .ok (.istore 4, 2) := by decide +kernel
theorem dX4_walk_119 : decode cX4_walk 119 = .ok (.aload_n 1, 1) := by decide +kernel
theorem dX4_walk_120 : decode cX4_walk 120 = .ok (.getfield 117, 3) := by decide +kernel
theorem dX4_walk_123 : decode cX4_walk 123 = .ok (.iload 4, 2) := by decide +kernel
theorem dX4_walk_125 : decode cX4_walk 125 = .ok (.iaload, 1) := by decide +kernel
theorem dX4_walk_126 : decode cX4_walk 126 = .ok (.iload_n 2, 1) := by decide +kernel
theorem dX4_walk_127 : decode cX4_walk 127 = .ok (.if_icmp .ge 19, 3) := by decide +kernel
theorem dX4_walk_130 : decode cX4_walk 130 = .ok (.aload_n 1, 1) := by decide +kernel
theorem dX4_walk_131 : decode cX4_walk 131 = .ok (.aload_n 1, 1) := by decide +kernel
theorem dX4_walk_132 : decode cX4_walk 132 = .ok (.getfield 19, 3) := by decide +kernel
theorem dX4_walk_135 : decode cX4_walk 135 = .ok (.aload_n 1, 1) := by decide +kernel
theorem dX4_walk_136 : decode cX4_walk 136 = .ok (.iload 4, 2) := by decide +kernel
theorem dX4_walk_138 : decode cX4_walk 138 = .ok (.invokevirtual 33, 3) := by decide +kernel
theorem dX4_walk_141 : decode cX4_walk 141 = .ok (.invokevirtual 36, 3) := by decide +kernel
theorem dX4_walk_144 : decode cX4_walk 144 = .ok (.iconst 1, 1) := by decide +kernel
theorem dX4_walk_145 : decode cX4_walk 145 = .ok (.ireturn, 1) := by decide +kernel
theorem dX4_walk_146 : decode cX4_walk 146 = .ok (.iinc 5 1, 3) := by decide +kernel
theorem dX4_walk_149 : decode cX4_walk 149 = .ok (.goto (-114), 3) := by decide +kernel
theorem dX4_walk_152 : decode cX4_walk 152 = .ok (.iload_n 3, 1) := by decide +kernel
theorem dX4_walk_153 : decode cX4_walk 153 = .ok (.iconst 1, 1) := by decide +kernel
theorem dX4_walk_154 : decode cX4_walk 154 = .ok (.isub, 1) := by decide +kernel
theorem dX4_walk_155 : decode cX4_walk 155 = .ok (.istore 5, 2) := by decide +kernel
theorem dX4_walk_157 : decode cX4_walk 157 = .ok (.iload 5, 2) := by decide +kernel
theorem dX4_walk_159 : decode cX4_walk 159 = .ok (.ifCond .lt 36, 3) := by decide +kernel
theorem dX4_walk_162 : decode cX4_walk 162 = .ok (.aload_n 1, 1) := by decide +kernel
theorem dX4_walk_163 : decode cX4_walk 163 = .ok (.aload_n 0, 1) := by decide +kernel
theorem dX4_walk_164 : decode cX4_walk 164 = .ok (.getfield 9, 3) := by decide +kernel
theorem dX4_walk_167 : decode cX4_walk 167 = .ok (.iload 5, 2) := by decide +kernel
theorem dX4_walk_169 : decode cX4_walk 169 = .ok (.iaload, 1) := by decide +kernel
theorem dX4_walk_170 : decode cX4_walk 170 = .ok (.invokevirtual 113, 3) := by decide +kernel
theorem dX4_walk_173 : decode cX4_walk 173 = .ok (.aload_n 1, 1) := by decide +kernel
theorem dX4_walk_174 : decode cX4_walk 174 = .ok (.getfield 86, 3) := by decide +kernel
theorem dX4_walk_177 : decode cX4_walk 177 = .ok (.aload_n 0, 1) := by decide +kernel
theorem dX4_walk_178 : decode cX4_walk 178 = .ok (.getfield 9, 3) := by decide +kernel
theorem dX4_walk_181 : decode cX4_walk 181 = .ok (.iload 5, 2) := by decide +kernel
theorem dX4_walk_183 : decode cX4_walk 183 = .ok (.iaload, 1) := by decide +kernel
theorem dX4_walk_184 : decode cX4_walk 184 = .ok (.dup2, 1) := by decide +kernel
theorem dX4_walk_185 : decode cX4_walk 185 = .ok (.iaload, 1) := by decide +kernel
theorem dX4_walk_186 : decode cX4_walk 186 = .ok (.iconst 1, 1) := by decide +kernel
theorem dX4_walk_187 : decode cX4_walk 187 = .ok (.isub, 1) := by decide +kernel
theorem dX4_walk_188 : decode cX4_walk 188 = .ok (.iastore, 1) := by decide +kernel
theorem dX4_walk_189 : decode cX4_walk 189 = .ok (.iinc 5 (-1), 3) := by decide +kernel
theorem dX4_walk_192 : decode cX4_walk 192 = .ok (.goto (-35), 3) := by decide +kernel
theorem dX4_walk_195 : decode cX4_walk 195 = .ok (.iconst 0, 1) := by decide +kernel
theorem dX4_walk_196 : decode cX4_walk 196 = .ok (.ireturn, 1) := by decide +kernel
theorem dX4_emptyStash_0 : decode cX4_emptyStash 0 = .ok (.iconst 0, 1) := by decide +kernel
theorem dX4_emptyStash_1 : decode cX4_emptyStash 1 = .ok (.istore_n 3, 1) := by decide +kernel
theorem dX4_emptyStash_2 : decode cX4_emptyStash 2 = .ok (.iconst 0, 1) := by decide +kernel
theorem dX4_emptyStash_3 : decode cX4_emptyStash 3 = .ok (.istore 4, 2) := by decide +kernel
theorem dX4_emptyStash_5 : decode cX4_emptyStash 5 = .ok (.aload_n 1, 1) := by decide +kernel
theorem dX4_emptyStash_6 : decode cX4_emptyStash 6 = .ok (.getfield 71, 3) := by decide +kernel
theorem dX4_emptyStash_9 : decode cX4_emptyStash 9 = .ok (.istore 5, 2) := by decide +kernel
theorem dX4_emptyStash_11 : decode cX4_emptyStash 11 = .ok (.iconst 0, 1) := by decide +kernel
theorem dX4_emptyStash_12 : decode cX4_emptyStash 12 = .ok (.istore 6, 2) := by decide +kernel
theorem dX4_emptyStash_14 : decode cX4_emptyStash 14 = .ok (.iload 6, 2) := by decide +kernel
theorem dX4_emptyStash_16 : decode cX4_emptyStash 16 = .ok (.iload 5, 2) := by decide +kernel
theorem dX4_emptyStash_18 : decode cX4_emptyStash 18 = .ok (.if_icmp .ge 40, 3) := by decide +kernel
theorem dX4_emptyStash_21 : decode cX4_emptyStash 21 = .ok (.aload_n 0, 1) := by decide +kernel
theorem dX4_emptyStash_22 : decode cX4_emptyStash 22 = .ok (.aload_n 1, 1) := by decide +kernel
theorem dX4_emptyStash_23 : decode cX4_emptyStash 23 = .ok (.aload_n 1, 1) := by decide +kernel
theorem dX4_emptyStash_24 : decode cX4_emptyStash 24 = .ok (.getfield 77, 3) := by decide +kernel
theorem dX4_emptyStash_27 : decode cX4_emptyStash 27 = .ok (.iload 4, 2) := by decide +kernel
theorem dX4_emptyStash_29 : decode cX4_emptyStash 29 = .ok (.iadd, 1) := by decide +kernel
theorem dX4_emptyStash_30 : decode cX4_emptyStash 30 = .ok (.iload_n 2, 1) := by decide +kernel
theorem dX4_emptyStash_31 : decode cX4_emptyStash 31 = .ok (.invokevirtual 120, 3) := by decide +kernel
theorem dX4_emptyStash_34 : decode cX4_emptyStash 34 = .ok (.ifCond .eq 15, 3) := by decide +kernel
theorem dX4_emptyStash_37 : decode cX4_emptyStash 37 = .ok (.aload_n 1, 1) := by decide +kernel
theorem dX4_emptyStash_38 : decode cX4_emptyStash 38 = .ok (.iload 4, 2) := by decide +kernel
theorem dX4_emptyStash_40 : decode cX4_emptyStash 40 = .ok (.invokevirtual 124, 3) := by decide +kernel
theorem dX4_emptyStash_43 : decode cX4_emptyStash 43 = .ok (.iinc 3 1, 3) := by decide +kernel
theorem dX4_emptyStash_46 : decode cX4_emptyStash 46 = .ok (.goto 6, 3) := by decide +kernel
theorem dX4_emptyStash_49 : decode cX4_emptyStash 49 = .ok (.iinc 4 1, 3) := by decide +kernel
theorem dX4_emptyStash_52 : decode cX4_emptyStash 52 = .ok (.iinc 6 1, 3) := by decide +kernel
theorem dX4_emptyStash_55 : decode cX4_emptyStash 55 = .ok (.goto (-41), 3) := by decide +kernel
theorem dX4_emptyStash_58 : decode cX4_emptyStash 58 = .ok (.iload_n 3, 1) := by decide +kernel
theorem dX4_emptyStash_59 : decode cX4_emptyStash 59 = .ok (.ireturn, 1) := by decide +kernel
theorem dX4_leaveStash_0 : decode cX4_leaveStash 0 = .ok (.aload_n 1, 1) := by decide +kernel
theorem dX4_leaveStash_1 : decode cX4_leaveStash 1 = .ok (.iload_n 2, 1) := by decide +kernel
theorem dX4_leaveStash_2 : decode cX4_leaveStash 2 = .ok (.invokevirtual 29, 3) := by decide +kernel
theorem dX4_leaveStash_5 : decode cX4_leaveStash 5 = .ok (.istore 4, 2) := by decide +kernel
theorem dX4_leaveStash_7 : decode cX4_leaveStash 7 = .ok (.iload 4, 2) := by decide +kernel
theorem dX4_leaveStash_9 : decode cX4_leaveStash 9 = .ok (.ifCond .lt 26, 3) := by decide +kernel
theorem dX4_leaveStash_12 : decode cX4_leaveStash 12 = .ok (.aload_n 1, 1) := by decide +kernel
theorem dX4_leaveStash_13 : decode cX4_leaveStash 13 = .ok (.getfield 86, 3) := by decide +kernel
theorem dX4_leaveStash_16 : decode cX4_leaveStash 16 = .ok (.iload_n 2, 1) := by decide +kernel
theorem dX4_leaveStash_17 : decode cX4_leaveStash 17 = .ok (.dup2, 1) := by decide +kernel
theorem dX4_leaveStash_18 : decode cX4_leaveStash 18 = .ok (.iaload, 1) := by decide +kernel
theorem dX4_leaveStash_19 : decode cX4_leaveStash 19 = .ok (.iconst 1, 1) := by decide +kernel
theorem dX4_leaveStash_20 : decode cX4_leaveStash 20 = .ok (.iadd, 1) := by decide +kernel
theorem dX4_leaveStash_21 : decode cX4_leaveStash 21 = .ok (.iastore, 1) := by decide +kernel
theorem dX4_leaveStash_22 : decode cX4_leaveStash 22 = .ok (.aload_n 1, 1) := by decide +kernel
theorem dX4_leaveStash_23 : decode cX4_leaveStash 23 = .ok (.iload_n 2, 1) := by decide +kernel
theorem dX4_leaveStash_24 : decode cX4_leaveStash 24 = .ok (.aload_n 1, 1) := by decide +kernel
theorem dX4_leaveStash_25 : decode cX4_leaveStash 25 = .ok (.iload 4, 2) := by decide +kernel
theorem dX4_leaveStash_27 : decode cX4_leaveStash 27 = .ok (.invokevirtual 33, 3) := by decide +kernel
theorem dX4_leaveStash_30 : decode cX4_leaveStash 30 = .ok (.invokevirtual 36, 3) := by decide +kernel
theorem dX4_leaveStash_33 : decode cX4_leaveStash 33 = .ok (.iconst 1, 1) := by decide +kernel
theorem dX4_leaveStash_34 : decode cX4_leaveStash 34 = .ok (.ireturn, 1) := by decide +kernel
theorem dX4_leaveStash_35 : decode cX4_leaveStash 35 = .ok (.iload_n 3, 1) := by decide +kernel
theorem dX4_leaveStash_36 : decode cX4_leaveStash 36 = .ok (.ifCond .eq 47, 3) := by decide +kernel
theorem dX4_leaveStash_39 : decode cX4_leaveStash 39 = .ok (.aload_n 0, 1) := by decide +kernel
theorem dX4_leaveStash_40 : decode cX4_leaveStash 40 = .ok (.aload_n 1, 1) := by decide +kernel
theorem dX4_leaveStash_41 : decode cX4_leaveStash 41 = .ok (.iload_n 2, 1) := by decide +kernel
theorem dX4_leaveStash_42 : decode cX4_leaveStash 42 = .ok (.invokevirtual 127, 3) := by decide +kernel
theorem dX4_leaveStash_45 : decode cX4_leaveStash 45 = .ok (.ifCond .eq 38, 3) := by decide +kernel
theorem dX4_leaveStash_48 : decode cX4_leaveStash 48 = .ok (.aload_n 0, 1) := by decide +kernel
theorem dX4_leaveStash_49 : decode cX4_leaveStash 49 = .ok (.getfield 15, 3) := by decide +kernel
theorem dX4_leaveStash_52 : decode cX4_leaveStash 52 = .ok (.getfield 57, 3) := by decide +kernel
theorem dX4_leaveStash_55 : decode cX4_leaveStash 55 = .ok (.aload_n 1, 1) := by decide +kernel
theorem dX4_leaveStash_56 : decode cX4_leaveStash 56 = .ok (.getfield 25, 3) := by decide +kernel
theorem dX4_leaveStash_59 : decode cX4_leaveStash 59 = .ok (.getfield 60, 3) := by decide +kernel
theorem dX4_leaveStash_62 : decode cX4_leaveStash 62 = .ok (.if_icmp .gt 21, 3) := by decide +kernel
theorem dX4_leaveStash_65 : decode cX4_leaveStash 65 = .ok (.aload_n 1, 1) := by decide +kernel
theorem dX4_leaveStash_66 : decode cX4_leaveStash 66 = .ok (.getfield 86, 3) := by decide +kernel
theorem dX4_leaveStash_69 : decode cX4_leaveStash 69 = .ok (.iload_n 2, 1) := by decide +kernel
theorem dX4_leaveStash_70 : decode cX4_leaveStash 70 = .ok (.dup2, 1) := by decide +kernel
theorem dX4_leaveStash_71 : decode cX4_leaveStash 71 = .ok (.iaload, 1) := by decide +kernel
theorem dX4_leaveStash_72 : decode cX4_leaveStash 72 = .ok (.iconst 1, 1) := by decide +kernel
theorem dX4_leaveStash_73 : decode cX4_leaveStash 73 = .ok (.iadd, 1) := by decide +kernel
theorem dX4_leaveStash_74 : decode cX4_leaveStash 74 = .ok (.iastore, 1) := by decide +kernel
theorem dX4_leaveStash_75 : decode cX4_leaveStash 75 = .ok (.aload_n 0, 1) := by decide +kernel
theorem dX4_leaveStash_76 : decode cX4_leaveStash 76 = .ok (.aload_n 1, 1) := by decide +kernel
theorem dX4_leaveStash_77 : decode cX4_leaveStash 77 = .ok (.iload_n 2, 1) := by decide +kernel
theorem dX4_leaveStash_78 : decode cX4_leaveStash 78 = .ok (.invokevirtual 63, 3) := by decide +kernel
theorem dX4_leaveStash_81 : decode cX4_leaveStash 81 = .ok (.iconst 1, 1) := by decide +kernel
theorem dX4_leaveStash_82 : decode cX4_leaveStash 82 = .ok (.ireturn, 1) := by decide +kernel
theorem dX4_leaveStash_83 : decode cX4_leaveStash 83 = .ok (.iconst 0, 1) := by decide +kernel
theorem dX4_leaveStash_84 : decode cX4_leaveStash 84 = .ok (.ireturn, 1) := by decide +kernel
