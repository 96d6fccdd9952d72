theorem dX12_init_0 : decode cX12_init 0 = .ok (.aload_n 0, 1) := by decide +kernel
theorem dX12_init_1 : decode cX12_init 1 = .ok (.invokespecial 1, 3) := by decide +kernel
theorem dX12_init_4 : decode cX12_init 4 = .ok (.aload_n 0, 1) := by decide +kernel
theorem dX12_init_5 : decode cX12_init 5 = .ok (.sipush 3253, 3) := by decide +kernel
theorem dX12_init_8 : decode cX12_init 8 = .ok (.newarray .int, 2) := by decide +kernel
theorem dX12_init_10 : decode cX12_init 10 = .ok (.putfield 7, 3) := by decide +kernel
theorem dX12_init_13 : decode cX12_init 13 = .ok (.aload_n 0, 1) := by decide +kernel
theorem dX12_init_14 : decode cX12_init 14 = .ok (.sipush 400, 3) := by decide +kernel
theorem dX12_init_17 : decode cX12_init 17 = .ok (.newarray .int, 2) := by decide +kernel
theorem dX12_init_19 : decode cX12_init 19 = .ok (.putfield 13, 3) := by decide +kernel
theorem dX12_init_22 : decode cX12_init 22 = .ok (.aload_n 0, 1) := by decide +kernel
theorem dX12_init_23 : decode cX12_init 23 = .ok (.iconst 3, 1) := by decide +kernel
theorem dX12_init_24 : decode cX12_init 24 = .ok (.newarray .boolean, 2) := by decide +kernel
theorem dX12_init_26 : decode cX12_init 26 = .ok (.putfield 16, 3) := by decide +kernel
theorem dX12_init_29 : decode cX12_init 29 = .ok (.aload_n 0, 1) := by decide +kernel
theorem dX12_init_30 : decode cX12_init 30 = .ok (.iconst (-1), 1) := by decide +kernel
theorem dX12_init_31 : decode cX12_init 31 = .ok (.putfield 20, 3) := by decide +kernel
theorem dX12_init_34 : decode cX12_init 34 = .ok (.aload_n 0, 1) := by decide +kernel
theorem dX12_init_35 : decode cX12_init 35 = .ok (.bipush 16, 2) := by decide +kernel
theorem dX12_init_37 : decode cX12_init 37 = .ok (.newarray .int, 2) := by decide +kernel
theorem dX12_init_39 : decode cX12_init 39 = .ok (.putfield 24, 3) := by decide +kernel
theorem dX12_init_42 : decode cX12_init 42 = .ok (.aload_n 0, 1) := by decide +kernel
theorem dX12_init_43 : decode cX12_init 43 = .ok (.bipush 16, 2) := by decide +kernel
theorem dX12_init_45 : decode cX12_init 45 = .ok (.newarray .int, 2) := by decide +kernel
theorem dX12_init_47 : decode cX12_init 47 = .ok (.putfield 27, 3) := by decide +kernel
theorem dX12_init_50 : decode cX12_init 50 = .ok (.aload_n 0, 1) := by decide +kernel
theorem dX12_init_51 : decode cX12_init 51 = .ok (.bipush 16, 2) := by decide +kernel
theorem dX12_init_53 : decode cX12_init 53 = .ok (.newarray .int, 2) := by decide +kernel
theorem dX12_init_55 : decode cX12_init 55 = .ok (.putfield 30, 3) := by decide +kernel
theorem dX12_init_58 : decode cX12_init 58 = .ok (.aload_n 0, 1) := by decide +kernel
theorem dX12_init_59 : decode cX12_init 59 = .ok (.iconst 4, 1) := by decide +kernel
theorem dX12_init_60 : decode cX12_init 60 = .ok (.newarray .int, 2) := by decide +kernel
theorem dX12_init_62 : decode cX12_init 62 = .ok (.putfield 33, 3) := by decide +kernel
theorem dX12_init_65 : decode cX12_init 65 = .ok (.aload_n 0, 1) := by decide +kernel
theorem dX12_init_66 : decode cX12_init 66 = .ok (.iconst 4, 1) := by decide +kernel
theorem dX12_init_67 : decode cX12_init 67 = .ok (.newarray .int, 2) := by decide +kernel
theorem dX12_init_69 : decode cX12_init 69 = .ok (.putfield 36, 3) := by decide +kernel
theorem dX12_init_72 : decode cX12_init 72 = .ok (.aload_n 0, 1) := by decide +kernel
theorem dX12_init_73 : decode cX12_init 73 = .ok (.sipush 288, 3) := by decide +kernel
theorem dX12_init_76 : decode cX12_init 76 = .ok (.newarray .int, 2) := by decide +kernel
theorem dX12_init_78 : decode cX12_init 78 = .ok (.putfield 39, 3) := by decide +kernel
theorem dX12_init_81 : decode cX12_init 81 = .ok (.aload_n 0, 1) := by decide +kernel
theorem dX12_init_82 : decode cX12_init 82 = .ok (.bipush 72, 2) := by decide +kernel
theorem dX12_init_84 : decode cX12_init 84 = .ok (.newarray .int, 2) := by decide +kernel
theorem dX12_init_86 : decode cX12_init 86 = .ok (.putfield 42, 3) := by decide +kernel
theorem dX12_init_89 : decode cX12_init 89 = .ok (.aload_n 0, 1) := by decide +kernel
theorem dX12_init_90 : decode cX12_init 90 = .ok (.bipush 72, 2) := by decide +kernel
theorem dX12_init_92 : decode cX12_init 92 = .ok (.newarray .int, 2) := by decide +kernel
theorem dX12_init_94 : decode cX12_init 94 = .ok (.putfield 45, 3) := by decide +kernel
theorem dX12_init_97 : decode cX12_init 97 = .ok (.aload_n 0, 1) := by decide +kernel
theorem dX12_init_98 : decode cX12_init 98 = .ok (.bipush 72, 2) := by decide +kernel
theorem dX12_init_100 : decode cX12_init 100 = .ok (.newarray .boolean, 2) := by decide +kernel
theorem dX12_init_102 : decode cX12_init 102 = .ok (.putfield 48, 3) := by decide +kernel
theorem dX12_init_105 : decode cX12_init 105 = .ok (.aload_n 0, 1) := by decide +kernel
theorem dX12_init_106 : decode cX12_init 106 = .ok (.bipush 72, 2) := by decide +kernel
theorem dX12_init_108 : decode cX12_init 108 = .ok (.newarray .int, 2) := by decide +kernel
theorem dX12_init_110 : decode cX12_init 110 = .ok (.putfield 51, 3) := by decide +kernel
theorem dX12_init_113 : decode cX12_init 113 = .ok (.aload_n 0, 1) := by decide +kernel
theorem dX12_init_114 : decode cX12_init 114 = .ok (.bipush 32, 2) := by decide +kernel
theorem dX12_init_116 : decode cX12_init 116 = .ok (.newarray .int, 2) := by decide +kernel
theorem dX12_init_118 : decode cX12_init 118 = .ok (.putfield 54, 3) := by decide +kernel
theorem dX12_init_121 : decode cX12_init 121 = .ok (.aload_n 0, 1) := by decide +kernel
theorem dX12_init_122 : decode cX12_init 122 = .ok (.bipush 32, 2) := by decide +kernel
theorem dX12_init_124 : decode cX12_init 124 = .ok (.newarray .int, 2) := by decide +kernel
theorem dX12_init_126 : decode cX12_init 126 = .ok (.putfield 57, 3) := by decide +kernel
theorem dX12_init_129 : decode cX12_init 129 = .ok (.aload_n 0, 1) := by decide +kernel
theorem dX12_init_130 : decode cX12_init 130 = .ok (.iconst 4, 1) := by decide +kernel
theorem dX12_init_131 : decode cX12_init 131 = .ok (.newarray .int, 2) := by decide +kernel
theorem dX12_init_133 : decode cX12_init 133 = .ok (.putfield 60, 3) := by decide +kernel
theorem dX12_init_136 : decode cX12_init 136 = .ok (.aload_n 0, 1) := by decide +kernel
theorem dX12_init_137 : decode cX12_init 137 = .ok (.bipush 12, 2) := by decide +kernel
theorem dX12_init_139 : decode cX12_init 139 = .ok (.newarray .int, 2) := by decide +kernel
theorem dX12_init_141 : decode cX12_init 141 = .ok (.putfield 63, 3) := by decide +kernel
theorem dX12_init_144 : decode cX12_init 144 = .ok (.aload_n 0, 1) := by decide +kernel
theorem dX12_init_145 : decode cX12_init 145 = .ok (.bipush 60, 2) := by decide +kernel
theorem dX12_init_147 : decode cX12_init 147 = .ok (.newarray .int, 2) := by decide +kernel
theorem dX12_init_149 : decode cX12_init 149 = .ok (.putfield 66, 3) := by decide +kernel
theorem dX12_init_152 : decode cX12_init 152 = .ok (.aload_n 0, 1) := by decide +kernel
theorem dX12_init_153 : decode cX12_init 153 = .ok (.bipush 60, 2) := by decide +kernel
theorem dX12_init_155 : decode cX12_init 155 = .ok (.newarray .int, 2) := by decide +kernel
theorem dX12_init_157 : decode cX12_init 157 = .ok (.putfield 69, 3) := by decide +kernel
theorem dX12_init_160 : decode cX12_init 160 = .ok (.aload_n 0, 1) := by decide +kernel
theorem dX12_init_161 : decode cX12_init 161 = .ok (.bipush 60, 2) := by decide +kernel
theorem dX12_init_163 : decode cX12_init 163 = .ok (.newarray .int, 2) := by decide +kernel
theorem dX12_init_165 : decode cX12_init 165 = .ok (.putfield 72, 3) := by decide +kernel
theorem dX12_init_168 : decode cX12_init 168 = .ok (.aload_n 0, 1) := by decide +kernel
theorem dX12_init_169 : decode cX12_init 169 = .ok (.iconst 0, 1) := by decide +kernel
theorem dX12_init_170 : decode cX12_init 170 = .ok (.invokevirtual 75, 3) := by decide +kernel
theorem dX12_init_173 : decode cX12_init 173 = .ok (.return_, 1) := by decide +kernel
theorem dX12_begins_0 : decode cX12_begins 0 = .ok (.iconst 0, 1) := by decide +kernel
theorem dX12_begins_1 : decode cX12_begins 1 = .ok (.istore_n 2, 1) := by decide +kernel
theorem dX12_begins_2 : decode cX12_begins 2 = .ok (.iload_n 2, 1) := by decide +kernel
theorem dX12_begins_3 : decode cX12_begins 3 = .ok (.sipush 292, 3) := by decide +kernel
theorem dX12_begins_6 : decode cX12_begins 6 = .ok (.if_icmp .ge 18, 3) := by decide +kernel
theorem dX12_begins_9 : decode cX12_begins 9 = .ok (.aload_n 0, 1) := by decide +kernel
theorem dX12_begins_10 : decode cX12_begins 10 = .ok (.getfield 7, 3) := by decide +kernel
theorem dX12_begins_13 : decode cX12_begins 13 = .ok (.iload_n 1, 1) := by decide +kernel
theorem dX12_begins_14 : decode cX12_begins 14 = .ok (.iload_n 2, 1) := by decide +kernel
theorem dX12_begins_15 : decode cX12_begins 15 = .ok (.iadd, 1) := by decide +kernel
theorem dX12_begins_16 : decode cX12_begins 16 = .ok (.iconst 0, 1) := by decide +kernel
theorem dX12_begins_17 : decode cX12_begins 17 = .ok (.iastore, 1) := by decide +kernel
theorem dX12_begins_18 : decode cX12_begins 18 = .ok (.iinc 2 1, 3) := by decide +kernel
theorem dX12_begins_21 : decode cX12_begins 21 = .ok (.goto (-19), 3) := by decide +kernel
theorem dX12_begins_24 : decode cX12_begins 24 = .ok (.aload_n 0, 1) := by decide +kernel
theorem dX12_begins_25 : decode cX12_begins 25 = .ok (.getfield 7, 3) := by decide +kernel
theorem dX12_begins_28 : decode cX12_begins 28 = .ok (.iload_n 1, 1) := by decide +kernel
theorem dX12_begins_29 : decode cX12_begins 29 = .ok (.iconst 0, 1) := by decide +kernel
theorem dX12_begins_30 : decode cX12_begins 30 = .ok (.iadd, 1) := by decide +kernel
theorem dX12_begins_31 : decode cX12_begins 31 = .ok (.iconst 4, 1) := by decide +kernel
theorem dX12_begins_32 : decode cX12_begins 32 = .ok (.iastore, 1) := by decide +kernel
theorem dX12_begins_33 : decode cX12_begins 33 = .ok (.aload_n 0, 1) := by decide +kernel
theorem dX12_begins_34 : decode cX12_begins 34 = .ok (.getfield 7, 3) := by decide +kernel
theorem dX12_begins_37 : decode cX12_begins 37 = .ok (.iload_n 1, 1) := by decide +kernel
theorem dX12_begins_38 : decode cX12_begins 38 = .ok (.iconst 1, 1) := by decide +kernel
theorem dX12_begins_39 : decode cX12_begins 39 = .ok (.iadd, 1) := by decide +kernel
theorem dX12_begins_40 : decode cX12_begins 40 = .ok (.iconst 2, 1) := by decide +kernel
theorem dX12_begins_41 : decode cX12_begins 41 = .ok (.iastore, 1) := by decide +kernel
theorem dX12_begins_42 : decode cX12_begins 42 = .ok (.aload_n 0, 1) := by decide +kernel
theorem dX12_begins_43 : decode cX12_begins 43 = .ok (.getfield 7, 3) := by decide +kernel
theorem dX12_begins_46 : decode cX12_begins 46 = .ok (.iload_n 1, 1) := by decide +kernel
theorem dX12_begins_47 : decode cX12_begins 47 = .ok (.iconst 2, 1) := by decide +kernel
theorem dX12_begins_48 : decode cX12_begins 48 = .ok (.iadd, 1) := by decide +kernel
theorem dX12_begins_49 : decode cX12_begins 49 = .ok (.iconst 2, 1) := by decide +kernel
theorem dX12_begins_50 : decode cX12_begins 50 = .ok (.iastore, 1) := by decide +kernel
theorem dX12_begins_51 : decode cX12_begins 51 = .ok (.aload_n 0, 1) := by decide +kernel
theorem dX12_begins_52 : decode cX12_begins 52 = .ok (.getfield 7, 3) := by decide +kernel
theorem dX12_begins_55 : decode cX12_begins 55 = .ok (.iload_n 1, 1) := by decide +kernel
theorem dX12_begins_56 : decode cX12_begins 56 = .ok (.iconst 3, 1) := by decide +kernel
theorem dX12_begins_57 : decode cX12_begins 57 = .ok (.iadd, 1) := by decide +kernel
theorem dX12_begins_58 : decode cX12_begins 58 = .ok (.bipush 6, 2) := by decide +kernel
theorem dX12_begins_60 : decode cX12_begins 60 = .ok (.iastore, 1) := by decide +kernel
theorem dX12_begins_61 : decode cX12_begins 61 = .ok (.aload_n 0, 1) := by decide +kernel
theorem dX12_begins_62 : decode cX12_begins 62 = .ok (.getfield 7, 3) := by decide +kernel
theorem dX12_begins_65 : decode cX12_begins 65 = .ok (.iload_n 1, 1) := by decide +kernel
theorem dX12_begins_66 : decode cX12_begins 66 = .ok (.iconst 4, 1) := by decide +kernel
theorem dX12_begins_67 : decode cX12_begins 67 = .ok (.iadd, 1) := by decide +kernel
theorem dX12_begins_68 : decode cX12_begins 68 = .ok (.iconst 2, 1) := by decide +kernel
theorem dX12_begins_69 : decode cX12_begins 69 = .ok (.iastore, 1) := by decide +kernel
theorem dX12_begins_70 : decode cX12_begins 70 = .ok (.aload_n 0, 1) := by decide +kernel
theorem dX12_begins_71 : decode cX12_begins 71 = .ok (.getfield 7, 3) := by decide +kernel
theorem dX12_begins_74 : decode cX12_begins 74 = .ok (.iload_n 1, 1) := by decide +kernel
theorem dX12_begins_75 : decode cX12_begins 75 = .ok (.iconst 5, 1) := by decide +kernel
theorem dX12_begins_76 : decode cX12_begins 76 = .ok (.iadd, 1) := by decide +kernel
theorem dX12_begins_77 : decode cX12_begins 77 = .ok (.iconst 2, 1) := by decide +kernel
theorem dX12_begins_78 : decode cX12_begins 78 = .ok (.iastore, 1) := by decide +kernel
theorem dX12_begins_79 : decode cX12_begins 79 = .ok (.aload_n 0, 1) := by decide +kernel
theorem dX12_begins_80 : decode cX12_begins 80 = .ok (.getfield 7, 3) := by decide +kernel
theorem dX12_begins_83 : decode cX12_begins 83 = .ok (.iload_n 1, 1) := by decide +kernel
theorem dX12_begins_84 : decode cX12_begins 84 = .ok (.bipush 7, 2) := by decide +kernel
theorem dX12_begins_86 : decode cX12_begins 86 = .ok (.iadd, 1) := by decide +kernel
theorem dX12_begins_87 : decode cX12_begins 87 = .ok (.iconst 3, 1) := by decide +kernel
theorem dX12_begins_88 : decode cX12_begins 88 = .ok (.iastore, 1) := by decide +kernel
theorem dX12_begins_89 : decode cX12_begins 89 = .ok (.aload_n 0, 1) := by decide +kernel
theorem dX12_begins_90 : decode cX12_begins 90 = .ok (.getfield 7, 3) := by decide +kernel
theorem dX12_begins_93 : decode cX12_begins 93 = .ok (.iload_n 1, 1) := by decide +kernel
theorem dX12_begins_94 : decode cX12_begins 94 = .ok (.bipush 7, 2) := by decide +kernel
theorem dX12_begins_96 : decode cX12_begins 96 = .ok (.iadd, 1) := by decide +kernel
theorem dX12_begins_97 : decode cX12_begins 97 = .ok (.iconst 1, 1) := by decide +kernel
theorem dX12_begins_98 : decode cX12_begins 98 = .ok (.iadd, 1) := by decide +kernel
theorem dX12_begins_99 : decode cX12_begins 99 = .ok (.iconst 1, 1) := by decide +kernel
theorem dX12_begins_100 : decode cX12_begins 100 = .ok (.iastore, 1) := by decide +kernel
theorem dX12_begins_101 : decode cX12_begins 101 = .ok (.aload_n 0, 1) := by decide +kernel
theorem dX12_begins_102 : decode cX12_begins 102 = .ok (.getfield 7, 3) := by decide +kernel
theorem dX12_begins_105 : decode cX12_begins 105 = .ok (.iload_n 1, 1) := by decide +kernel
theorem dX12_begins_106 : decode cX12_begins 106 = .ok (.bipush 7, 2) := by decide +kernel
theorem dX12_begins_108 : decode cX12_begins 108 = .ok (.iadd, 1) := by decide +kernel
theorem dX12_begins_109 : decode cX12_begins 109 = .ok (.iconst 2, 1) := by decide +kernel
theorem dX12_begins_110 : decode cX12_begins 110 = .ok (.iadd, 1) := by decide +kernel
theorem dX12_begins_111 : decode cX12_begins 111 = .ok (.iconst 5, 1) := by decide +kernel
theorem dX12_begins_112 : decode cX12_begins 112 = .ok (.iastore, 1) := by decide +kernel
theorem dX12_begins_113 : decode cX12_begins 113 = .ok (.aload_n 0, 1) := by decide +kernel
theorem dX12_begins_114 : decode cX12_begins 114 = .ok (.getfield 7, 3) := by decide +kernel
theorem dX12_begins_117 : decode cX12_begins 117 = .ok (.iload_n 1, 1) := by decide +kernel
theorem dX12_begins_118 : decode cX12_begins 118 = .ok (.bipush 7, 2) := by decide +kernel
theorem dX12_begins_120 : decode cX12_begins 120 = .ok (.iadd, 1) := by decide +kernel
theorem dX12_begins_121 : decode cX12_begins 121 = .ok (.iconst 3, 1) := by decide +kernel
theorem dX12_begins_122 : decode cX12_begins 122 = .ok (.iadd, 1) := by decide +kernel
theorem dX12_begins_123 : decode cX12_begins 123 = .ok (.iconst 2, 1) := by decide +kernel
theorem dX12_begins_124 : decode cX12_begins 124 = .ok (.iastore, 1) := by decide +kernel
theorem dX12_begins_125 : decode cX12_begins 125 = .ok (.return_, 1) := by decide +kernel
theorem dX12_isIn_0 : decode cX12_isIn 0 = .ok (.iload_n 0, 1) := by decide +kernel
theorem dX12_isIn_1 : decode cX12_isIn 1 = .ok (.iload_n 1, 1) := by decide +kernel
theorem dX12_isIn_2 : decode cX12_isIn 2 = .ok (.if_icmp .lt 12, 3) := by decide +kernel
theorem dX12_isIn_5 : decode cX12_isIn 5 = .ok (.iload_n 0, 1) := by decide +kernel
theorem dX12_isIn_6 : decode cX12_isIn 6 = .ok (.iload_n 2, 1) := by decide +kernel
theorem dX12_isIn_7 : decode cX12_isIn 7 = .ok (.if_icmp .gt 7, 3) := by decide +kernel
theorem dX12_isIn_10 : decode cX12_isIn 10 = .ok (.iconst 1, 1) := by decide +kernel
theorem dX12_isIn_11 : decode cX12_isIn 11 = .ok (.goto 4, 3) := by decide +kernel
theorem dX12_isIn_14 : decode cX12_isIn 14 = .ok (.iconst 0, 1) := by decide +kernel
theorem dX12_isIn_15 : decode cX12_isIn 15 = .ok (.ireturn, 1) := by decide +kernel
theorem dX12_isKey_0 : decode cX12_isKey 0 = .ok (.iload_n 0, 1) := by decide +kernel
theorem dX12_isKey_1 : decode cX12_isKey 1 = .ok (.iconst 0, 1) := by decide +kernel
theorem dX12_isKey_2 : decode cX12_isKey 2 = .ok (.sipush 999, 3) := by decide +kernel
theorem dX12_isKey_5 : decode cX12_isKey 5 = .ok (.invokestatic 79, 3) := by decide +kernel
theorem dX12_isKey_8 : decode cX12_isKey 8 = .ok (.ireturn, 1) := by decide +kernel
theorem dX12_copies_0 : decode cX12_copies 0 = .ok (.iconst 0, 1) := by decide +kernel
theorem dX12_copies_1 : decode cX12_copies 1 = .ok (.istore_n 3, 1) := by decide +kernel
theorem dX12_copies_2 : decode cX12_copies 2 = .ok (.iload_n 3, 1) := by decide +kernel
theorem dX12_copies_3 : decode cX12_copies 3 = .ok (.sipush 292, 3) := by decide +kernel
theorem dX12_copies_6 : decode cX12_copies 6 = .ok (.if_icmp .ge 25, 3) := by decide +kernel
theorem dX12_copies_9 : decode cX12_copies 9 = .ok (.aload_n 0, 1) := by decide +kernel
theorem dX12_copies_10 : decode cX12_copies 10 = .ok (.getfield 7, 3) := by decide +kernel
theorem dX12_copies_13 : decode cX12_copies 13 = .ok (.iload_n 2, 1) := by decide +kernel
theorem dX12_copies_14 : decode cX12_copies 14 = .ok (.iload_n 3, 1) := by decide +kernel
theorem dX12_copies_15 : decode cX12_copies 15 = .ok (.iadd, 1) := by decide +kernel
theorem dX12_copies_16 : decode cX12_copies 16 = .ok (.aload_n 0, 1) := by decide +kernel
theorem dX12_copies_17 : decode cX12_copies 17 = .ok (.getfield 7, 3) := by decide +kernel
theorem dX12_copies_20 : decode cX12_copies 20 = .ok (.iload_n 1, 1) := by decide +kernel
theorem dX12_copies_21 : decode cX12_copies 21 = .ok (.iload_n 3, 1) := by decide +kernel
theorem dX12_copies_22 : decode cX12_copies 22 = .ok (.iadd, 1) := by decide +kernel
theorem dX12_copies_23 : decode cX12_copies 23 = .ok (.iaload, 1) := by decide +kernel
theorem dX12_copies_24 : decode cX12_copies 24 = .ok (.iastore, 1) := by decide +kernel
theorem dX12_copies_25 : decode cX12_copies 25 = .ok (.iinc 3 1, 3) := by decide +kernel
theorem dX12_copies_28 : decode cX12_copies 28 = .ok (.goto (-26), 3) := by decide +kernel
theorem dX12_copies_31 : decode cX12_copies 31 = .ok (.return_, 1) := by decide +kernel
theorem dX12_comesBack_0 : decode cX12_comesBack 0 = .ok (.aload_n 0, 1) := by decide +kernel
theorem dX12_comesBack_1 : decode cX12_comesBack 1 = .ok (.getfield 7, 3) := by decide +kernel
theorem dX12_comesBack_4 : decode cX12_comesBack 4 = .ok (.iload_n 2, 1) := by decide +kernel
theorem dX12_comesBack_5 : decode cX12_comesBack 5 = .ok (.bipush 11, 2) := by decide +kernel
theorem dX12_comesBack_7 : decode cX12_comesBack 7 = .ok (.iadd, 1) := by decide +kernel
theorem dX12_comesBack_8 : decode cX12_comesBack 8 = .ok (.iaload, 1) := by decide +kernel
theorem dX12_comesBack_9 : decode cX12_comesBack 9 = .ok (.istore_n 3, 1) := by decide +kernel
theorem dX12_comesBack_10 : decode cX12_comesBack 10 = .ok (.aload_n 0, 1) := by decide +kernel
theorem dX12_comesBack_11 : decode cX12_comesBack 11 = .ok (.iload_n 1, 1) := by decide +kernel
theorem dX12_comesBack_12 : decode cX12_comesBack 12 = .ok (.iload_n 2, 1) := by decide +kernel
theorem dX12_comesBack_13 : decode cX12_comesBack 13 = .ok (.invokevirtual 83, 3) := by decide +kernel
theorem dX12_comesBack_16 : decode cX12_comesBack 16 = .ok (.aload_n 0, 1) := by decide +kernel
theorem dX12_comesBack_17 : decode cX12_comesBack 17 = .ok (.getfield 7, 3) := by decide +kernel
theorem dX12_comesBack_20 : decode cX12_comesBack 20 = .ok (.iload_n 2, 1) := by decide +kernel
theorem dX12_comesBack_21 : decode cX12_comesBack 21 = .ok (.bipush 11, 2) := by decide +kernel
theorem dX12_comesBack_23 : decode cX12_comesBack 23 = .ok (.iadd, 1) := by decide +kernel
theorem dX12_comesBack_24 : decode cX12_comesBack 24 = .ok (.iload_n 3, 1) := by decide +kernel
theorem dX12_comesBack_25 : decode cX12_comesBack 25 = .ok (.iastore, 1) := by decide +kernel
theorem dX12_comesBack_26 : decode cX12_comesBack 26 = .ok (.return_, 1) := by decide +kernel
theorem dX12_draws_0 : decode cX12_draws 0 = .ok (.aload_n 0, 1) := by decide +kernel
theorem dX12_draws_1 : decode cX12_draws 1 = .ok (.getfield 7, 3) := by decide +kernel
theorem dX12_draws_4 : decode cX12_draws 4 = .ok (.iload_n 1, 1) := by decide +kernel
theorem dX12_draws_5 : decode cX12_draws 5 = .ok (.bipush 11, 2) := by decide +kernel
theorem dX12_draws_7 : decode cX12_draws 7 = .ok (.iadd, 1) := by decide +kernel
theorem dX12_draws_8 : decode cX12_draws 8 = .ok (.aload_n 0, 1) := by decide +kernel
theorem dX12_draws_9 : decode cX12_draws 9 = .ok (.getfield 7, 3) := by decide +kernel
theorem dX12_draws_12 : decode cX12_draws 12 = .ok (.iload_n 1, 1) := by decide +kernel
theorem dX12_draws_13 : decode cX12_draws 13 = .ok (.bipush 11, 2) := by decide +kernel
theorem dX12_draws_15 : decode cX12_draws 15 = .ok (.iadd, 1) := by decide +kernel
theorem dX12_draws_16 : decode cX12_draws 16 = .ok (.iaload, 1) := by decide +kernel
theorem dX12_draws_17 : decode cX12_draws 17 = .ok (.ldc 87, 2) := by decide +kernel
theorem dX12_draws_19 : decode cX12_draws 19 = .ok (.imul, 1) := by decide +kernel
theorem dX12_draws_20 : decode cX12_draws 20 = .ok (.sipush 12345, 3) := by decide +kernel
theorem dX12_draws_23 : decode cX12_draws 23 = .ok (.iadd, 1) := by decide +kernel
theorem dX12_draws_24 : decode cX12_draws 24 = .ok (.iastore, 1) := by decide +kernel
theorem dX12_draws_25 : decode cX12_draws 25 = .ok (.aload_n 0, 1) := by decide +kernel
theorem dX12_draws_26 : decode cX12_draws 26 = .ok (.getfield 7, 3) := by decide +kernel
theorem dX12_draws_29 : decode cX12_draws 29 = .ok (.iload_n 1, 1) := by decide +kernel
theorem dX12_draws_30 : decode cX12_draws 30 = .ok (.bipush 11, 2) := by decide +kernel
theorem dX12_draws_32 : decode cX12_draws 32 = .ok (.iadd, 1) := by decide +kernel
theorem dX12_draws_33 : decode cX12_draws 33 = .ok (.iaload, 1) := by decide +kernel
theorem dX12_draws_34 : decode cX12_draws 34 = .ok (.bipush 16, 2) := by decide +kernel
theorem dX12_draws_36 : decode cX12_draws 36 = .ok (.iushr, 1) := by decide +kernel
theorem dX12_draws_37 : decode cX12_draws 37 = .ok (.iload_n 2, 1) := by decide +kernel
theorem dX12_draws_38 : decode cX12_draws 38 = .ok (.irem, 1) := by decide +kernel
theorem dX12_draws_39 : decode cX12_draws 39 = .ok (.ireturn, 1) := by decide +kernel
theorem dX12_hashOf_0 : decode cX12_hashOf 0 = .ok (.aload_n 0, 1) := by decide +kernel
theorem dX12_hashOf_1 : decode cX12_hashOf 1 = .ok (.getfield 7, 3) := by decide +kernel
theorem dX12_hashOf_4 : decode cX12_hashOf 4 = .ok (.iload_n 1, 1) := by decide +kernel
theorem dX12_hashOf_5 : decode cX12_hashOf 5 = .ok (.bipush 7, 2) := by decide +kernel
theorem dX12_hashOf_7 : decode cX12_hashOf 7 = .ok (.iadd, 1) := by decide +kernel
theorem dX12_hashOf_8 : decode cX12_hashOf 8 = .ok (.iconst 2, 1) := by decide +kernel
theorem dX12_hashOf_9 : decode cX12_hashOf 9 = .ok (.iload_n 3, 1) := by decide +kernel
theorem dX12_hashOf_10 : decode cX12_hashOf 10 = .ok (.imul, 1) := by decide +kernel
theorem dX12_hashOf_11 : decode cX12_hashOf 11 = .ok (.iadd, 1) := by decide +kernel
theorem dX12_hashOf_12 : decode cX12_hashOf 12 = .ok (.iaload, 1) := by decide +kernel
theorem dX12_hashOf_13 : decode cX12_hashOf 13 = .ok (.iload_n 2, 1) := by decide +kernel
theorem dX12_hashOf_14 : decode cX12_hashOf 14 = .ok (.imul, 1) := by decide +kernel
theorem dX12_hashOf_15 : decode cX12_hashOf 15 = .ok (.aload_n 0, 1) := by decide +kernel
theorem dX12_hashOf_16 : decode cX12_hashOf 16 = .ok (.getfield 7, 3) := by decide +kernel
theorem dX12_hashOf_19 : decode cX12_hashOf 19 = .ok (.iload_n 1, 1) := by decide +kernel
theorem dX12_hashOf_20 : decode cX12_hashOf 20 = .ok (.bipush 7, 2) := by decide +kernel
theorem dX12_hashOf_22 : decode cX12_hashOf 22 = .ok (.iadd, 1) := by decide +kernel
theorem dX12_hashOf_23 : decode cX12_hashOf 23 = .ok (.iconst 2, 1) := by decide +kernel
theorem dX12_hashOf_24 : decode cX12_hashOf 24 = .ok (.iload_n 3, 1) := by decide +kernel
theorem dX12_hashOf_25 : decode cX12_hashOf 25 = .ok (.imul, 1) := by decide +kernel
theorem dX12_hashOf_26 : decode cX12_hashOf 26 = .ok (.iadd, 1) := by decide +kernel
theorem dX12_hashOf_27 : decode cX12_hashOf 27 = .ok (.iconst 1, 1) := by decide +kernel
theorem dX12_hashOf_28 : decode cX12_hashOf 28 = .ok (.iadd, 1) := by decide +kernel
theorem dX12_hashOf_29 : decode cX12_hashOf 29 = .ok (.iaload, 1) := by decide +kernel
theorem dX12_hashOf_30 : decode cX12_hashOf 30 = .ok (.iadd, 1) := by decide +kernel
theorem dX12_hashOf_31 : decode cX12_hashOf 31 = .ok (.sipush 1009, 3) := by decide +kernel
theorem dX12_hashOf_34 : decode cX12_hashOf 34 = .ok (.irem, 1) := by decide +kernel
theorem dX12_hashOf_35 : decode cX12_hashOf 35 = .ok (.aload_n 0, 1) := by decide +kernel
theorem dX12_hashOf_36 : decode cX12_hashOf 36 = .ok (.getfield 7, 3) := by decide +kernel
theorem dX12_hashOf_39 : decode cX12_hashOf 39 = .ok (.iload_n 1, 1) := by decide +kernel
theorem dX12_hashOf_40 : decode cX12_hashOf 40 = .ok (.iconst 0, 1) := by decide +kernel
theorem dX12_hashOf_41 : decode cX12_hashOf 41 = .ok (.iadd, 1) := by decide +kernel
theorem dX12_hashOf_42 : decode cX12_hashOf 42 = .ok (.iaload, 1) := by decide +kernel
theorem dX12_hashOf_43 : decode cX12_hashOf 43 = .ok (.irem, 1) := by decide +kernel
theorem dX12_hashOf_44 : decode cX12_hashOf 44 = .ok (.ireturn, 1) := by decide +kernel
theorem dX12_otherOf_0 : decode cX12_otherOf 0 = .ok (.aload_n 0, 1) := by decide +kernel
theorem dX12_otherOf_1 : decode cX12_otherOf 1 = .ok (.iload_n 1, 1) := by decide +kernel
theorem dX12_otherOf_2 : decode cX12_otherOf 2 = .ok (.iload_n 2, 1) := by decide +kernel
theorem dX12_otherOf_3 : decode cX12_otherOf 3 = .ok (.iconst 0, 1) := by decide +kernel
theorem dX12_otherOf_4 : decode cX12_otherOf 4 = .ok (.invokevirtual 88, 3) := by decide +kernel
theorem dX12_otherOf_7 : decode cX12_otherOf 7 = .ok (.istore 4, 2) := by decide +kernel
theorem dX12_otherOf_9 : decode cX12_otherOf 9 = .ok (.aload_n 0, 1) := by decide +kernel
theorem dX12_otherOf_10 : decode cX12_otherOf 10 = .ok (.iload_n 1, 1) := by decide +kernel
theorem dX12_otherOf_11 : decode cX12_otherOf 11 = .ok (.iload_n 2, 1) := by decide +kernel
theorem dX12_otherOf_12 : decode cX12_otherOf 12 = .ok (.iconst 1, 1) := by decide +kernel
theorem dX12_otherOf_13 : decode cX12_otherOf 13 = .ok (.invokevirtual 88, 3) := by decide +kernel
theorem dX12_otherOf_16 : decode cX12_otherOf 16 = .ok (.istore 5, 2) := by decide +kernel
theorem dX12_otherOf_18 : decode cX12_otherOf 18 = .ok (.iload 4, 2) := by decide +kernel
theorem dX12_otherOf_20 : decode cX12_otherOf 20 = .ok (.iload 5, 2) := by decide +kernel
theorem dX12_otherOf_22 : decode cX12_otherOf 22 = .ok (.if_icmp .ne 7, 3) := by decide +kernel
theorem dX12_otherOf_25 : decode cX12_otherOf 25 = .ok (.iconst (-1), 1) := by decide +kernel
theorem dX12_otherOf_26 : decode cX12_otherOf 26 = .ok (.goto 16, 3) := by decide +kernel
theorem dX12_otherOf_29 : decode cX12_otherOf 29 = .ok (.iload_n 3, 1) := by decide +kernel
theorem dX12_otherOf_30 : decode cX12_otherOf 30 = .ok (.iload 4, 2) := by decide +kernel
theorem dX12_otherOf_32 : decode cX12_otherOf 32 = .ok (.if_icmp .ne 8, 3) := by decide +kernel
theorem dX12_otherOf_35 : decode cX12_otherOf 35 = .ok (.iload 5, 2) := by decide +kernel
theorem dX12_otherOf_37 : decode cX12_otherOf 37 = .ok (.goto 5, 3) := by decide +kernel
theorem dX12_otherOf_40 : decode cX12_otherOf 40 = .ok (.iload 4, 2) := by decide +kernel
theorem dX12_otherOf_42 : decode cX12_otherOf 42 = .ok (.ireturn, 1) := by decide +kernel
theorem dX12_cell_0 : decode cX12_cell 0 = .ok (.iload_n 1, 1) := by decide +kernel
theorem dX12_cell_1 : decode cX12_cell 1 = .ok (.bipush 100, 2) := by decide +kernel
theorem dX12_cell_3 : decode cX12_cell 3 = .ok (.if_icmp .ne 15, 3) := by decide +kernel
theorem dX12_cell_6 : decode cX12_cell 6 = .ok (.iload_n 0, 1) := by decide +kernel
theorem dX12_cell_7 : decode cX12_cell 7 = .ok (.sipush 276, 3) := by decide +kernel
theorem dX12_cell_10 : decode cX12_cell 10 = .ok (.iadd, 1) := by decide +kernel
theorem dX12_cell_11 : decode cX12_cell 11 = .ok (.iconst 4, 1) := by decide +kernel
theorem dX12_cell_12 : decode cX12_cell 12 = .ok (.iload_n 2, 1) := by decide +kernel
theorem dX12_cell_13 : decode cX12_cell 13 = .ok (.imul, 1) := by decide +kernel
theorem dX12_cell_14 : decode cX12_cell 14 = .ok (.iadd, 1) := by decide +kernel
theorem dX12_cell_15 : decode cX12_cell 15 = .ok (.goto 15, 3) := by decide +kernel
theorem dX12_cell_18 : decode cX12_cell 18 = .ok (.iload_n 0, 1) := by decide +kernel
theorem dX12_cell_19 : decode cX12_cell 19 = .ok (.bipush 20, 2) := by decide +kernel
theorem dX12_cell_21 : decode cX12_cell 21 = .ok (.iadd, 1) := by decide +kernel
theorem dX12_cell_22 : decode cX12_cell 22 = .ok (.iconst 4, 1) := by decide +kernel
theorem dX12_cell_23 : decode cX12_cell 23 = .ok (.iconst 4, 1) := by decide +kernel
theorem dX12_cell_24 : decode cX12_cell 24 = .ok (.iload_n 1, 1) := by decide +kernel
theorem dX12_cell_25 : decode cX12_cell 25 = .ok (.imul, 1) := by decide +kernel
theorem dX12_cell_26 : decode cX12_cell 26 = .ok (.iload_n 2, 1) := by decide +kernel
theorem dX12_cell_27 : decode cX12_cell 27 = .ok (.iadd, 1) := by decide +kernel
theorem dX12_cell_28 : decode cX12_cell 28 = .ok (.imul, 1) := by decide +kernel
theorem dX12_cell_29 : decode cX12_cell 29 = .ok (.iadd, 1) := by decide +kernel
theorem dX12_cell_30 : decode cX12_cell 30 = .ok (.ireturn, 1) := by decide +kernel
theorem dX12_isEntry_0 : decode cX12_isEntry 0 = .ok (.aload_n 0, 1) := by decide +kernel
theorem dX12_isEntry_1 : decode cX12_isEntry 1 = .ok (.getfield 7, 3) := by decide +kernel
theorem dX12_isEntry_4 : decode cX12_isEntry 4 = .ok (.iload_n 1, 1) := by decide +kernel
theorem dX12_isEntry_5 : decode cX12_isEntry 5 = .ok (.iaload, 1) := by decide +kernel
theorem dX12_isEntry_6 : decode cX12_isEntry 6 = .ok (.ifCond .le 7, 3) := by decide +kernel
theorem dX12_isEntry_9 : decode cX12_isEntry 9 = .ok (.iconst 1, 1) := by decide +kernel
theorem dX12_isEntry_10 : decode cX12_isEntry 10 = .ok (.goto 4, 3) := by decide +kernel
theorem dX12_isEntry_13 : decode cX12_isEntry 13 = .ok (.iconst 0, 1) := by decide +kernel
theorem dX12_isEntry_14 : decode cX12_isEntry 14 = .ok (.ireturn, 1) := by decide +kernel
theorem dX12_keyOf_0 : decode cX12_keyOf 0 = .ok (.aload_n 0, 1) := by decide +kernel
theorem dX12_keyOf_1 : decode cX12_keyOf 1 = .ok (.getfield 7, 3) := by decide +kernel
theorem dX12_keyOf_4 : decode cX12_keyOf 4 = .ok (.iload_n 1, 1) := by decide +kernel
theorem dX12_keyOf_5 : decode cX12_keyOf 5 = .ok (.iaload, 1) := by decide +kernel
theorem dX12_keyOf_6 : decode cX12_keyOf 6 = .ok (.iconst 1, 1) := by decide +kernel
theorem dX12_keyOf_7 : decode cX12_keyOf 7 = .ok (.isub, 1) := by decide +kernel
theorem dX12_keyOf_8 : decode cX12_keyOf 8 = .ok (.ireturn, 1) := by decide +kernel
theorem dX12_emptyIn_0 : decode cX12_emptyIn 0 = .ok (.iconst 0, 1) := by decide +kernel
theorem dX12_emptyIn_1 : decode cX12_emptyIn 1 = .ok (.istore_n 3, 1) := by decide +kernel
theorem dX12_emptyIn_2 : decode cX12_emptyIn 2 = .ok (.iload_n 3, 1) := by decide +kernel
theorem dX12_emptyIn_3 : decode cX12_emptyIn 3 = .ok (.aload_n 0, 1) := by decide +kernel
theorem dX12_emptyIn_4 : decode cX12_emptyIn 4 = .ok (.getfield 7, 3) := by decide +kernel
theorem dX12_emptyIn_7 : decode cX12_emptyIn 7 = .ok (.iload_n 1, 1) := by decide +kernel
theorem dX12_emptyIn_8 : decode cX12_emptyIn 8 = .ok (.iconst 1, 1) := by decide +kernel
theorem dX12_emptyIn_9 : decode cX12_emptyIn 9 = .ok (.iadd, 1) := by decide +kernel
theorem dX12_emptyIn_10 : decode cX12_emptyIn 10 = .ok (.iaload, 1) := by decide +kernel
theorem dX12_emptyIn_11 : decode cX12_emptyIn 11 = .ok (.if_icmp .ge 24, 3) := by decide +kernel
theorem dX12_emptyIn_14 : decode cX12_emptyIn 14 = .ok (.aload_n 0, 1) := by decide +kernel
theorem dX12_emptyIn_15 : decode cX12_emptyIn 15 = .ok (.iload_n 1, 1) := by decide +kernel
theorem dX12_emptyIn_16 : decode cX12_emptyIn 16 = .ok (.iload_n 2, 1) := by decide +kernel
theorem dX12_emptyIn_17 : decode cX12_emptyIn 17 = .ok (.iload_n 3, 1) := by decide +kernel
theorem dX12_emptyIn_18 : decode cX12_emptyIn 18 = .ok (.invokestatic 92, 3) := by decide +kernel
theorem dX12_emptyIn_21 : decode cX12_emptyIn 21 = .ok (.invokevirtual 95, 3) := by decide +kernel
theorem dX12_emptyIn_24 : decode cX12_emptyIn 24 = .ok (.ifCond .ne 5, 3) := by decide +kernel
theorem dX12_emptyIn_27 : decode cX12_emptyIn 27 = .ok (.iload_n 3, 1) := by decide +kernel
theorem dX12_emptyIn_28 : decode cX12_emptyIn 28 = .ok (.ireturn, 1) := by decide +kernel
theorem dX12_emptyIn_29 : decode cX12_emptyIn 29 = .ok (.iinc 3 1, 3) := by decide +kernel
theorem dX12_emptyIn_32 : decode cX12_emptyIn 32 = .ok (.goto (-30), 3) := by decide +kernel
theorem dX12_emptyIn_35 : decode cX12_emptyIn 35 = .ok (.iconst (-1), 1) := by decide +kernel
theorem dX12_emptyIn_36 : decode cX12_emptyIn 36 = .ok (.ireturn, 1) := by decide +kernel
theorem dX12_inBucket_0 : decode cX12_inBucket 0 = .ok (.iconst 0, 1) := by decide +kernel
theorem dX12_inBucket_1 : decode cX12_inBucket 1 = .ok (.istore_n 3, 1) := by decide +kernel
theorem dX12_inBucket_2 : decode cX12_inBucket 2 = .ok (.iconst 0, 1) := by decide +kernel
theorem dX12_inBucket_3 : decode cX12_inBucket 3 = .ok (.istore 4, 2) := by decide +kernel
theorem dX12_inBucket_5 : decode cX12_inBucket 5 = .ok (.iload 4, 2) := by decide +kernel
theorem dX12_inBucket_7 : decode cX12_inBucket 7 = .ok (.aload_n 0, 1) := by decide +kernel
theorem dX12_inBucket_8 : decode cX12_inBucket 8 = .ok (.getfield 7, 3) := by decide +kernel
theorem dX12_inBucket_11 : decode cX12_inBucket 11 = .ok (.iload_n 1, 1) := by decide +kernel
theorem dX12_inBucket_12 : decode cX12_inBucket 12 = .ok (.iconst 1, 1) := by decide +kernel
theorem dX12_inBucket_13 : decode cX12_inBucket 13 = .ok (.iadd, 1) := by decide +kernel
theorem dX12_inBucket_14 : decode cX12_inBucket 14 = .ok (.iaload, 1) := by decide +kernel
theorem dX12_inBucket_15 : decode cX12_inBucket 15 = .ok (.if_icmp .ge 31, 3) := by decide +kernel
theorem dX12_inBucket_18 : decode cX12_inBucket 18 = .ok (.iload_n 3, 1) := by decide +kernel
theorem dX12_inBucket_19 : decode cX12_inBucket 19 = .ok (.aload_n 0, 1) := by decide +kernel
theorem dX12_inBucket_20 : decode cX12_inBucket 20 = .ok (.iload_n 1, 1) := by decide +kernel
theorem dX12_inBucket_21 : decode cX12_inBucket 21 = .ok (.iload_n 2, 1) := by decide +kernel
theorem dX12_inBucket_22 : decode cX12_inBucket 22 = .ok (.iload 4, 2) := by decide +kernel
theorem dX12_inBucket_24 : decode cX12_inBucket 24 = .ok (.invokestatic 92, 3) := by decide +kernel
theorem dX12_inBucket_27 : decode cX12_inBucket 27 = .ok (.invokevirtual 95, 3) := by decide +kernel
theorem dX12_inBucket_30 : decode cX12_inBucket 30 = .ok (.ifCond .eq 7, 3) := by decide +kernel
theorem dX12_inBucket_33 : decode cX12_inBucket 33 = .ok (.iconst 1, 1) := by decide +kernel
theorem dX12_inBucket_34 : decode cX12_inBucket 34 = .ok (.goto 4, 3) := by decide +kernel
theorem dX12_inBucket_37 : decode cX12_inBucket 37 = .ok (.iconst 0, 1) := by decide +kernel
theorem dX12_inBucket_38 : decode cX12_inBucket 38 = .ok (.iadd, 1) := by decide +kernel
theorem dX12_inBucket_39 : decode cX12_inBucket 39 = .ok (.istore_n 3, 1) := by decide +kernel
theorem dX12_inBucket_40 : decode cX12_inBucket 40 = .ok (.iinc 4 1, 3) := by decide +kernel
theorem dX12_inBucket_43 : decode cX12_inBucket 43 = .ok (.goto (-38), 3) := by decide +kernel
theorem dX12_inBucket_46 : decode cX12_inBucket 46 = .ok (.iload_n 3, 1) := by decide +kernel
theorem dX12_inBucket_47 : decode cX12_inBucket 47 = .ok (.ireturn, 1) := by decide +kernel
theorem dX12_moves_0 : decode cX12_moves 0 = .ok (.iconst 0, 1) := by decide +kernel
theorem dX12_moves_1 : decode cX12_moves 1 = .ok (.istore_n 3, 1) := by decide +kernel
theorem dX12_moves_2 : decode cX12_moves 2 = .ok (.iload_n 3, 1) := by decide +kernel
theorem dX12_moves_3 : decode cX12_moves 3 = .ok (.iconst 4, 1) := by decide +kernel
theorem dX12_moves_4 : decode cX12_moves 4 = .ok (.if_icmp .ge 34, 3) := by decide +kernel
theorem dX12_moves_7 : decode cX12_moves 7 = .ok (.aload_n 0, 1) := by decide +kernel
theorem dX12_moves_8 : decode cX12_moves 8 = .ok (.getfield 7, 3) := by decide +kernel
theorem dX12_moves_11 : decode cX12_moves 11 = .ok (.iload_n 2, 1) := by decide +kernel
theorem dX12_moves_12 : decode cX12_moves 12 = .ok (.iload_n 3, 1) := by decide +kernel
theorem dX12_moves_13 : decode cX12_moves 13 = .ok (.iadd, 1) := by decide +kernel
theorem dX12_moves_14 : decode cX12_moves 14 = .ok (.aload_n 0, 1) := by decide +kernel
theorem dX12_moves_15 : decode cX12_moves 15 = .ok (.getfield 7, 3) := by decide +kernel
theorem dX12_moves_18 : decode cX12_moves 18 = .ok (.iload_n 1, 1) := by decide +kernel
theorem dX12_moves_19 : decode cX12_moves 19 = .ok (.iload_n 3, 1) := by decide +kernel
theorem dX12_moves_20 : decode cX12_moves 20 = .ok (.iadd, 1) := by decide +kernel
theorem dX12_moves_21 : decode cX12_moves 21 = .ok (.iaload, 1) := by decide +kernel
theorem dX12_moves_22 : decode cX12_moves 22 = .ok (.iastore, 1) := by decide +kernel
theorem dX12_moves_23 : decode cX12_moves 23 = .ok (.aload_n 0, 1) := by decide +kernel
theorem dX12_moves_24 : decode cX12_moves 24 = .ok (.getfield 7, 3) := by decide +kernel
theorem dX12_moves_27 : decode cX12_moves 27 = .ok (.iload_n 1, 1) := by decide +kernel
theorem dX12_moves_28 : decode cX12_moves 28 = .ok (.iload_n 3, 1) := by decide +kernel
theorem dX12_moves_29 : decode cX12_moves 29 = .ok (.iadd, 1) := by decide +kernel
theorem dX12_moves_30 : decode cX12_moves 30 = .ok (.iconst 0, 1) := by decide +kernel
theorem dX12_moves_31 : decode cX12_moves 31 = .ok (.iastore, 1) := by decide +kernel
theorem dX12_moves_32 : decode cX12_moves 32 = .ok (.iinc 3 1, 3) := by decide +kernel
theorem dX12_moves_35 : decode cX12_moves 35 = .ok (.goto (-33), 3) := by decide +kernel
theorem dX12_moves_38 : decode cX12_moves 38 = .ok (.aload_n 0, 1) := by decide +kernel
theorem dX12_moves_39 : decode cX12_moves 39 = .ok (.getfield 7, 3) := by decide +kernel
theorem dX12_moves_42 : decode cX12_moves 42 = .ok (.iload_n 2, 1) := by decide +kernel
theorem dX12_moves_43 : decode cX12_moves 43 = .ok (.iconst 3, 1) := by decide +kernel
theorem dX12_moves_44 : decode cX12_moves 44 = .ok (.iadd, 1) := by decide +kernel
theorem dX12_moves_45 : decode cX12_moves 45 = .ok (.dup2, 1) := by decide +kernel
theorem dX12_moves_46 : decode cX12_moves 46 = .ok (.iaload, 1) := by decide +kernel
theorem dX12_moves_47 : decode cX12_moves 47 = .ok (.iconst 1, 1) := by decide +kernel
theorem dX12_moves_48 : decode cX12_moves 48 = .ok (.iadd, 1) := by decide +kernel
theorem dX12_moves_49 : decode cX12_moves 49 = .ok (.iastore, 1) := by decide +kernel
theorem dX12_moves_50 : decode cX12_moves 50 = .ok (.return_, 1) := by decide +kernel
theorem dX12_lays_0 : decode cX12_lays 0 = .ok (.aload_n 0, 1) := by decide +kernel
theorem dX12_lays_1 : decode cX12_lays 1 = .ok (.getfield 7, 3) := by decide +kernel
theorem dX12_lays_4 : decode cX12_lays 4 = .ok (.iload_n 1, 1) := by decide +kernel
theorem dX12_lays_5 : decode cX12_lays 5 = .ok (.iload_n 2, 1) := by decide +kernel
theorem dX12_lays_6 : decode cX12_lays 6 = .ok (.iconst 1, 1) := by decide +kernel
theorem dX12_lays_7 : decode cX12_lays 7 = .ok (.iadd, 1) := by decide +kernel
theorem dX12_lays_8 : decode cX12_lays 8 = .ok (.iastore, 1) := by decide +kernel
theorem dX12_lays_9 : decode cX12_lays 9 = .ok (.aload_n 0, 1) := by decide +kernel
theorem dX12_lays_10 : decode cX12_lays 10 = .ok (.getfield 7, 3) := by decide +kernel
theorem dX12_lays_13 : decode cX12_lays 13 = .ok (.iload_n 1, 1) := by decide +kernel
theorem dX12_lays_14 : decode cX12_lays 14 = .ok (.iconst 1, 1) := by decide +kernel
theorem dX12_lays_15 : decode cX12_lays 15 = .ok (.iadd, 1) := by decide +kernel
theorem dX12_lays_16 : decode cX12_lays 16 = .ok (.iload_n 3, 1) := by decide +kernel
theorem dX12_lays_17 : decode cX12_lays 17 = .ok (.iastore, 1) := by decide +kernel
theorem dX12_lays_18 : decode cX12_lays 18 = .ok (.aload_n 0, 1) := by decide +kernel
theorem dX12_lays_19 : decode cX12_lays 19 = .ok (.getfield 7, 3) := by decide +kernel
theorem dX12_lays_22 : decode cX12_lays 22 = .ok (.iload_n 1, 1) := by decide +kernel
theorem dX12_lays_23 : decode cX12_lays 23 = .ok (.iconst 2, 1) := by decide +kernel
theorem dX12_lays_24 : decode cX12_lays 24 = .ok (.iadd, 1) := by decide +kernel
theorem dX12_lays_25 : decode cX12_lays 25 = .ok (.iload 4, 2) := by decide +kernel
theorem dX12_lays_27 : decode cX12_lays 27 = .ok (.iastore, 1) := by decide +kernel
theorem dX12_lays_28 : decode cX12_lays 28 = .ok (.aload_n 0, 1) := by decide +kernel
theorem dX12_lays_29 : decode cX12_lays 29 = .ok (.getfield 7, 3) := by decide +kernel
theorem dX12_lays_32 : decode cX12_lays 32 = .ok (.iload_n 1, 1) := by decide +kernel
theorem dX12_lays_33 : decode cX12_lays 33 = .ok (.iconst 3, 1) := by decide +kernel
theorem dX12_lays_34 : decode cX12_lays 34 = .ok (.iadd, 1) := by decide +kernel
theorem dX12_lays_35 : decode cX12_lays 35 = .ok (.iload 5, 2) := by decide +kernel
theorem dX12_lays_37 : decode cX12_lays 37 = .ok (.iastore, 1) := by decide +kernel
theorem dX12_lays_38 : decode cX12_lays 38 = .ok (.return_, 1) := by decide +kernel
theorem dX12_lies_0 : decode cX12_lies 0 = .ok (.iconst 0, 1) := by decide +kernel
theorem dX12_lies_1 : decode cX12_lies 1 = .ok (.istore_n 3, 1) := by decide +kernel
theorem dX12_lies_2 : decode cX12_lies 2 = .ok (.iload_n 3, 1) := by decide +kernel
theorem dX12_lies_3 : decode cX12_lies 3 = .ok (.iconst 2, 1) := by decide +kernel
theorem dX12_lies_4 : decode cX12_lies 4 = .ok (.if_icmp .ge 68, 3) := by decide +kernel
theorem dX12_lies_7 : decode cX12_lies 7 = .ok (.aload_n 0, 1) := by decide +kernel
theorem dX12_lies_8 : decode cX12_lies 8 = .ok (.iload_n 1, 1) := by decide +kernel
theorem dX12_lies_9 : decode cX12_lies 9 = .ok (.iload_n 2, 1) := by decide +kernel
theorem dX12_lies_10 : decode cX12_lies 10 = .ok (.iload_n 3, 1) := by decide +kernel
theorem dX12_lies_11 : decode cX12_lies 11 = .ok (.invokevirtual 88, 3) := by decide +kernel
theorem dX12_lies_14 : decode cX12_lies 14 = .ok (.istore 4, 2) := by decide +kernel
theorem dX12_lies_16 : decode cX12_lies 16 = .ok (.iconst 0, 1) := by decide +kernel
theorem dX12_lies_17 : decode cX12_lies 17 = .ok (.istore 5, 2) := by decide +kernel
theorem dX12_lies_19 : decode cX12_lies 19 = .ok (.iload 5, 2) := by decide +kernel
theorem dX12_lies_21 : decode cX12_lies 21 = .ok (.aload_n 0, 1) := by decide +kernel
theorem dX12_lies_22 : decode cX12_lies 22 = .ok (.getfield 7, 3) := by decide +kernel
theorem dX12_lies_25 : decode cX12_lies 25 = .ok (.iload_n 1, 1) := by decide +kernel
theorem dX12_lies_26 : decode cX12_lies 26 = .ok (.iconst 1, 1) := by decide +kernel
theorem dX12_lies_27 : decode cX12_lies 27 = .ok (.iadd, 1) := by decide +kernel
theorem dX12_lies_28 : decode cX12_lies 28 = .ok (.iaload, 1) := by decide +kernel
theorem dX12_lies_29 : decode cX12_lies 29 = .ok (.if_icmp .ge 37, 3) := by decide +kernel
theorem dX12_lies_32 : decode cX12_lies 32 = .ok (.aload_n 0, 1) := by decide +kernel
theorem dX12_lies_33 : decode cX12_lies 33 = .ok (.getfield 7, 3) := by decide +kernel
theorem dX12_lies_36 : decode cX12_lies 36 = .ok (.iload_n 1, 1) := by decide +kernel
theorem dX12_lies_37 : decode cX12_lies 37 = .ok (.iload 4, 2) := by decide +kernel
theorem dX12_lies_39 : decode cX12_lies 39 = .ok (.iload 5, 2) := by decide +kernel
theorem dX12_lies_41 : decode cX12_lies 41 = .ok (.invokestatic 92, 3) := by decide +kernel
theorem dX12_lies_44 : decode cX12_lies 44 = .ok (.iaload, 1) := by decide +kernel
theorem dX12_lies_45 : decode cX12_lies 45 = .ok (.iload_n 2, 1) := by decide +kernel
theorem dX12_lies_46 : decode cX12_lies 46 = .ok (.iconst 1, 1) := by decide +kernel
theorem dX12_lies_47 : decode cX12_lies 47 = .ok (.iadd, 1) := by decide +kernel
theorem dX12_lies_48 : decode cX12_lies 48 = .ok (.if_icmp .ne 12, 3) := by decide +kernel
theorem dX12_lies_51 : decode cX12_lies 51 = .ok (.iload_n 1, 1) := by decide +kernel
theorem dX12_lies_52 : decode cX12_lies 52 = .ok (.iload 4, 2) := by decide +kernel
theorem dX12_lies_54 : decode cX12_lies 54 = .ok (.iload 5, 2) := by decide +kernel
theorem dX12_lies_56 : decode cX12_lies 56 = .ok (.invokestatic 92, 3) := by decide +kernel
theorem dX12_lies_59 : decode cX12_lies 59 = .ok (.ireturn, 1) := by decide +kernel
theorem dX12_lies_60 : decode cX12_lies 60 = .ok (.iinc 5 1, 3) := by decide +kernel
theorem dX12_lies_63 : decode cX12_lies 63 = .ok (.goto (-44), 3) := by decide +kernel
theorem dX12_lies_66 : decode cX12_lies 66 = .ok (.iinc 3 1, 3) := by decide +kernel
theorem dX12_lies_69 : decode cX12_lies 69 = .ok (.goto (-67), 3) := by decide +kernel
theorem dX12_lies_72 : decode cX12_lies 72 = .ok (.iconst 0, 1) := by decide +kernel
theorem dX12_lies_73 : decode cX12_lies 73 = .ok (.istore_n 3, 1) := by decide +kernel
theorem dX12_lies_74 : decode cX12_lies 74 = .ok (.iload_n 3, 1) := by decide +kernel
theorem dX12_lies_75 : decode cX12_lies 75 = .ok (.aload_n 0, 1) := by decide +kernel
theorem dX12_lies_76 : decode cX12_lies 76 = .ok (.getfield 7, 3) := by decide +kernel
theorem dX12_lies_79 : decode cX12_lies 79 = .ok (.iload_n 1, 1) := by decide +kernel
theorem dX12_lies_80 : decode cX12_lies 80 = .ok (.bipush 18, 2) := by decide +kernel
theorem dX12_lies_82 : decode cX12_lies 82 = .ok (.iadd, 1) := by decide +kernel
theorem dX12_lies_83 : decode cX12_lies 83 = .ok (.iaload, 1) := by decide +kernel
theorem dX12_lies_84 : decode cX12_lies 84 = .ok (.if_icmp .ge 35, 3) := by decide +kernel
theorem dX12_lies_87 : decode cX12_lies 87 = .ok (.aload_n 0, 1) := by decide +kernel
theorem dX12_lies_88 : decode cX12_lies 88 = .ok (.getfield 7, 3) := by decide +kernel
theorem dX12_lies_91 : decode cX12_lies 91 = .ok (.iload_n 1, 1) := by decide +kernel
theorem dX12_lies_92 : decode cX12_lies 92 = .ok (.bipush 100, 2) := by decide +kernel
theorem dX12_lies_94 : decode cX12_lies 94 = .ok (.iload_n 3, 1) := by decide +kernel
theorem dX12_lies_95 : decode cX12_lies 95 = .ok (.invokestatic 92, 3) := by decide +kernel
theorem dX12_lies_98 : decode cX12_lies 98 = .ok (.iaload, 1) := by decide +kernel
theorem dX12_lies_99 : decode cX12_lies 99 = .ok (.iload_n 2, 1) := by decide +kernel
theorem dX12_lies_100 : decode cX12_lies 100 = .ok (.iconst 1, 1) := by decide +kernel
theorem dX12_lies_101 : decode cX12_lies 101 = .ok (.iadd, 1) := by decide +kernel
theorem dX12_lies_102 : decode cX12_lies 102 = .ok (.if_icmp .ne 11, 3) := by decide +kernel
theorem dX12_lies_105 : decode cX12_lies 105 = .ok (.iload_n 1, 1) := by decide +kernel
theorem dX12_lies_106 : decode cX12_lies 106 = .ok (.bipush 100, 2) := by decide +kernel
theorem dX12_lies_108 : decode cX12_lies 108 = .ok (.iload_n 3, 1) := by decide +kernel
theorem dX12_lies_109 : decode cX12_lies 109 = .ok (.invokestatic 92, 3) := by decide +kernel
theorem dX12_lies_112 : decode cX12_lies 112 = .ok (.ireturn, 1) := by decide +kernel
theorem dX12_lies_113 : decode cX12_lies 113 = .ok (.iinc 3 1, 3) := by decide +kernel
theorem dX12_lies_116 : decode cX12_lies 116 = .ok (.goto (-42), 3) := by decide +kernel
theorem dX12_lies_119 : decode cX12_lies 119 = .ok (.iconst (-1), 1) := by decide +kernel
theorem dX12_lies_120 : decode cX12_lies 120 = .ok (.ireturn, 1) := by decide +kernel
theorem dX12_laysAway_0 : decode cX12_laysAway 0 = .ok (.aload_n 0, 1) := by decide +kernel
theorem dX12_laysAway_1 : decode cX12_laysAway 1 = .ok (.getfield 7, 3) := by decide +kernel
theorem dX12_laysAway_4 : decode cX12_laysAway 4 = .ok (.iload_n 1, 1) := by decide +kernel
theorem dX12_laysAway_5 : decode cX12_laysAway 5 = .ok (.iconst 0, 1) := by decide +kernel
theorem dX12_laysAway_6 : decode cX12_laysAway 6 = .ok (.iadd, 1) := by decide +kernel
theorem dX12_laysAway_7 : decode cX12_laysAway 7 = .ok (.iaload, 1) := by decide +kernel
theorem dX12_laysAway_8 : decode cX12_laysAway 8 = .ok (.istore_n 3, 1) := by decide +kernel
theorem dX12_laysAway_9 : decode cX12_laysAway 9 = .ok (.iconst 0, 1) := by decide +kernel
theorem dX12_laysAway_10 : decode cX12_laysAway 10 = .ok (.istore 4, 2) := by decide +kernel
theorem dX12_laysAway_12 : decode cX12_laysAway 12 = .ok (.iload 4, 2) := by decide +kernel
theorem dX12_laysAway_14 : decode cX12_laysAway 14 = .ok (.iload_n 3, 1) := by decide +kernel
theorem dX12_laysAway_15 : decode cX12_laysAway 15 = .ok (.if_icmp .ge 70, 3) := by decide +kernel
theorem dX12_laysAway_18 : decode cX12_laysAway 18 = .ok (.iload 4, 2) := by decide +kernel
theorem dX12_laysAway_20 : decode cX12_laysAway 20 = .ok (.aload_n 0, 1) := by decide +kernel
theorem dX12_laysAway_21 : decode cX12_laysAway 21 = .ok (.iload_n 1, 1) := by decide +kernel
theorem dX12_laysAway_22 : decode cX12_laysAway 22 = .ok (.iload_n 2, 1) := by decide +kernel
theorem dX12_laysAway_23 : decode cX12_laysAway 23 = .ok (.iconst 0, 1) := by decide +kernel
theorem dX12_laysAway_24 : decode cX12_laysAway 24 = .ok (.invokevirtual 88, 3) := by decide +kernel
theorem dX12_laysAway_27 : decode cX12_laysAway 27 = .ok (.if_icmp .eq 26, 3) := by decide +kernel
theorem dX12_laysAway_30 : decode cX12_laysAway 30 = .ok (.iload 4, 2) := by decide +kernel
theorem dX12_laysAway_32 : decode cX12_laysAway 32 = .ok (.aload_n 0, 1) := by decide +kernel
theorem dX12_laysAway_33 : decode cX12_laysAway 33 = .ok (.iload_n 1, 1) := by decide +kernel
theorem dX12_laysAway_34 : decode cX12_laysAway 34 = .ok (.iload_n 2, 1) := by decide +kernel
theorem dX12_laysAway_35 : decode cX12_laysAway 35 = .ok (.iconst 1, 1) := by decide +kernel
theorem dX12_laysAway_36 : decode cX12_laysAway 36 = .ok (.invokevirtual 88, 3) := by decide +kernel
theorem dX12_laysAway_39 : decode cX12_laysAway 39 = .ok (.if_icmp .eq 14, 3) := by decide +kernel
theorem dX12_laysAway_42 : decode cX12_laysAway 42 = .ok (.aload_n 0, 1) := by decide +kernel
theorem dX12_laysAway_43 : decode cX12_laysAway 43 = .ok (.iload_n 1, 1) := by decide +kernel
theorem dX12_laysAway_44 : decode cX12_laysAway 44 = .ok (.iload 4, 2) := by decide +kernel
theorem dX12_laysAway_46 : decode cX12_laysAway 46 = .ok (.invokevirtual 99, 3) := by decide +kernel
theorem dX12_laysAway_49 : decode cX12_laysAway 49 = .ok (.iconst (-1), 1) := by decide +kernel
theorem dX12_laysAway_50 : decode cX12_laysAway 50 = .ok (.if_icmp .ne 7, 3) := by decide +kernel
theorem dX12_laysAway_53 : decode cX12_laysAway 53 = .ok (.iconst 1, 1) := by decide +kernel
theorem dX12_laysAway_54 : decode cX12_laysAway 54 = .ok (.goto 4, 3) := by decide +kernel
theorem dX12_laysAway_57 : decode cX12_laysAway 57 = .ok (.iconst 0, 1) := by decide +kernel
theorem dX12_laysAway_58 : decode cX12_laysAway 58 = .ok (.istore 5, 2) := by decide +kernel
theorem dX12_laysAway_60 : decode cX12_laysAway 60 = .ok (.aload_n 0, 1) := by decide +kernel
theorem dX12_laysAway_61 : decode cX12_laysAway 61 = .ok (.getfield 24, 3) := by decide +kernel
theorem dX12_laysAway_64 : decode cX12_laysAway 64 = .ok (.iload 4, 2) := by decide +kernel
theorem dX12_laysAway_66 : decode cX12_laysAway 66 = .ok (.iload 5, 2) := by decide +kernel
theorem dX12_laysAway_68 : decode cX12_laysAway 68 = .ok (.ifCond .eq 9, 3) := by decide +kernel
theorem dX12_laysAway_71 : decode cX12_laysAway 71 = .ok (.sipush 1000, 3) := by decide +kernel
theorem dX12_laysAway_74 : decode cX12_laysAway 74 = .ok (.goto 4, 3) := by decide +kernel
theorem dX12_laysAway_77 : decode cX12_laysAway 77 = .ok (.iconst 0, 1) := by decide +kernel
theorem dX12_laysAway_78 : decode cX12_laysAway 78 = .ok (.iastore, 1) := by decide +kernel
theorem dX12_laysAway_79 : decode cX12_laysAway 79 = .ok (.iinc 4 1, 3) := by decide +kernel
theorem dX12_laysAway_82 : decode cX12_laysAway 82 = .ok (.goto (-70), 3) := by decide +kernel
theorem dX12_laysAway_85 : decode cX12_laysAway 85 = .ok (.iconst 0, 1) := by decide +kernel
theorem dX12_laysAway_86 : decode cX12_laysAway 86 = .ok (.istore 4, 2) := by decide +kernel
theorem dX12_laysAway_88 : decode cX12_laysAway 88 = .ok (.iload 4, 2) := by decide +kernel
theorem dX12_laysAway_90 : decode cX12_laysAway 90 = .ok (.iload_n 3, 1) := by decide +kernel
theorem dX12_laysAway_91 : decode cX12_laysAway 91 = .ok (.if_icmp .ge 124, 3) := by decide +kernel
theorem dX12_laysAway_94 : decode cX12_laysAway 94 = .ok (.iconst 0, 1) := by decide +kernel
theorem dX12_laysAway_95 : decode cX12_laysAway 95 = .ok (.istore 5, 2) := by decide +kernel
theorem dX12_laysAway_97 : decode cX12_laysAway 97 = .ok (.iload 5, 2) := by decide +kernel
theorem dX12_laysAway_99 : decode cX12_laysAway 99 = .ok (.iload_n 3, 1) := by decide +kernel
theorem dX12_laysAway_100 : decode cX12_laysAway 100 = .ok (.if_icmp .ge 109, 3) := by decide +kernel
theorem dX12_laysAway_103 : decode cX12_laysAway 103 = .ok (.iconst 0, 1) := by decide +kernel
theorem dX12_laysAway_104 : decode cX12_laysAway 104 = .ok (.istore 6, 2) := by decide +kernel
theorem dX12_laysAway_106 : decode cX12_laysAway 106 = .ok (.iload 6, 2) := by decide +kernel
theorem dX12_laysAway_108 : decode cX12_laysAway 108 = .ok (.aload_n 0, 1) := by decide +kernel
theorem dX12_laysAway_109 : decode cX12_laysAway 109 = .ok (.getfield 7, 3) := by decide +kernel
theorem dX12_laysAway_112 : decode cX12_laysAway 112 = .ok (.iload_n 1, 1) := by decide +kernel
theorem dX12_laysAway_113 : decode cX12_laysAway 113 = .ok (.iconst 1, 1) := by decide +kernel
theorem dX12_laysAway_114 : decode cX12_laysAway 114 = .ok (.iadd, 1) := by decide +kernel
theorem dX12_laysAway_115 : decode cX12_laysAway 115 = .ok (.iaload, 1) := by decide +kernel
theorem dX12_laysAway_116 : decode cX12_laysAway 116 = .ok (.if_icmp .ge 87, 3) := by decide +kernel
theorem dX12_laysAway_119 : decode cX12_laysAway 119 = .ok (.iload_n 1, 1) := by decide +kernel
theorem dX12_laysAway_120 : decode cX12_laysAway 120 = .ok (.iload 5, 2) := by decide +kernel
theorem dX12_laysAway_122 : decode cX12_laysAway 122 = .ok (.iload 6, 2) := by decide +kernel
theorem dX12_laysAway_124 : decode cX12_laysAway 124 = .ok (.invokestatic 92, 3) := by decide +kernel
theorem dX12_laysAway_127 : decode cX12_laysAway 127 = .ok (.istore 7, 2) := by decide +kernel
theorem dX12_laysAway_129 : decode cX12_laysAway 129 = .ok (.aload_n 0, 1) := by decide +kernel
theorem dX12_laysAway_130 : decode cX12_laysAway 130 = .ok (.iload 7, 2) := by decide +kernel
theorem dX12_laysAway_132 : decode cX12_laysAway 132 = .ok (.invokevirtual 95, 3) := by decide +kernel
theorem dX12_laysAway_135 : decode cX12_laysAway 135 = .ok (.ifCond .eq 19, 3) := by decide +kernel
theorem dX12_laysAway_138 : decode cX12_laysAway 138 = .ok (.aload_n 0, 1) := by decide +kernel
theorem dX12_laysAway_139 : decode cX12_laysAway 139 = .ok (.iload_n 1, 1) := by decide +kernel
theorem dX12_laysAway_140 : decode cX12_laysAway 140 = .ok (.aload_n 0, 1) := by decide +kernel
theorem dX12_laysAway_141 : decode cX12_laysAway 141 = .ok (.iload 7, 2) := by decide +kernel
theorem dX12_laysAway_143 : decode cX12_laysAway 143 = .ok (.invokevirtual 103, 3) := by decide +kernel
theorem dX12_laysAway_146 : decode cX12_laysAway 146 = .ok (.iload 5, 2) := by decide +kernel
theorem dX12_laysAway_148 : decode cX12_laysAway 148 = .ok (.invokevirtual 107, 3) := by decide +kernel
theorem dX12_laysAway_151 : decode cX12_laysAway 151 = .ok (.goto 4, 3) := by decide +kernel
theorem dX12_laysAway_154 : decode cX12_laysAway 154 = .ok (.iconst (-1), 1) := by decide +kernel
theorem dX12_laysAway_155 : decode cX12_laysAway 155 = .ok (.istore 8, 2) := by decide +kernel
theorem dX12_laysAway_157 : decode cX12_laysAway 157 = .ok (.iload 8, 2) := by decide +kernel
theorem dX12_laysAway_159 : decode cX12_laysAway 159 = .ok (.ifCond .lt 38, 3) := by decide +kernel
theorem dX12_laysAway_162 : decode cX12_laysAway 162 = .ok (.aload_n 0, 1) := by decide +kernel
theorem dX12_laysAway_163 : decode cX12_laysAway 163 = .ok (.getfield 24, 3) := by decide +kernel
theorem dX12_laysAway_166 : decode cX12_laysAway 166 = .ok (.iload 8, 2) := by decide +kernel
theorem dX12_laysAway_168 : decode cX12_laysAway 168 = .ok (.iaload, 1) := by decide +kernel
theorem dX12_laysAway_169 : decode cX12_laysAway 169 = .ok (.iconst 1, 1) := by decide +kernel
theorem dX12_laysAway_170 : decode cX12_laysAway 170 = .ok (.iadd, 1) := by decide +kernel
theorem dX12_laysAway_171 : decode cX12_laysAway 171 = .ok (.aload_n 0, 1) := by decide +kernel
theorem dX12_laysAway_172 : decode cX12_laysAway 172 = .ok (.getfield 24, 3) := by decide +kernel
theorem dX12_laysAway_175 : decode cX12_laysAway 175 = .ok (.iload 5, 2) := by decide +kernel
theorem dX12_laysAway_177 : decode cX12_laysAway 177 = .ok (.iaload, 1) := by decide +kernel
theorem dX12_laysAway_178 : decode cX12_laysAway 178 = .ok (.if_icmp .ge 19, 3) := by decide +kernel
theorem dX12_laysAway_181 : decode cX12_laysAway 181 = .ok (.aload_n 0, 1) := by decide +kernel
theorem dX12_laysAway_182 : decode cX12_laysAway 182 = .ok (.getfield 24, 3) := by decide +kernel
theorem dX12_laysAway_185 : decode cX12_laysAway 185 = .ok (.iload 5, 2) := by decide +kernel
theorem dX12_laysAway_187 : decode cX12_laysAway 187 = .ok (.aload_n 0, 1) := by decide +kernel
theorem dX12_laysAway_188 : decode cX12_laysAway 188 = .ok (.getfield 24, 3) := by decide +kernel
theorem dX12_laysAway_191 : decode cX12_laysAway 191 = .ok (.iload 8, 2) := by decide +kernel
theorem dX12_laysAway_193 : decode cX12_laysAway 193 = .ok (.iaload, 1) := by decide +kernel
theorem dX12_laysAway_194 : decode cX12_laysAway 194 = .ok (.iconst 1, 1) := by decide +kernel
theorem dX12_laysAway_195 : decode cX12_laysAway 195 = .ok (.iadd, 1) := by decide +kernel
theorem dX12_laysAway_196 : decode cX12_laysAway 196 = .ok (.iastore, 1) := by decide +kernel
theorem dX12_laysAway_197 : decode cX12_laysAway 197 = .ok (.iinc 6 1, 3) := by decide +kernel
theorem dX12_laysAway_200 : decode cX12_laysAway 200 = .ok (.goto (-94), 3) := by decide +kernel
theorem dX12_laysAway_203 : decode cX12_laysAway 203 = .ok (.iinc 5 1, 3) := by decide +kernel
theorem dX12_laysAway_206 : decode cX12_laysAway 206 = .ok (.goto (-109), 3) := by decide +kernel
theorem dX12_laysAway_209 : decode cX12_laysAway 209 = .ok (.iinc 4 1, 3) := by decide +kernel
theorem dX12_laysAway_212 : decode cX12_laysAway 212 = .ok (.goto (-124), 3) := by decide +kernel
theorem dX12_laysAway_215 : decode cX12_laysAway 215 = .ok (.return_, 1) := by decide +kernel
theorem dX12_chainOf_0 : decode cX12_chainOf 0 = .ok (.aload_n 0, 1) := by decide +kernel
theorem dX12_chainOf_1 : decode cX12_chainOf 1 = .ok (.iload_n 1, 1) := by decide +kernel
theorem dX12_chainOf_2 : decode cX12_chainOf 2 = .ok (.iload_n 2, 1) := by decide +kernel
theorem dX12_chainOf_3 : decode cX12_chainOf 3 = .ok (.invokevirtual 110, 3) := by decide +kernel
theorem dX12_chainOf_6 : decode cX12_chainOf 6 = .ok (.aload_n 0, 1) := by decide +kernel
theorem dX12_chainOf_7 : decode cX12_chainOf 7 = .ok (.iload_n 1, 1) := by decide +kernel
theorem dX12_chainOf_8 : decode cX12_chainOf 8 = .ok (.iload_n 2, 1) := by decide +kernel
theorem dX12_chainOf_9 : decode cX12_chainOf 9 = .ok (.iconst 0, 1) := by decide +kernel
theorem dX12_chainOf_10 : decode cX12_chainOf 10 = .ok (.invokevirtual 88, 3) := by decide +kernel
theorem dX12_chainOf_13 : decode cX12_chainOf 13 = .ok (.istore_n 3, 1) := by decide +kernel
theorem dX12_chainOf_14 : decode cX12_chainOf 14 = .ok (.aload_n 0, 1) := by decide +kernel
theorem dX12_chainOf_15 : decode cX12_chainOf 15 = .ok (.iload_n 1, 1) := by decide +kernel
theorem dX12_chainOf_16 : decode cX12_chainOf 16 = .ok (.iload_n 2, 1) := by decide +kernel
theorem dX12_chainOf_17 : decode cX12_chainOf 17 = .ok (.iconst 1, 1) := by decide +kernel
theorem dX12_chainOf_18 : decode cX12_chainOf 18 = .ok (.invokevirtual 88, 3) := by decide +kernel
theorem dX12_chainOf_21 : decode cX12_chainOf 21 = .ok (.istore 4, 2) := by decide +kernel
theorem dX12_chainOf_23 : decode cX12_chainOf 23 = .ok (.aload_n 0, 1) := by decide +kernel
theorem dX12_chainOf_24 : decode cX12_chainOf 24 = .ok (.getfield 24, 3) := by decide +kernel
theorem dX12_chainOf_27 : decode cX12_chainOf 27 = .ok (.iload 4, 2) := by decide +kernel
theorem dX12_chainOf_29 : decode cX12_chainOf 29 = .ok (.iaload, 1) := by decide +kernel
theorem dX12_chainOf_30 : decode cX12_chainOf 30 = .ok (.aload_n 0, 1) := by decide +kernel
theorem dX12_chainOf_31 : decode cX12_chainOf 31 = .ok (.getfield 24, 3) := by decide +kernel
theorem dX12_chainOf_34 : decode cX12_chainOf 34 = .ok (.iload_n 3, 1) := by decide +kernel
theorem dX12_chainOf_35 : decode cX12_chainOf 35 = .ok (.iaload, 1) := by decide +kernel
theorem dX12_chainOf_36 : decode cX12_chainOf 36 = .ok (.if_icmp .ge 8, 3) := by decide +kernel
theorem dX12_chainOf_39 : decode cX12_chainOf 39 = .ok (.iload 4, 2) := by decide +kernel
theorem dX12_chainOf_41 : decode cX12_chainOf 41 = .ok (.goto 4, 3) := by decide +kernel
theorem dX12_chainOf_44 : decode cX12_chainOf 44 = .ok (.iload_n 3, 1) := by decide +kernel
theorem dX12_chainOf_45 : decode cX12_chainOf 45 = .ok (.istore 5, 2) := by decide +kernel
theorem dX12_chainOf_47 : decode cX12_chainOf 47 = .ok (.aload_n 0, 1) := by decide +kernel
theorem dX12_chainOf_48 : decode cX12_chainOf 48 = .ok (.getfield 24, 3) := by decide +kernel
theorem dX12_chainOf_51 : decode cX12_chainOf 51 = .ok (.iload 5, 2) := by decide +kernel
theorem dX12_chainOf_53 : decode cX12_chainOf 53 = .ok (.iaload, 1) := by decide +kernel
theorem dX12_chainOf_54 : decode cX12_chainOf 54 = .ok (.istore 6, 2) := by decide +kernel
theorem dX12_chainOf_56 : decode cX12_chainOf 56 = .ok (.iload 6, 2) := by decide +kernel
theorem dX12_chainOf_58 : decode cX12_chainOf 58 = .ok (.sipush 1000, 3) := by decide +kernel
theorem dX12_chainOf_61 : decode cX12_chainOf 61 = .ok (.if_icmp .lt 5, 3) := by decide +kernel
theorem dX12_chainOf_64 : decode cX12_chainOf 64 = .ok (.iconst (-1), 1) := by decide +kernel
theorem dX12_chainOf_65 : decode cX12_chainOf 65 = .ok (.ireturn, 1) := by decide +kernel
theorem dX12_chainOf_66 : decode cX12_chainOf 66 = .ok (.iconst 0, 1) := by decide +kernel
theorem dX12_chainOf_67 : decode cX12_chainOf 67 = .ok (.istore 7, 2) := by decide +kernel
theorem dX12_chainOf_69 : decode cX12_chainOf 69 = .ok (.iload 7, 2) := by decide +kernel
theorem dX12_chainOf_71 : decode cX12_chainOf 71 = .ok (.iload 6, 2) := by decide +kernel
theorem dX12_chainOf_73 : decode cX12_chainOf 73 = .ok (.if_icmp .ge 69, 3) := by decide +kernel
theorem dX12_chainOf_76 : decode cX12_chainOf 76 = .ok (.iconst 0, 1) := by decide +kernel
theorem dX12_chainOf_77 : decode cX12_chainOf 77 = .ok (.istore 8, 2) := by decide +kernel
theorem dX12_chainOf_79 : decode cX12_chainOf 79 = .ok (.aload_n 0, 1) := by decide +kernel
theorem dX12_chainOf_80 : decode cX12_chainOf 80 = .ok (.iload_n 1, 1) := by decide +kernel
theorem dX12_chainOf_81 : decode cX12_chainOf 81 = .ok (.iload 5, 2) := by decide +kernel
theorem dX12_chainOf_83 : decode cX12_chainOf 83 = .ok (.iload 8, 2) := by decide +kernel
theorem dX12_chainOf_85 : decode cX12_chainOf 85 = .ok (.invokevirtual 113, 3) := by decide +kernel
theorem dX12_chainOf_88 : decode cX12_chainOf 88 = .ok (.ifCond .ne 9, 3) := by decide +kernel
theorem dX12_chainOf_91 : decode cX12_chainOf 91 = .ok (.iinc 8 1, 3) := by decide +kernel
theorem dX12_chainOf_94 : decode cX12_chainOf 94 = .ok (.goto (-15), 3) := by decide +kernel
theorem dX12_chainOf_97 : decode cX12_chainOf 97 = .ok (.aload_n 0, 1) := by decide +kernel
theorem dX12_chainOf_98 : decode cX12_chainOf 98 = .ok (.getfield 27, 3) := by decide +kernel
theorem dX12_chainOf_101 : decode cX12_chainOf 101 = .ok (.iload 7, 2) := by decide +kernel
theorem dX12_chainOf_103 : decode cX12_chainOf 103 = .ok (.iload 5, 2) := by decide +kernel
theorem dX12_chainOf_105 : decode cX12_chainOf 105 = .ok (.iastore, 1) := by decide +kernel
theorem dX12_chainOf_106 : decode cX12_chainOf 106 = .ok (.aload_n 0, 1) := by decide +kernel
theorem dX12_chainOf_107 : decode cX12_chainOf 107 = .ok (.getfield 30, 3) := by decide +kernel
theorem dX12_chainOf_110 : decode cX12_chainOf 110 = .ok (.iload 7, 2) := by decide +kernel
theorem dX12_chainOf_112 : decode cX12_chainOf 112 = .ok (.iload 8, 2) := by decide +kernel
theorem dX12_chainOf_114 : decode cX12_chainOf 114 = .ok (.iastore, 1) := by decide +kernel
theorem dX12_chainOf_115 : decode cX12_chainOf 115 = .ok (.aload_n 0, 1) := by decide +kernel
theorem dX12_chainOf_116 : decode cX12_chainOf 116 = .ok (.iload_n 1, 1) := by decide +kernel
theorem dX12_chainOf_117 : decode cX12_chainOf 117 = .ok (.aload_n 0, 1) := by decide +kernel
theorem dX12_chainOf_118 : decode cX12_chainOf 118 = .ok (.iload_n 1, 1) := by decide +kernel
theorem dX12_chainOf_119 : decode cX12_chainOf 119 = .ok (.iload 5, 2) := by decide +kernel
theorem dX12_chainOf_121 : decode cX12_chainOf 121 = .ok (.iload 8, 2) := by decide +kernel
theorem dX12_chainOf_123 : decode cX12_chainOf 123 = .ok (.invokestatic 92, 3) := by decide +kernel
theorem dX12_chainOf_126 : decode cX12_chainOf 126 = .ok (.invokevirtual 103, 3) := by decide +kernel
theorem dX12_chainOf_129 : decode cX12_chainOf 129 = .ok (.iload 5, 2) := by decide +kernel
theorem dX12_chainOf_131 : decode cX12_chainOf 131 = .ok (.invokevirtual 107, 3) := by decide +kernel
theorem dX12_chainOf_134 : decode cX12_chainOf 134 = .ok (.istore 5, 2) := by decide +kernel
theorem dX12_chainOf_136 : decode cX12_chainOf 136 = .ok (.iinc 7 1, 3) := by decide +kernel
theorem dX12_chainOf_139 : decode cX12_chainOf 139 = .ok (.goto (-70), 3) := by decide +kernel
theorem dX12_chainOf_142 : decode cX12_chainOf 142 = .ok (.iload 6, 2) := by decide +kernel
theorem dX12_chainOf_144 : decode cX12_chainOf 144 = .ok (.ireturn, 1) := by decide +kernel
theorem dX12_leads_0 : decode cX12_leads 0 = .ok (.iload_n 1, 1) := by decide +kernel
theorem dX12_leads_1 : decode cX12_leads 1 = .ok (.iload_n 2, 1) := by decide +kernel
theorem dX12_leads_2 : decode cX12_leads 2 = .ok (.iload_n 3, 1) := by decide +kernel
theorem dX12_leads_3 : decode cX12_leads 3 = .ok (.invokestatic 92, 3) := by decide +kernel
theorem dX12_leads_6 : decode cX12_leads 6 = .ok (.istore 4, 2) := by decide +kernel
theorem dX12_leads_8 : decode cX12_leads 8 = .ok (.aload_n 0, 1) := by decide +kernel
theorem dX12_leads_9 : decode cX12_leads 9 = .ok (.iload 4, 2) := by decide +kernel
theorem dX12_leads_11 : decode cX12_leads 11 = .ok (.invokevirtual 95, 3) := by decide +kernel
theorem dX12_leads_14 : decode cX12_leads 14 = .ok (.ifCond .eq 18, 3) := by decide +kernel
theorem dX12_leads_17 : decode cX12_leads 17 = .ok (.aload_n 0, 1) := by decide +kernel
theorem dX12_leads_18 : decode cX12_leads 18 = .ok (.iload_n 1, 1) := by decide +kernel
theorem dX12_leads_19 : decode cX12_leads 19 = .ok (.aload_n 0, 1) := by decide +kernel
theorem dX12_leads_20 : decode cX12_leads 20 = .ok (.iload 4, 2) := by decide +kernel
theorem dX12_leads_22 : decode cX12_leads 22 = .ok (.invokevirtual 103, 3) := by decide +kernel
theorem dX12_leads_25 : decode cX12_leads 25 = .ok (.iload_n 2, 1) := by decide +kernel
theorem dX12_leads_26 : decode cX12_leads 26 = .ok (.invokevirtual 107, 3) := by decide +kernel
theorem dX12_leads_29 : decode cX12_leads 29 = .ok (.goto 4, 3) := by decide +kernel
theorem dX12_leads_32 : decode cX12_leads 32 = .ok (.iconst (-1), 1) := by decide +kernel
theorem dX12_leads_33 : decode cX12_leads 33 = .ok (.istore 5, 2) := by decide +kernel
theorem dX12_leads_35 : decode cX12_leads 35 = .ok (.iload 5, 2) := by decide +kernel
theorem dX12_leads_37 : decode cX12_leads 37 = .ok (.ifCond .lt 25, 3) := by decide +kernel
theorem dX12_leads_40 : decode cX12_leads 40 = .ok (.aload_n 0, 1) := by decide +kernel
theorem dX12_leads_41 : decode cX12_leads 41 = .ok (.getfield 24, 3) := by decide +kernel
theorem dX12_leads_44 : decode cX12_leads 44 = .ok (.iload 5, 2) := by decide +kernel
theorem dX12_leads_46 : decode cX12_leads 46 = .ok (.iaload, 1) := by decide +kernel
theorem dX12_leads_47 : decode cX12_leads 47 = .ok (.aload_n 0, 1) := by decide +kernel
theorem dX12_leads_48 : decode cX12_leads 48 = .ok (.getfield 24, 3) := by decide +kernel
theorem dX12_leads_51 : decode cX12_leads 51 = .ok (.iload_n 2, 1) := by decide +kernel
theorem dX12_leads_52 : decode cX12_leads 52 = .ok (.iaload, 1) := by decide +kernel
theorem dX12_leads_53 : decode cX12_leads 53 = .ok (.iconst 1, 1) := by decide +kernel
theorem dX12_leads_54 : decode cX12_leads 54 = .ok (.isub, 1) := by decide +kernel
theorem dX12_leads_55 : decode cX12_leads 55 = .ok (.if_icmp .ne 7, 3) := by decide +kernel
theorem dX12_leads_58 : decode cX12_leads 58 = .ok (.iconst 1, 1) := by decide +kernel
theorem dX12_leads_59 : decode cX12_leads 59 = .ok (.goto 4, 3) := by decide +kernel
theorem dX12_leads_62 : decode cX12_leads 62 = .ok (.iconst 0, 1) := by decide +kernel
theorem dX12_leads_63 : decode cX12_leads 63 = .ok (.ireturn, 1) := by decide +kernel
theorem dX12_opens_0 : decode cX12_opens 0 = .ok (.iload_n 1, 1) := by decide +kernel
theorem dX12_opens_1 : decode cX12_opens 1 = .ok (.aload_n 0, 1) := by decide +kernel
theorem dX12_opens_2 : decode cX12_opens 2 = .ok (.getfield 27, 3) := by decide +kernel
theorem dX12_opens_5 : decode cX12_opens 5 = .ok (.iload_n 2, 1) := by decide +kernel
theorem dX12_opens_6 : decode cX12_opens 6 = .ok (.iconst 1, 1) := by decide +kernel
theorem dX12_opens_7 : decode cX12_opens 7 = .ok (.isub, 1) := by decide +kernel
theorem dX12_opens_8 : decode cX12_opens 8 = .ok (.iaload, 1) := by decide +kernel
theorem dX12_opens_9 : decode cX12_opens 9 = .ok (.aload_n 0, 1) := by decide +kernel
theorem dX12_opens_10 : decode cX12_opens 10 = .ok (.getfield 30, 3) := by decide +kernel
theorem dX12_opens_13 : decode cX12_opens 13 = .ok (.iload_n 2, 1) := by decide +kernel
theorem dX12_opens_14 : decode cX12_opens 14 = .ok (.iconst 1, 1) := by decide +kernel
theorem dX12_opens_15 : decode cX12_opens 15 = .ok (.isub, 1) := by decide +kernel
theorem dX12_opens_16 : decode cX12_opens 16 = .ok (.iaload, 1) := by decide +kernel
theorem dX12_opens_17 : decode cX12_opens 17 = .ok (.invokestatic 92, 3) := by decide +kernel
theorem dX12_opens_20 : decode cX12_opens 20 = .ok (.istore_n 3, 1) := by decide +kernel
theorem dX12_opens_21 : decode cX12_opens 21 = .ok (.aload_n 0, 1) := by decide +kernel
theorem dX12_opens_22 : decode cX12_opens 22 = .ok (.iload_n 1, 1) := by decide +kernel
theorem dX12_opens_23 : decode cX12_opens 23 = .ok (.aload_n 0, 1) := by decide +kernel
theorem dX12_opens_24 : decode cX12_opens 24 = .ok (.iload_n 3, 1) := by decide +kernel
theorem dX12_opens_25 : decode cX12_opens 25 = .ok (.invokevirtual 103, 3) := by decide +kernel
theorem dX12_opens_28 : decode cX12_opens 28 = .ok (.aload_n 0, 1) := by decide +kernel
theorem dX12_opens_29 : decode cX12_opens 29 = .ok (.getfield 27, 3) := by decide +kernel
theorem dX12_opens_32 : decode cX12_opens 32 = .ok (.iload_n 2, 1) := by decide +kernel
theorem dX12_opens_33 : decode cX12_opens 33 = .ok (.iconst 1, 1) := by decide +kernel
theorem dX12_opens_34 : decode cX12_opens 34 = .ok (.isub, 1) := by decide +kernel
theorem dX12_opens_35 : decode cX12_opens 35 = .ok (.iaload, 1) := by decide +kernel
theorem dX12_opens_36 : decode cX12_opens 36 = .ok (.invokevirtual 107, 3) := by decide +kernel
theorem dX12_opens_39 : decode cX12_opens 39 = .ok (.istore 4, 2) := by decide +kernel
theorem dX12_opens_41 : decode cX12_opens 41 = .ok (.iload_n 1, 1) := by decide +kernel
theorem dX12_opens_42 : decode cX12_opens 42 = .ok (.iload 4, 2) := by decide +kernel
theorem dX12_opens_44 : decode cX12_opens 44 = .ok (.aload_n 0, 1) := by decide +kernel
theorem dX12_opens_45 : decode cX12_opens 45 = .ok (.iload_n 1, 1) := by decide +kernel
theorem dX12_opens_46 : decode cX12_opens 46 = .ok (.iload 4, 2) := by decide +kernel
theorem dX12_opens_48 : decode cX12_opens 48 = .ok (.invokevirtual 99, 3) := by decide +kernel
theorem dX12_opens_51 : decode cX12_opens 51 = .ok (.invokestatic 92, 3) := by decide +kernel
theorem dX12_opens_54 : decode cX12_opens 54 = .ok (.istore 5, 2) := by decide +kernel
theorem dX12_opens_56 : decode cX12_opens 56 = .ok (.iload_n 2, 1) := by decide +kernel
theorem dX12_opens_57 : decode cX12_opens 57 = .ok (.iconst 1, 1) := by decide +kernel
theorem dX12_opens_58 : decode cX12_opens 58 = .ok (.isub, 1) := by decide +kernel
theorem dX12_opens_59 : decode cX12_opens 59 = .ok (.istore 6, 2) := by decide +kernel
theorem dX12_opens_61 : decode cX12_opens 61 = .ok (.iload 6, 2) := by decide +kernel
theorem dX12_opens_63 : decode cX12_opens 63 = .ok (.ifCond .lt 41, 3) := by decide +kernel
theorem dX12_opens_66 : decode cX12_opens 66 = .ok (.iload_n 1, 1) := by decide +kernel
theorem dX12_opens_67 : decode cX12_opens 67 = .ok (.aload_n 0, 1) := by decide +kernel
theorem dX12_opens_68 : decode cX12_opens 68 = .ok (.getfield 27, 3) := by decide +kernel
theorem dX12_opens_71 : decode cX12_opens 71 = .ok (.iload 6, 2) := by decide +kernel
theorem dX12_opens_73 : decode cX12_opens 73 = .ok (.iaload, 1) := by decide +kernel
theorem dX12_opens_74 : decode cX12_opens 74 = .ok (.aload_n 0, 1) := by decide +kernel
theorem dX12_opens_75 : decode cX12_opens 75 = .ok (.getfield 30, 3) := by decide +kernel
theorem dX12_opens_78 : decode cX12_opens 78 = .ok (.iload 6, 2) := by decide +kernel
theorem dX12_opens_80 : decode cX12_opens 80 = .ok (.iaload, 1) := by decide +kernel
theorem dX12_opens_81 : decode cX12_opens 81 = .ok (.invokestatic 92, 3) := by decide +kernel
theorem dX12_opens_84 : decode cX12_opens 84 = .ok (.istore 7, 2) := by decide +kernel
theorem dX12_opens_86 : decode cX12_opens 86 = .ok (.aload_n 0, 1) := by decide +kernel
theorem dX12_opens_87 : decode cX12_opens 87 = .ok (.iload 7, 2) := by decide +kernel
theorem dX12_opens_89 : decode cX12_opens 89 = .ok (.iload 5, 2) := by decide +kernel
theorem dX12_opens_91 : decode cX12_opens 91 = .ok (.invokevirtual 116, 3) := by decide +kernel
theorem dX12_opens_94 : decode cX12_opens 94 = .ok (.iload 7, 2) := by decide +kernel
theorem dX12_opens_96 : decode cX12_opens 96 = .ok (.istore 5, 2) := by decide +kernel
theorem dX12_opens_98 : decode cX12_opens 98 = .ok (.iinc 6 (-1), 3) := by decide +kernel
theorem dX12_opens_101 : decode cX12_opens 101 = .ok (.goto (-40), 3) := by decide +kernel
theorem dX12_opens_104 : decode cX12_opens 104 = .ok (.aload_n 0, 1) := by decide +kernel
theorem dX12_opens_105 : decode cX12_opens 105 = .ok (.getfield 7, 3) := by decide +kernel
theorem dX12_opens_108 : decode cX12_opens 108 = .ok (.iload_n 1, 1) := by decide +kernel
theorem dX12_opens_109 : decode cX12_opens 109 = .ok (.bipush 17, 2) := by decide +kernel
theorem dX12_opens_111 : decode cX12_opens 111 = .ok (.iadd, 1) := by decide +kernel
theorem dX12_opens_112 : decode cX12_opens 112 = .ok (.iload_n 2, 1) := by decide +kernel
theorem dX12_opens_113 : decode cX12_opens 113 = .ok (.aload_n 0, 1) := by decide +kernel
theorem dX12_opens_114 : decode cX12_opens 114 = .ok (.getfield 7, 3) := by decide +kernel
theorem dX12_opens_117 : decode cX12_opens 117 = .ok (.iload_n 1, 1) := by decide +kernel
theorem dX12_opens_118 : decode cX12_opens 118 = .ok (.bipush 17, 2) := by decide +kernel
theorem dX12_opens_120 : decode cX12_opens 120 = .ok (.iadd, 1) := by decide +kernel
theorem dX12_opens_121 : decode cX12_opens 121 = .ok (.iaload, 1) := by decide +kernel
theorem dX12_opens_122 : decode cX12_opens 122 = .ok (.if_icmp .le 7, 3) := by decide +kernel
theorem dX12_opens_125 : decode cX12_opens 125 = .ok (.iload_n 2, 1) := by decide +kernel
theorem dX12_opens_126 : decode cX12_opens 126 = .ok (.goto 12, 3) := by decide +kernel
theorem dX12_opens_129 : decode cX12_opens 129 = .ok (.aload_n 0, 1) := by decide +kernel
theorem dX12_opens_130 : decode cX12_opens 130 = .ok (.getfield 7, 3) := by decide +kernel
theorem dX12_opens_133 : decode cX12_opens 133 = .ok (.iload_n 1, 1) := by decide +kernel
theorem dX12_opens_134 : decode cX12_opens 134 = .ok (.bipush 17, 2) := by decide +kernel
theorem dX12_opens_136 : decode cX12_opens 136 = .ok (.iadd, 1) := by decide +kernel
theorem dX12_opens_137 : decode cX12_opens 137 = .ok (.iaload, 1) := by decide +kernel
theorem dX12_opens_138 : decode cX12_opens 138 = .ok (.iastore, 1) := by decide +kernel
theorem dX12_opens_139 : decode cX12_opens 139 = .ok (.iload 5, 2) := by decide +kernel
theorem dX12_opens_141 : decode cX12_opens 141 = .ok (.ireturn, 1) := by decide +kernel
theorem dX12_freeFor_0 : decode cX12_freeFor 0 = .ok (.iconst 0, 1) := by decide +kernel
theorem dX12_freeFor_1 : decode cX12_freeFor 1 = .ok (.istore_n 3, 1) := by decide +kernel
theorem dX12_freeFor_2 : decode cX12_freeFor 2 = .ok (.iload_n 3, 1) := by decide +kernel
theorem dX12_freeFor_3 : decode cX12_freeFor 3 = .ok (.iconst 2, 1) := by decide +kernel
theorem dX12_freeFor_4 : decode cX12_freeFor 4 = .ok (.if_icmp .ge 42, 3) := by decide +kernel
theorem dX12_freeFor_7 : decode cX12_freeFor 7 = .ok (.aload_n 0, 1) := by decide +kernel
theorem dX12_freeFor_8 : decode cX12_freeFor 8 = .ok (.iload_n 1, 1) := by decide +kernel
theorem dX12_freeFor_9 : decode cX12_freeFor 9 = .ok (.iload_n 2, 1) := by decide +kernel
theorem dX12_freeFor_10 : decode cX12_freeFor 10 = .ok (.iload_n 3, 1) := by decide +kernel
theorem dX12_freeFor_11 : decode cX12_freeFor 11 = .ok (.invokevirtual 88, 3) := by decide +kernel
theorem dX12_freeFor_14 : decode cX12_freeFor 14 = .ok (.istore 4, 2) := by decide +kernel
theorem dX12_freeFor_16 : decode cX12_freeFor 16 = .ok (.aload_n 0, 1) := by decide +kernel
theorem dX12_freeFor_17 : decode cX12_freeFor 17 = .ok (.iload_n 1, 1) := by decide +kernel
theorem dX12_freeFor_18 : decode cX12_freeFor 18 = .ok (.iload 4, 2) := by decide +kernel
theorem dX12_freeFor_20 : decode cX12_freeFor 20 = .ok (.invokevirtual 99, 3) := by decide +kernel
theorem dX12_freeFor_23 : decode cX12_freeFor 23 = .ok (.ifCond .lt 17, 3) := by decide +kernel
theorem dX12_freeFor_26 : decode cX12_freeFor 26 = .ok (.iload_n 1, 1) := by decide +kernel
theorem dX12_freeFor_27 : decode cX12_freeFor 27 = .ok (.iload 4, 2) := by decide +kernel
theorem dX12_freeFor_29 : decode cX12_freeFor 29 = .ok (.aload_n 0, 1) := by decide +kernel
theorem dX12_freeFor_30 : decode cX12_freeFor 30 = .ok (.iload_n 1, 1) := by decide +kernel
theorem dX12_freeFor_31 : decode cX12_freeFor 31 = .ok (.iload 4, 2) := by decide +kernel
theorem dX12_freeFor_33 : decode cX12_freeFor 33 = .ok (.invokevirtual 99, 3) := by decide +kernel
theorem dX12_freeFor_36 : decode cX12_freeFor 36 = .ok (.invokestatic 92, 3) := by decide +kernel
theorem dX12_freeFor_39 : decode cX12_freeFor 39 = .ok (.ireturn, 1) := by decide +kernel
theorem dX12_freeFor_40 : decode cX12_freeFor 40 = .ok (.iinc 3 1, 3) := by decide +kernel
theorem dX12_freeFor_43 : decode cX12_freeFor 43 = .ok (.goto (-41), 3) := by decide +kernel
theorem dX12_freeFor_46 : decode cX12_freeFor 46 = .ok (.iconst (-1), 1) := by decide +kernel
theorem dX12_freeFor_47 : decode cX12_freeFor 47 = .ok (.ireturn, 1) := by decide +kernel
theorem dX12_walks_0 : decode cX12_walks 0 = .ok (.iconst 0, 1) := by decide +kernel
theorem dX12_walks_1 : decode cX12_walks 1 = .ok (.istore 6, 2) := by decide +kernel
theorem dX12_walks_3 : decode cX12_walks 3 = .ok (.iload 6, 2) := by decide +kernel
theorem dX12_walks_5 : decode cX12_walks 5 = .ok (.sipush 292, 3) := by decide +kernel
theorem dX12_walks_8 : decode cX12_walks 8 = .ok (.if_icmp .ge 29, 3) := by decide +kernel
theorem dX12_walks_11 : decode cX12_walks 11 = .ok (.aload_n 0, 1) := by decide +kernel
theorem dX12_walks_12 : decode cX12_walks 12 = .ok (.getfield 7, 3) := by decide +kernel
theorem dX12_walks_15 : decode cX12_walks 15 = .ok (.sipush 876, 3) := by decide +kernel
theorem dX12_walks_18 : decode cX12_walks 18 = .ok (.iload 6, 2) := by decide +kernel
theorem dX12_walks_20 : decode cX12_walks 20 = .ok (.iadd, 1) := by decide +kernel
theorem dX12_walks_21 : decode cX12_walks 21 = .ok (.aload_n 0, 1) := by decide +kernel
theorem dX12_walks_22 : decode cX12_walks 22 = .ok (.getfield 7, 3) := by decide +kernel
theorem dX12_walks_25 : decode cX12_walks 25 = .ok (.iload_n 1, 1) := by decide +kernel
theorem dX12_walks_26 : decode cX12_walks 26 = .ok (.iload 6, 2) := by decide +kernel
theorem dX12_walks_28 : decode cX12_walks 28 = .ok (.iadd, 1) := by decide +kernel
theorem dX12_walks_29 : decode cX12_walks 29 = .ok (.iaload, 1) := by decide +kernel
theorem dX12_walks_30 : decode cX12_walks 30 = .ok (.iastore, 1) := by decide +kernel
theorem dX12_walks_31 : decode cX12_walks 31 = .ok (.iinc 6 1, 3) := by decide +kernel
theorem dX12_walks_34 : decode cX12_walks 34 = .ok (.goto (-31), 3) := by decide +kernel
theorem dX12_walks_37 : decode cX12_walks 37 = .ok (.aload_n 0, 1) := by decide +kernel
theorem dX12_walks_38 : decode cX12_walks 38 = .ok (.getfield 33, 3) := by decide +kernel
theorem dX12_walks_41 : decode cX12_walks 41 = .ok (.iconst 0, 1) := by decide +kernel
theorem dX12_walks_42 : decode cX12_walks 42 = .ok (.iload_n 2, 1) := by decide +kernel
theorem dX12_walks_43 : decode cX12_walks 43 = .ok (.iconst 1, 1) := by decide +kernel
theorem dX12_walks_44 : decode cX12_walks 44 = .ok (.iadd, 1) := by decide +kernel
theorem dX12_walks_45 : decode cX12_walks 45 = .ok (.iastore, 1) := by decide +kernel
theorem dX12_walks_46 : decode cX12_walks 46 = .ok (.aload_n 0, 1) := by decide +kernel
theorem dX12_walks_47 : decode cX12_walks 47 = .ok (.getfield 33, 3) := by decide +kernel
theorem dX12_walks_50 : decode cX12_walks 50 = .ok (.iconst 1, 1) := by decide +kernel
theorem dX12_walks_51 : decode cX12_walks 51 = .ok (.iload_n 3, 1) := by decide +kernel
theorem dX12_walks_52 : decode cX12_walks 52 = .ok (.iastore, 1) := by decide +kernel
theorem dX12_walks_53 : decode cX12_walks 53 = .ok (.aload_n 0, 1) := by decide +kernel
theorem dX12_walks_54 : decode cX12_walks 54 = .ok (.getfield 33, 3) := by decide +kernel
theorem dX12_walks_57 : decode cX12_walks 57 = .ok (.iconst 2, 1) := by decide +kernel
theorem dX12_walks_58 : decode cX12_walks 58 = .ok (.iload 4, 2) := by decide +kernel
theorem dX12_walks_60 : decode cX12_walks 60 = .ok (.iastore, 1) := by decide +kernel
theorem dX12_walks_61 : decode cX12_walks 61 = .ok (.aload_n 0, 1) := by decide +kernel
theorem dX12_walks_62 : decode cX12_walks 62 = .ok (.getfield 33, 3) := by decide +kernel
theorem dX12_walks_65 : decode cX12_walks 65 = .ok (.iconst 3, 1) := by decide +kernel
theorem dX12_walks_66 : decode cX12_walks 66 = .ok (.iload 5, 2) := by decide +kernel
theorem dX12_walks_68 : decode cX12_walks 68 = .ok (.iastore, 1) := by decide +kernel
theorem dX12_walks_69 : decode cX12_walks 69 = .ok (.aload_n 0, 1) := by decide +kernel
theorem dX12_walks_70 : decode cX12_walks 70 = .ok (.iload_n 1, 1) := by decide +kernel
theorem dX12_walks_71 : decode cX12_walks 71 = .ok (.iload_n 2, 1) := by decide +kernel
theorem dX12_walks_72 : decode cX12_walks 72 = .ok (.iconst 0, 1) := by decide +kernel
theorem dX12_walks_73 : decode cX12_walks 73 = .ok (.invokevirtual 88, 3) := by decide +kernel
theorem dX12_walks_76 : decode cX12_walks 76 = .ok (.istore 6, 2) := by decide +kernel
theorem dX12_walks_78 : decode cX12_walks 78 = .ok (.iconst 0, 1) := by decide +kernel
theorem dX12_walks_79 : decode cX12_walks 79 = .ok (.istore 7, 2) := by decide +kernel
theorem dX12_walks_81 : decode cX12_walks 81 = .ok (.iload 7, 2) := by decide +kernel
theorem dX12_walks_83 : decode cX12_walks 83 = .ok (.aload_n 0, 1) := by decide +kernel
theorem dX12_walks_84 : decode cX12_walks 84 = .ok (.getfield 7, 3) := by decide +kernel
theorem dX12_walks_87 : decode cX12_walks 87 = .ok (.iload_n 1, 1) := by decide +kernel
theorem dX12_walks_88 : decode cX12_walks 88 = .ok (.iconst 3, 1) := by decide +kernel
theorem dX12_walks_89 : decode cX12_walks 89 = .ok (.iadd, 1) := by decide +kernel
theorem dX12_walks_90 : decode cX12_walks 90 = .ok (.iaload, 1) := by decide +kernel
theorem dX12_walks_91 : decode cX12_walks 91 = .ok (.if_icmp .ge 191, 3) := by decide +kernel
theorem dX12_walks_94 : decode cX12_walks 94 = .ok (.iload_n 1, 1) := by decide +kernel
theorem dX12_walks_95 : decode cX12_walks 95 = .ok (.iload 6, 2) := by decide +kernel
theorem dX12_walks_97 : decode cX12_walks 97 = .ok (.aload_n 0, 1) := by decide +kernel
theorem dX12_walks_98 : decode cX12_walks 98 = .ok (.iload_n 1, 1) := by decide +kernel
theorem dX12_walks_99 : decode cX12_walks 99 = .ok (.aload_n 0, 1) := by decide +kernel
theorem dX12_walks_100 : decode cX12_walks 100 = .ok (.getfield 7, 3) := by decide +kernel
theorem dX12_walks_103 : decode cX12_walks 103 = .ok (.iload_n 1, 1) := by decide +kernel
theorem dX12_walks_104 : decode cX12_walks 104 = .ok (.iconst 1, 1) := by decide +kernel
theorem dX12_walks_105 : decode cX12_walks 105 = .ok (.iadd, 1) := by decide +kernel
theorem dX12_walks_106 : decode cX12_walks 106 = .ok (.iaload, 1) := by decide +kernel
theorem dX12_walks_107 : decode cX12_walks 107 = .ok (.invokevirtual 119, 3) := by decide +kernel
theorem dX12_walks_110 : decode cX12_walks 110 = .ok (.invokestatic 92, 3) := by decide +kernel
theorem dX12_walks_113 : decode cX12_walks 113 = .ok (.istore 8, 2) := by decide +kernel
theorem dX12_walks_115 : decode cX12_walks 115 = .ok (.iconst 0, 1) := by decide +kernel
theorem dX12_walks_116 : decode cX12_walks 116 = .ok (.istore 9, 2) := by decide +kernel
theorem dX12_walks_118 : decode cX12_walks 118 = .ok (.iload 9, 2) := by decide +kernel
theorem dX12_walks_120 : decode cX12_walks 120 = .ok (.iconst 4, 1) := by decide +kernel
theorem dX12_walks_121 : decode cX12_walks 121 = .ok (.if_icmp .ge 57, 3) := by decide +kernel
theorem dX12_walks_124 : decode cX12_walks 124 = .ok (.aload_n 0, 1) := by decide +kernel
theorem dX12_walks_125 : decode cX12_walks 125 = .ok (.getfield 36, 3) := by decide +kernel
theorem dX12_walks_128 : decode cX12_walks 128 = .ok (.iload 9, 2) := by decide +kernel
theorem dX12_walks_130 : decode cX12_walks 130 = .ok (.aload_n 0, 1) := by decide +kernel
theorem dX12_walks_131 : decode cX12_walks 131 = .ok (.getfield 7, 3) := by decide +kernel
theorem dX12_walks_134 : decode cX12_walks 134 = .ok (.iload 8, 2) := by decide +kernel
theorem dX12_walks_136 : decode cX12_walks 136 = .ok (.iload 9, 2) := by decide +kernel
theorem dX12_walks_138 : decode cX12_walks 138 = .ok (.iadd, 1) := by decide +kernel
theorem dX12_walks_139 : decode cX12_walks 139 = .ok (.iaload, 1) := by decide +kernel
theorem dX12_walks_140 : decode cX12_walks 140 = .ok (.iastore, 1) := by decide +kernel
theorem dX12_walks_141 : decode cX12_walks 141 = .ok (.aload_n 0, 1) := by decide +kernel
theorem dX12_walks_142 : decode cX12_walks 142 = .ok (.getfield 7, 3) := by decide +kernel
theorem dX12_walks_145 : decode cX12_walks 145 = .ok (.iload 8, 2) := by decide +kernel
theorem dX12_walks_147 : decode cX12_walks 147 = .ok (.iload 9, 2) := by decide +kernel
theorem dX12_walks_149 : decode cX12_walks 149 = .ok (.iadd, 1) := by decide +kernel
theorem dX12_walks_150 : decode cX12_walks 150 = .ok (.aload_n 0, 1) := by decide +kernel
theorem dX12_walks_151 : decode cX12_walks 151 = .ok (.getfield 33, 3) := by decide +kernel
theorem dX12_walks_154 : decode cX12_walks 154 = .ok (.iload 9, 2) := by decide +kernel
theorem dX12_walks_156 : decode cX12_walks 156 = .ok (.iaload, 1) := by decide +kernel
theorem dX12_walks_157 : decode cX12_walks 157 = .ok (.iastore, 1) := by decide +kernel
theorem dX12_walks_158 : decode cX12_walks 158 = .ok (.aload_n 0, 1) := by decide +kernel
theorem dX12_walks_159 : decode cX12_walks 159 = .ok (.getfield 33, 3) := by decide +kernel
theorem dX12_walks_162 : decode cX12_walks 162 = .ok (.iload 9, 2) := by decide +kernel
theorem dX12_walks_164 : decode cX12_walks 164 = .ok (.aload_n 0, 1) := by decide +kernel
theorem dX12_walks_165 : decode cX12_walks 165 = .ok (.getfield 36, 3) := by decide +kernel
theorem dX12_walks_168 : decode cX12_walks 168 = .ok (.iload 9, 2) := by decide +kernel
theorem dX12_walks_170 : decode cX12_walks 170 = .ok (.iaload, 1) := by decide +kernel
theorem dX12_walks_171 : decode cX12_walks 171 = .ok (.iastore, 1) := by decide +kernel
theorem dX12_walks_172 : decode cX12_walks 172 = .ok (.iinc 9 1, 3) := by decide +kernel
theorem dX12_walks_175 : decode cX12_walks 175 = .ok (.goto (-57), 3) := by decide +kernel
theorem dX12_walks_178 : decode cX12_walks 178 = .ok (.aload_n 0, 1) := by decide +kernel
theorem dX12_walks_179 : decode cX12_walks 179 = .ok (.getfield 33, 3) := by decide +kernel
theorem dX12_walks_182 : decode cX12_walks 182 = .ok (.iconst 3, 1) := by decide +kernel
theorem dX12_walks_183 : decode cX12_walks 183 = .ok (.dup2, 1) := by decide +kernel
theorem dX12_walks_184 : decode cX12_walks 184 = .ok (.iaload, 1) := by decide +kernel
theorem dX12_walks_185 : decode cX12_walks 185 = .ok (.iconst 1, 1) := by decide +kernel
theorem dX12_walks_186 : decode cX12_walks 186 = .ok (.iadd, 1) := by decide +kernel
theorem dX12_walks_187 : decode cX12_walks 187 = .ok (.iastore, 1) := by decide +kernel
theorem dX12_walks_188 : decode cX12_walks 188 = .ok (.aload_n 0, 1) := by decide +kernel
theorem dX12_walks_189 : decode cX12_walks 189 = .ok (.iload_n 1, 1) := by decide +kernel
theorem dX12_walks_190 : decode cX12_walks 190 = .ok (.aload_n 0, 1) := by decide +kernel
theorem dX12_walks_191 : decode cX12_walks 191 = .ok (.getfield 33, 3) := by decide +kernel
theorem dX12_walks_194 : decode cX12_walks 194 = .ok (.iconst 0, 1) := by decide +kernel
theorem dX12_walks_195 : decode cX12_walks 195 = .ok (.iaload, 1) := by decide +kernel
theorem dX12_walks_196 : decode cX12_walks 196 = .ok (.iconst 1, 1) := by decide +kernel
theorem dX12_walks_197 : decode cX12_walks 197 = .ok (.isub, 1) := by decide +kernel
theorem dX12_walks_198 : decode cX12_walks 198 = .ok (.iload 6, 2) := by decide +kernel
theorem dX12_walks_200 : decode cX12_walks 200 = .ok (.invokevirtual 107, 3) := by decide +kernel
theorem dX12_walks_203 : decode cX12_walks 203 = .ok (.istore 9, 2) := by decide +kernel
theorem dX12_walks_205 : decode cX12_walks 205 = .ok (.iload 9, 2) := by decide +kernel
theorem dX12_walks_207 : decode cX12_walks 207 = .ok (.ifCond .ge 8, 3) := by decide +kernel
theorem dX12_walks_210 : decode cX12_walks 210 = .ok (.iload 6, 2) := by decide +kernel
theorem dX12_walks_212 : decode cX12_walks 212 = .ok (.goto 5, 3) := by decide +kernel
theorem dX12_walks_215 : decode cX12_walks 215 = .ok (.iload 9, 2) := by decide +kernel
theorem dX12_walks_217 : decode cX12_walks 217 = .ok (.istore 6, 2) := by decide +kernel
theorem dX12_walks_219 : decode cX12_walks 219 = .ok (.aload_n 0, 1) := by decide +kernel
theorem dX12_walks_220 : decode cX12_walks 220 = .ok (.iload_n 1, 1) := by decide +kernel
theorem dX12_walks_221 : decode cX12_walks 221 = .ok (.iload 6, 2) := by decide +kernel
theorem dX12_walks_223 : decode cX12_walks 223 = .ok (.invokevirtual 99, 3) := by decide +kernel
theorem dX12_walks_226 : decode cX12_walks 226 = .ok (.istore 10, 2) := by decide +kernel
theorem dX12_walks_228 : decode cX12_walks 228 = .ok (.iload 10, 2) := by decide +kernel
theorem dX12_walks_230 : decode cX12_walks 230 = .ok (.ifCond .ge 6, 3) := by decide +kernel
theorem dX12_walks_233 : decode cX12_walks 233 = .ok (.goto 43, 3) := by decide +kernel
theorem dX12_walks_236 : decode cX12_walks 236 = .ok (.iconst 0, 1) := by decide +kernel
theorem dX12_walks_237 : decode cX12_walks 237 = .ok (.istore 11, 2) := by decide +kernel
theorem dX12_walks_239 : decode cX12_walks 239 = .ok (.iload 11, 2) := by decide +kernel
theorem dX12_walks_241 : decode cX12_walks 241 = .ok (.iconst 4, 1) := by decide +kernel
theorem dX12_walks_242 : decode cX12_walks 242 = .ok (.if_icmp .ge 32, 3) := by decide +kernel
theorem dX12_walks_245 : decode cX12_walks 245 = .ok (.aload_n 0, 1) := by decide +kernel
theorem dX12_walks_246 : decode cX12_walks 246 = .ok (.getfield 7, 3) := by decide +kernel
theorem dX12_walks_249 : decode cX12_walks 249 = .ok (.iload_n 1, 1) := by decide +kernel
theorem dX12_walks_250 : decode cX12_walks 250 = .ok (.iload 6, 2) := by decide +kernel
theorem dX12_walks_252 : decode cX12_walks 252 = .ok (.iload 10, 2) := by decide +kernel
theorem dX12_walks_254 : decode cX12_walks 254 = .ok (.invokestatic 92, 3) := by decide +kernel
theorem dX12_walks_257 : decode cX12_walks 257 = .ok (.iload 11, 2) := by decide +kernel
theorem dX12_walks_259 : decode cX12_walks 259 = .ok (.iadd, 1) := by decide +kernel
theorem dX12_walks_260 : decode cX12_walks 260 = .ok (.aload_n 0, 1) := by decide +kernel
theorem dX12_walks_261 : decode cX12_walks 261 = .ok (.getfield 33, 3) := by decide +kernel
theorem dX12_walks_264 : decode cX12_walks 264 = .ok (.iload 11, 2) := by decide +kernel
theorem dX12_walks_266 : decode cX12_walks 266 = .ok (.iaload, 1) := by decide +kernel
theorem dX12_walks_267 : decode cX12_walks 267 = .ok (.iastore, 1) := by decide +kernel
theorem dX12_walks_268 : decode cX12_walks 268 = .ok (.iinc 11 1, 3) := by decide +kernel
theorem dX12_walks_271 : decode cX12_walks 271 = .ok (.goto (-32), 3) := by decide +kernel
theorem dX12_walks_274 : decode cX12_walks 274 = .ok (.iconst 1, 1) := by decide +kernel
theorem dX12_walks_275 : decode cX12_walks 275 = .ok (.ireturn, 1) := by decide +kernel
theorem dX12_walks_276 : decode cX12_walks 276 = .ok (.iinc 7 1, 3) := by decide +kernel
theorem dX12_walks_279 : decode cX12_walks 279 = .ok (.goto (-198), 3) := by decide +kernel
theorem dX12_walks_282 : decode cX12_walks 282 = .ok (.aload_n 0, 1) := by decide +kernel
theorem dX12_walks_283 : decode cX12_walks 283 = .ok (.sipush 876, 3) := by decide +kernel
theorem dX12_walks_286 : decode cX12_walks 286 = .ok (.iload_n 1, 1) := by decide +kernel
theorem dX12_walks_287 : decode cX12_walks 287 = .ok (.invokevirtual 122, 3) := by decide +kernel
theorem dX12_walks_290 : decode cX12_walks 290 = .ok (.iconst 0, 1) := by decide +kernel
theorem dX12_walks_291 : decode cX12_walks 291 = .ok (.ireturn, 1) := by decide +kernel
theorem dX12_comesIn_0 : decode cX12_comesIn 0 = .ok (.aload_n 0, 1) := by decide +kernel
theorem dX12_comesIn_1 : decode cX12_comesIn 1 = .ok (.iload_n 1, 1) := by decide +kernel
theorem dX12_comesIn_2 : decode cX12_comesIn 2 = .ok (.iload_n 2, 1) := by decide +kernel
theorem dX12_comesIn_3 : decode cX12_comesIn 3 = .ok (.invokevirtual 125, 3) := by decide +kernel
theorem dX12_comesIn_6 : decode cX12_comesIn 6 = .ok (.istore 6, 2) := by decide +kernel
theorem dX12_comesIn_8 : decode cX12_comesIn 8 = .ok (.iload 6, 2) := by decide +kernel
theorem dX12_comesIn_10 : decode cX12_comesIn 10 = .ok (.ifCond .lt 17, 3) := by decide +kernel
theorem dX12_comesIn_13 : decode cX12_comesIn 13 = .ok (.aload_n 0, 1) := by decide +kernel
theorem dX12_comesIn_14 : decode cX12_comesIn 14 = .ok (.iload 6, 2) := by decide +kernel
theorem dX12_comesIn_16 : decode cX12_comesIn 16 = .ok (.iload_n 2, 1) := by decide +kernel
theorem dX12_comesIn_17 : decode cX12_comesIn 17 = .ok (.iload_n 3, 1) := by decide +kernel
theorem dX12_comesIn_18 : decode cX12_comesIn 18 = .ok (.iload 4, 2) := by decide +kernel
theorem dX12_comesIn_20 : decode cX12_comesIn 20 = .ok (.iload 5, 2) := by decide +kernel
theorem dX12_comesIn_22 : decode cX12_comesIn 22 = .ok (.invokevirtual 128, 3) := by decide +kernel
theorem dX12_comesIn_25 : decode cX12_comesIn 25 = .ok (.iconst 1, 1) := by decide +kernel
theorem dX12_comesIn_26 : decode cX12_comesIn 26 = .ok (.ireturn, 1) := by decide +kernel
theorem dX12_comesIn_27 : decode cX12_comesIn 27 = .ok (.aload_n 0, 1) := by decide +kernel
theorem dX12_comesIn_28 : decode cX12_comesIn 28 = .ok (.getfield 7, 3) := by decide +kernel
theorem dX12_comesIn_31 : decode cX12_comesIn 31 = .ok (.iload_n 1, 1) := by decide +kernel
theorem dX12_comesIn_32 : decode cX12_comesIn 32 = .ok (.iconst 5, 1) := by decide +kernel
theorem dX12_comesIn_33 : decode cX12_comesIn 33 = .ok (.iadd, 1) := by decide +kernel
theorem dX12_comesIn_34 : decode cX12_comesIn 34 = .ok (.iaload, 1) := by decide +kernel
theorem dX12_comesIn_35 : decode cX12_comesIn 35 = .ok (.iconst 2, 1) := by decide +kernel
theorem dX12_comesIn_36 : decode cX12_comesIn 36 = .ok (.if_icmp .ne 12, 3) := by decide +kernel
theorem dX12_comesIn_39 : decode cX12_comesIn 39 = .ok (.aload_n 0, 1) := by decide +kernel
theorem dX12_comesIn_40 : decode cX12_comesIn 40 = .ok (.iload_n 1, 1) := by decide +kernel
theorem dX12_comesIn_41 : decode cX12_comesIn 41 = .ok (.iload_n 2, 1) := by decide +kernel
theorem dX12_comesIn_42 : decode cX12_comesIn 42 = .ok (.invokevirtual 132, 3) := by decide +kernel
theorem dX12_comesIn_45 : decode cX12_comesIn 45 = .ok (.goto 4, 3) := by decide +kernel
theorem dX12_comesIn_48 : decode cX12_comesIn 48 = .ok (.iconst (-1), 1) := by decide +kernel
theorem dX12_comesIn_49 : decode cX12_comesIn 49 = .ok (.istore 7, 2) := by decide +kernel
theorem dX12_comesIn_51 : decode cX12_comesIn 51 = .ok (.iload 7, 2) := by decide +kernel
theorem dX12_comesIn_53 : decode cX12_comesIn 53 = .ok (.ifCond .le 35, 3) := by decide +kernel
theorem dX12_comesIn_56 : decode cX12_comesIn 56 = .ok (.iload 7, 2) := by decide +kernel
theorem dX12_comesIn_58 : decode cX12_comesIn 58 = .ok (.aload_n 0, 1) := by decide +kernel
theorem dX12_comesIn_59 : decode cX12_comesIn 59 = .ok (.getfield 7, 3) := by decide +kernel
theorem dX12_comesIn_62 : decode cX12_comesIn 62 = .ok (.iload_n 1, 1) := by decide +kernel
theorem dX12_comesIn_63 : decode cX12_comesIn 63 = .ok (.iconst 3, 1) := by decide +kernel
theorem dX12_comesIn_64 : decode cX12_comesIn 64 = .ok (.iadd, 1) := by decide +kernel
theorem dX12_comesIn_65 : decode cX12_comesIn 65 = .ok (.iaload, 1) := by decide +kernel
theorem dX12_comesIn_66 : decode cX12_comesIn 66 = .ok (.if_icmp .gt 22, 3) := by decide +kernel
theorem dX12_comesIn_69 : decode cX12_comesIn 69 = .ok (.aload_n 0, 1) := by decide +kernel
theorem dX12_comesIn_70 : decode cX12_comesIn 70 = .ok (.aload_n 0, 1) := by decide +kernel
theorem dX12_comesIn_71 : decode cX12_comesIn 71 = .ok (.iload_n 1, 1) := by decide +kernel
theorem dX12_comesIn_72 : decode cX12_comesIn 72 = .ok (.iload 7, 2) := by decide +kernel
theorem dX12_comesIn_74 : decode cX12_comesIn 74 = .ok (.invokevirtual 135, 3) := by decide +kernel
theorem dX12_comesIn_77 : decode cX12_comesIn 77 = .ok (.iload_n 2, 1) := by decide +kernel
theorem dX12_comesIn_78 : decode cX12_comesIn 78 = .ok (.iload_n 3, 1) := by decide +kernel
theorem dX12_comesIn_79 : decode cX12_comesIn 79 = .ok (.iload 4, 2) := by decide +kernel
theorem dX12_comesIn_81 : decode cX12_comesIn 81 = .ok (.iload 5, 2) := by decide +kernel
theorem dX12_comesIn_83 : decode cX12_comesIn 83 = .ok (.invokevirtual 128, 3) := by decide +kernel
theorem dX12_comesIn_86 : decode cX12_comesIn 86 = .ok (.iconst 2, 1) := by decide +kernel
theorem dX12_comesIn_87 : decode cX12_comesIn 87 = .ok (.ireturn, 1) := by decide +kernel
theorem dX12_comesIn_88 : decode cX12_comesIn 88 = .ok (.aload_n 0, 1) := by decide +kernel
theorem dX12_comesIn_89 : decode cX12_comesIn 89 = .ok (.getfield 7, 3) := by decide +kernel
theorem dX12_comesIn_92 : decode cX12_comesIn 92 = .ok (.iload_n 1, 1) := by decide +kernel
theorem dX12_comesIn_93 : decode cX12_comesIn 93 = .ok (.iconst 5, 1) := by decide +kernel
theorem dX12_comesIn_94 : decode cX12_comesIn 94 = .ok (.iadd, 1) := by decide +kernel
theorem dX12_comesIn_95 : decode cX12_comesIn 95 = .ok (.iaload, 1) := by decide +kernel
theorem dX12_comesIn_96 : decode cX12_comesIn 96 = .ok (.iconst 1, 1) := by decide +kernel
theorem dX12_comesIn_97 : decode cX12_comesIn 97 = .ok (.if_icmp .ne 19, 3) := by decide +kernel
theorem dX12_comesIn_100 : decode cX12_comesIn 100 = .ok (.aload_n 0, 1) := by decide +kernel
theorem dX12_comesIn_101 : decode cX12_comesIn 101 = .ok (.iload_n 1, 1) := by decide +kernel
theorem dX12_comesIn_102 : decode cX12_comesIn 102 = .ok (.iload_n 2, 1) := by decide +kernel
theorem dX12_comesIn_103 : decode cX12_comesIn 103 = .ok (.iload_n 3, 1) := by decide +kernel
theorem dX12_comesIn_104 : decode cX12_comesIn 104 = .ok (.iload 4, 2) := by decide +kernel
theorem dX12_comesIn_106 : decode cX12_comesIn 106 = .ok (.iload 5, 2) := by decide +kernel
theorem dX12_comesIn_108 : decode cX12_comesIn 108 = .ok (.invokevirtual 138, 3) := by decide +kernel
theorem dX12_comesIn_111 : decode cX12_comesIn 111 = .ok (.ifCond .eq 5, 3) := by decide +kernel
theorem dX12_comesIn_114 : decode cX12_comesIn 114 = .ok (.iconst 2, 1) := by decide +kernel
theorem dX12_comesIn_115 : decode cX12_comesIn 115 = .ok (.ireturn, 1) := by decide +kernel
theorem dX12_comesIn_116 : decode cX12_comesIn 116 = .ok (.aload_n 0, 1) := by decide +kernel
theorem dX12_comesIn_117 : decode cX12_comesIn 117 = .ok (.getfield 7, 3) := by decide +kernel
theorem dX12_comesIn_120 : decode cX12_comesIn 120 = .ok (.iload_n 1, 1) := by decide +kernel
theorem dX12_comesIn_121 : decode cX12_comesIn 121 = .ok (.bipush 18, 2) := by decide +kernel
theorem dX12_comesIn_123 : decode cX12_comesIn 123 = .ok (.iadd, 1) := by decide +kernel
theorem dX12_comesIn_124 : decode cX12_comesIn 124 = .ok (.iaload, 1) := by decide +kernel
theorem dX12_comesIn_125 : decode cX12_comesIn 125 = .ok (.aload_n 0, 1) := by decide +kernel
theorem dX12_comesIn_126 : decode cX12_comesIn 126 = .ok (.getfield 7, 3) := by decide +kernel
theorem dX12_comesIn_129 : decode cX12_comesIn 129 = .ok (.iload_n 1, 1) := by decide +kernel
theorem dX12_comesIn_130 : decode cX12_comesIn 130 = .ok (.iconst 2, 1) := by decide +kernel
theorem dX12_comesIn_131 : decode cX12_comesIn 131 = .ok (.iadd, 1) := by decide +kernel
theorem dX12_comesIn_132 : decode cX12_comesIn 132 = .ok (.iaload, 1) := by decide +kernel
theorem dX12_comesIn_133 : decode cX12_comesIn 133 = .ok (.if_icmp .ne 5, 3) := by decide +kernel
theorem dX12_comesIn_136 : decode cX12_comesIn 136 = .ok (.iconst 0, 1) := by decide +kernel
theorem dX12_comesIn_137 : decode cX12_comesIn 137 = .ok (.ireturn, 1) := by decide +kernel
theorem dX12_comesIn_138 : decode cX12_comesIn 138 = .ok (.aload_n 0, 1) := by decide +kernel
theorem dX12_comesIn_139 : decode cX12_comesIn 139 = .ok (.iload_n 1, 1) := by decide +kernel
theorem dX12_comesIn_140 : decode cX12_comesIn 140 = .ok (.bipush 100, 2) := by decide +kernel
theorem dX12_comesIn_142 : decode cX12_comesIn 142 = .ok (.aload_n 0, 1) := by decide +kernel
theorem dX12_comesIn_143 : decode cX12_comesIn 143 = .ok (.getfield 7, 3) := by decide +kernel
theorem dX12_comesIn_146 : decode cX12_comesIn 146 = .ok (.iload_n 1, 1) := by decide +kernel
theorem dX12_comesIn_147 : decode cX12_comesIn 147 = .ok (.bipush 18, 2) := by decide +kernel
theorem dX12_comesIn_149 : decode cX12_comesIn 149 = .ok (.iadd, 1) := by decide +kernel
theorem dX12_comesIn_150 : decode cX12_comesIn 150 = .ok (.iaload, 1) := by decide +kernel
theorem dX12_comesIn_151 : decode cX12_comesIn 151 = .ok (.invokestatic 92, 3) := by decide +kernel
theorem dX12_comesIn_154 : decode cX12_comesIn 154 = .ok (.iload_n 2, 1) := by decide +kernel
theorem dX12_comesIn_155 : decode cX12_comesIn 155 = .ok (.iload_n 3, 1) := by decide +kernel
theorem dX12_comesIn_156 : decode cX12_comesIn 156 = .ok (.iload 4, 2) := by decide +kernel
theorem dX12_comesIn_158 : decode cX12_comesIn 158 = .ok (.iload 5, 2) := by decide +kernel
theorem dX12_comesIn_160 : decode cX12_comesIn 160 = .ok (.invokevirtual 128, 3) := by decide +kernel
theorem dX12_comesIn_163 : decode cX12_comesIn 163 = .ok (.aload_n 0, 1) := by decide +kernel
theorem dX12_comesIn_164 : decode cX12_comesIn 164 = .ok (.getfield 7, 3) := by decide +kernel
theorem dX12_comesIn_167 : decode cX12_comesIn 167 = .ok (.iload_n 1, 1) := by decide +kernel
theorem dX12_comesIn_168 : decode cX12_comesIn 168 = .ok (.bipush 18, 2) := by decide +kernel
theorem dX12_comesIn_170 : decode cX12_comesIn 170 = .ok (.iadd, 1) := by decide +kernel
theorem dX12_comesIn_171 : decode cX12_comesIn 171 = .ok (.dup2, 1) := by decide +kernel
theorem dX12_comesIn_172 : decode cX12_comesIn 172 = .ok (.iaload, 1) := by decide +kernel
theorem dX12_comesIn_173 : decode cX12_comesIn 173 = .ok (.iconst 1, 1) := by decide +kernel
theorem dX12_comesIn_174 : decode cX12_comesIn 174 = .ok (.iadd, 1) := by decide +kernel
theorem dX12_comesIn_175 : decode cX12_comesIn 175 = .ok (.iastore, 1) := by decide +kernel
theorem dX12_comesIn_176 : decode cX12_comesIn 176 = .ok (.iconst 3, 1) := by decide +kernel
theorem dX12_comesIn_177 : decode cX12_comesIn 177 = .ok (.ireturn, 1) := by decide +kernel
theorem dX12_lists_0 : decode cX12_lists 0 = .ok (.aload_n 0, 1) := by decide +kernel
theorem dX12_lists_1 : decode cX12_lists 1 = .ok (.iconst 0, 1) := by decide +kernel
theorem dX12_lists_2 : decode cX12_lists 2 = .ok (.putfield 142, 3) := by decide +kernel
theorem dX12_lists_5 : decode cX12_lists 5 = .ok (.iconst 0, 1) := by decide +kernel
theorem dX12_lists_6 : decode cX12_lists 6 = .ok (.istore_n 2, 1) := by decide +kernel
theorem dX12_lists_7 : decode cX12_lists 7 = .ok (.iload_n 2, 1) := by decide +kernel
theorem dX12_lists_8 : decode cX12_lists 8 = .ok (.aload_n 0, 1) := by decide +kernel
theorem dX12_lists_9 : decode cX12_lists 9 = .ok (.getfield 7, 3) := by decide +kernel
theorem dX12_lists_12 : decode cX12_lists 12 = .ok (.iload_n 1, 1) := by decide +kernel
theorem dX12_lists_13 : decode cX12_lists 13 = .ok (.iconst 0, 1) := by decide +kernel
theorem dX12_lists_14 : decode cX12_lists 14 = .ok (.iadd, 1) := by decide +kernel
theorem dX12_lists_15 : decode cX12_lists 15 = .ok (.iaload, 1) := by decide +kernel
theorem dX12_lists_16 : decode cX12_lists 16 = .ok (.if_icmp .ge 39, 3) := by decide +kernel
theorem dX12_lists_19 : decode cX12_lists 19 = .ok (.iconst 0, 1) := by decide +kernel
theorem dX12_lists_20 : decode cX12_lists 20 = .ok (.istore_n 3, 1) := by decide +kernel
theorem dX12_lists_21 : decode cX12_lists 21 = .ok (.iload_n 3, 1) := by decide +kernel
theorem dX12_lists_22 : decode cX12_lists 22 = .ok (.aload_n 0, 1) := by decide +kernel
theorem dX12_lists_23 : decode cX12_lists 23 = .ok (.getfield 7, 3) := by decide +kernel
theorem dX12_lists_26 : decode cX12_lists 26 = .ok (.iload_n 1, 1) := by decide +kernel
theorem dX12_lists_27 : decode cX12_lists 27 = .ok (.iconst 1, 1) := by decide +kernel
theorem dX12_lists_28 : decode cX12_lists 28 = .ok (.iadd, 1) := by decide +kernel
theorem dX12_lists_29 : decode cX12_lists 29 = .ok (.iaload, 1) := by decide +kernel
theorem dX12_lists_30 : decode cX12_lists 30 = .ok (.if_icmp .ge 19, 3) := by decide +kernel
theorem dX12_lists_33 : decode cX12_lists 33 = .ok (.aload_n 0, 1) := by decide +kernel
theorem dX12_lists_34 : decode cX12_lists 34 = .ok (.iload_n 1, 1) := by decide +kernel
theorem dX12_lists_35 : decode cX12_lists 35 = .ok (.iload_n 2, 1) := by decide +kernel
theorem dX12_lists_36 : decode cX12_lists 36 = .ok (.iload_n 3, 1) := by decide +kernel
theorem dX12_lists_37 : decode cX12_lists 37 = .ok (.invokestatic 92, 3) := by decide +kernel
theorem dX12_lists_40 : decode cX12_lists 40 = .ok (.invokevirtual 145, 3) := by decide +kernel
theorem dX12_lists_43 : decode cX12_lists 43 = .ok (.iinc 3 1, 3) := by decide +kernel
theorem dX12_lists_46 : decode cX12_lists 46 = .ok (.goto (-25), 3) := by decide +kernel
theorem dX12_lists_49 : decode cX12_lists 49 = .ok (.iinc 2 1, 3) := by decide +kernel
theorem dX12_lists_52 : decode cX12_lists 52 = .ok (.goto (-45), 3) := by decide +kernel
theorem dX12_lists_55 : decode cX12_lists 55 = .ok (.iconst 0, 1) := by decide +kernel
theorem dX12_lists_56 : decode cX12_lists 56 = .ok (.istore_n 2, 1) := by decide +kernel
theorem dX12_lists_57 : decode cX12_lists 57 = .ok (.iload_n 2, 1) := by decide +kernel
theorem dX12_lists_58 : decode cX12_lists 58 = .ok (.aload_n 0, 1) := by decide +kernel
theorem dX12_lists_59 : decode cX12_lists 59 = .ok (.getfield 7, 3) := by decide +kernel
theorem dX12_lists_62 : decode cX12_lists 62 = .ok (.iload_n 1, 1) := by decide +kernel
theorem dX12_lists_63 : decode cX12_lists 63 = .ok (.bipush 18, 2) := by decide +kernel
theorem dX12_lists_65 : decode cX12_lists 65 = .ok (.iadd, 1) := by decide +kernel
theorem dX12_lists_66 : decode cX12_lists 66 = .ok (.iaload, 1) := by decide +kernel
theorem dX12_lists_67 : decode cX12_lists 67 = .ok (.if_icmp .ge 20, 3) := by decide +kernel
theorem dX12_lists_70 : decode cX12_lists 70 = .ok (.aload_n 0, 1) := by decide +kernel
theorem dX12_lists_71 : decode cX12_lists 71 = .ok (.iload_n 1, 1) := by decide +kernel
theorem dX12_lists_72 : decode cX12_lists 72 = .ok (.bipush 100, 2) := by decide +kernel
theorem dX12_lists_74 : decode cX12_lists 74 = .ok (.iload_n 2, 1) := by decide +kernel
theorem dX12_lists_75 : decode cX12_lists 75 = .ok (.invokestatic 92, 3) := by decide +kernel
theorem dX12_lists_78 : decode cX12_lists 78 = .ok (.invokevirtual 145, 3) := by decide +kernel
theorem dX12_lists_81 : decode cX12_lists 81 = .ok (.iinc 2 1, 3) := by decide +kernel
theorem dX12_lists_84 : decode cX12_lists 84 = .ok (.goto (-27), 3) := by decide +kernel
theorem dX12_lists_87 : decode cX12_lists 87 = .ok (.return_, 1) := by decide +kernel
theorem dX12_adds_0 : decode cX12_adds 0 = .ok (.aload_n 0, 1) := by decide +kernel
theorem dX12_adds_1 : decode cX12_adds 1 = .ok (.iload_n 1, 1) := by decide +kernel
theorem dX12_adds_2 : decode cX12_adds 2 = .ok (.invokevirtual 95, 3) := by decide +kernel
theorem dX12_adds_5 : decode cX12_adds 5 = .ok (.ifCond .ne 4, 3) := by decide +kernel
theorem dX12_adds_8 : decode cX12_adds 8 = .ok (.return_, 1) := by decide +kernel
theorem dX12_adds_9 : decode cX12_adds 9 = .ok (.iconst 0, 1) := by decide +kernel
theorem dX12_adds_10 : decode cX12_adds 10 = .ok (.istore_n 2, 1) := by decide +kernel
theorem dX12_adds_11 : decode cX12_adds 11 = .ok (.iload_n 2, 1) := by decide +kernel
theorem dX12_adds_12 : decode cX12_adds 12 = .ok (.iconst 4, 1) := by decide +kernel
theorem dX12_adds_13 : decode cX12_adds 13 = .ok (.if_icmp .ge 30, 3) := by decide +kernel
theorem dX12_adds_16 : decode cX12_adds 16 = .ok (.aload_n 0, 1) := by decide +kernel
theorem dX12_adds_17 : decode cX12_adds 17 = .ok (.getfield 39, 3) := by decide +kernel
theorem dX12_adds_20 : decode cX12_adds 20 = .ok (.iconst 4, 1) := by decide +kernel
theorem dX12_adds_21 : decode cX12_adds 21 = .ok (.aload_n 0, 1) := by decide +kernel
theorem dX12_adds_22 : decode cX12_adds 22 = .ok (.getfield 142, 3) := by decide +kernel
theorem dX12_adds_25 : decode cX12_adds 25 = .ok (.imul, 1) := by decide +kernel
theorem dX12_adds_26 : decode cX12_adds 26 = .ok (.iload_n 2, 1) := by decide +kernel
theorem dX12_adds_27 : decode cX12_adds 27 = .ok (.iadd, 1) := by decide +kernel
theorem dX12_adds_28 : decode cX12_adds 28 = .ok (.aload_n 0, 1) := by decide +kernel
theorem dX12_adds_29 : decode cX12_adds 29 = .ok (.getfield 7, 3) := by decide +kernel
theorem dX12_adds_32 : decode cX12_adds 32 = .ok (.iload_n 1, 1) := by decide +kernel
theorem dX12_adds_33 : decode cX12_adds 33 = .ok (.iload_n 2, 1) := by decide +kernel
theorem dX12_adds_34 : decode cX12_adds 34 = .ok (.iadd, 1) := by decide +kernel
theorem dX12_adds_35 : decode cX12_adds 35 = .ok (.iaload, 1) := by decide +kernel
theorem dX12_adds_36 : decode cX12_adds 36 = .ok (.iastore, 1) := by decide +kernel
theorem dX12_adds_37 : decode cX12_adds 37 = .ok (.iinc 2 1, 3) := by decide +kernel
theorem dX12_adds_40 : decode cX12_adds 40 = .ok (.goto (-29), 3) := by decide +kernel
theorem dX12_adds_43 : decode cX12_adds 43 = .ok (.aload_n 0, 1) := by decide +kernel
theorem dX12_adds_44 : decode cX12_adds 44 = .ok (.dup, 1) := by decide +kernel
theorem dX12_adds_45 : decode cX12_adds 45 = .ok (.getfield 142, 3) := by decide +kernel
theorem dX12_adds_48 : decode cX12_adds 48 = .ok (.iconst 1, 1) := by decide +kernel
theorem dX12_adds_49 : decode cX12_adds 49 = .ok (.iadd, 1) := by decide +kernel
theorem dX12_adds_50 : decode cX12_adds 50 = .ok (.putfield 142, 3) := by decide +kernel
theorem dX12_adds_53 : decode cX12_adds 53 = .ok (.return_, 1) := by decide +kernel
theorem dX12_addsNew_0 : decode cX12_addsNew 0 = .ok (.aload_n 0, 1) := by decide +kernel
theorem dX12_addsNew_1 : decode cX12_addsNew 1 = .ok (.getfield 39, 3) := by decide +kernel
theorem dX12_addsNew_4 : decode cX12_addsNew 4 = .ok (.iconst 4, 1) := by decide +kernel
theorem dX12_addsNew_5 : decode cX12_addsNew 5 = .ok (.aload_n 0, 1) := by decide +kernel
theorem dX12_addsNew_6 : decode cX12_addsNew 6 = .ok (.getfield 142, 3) := by decide +kernel
theorem dX12_addsNew_9 : decode cX12_addsNew 9 = .ok (.imul, 1) := by decide +kernel
theorem dX12_addsNew_10 : decode cX12_addsNew 10 = .ok (.iload_n 1, 1) := by decide +kernel
theorem dX12_addsNew_11 : decode cX12_addsNew 11 = .ok (.iconst 1, 1) := by decide +kernel
theorem dX12_addsNew_12 : decode cX12_addsNew 12 = .ok (.iadd, 1) := by decide +kernel
theorem dX12_addsNew_13 : decode cX12_addsNew 13 = .ok (.iastore, 1) := by decide +kernel
theorem dX12_addsNew_14 : decode cX12_addsNew 14 = .ok (.aload_n 0, 1) := by decide +kernel
theorem dX12_addsNew_15 : decode cX12_addsNew 15 = .ok (.getfield 39, 3) := by decide +kernel
theorem dX12_addsNew_18 : decode cX12_addsNew 18 = .ok (.iconst 4, 1) := by decide +kernel
theorem dX12_addsNew_19 : decode cX12_addsNew 19 = .ok (.aload_n 0, 1) := by decide +kernel
theorem dX12_addsNew_20 : decode cX12_addsNew 20 = .ok (.getfield 142, 3) := by decide +kernel
theorem dX12_addsNew_23 : decode cX12_addsNew 23 = .ok (.imul, 1) := by decide +kernel
theorem dX12_addsNew_24 : decode cX12_addsNew 24 = .ok (.iconst 1, 1) := by decide +kernel
theorem dX12_addsNew_25 : decode cX12_addsNew 25 = .ok (.iadd, 1) := by decide +kernel
theorem dX12_addsNew_26 : decode cX12_addsNew 26 = .ok (.iload_n 2, 1) := by decide +kernel
theorem dX12_addsNew_27 : decode cX12_addsNew 27 = .ok (.iastore, 1) := by decide +kernel
theorem dX12_addsNew_28 : decode cX12_addsNew 28 = .ok (.aload_n 0, 1) := by decide +kernel
theorem dX12_addsNew_29 : decode cX12_addsNew 29 = .ok (.getfield 39, 3) := by decide +kernel
theorem dX12_addsNew_32 : decode cX12_addsNew 32 = .ok (.iconst 4, 1) := by decide +kernel
theorem dX12_addsNew_33 : decode cX12_addsNew 33 = .ok (.aload_n 0, 1) := by decide +kernel
theorem dX12_addsNew_34 : decode cX12_addsNew 34 = .ok (.getfield 142, 3) := by decide +kernel
theorem dX12_addsNew_37 : decode cX12_addsNew 37 = .ok (.imul, 1) := by decide +kernel
theorem dX12_addsNew_38 : decode cX12_addsNew 38 = .ok (.iconst 2, 1) := by decide +kernel
theorem dX12_addsNew_39 : decode cX12_addsNew 39 = .ok (.iadd, 1) := by decide +kernel
theorem dX12_addsNew_40 : decode cX12_addsNew 40 = .ok (.iload_n 3, 1) := by decide +kernel
theorem dX12_addsNew_41 : decode cX12_addsNew 41 = .ok (.iastore, 1) := by decide +kernel
theorem dX12_addsNew_42 : decode cX12_addsNew 42 = .ok (.aload_n 0, 1) := by decide +kernel
theorem dX12_addsNew_43 : decode cX12_addsNew 43 = .ok (.getfield 39, 3) := by decide +kernel
theorem dX12_addsNew_46 : decode cX12_addsNew 46 = .ok (.iconst 4, 1) := by decide +kernel
theorem dX12_addsNew_47 : decode cX12_addsNew 47 = .ok (.aload_n 0, 1) := by decide +kernel
theorem dX12_addsNew_48 : decode cX12_addsNew 48 = .ok (.getfield 142, 3) := by decide +kernel
theorem dX12_addsNew_51 : decode cX12_addsNew 51 = .ok (.imul, 1) := by decide +kernel
theorem dX12_addsNew_52 : decode cX12_addsNew 52 = .ok (.iconst 3, 1) := by decide +kernel
theorem dX12_addsNew_53 : decode cX12_addsNew 53 = .ok (.iadd, 1) := by decide +kernel
theorem dX12_addsNew_54 : decode cX12_addsNew 54 = .ok (.iconst 0, 1) := by decide +kernel
theorem dX12_addsNew_55 : decode cX12_addsNew 55 = .ok (.iastore, 1) := by decide +kernel
theorem dX12_addsNew_56 : decode cX12_addsNew 56 = .ok (.aload_n 0, 1) := by decide +kernel
