theorem dX9_init_0 : decode cX9_init 0 = .ok (.aload_n 0, 1) := by decide +kernel
theorem dX9_init_1 : decode cX9_init 1 = .ok (.invokespecial 3, 3) := by decide +kernel
theorem dX9_init_4 : decode cX9_init 4 = .ok (.aload_n 0, 1) := by decide +kernel
theorem dX9_init_5 : decode cX9_init 5 = .ok (.new 9, 3) := by decide +kernel
theorem dX9_init_8 : decode cX9_init 8 = .ok (.dup, 1) := by decide +kernel
theorem dX9_init_9 : decode cX9_init 9 = .ok (.invokespecial 11, 3) := by decide +kernel
theorem dX9_init_12 : decode cX9_init 12 = .ok (.putfield 12, 3) := by decide +kernel
theorem dX9_init_15 : decode cX9_init 15 = .ok (.aload_n 0, 1) := by decide +kernel
theorem dX9_init_16 : decode cX9_init 16 = .ok (.bipush 32, 2) := by decide +kernel
theorem dX9_init_18 : decode cX9_init 18 = .ok (.newarray .int, 2) := by decide +kernel
theorem dX9_init_20 : decode cX9_init 20 = .ok (.putfield 18, 3) := by decide +kernel
theorem dX9_init_23 : decode cX9_init 23 = .ok (.aload_n 0, 1) := by decide +kernel
theorem dX9_init_24 : decode cX9_init 24 = .ok (.iload_n 1, 1) := by decide +kernel
theorem dX9_init_25 : decode cX9_init 25 = .ok (.iconst 1, 1) := by decide +kernel
theorem dX9_init_26 : decode cX9_init 26 = .ok (.if_icmp .ge 7, 3) := by decide +kernel
theorem dX9_init_29 : decode cX9_init 29 = .ok (.iconst 1, 1) := by decide +kernel
theorem dX9_init_30 : decode cX9_init 30 = .ok (.goto 4, 3) := by decide +kernel
theorem dX9_init_33 : decode cX9_init 33 = .ok (.iload_n 1, 1) := by decide +kernel
theorem dX9_init_34 : decode cX9_init 34 = .ok (.putfield 22, 3) := by decide +kernel
theorem dX9_init_37 : decode cX9_init 37 = .ok (.aload_n 0, 1) := by decide +kernel
theorem dX9_init_38 : decode cX9_init 38 = .ok (.aload_n 0, 1) := by decide +kernel
theorem dX9_init_39 : decode cX9_init 39 = .ok (.getfield 22, 3) := by decide +kernel
theorem dX9_init_42 : decode cX9_init 42 = .ok (.iconst 4, 1) := by decide +kernel
theorem dX9_init_43 : decode cX9_init 43 = .ok (.iadd, 1) := by decide +kernel
theorem dX9_init_44 : decode cX9_init 44 = .ok (.putfield 26, 3) := by decide +kernel
theorem dX9_init_47 : decode cX9_init 47 = .ok (.aload_n 0, 1) := by decide +kernel
theorem dX9_init_48 : decode cX9_init 48 = .ok (.aload_n 0, 1) := by decide +kernel
theorem dX9_init_49 : decode cX9_init 49 = .ok (.getfield 26, 3) := by decide +kernel
theorem dX9_init_52 : decode cX9_init 52 = .ok (.iconst 1, 1) := by decide +kernel
theorem dX9_init_53 : decode cX9_init 53 = .ok (.iadd, 1) := by decide +kernel
theorem dX9_init_54 : decode cX9_init 54 = .ok (.newarray .int, 2) := by decide +kernel
theorem dX9_init_56 : decode cX9_init 56 = .ok (.putfield 29, 3) := by decide +kernel
theorem dX9_init_59 : decode cX9_init 59 = .ok (.aload_n 0, 1) := by decide +kernel
theorem dX9_init_60 : decode cX9_init 60 = .ok (.aload_n 0, 1) := by decide +kernel
theorem dX9_init_61 : decode cX9_init 61 = .ok (.getfield 26, 3) := by decide +kernel
theorem dX9_init_64 : decode cX9_init 64 = .ok (.iconst 1, 1) := by decide +kernel
theorem dX9_init_65 : decode cX9_init 65 = .ok (.iadd, 1) := by decide +kernel
theorem dX9_init_66 : decode cX9_init 66 = .ok (.newarray .int, 2) := by decide +kernel
theorem dX9_init_68 : decode cX9_init 68 = .ok (.putfield 32, 3) := by decide +kernel
theorem dX9_init_71 : decode cX9_init 71 = .ok (.aload_n 0, 1) := by decide +kernel
theorem dX9_init_72 : decode cX9_init 72 = .ok (.aload_n 0, 1) := by decide +kernel
theorem dX9_init_73 : decode cX9_init 73 = .ok (.getfield 26, 3) := by decide +kernel
theorem dX9_init_76 : decode cX9_init 76 = .ok (.iconst 1, 1) := by decide +kernel
theorem dX9_init_77 : decode cX9_init 77 = .ok (.iadd, 1) := by decide +kernel
theorem dX9_init_78 : decode cX9_init 78 = .ok (.newarray .int, 2) := by decide +kernel
theorem dX9_init_80 : decode cX9_init 80 = .ok (.putfield 35, 3) := by decide +kernel
theorem dX9_init_83 : decode cX9_init 83 = .ok (.aload_n 0, 1) := by decide +kernel
theorem dX9_init_84 : decode cX9_init 84 = .ok (.aload_n 0, 1) := by decide +kernel
theorem dX9_init_85 : decode cX9_init 85 = .ok (.getfield 26, 3) := by decide +kernel
theorem dX9_init_88 : decode cX9_init 88 = .ok (.iconst 1, 1) := by decide +kernel
theorem dX9_init_89 : decode cX9_init 89 = .ok (.iadd, 1) := by decide +kernel
theorem dX9_init_90 : decode cX9_init 90 = .ok (.newarray .int, 2) := by decide +kernel
theorem dX9_init_92 : decode cX9_init 92 = .ok (.putfield 38, 3) := by decide +kernel
theorem dX9_init_95 : decode cX9_init 95 = .ok (.aload_n 0, 1) := by decide +kernel
theorem dX9_init_96 : decode cX9_init 96 = .ok (.aload_n 0, 1) := by decide +kernel
theorem dX9_init_97 : decode cX9_init 97 = .ok (.getfield 26, 3) := by decide +kernel
theorem dX9_init_100 : decode cX9_init 100 = .ok (.iconst 1, 1) := by decide +kernel
theorem dX9_init_101 : decode cX9_init 101 = .ok (.iadd, 1) := by decide +kernel
theorem dX9_init_102 : decode cX9_init 102 = .ok (.newarray .int, 2) := by decide +kernel
theorem dX9_init_104 : decode cX9_init 104 = .ok (.putfield 41, 3) := by decide +kernel
theorem dX9_init_107 : decode cX9_init 107 = .ok (.aload_n 0, 1) := by decide +kernel
theorem dX9_init_108 : decode cX9_init 108 = .ok (.aload_n 0, 1) := by decide +kernel
theorem dX9_init_109 : decode cX9_init 109 = .ok (.getfield 26, 3) := by decide +kernel
theorem dX9_init_112 : decode cX9_init 112 = .ok (.iconst 1, 1) := by decide +kernel
theorem dX9_init_113 : decode cX9_init 113 = .ok (.iadd, 1) := by decide +kernel
theorem dX9_init_114 : decode cX9_init 114 = .ok (.newarray .int, 2) := by decide +kernel
theorem dX9_init_116 : decode cX9_init 116 = .ok (.putfield 44, 3) := by decide +kernel
theorem dX9_init_119 : decode cX9_init 119 = .ok (.aload_n 0, 1) := by decide +kernel
theorem dX9_init_120 : decode cX9_init 120 = .ok (.invokevirtual 47, 3) := by decide +kernel
theorem dX9_init_123 : decode cX9_init 123 = .ok (.return_, 1) := by decide +kernel
theorem dX9_begin_0 : decode cX9_begin 0 = .ok (.aload_n 0, 1) := by decide +kernel
theorem dX9_begin_1 : decode cX9_begin 1 = .ok (.getfield 12, 3) := by decide +kernel
theorem dX9_begin_4 : decode cX9_begin 4 = .ok (.aload_n 1, 1) := by decide +kernel
theorem dX9_begin_5 : decode cX9_begin 5 = .ok (.invokevirtual 50, 3) := by decide +kernel
theorem dX9_begin_8 : decode cX9_begin 8 = .ok (.aload_n 0, 1) := by decide +kernel
theorem dX9_begin_9 : decode cX9_begin 9 = .ok (.invokevirtual 47, 3) := by decide +kernel
theorem dX9_begin_12 : decode cX9_begin 12 = .ok (.aload_n 0, 1) := by decide +kernel
theorem dX9_begin_13 : decode cX9_begin 13 = .ok (.iconst 0, 1) := by decide +kernel
theorem dX9_begin_14 : decode cX9_begin 14 = .ok (.putfield 54, 3) := by decide +kernel
theorem dX9_begin_17 : decode cX9_begin 17 = .ok (.aload_n 0, 1) := by decide +kernel
theorem dX9_begin_18 : decode cX9_begin 18 = .ok (.iconst 0, 1) := by decide +kernel
theorem dX9_begin_19 : decode cX9_begin 19 = .ok (.putfield 57, 3) := by decide +kernel
theorem dX9_begin_22 : decode cX9_begin 22 = .ok (.aload_n 0, 1) := by decide +kernel
theorem dX9_begin_23 : decode cX9_begin 23 = .ok (.iconst 0, 1) := by decide +kernel
theorem dX9_begin_24 : decode cX9_begin 24 = .ok (.putfield 60, 3) := by decide +kernel
theorem dX9_begin_27 : decode cX9_begin 27 = .ok (.aload_n 0, 1) := by decide +kernel
theorem dX9_begin_28 : decode cX9_begin 28 = .ok (.iconst 0, 1) := by decide +kernel
theorem dX9_begin_29 : decode cX9_begin 29 = .ok (.putfield 63, 3) := by decide +kernel
theorem dX9_begin_32 : decode cX9_begin 32 = .ok (.aload_n 0, 1) := by decide +kernel
theorem dX9_begin_33 : decode cX9_begin 33 = .ok (.iconst 0, 1) := by decide +kernel
theorem dX9_begin_34 : decode cX9_begin 34 = .ok (.putfield 66, 3) := by decide +kernel
theorem dX9_begin_37 : decode cX9_begin 37 = .ok (.aload_n 0, 1) := by decide +kernel
theorem dX9_begin_38 : decode cX9_begin 38 = .ok (.iconst 0, 1) := by decide +kernel
theorem dX9_begin_39 : decode cX9_begin 39 = .ok (.putfield 69, 3) := by decide +kernel
theorem dX9_begin_42 : decode cX9_begin 42 = .ok (.return_, 1) := by decide +kernel
theorem dX9_clear_0 : decode cX9_clear 0 = .ok (.aload_n 0, 1) := by decide +kernel
theorem dX9_clear_1 : decode cX9_clear 1 = .ok (.getfield 29, 3) := by decide +kernel
theorem dX9_clear_4 : decode cX9_clear 4 = .ok (.iconst (-1), 1) := by decide +kernel
theorem dX9_clear_5 : decode cX9_clear 5 = .ok (.invokestatic 72, 3) := by decide +kernel
theorem dX9_clear_8 : decode cX9_clear 8 = .ok (.aload_n 0, 1) := by decide +kernel
theorem dX9_clear_9 : decode cX9_clear 9 = .ok (.getfield 18, 3) := by decide +kernel
theorem dX9_clear_12 : decode cX9_clear 12 = .ok (.iconst 0, 1) := by decide +kernel
theorem dX9_clear_13 : decode cX9_clear 13 = .ok (.invokestatic 72, 3) := by decide +kernel
theorem dX9_clear_16 : decode cX9_clear 16 = .ok (.aload_n 0, 1) := by decide +kernel
theorem dX9_clear_17 : decode cX9_clear 17 = .ok (.iconst 0, 1) := by decide +kernel
theorem dX9_clear_18 : decode cX9_clear 18 = .ok (.putfield 77, 3) := by decide +kernel
theorem dX9_clear_21 : decode cX9_clear 21 = .ok (.return_, 1) := by decide +kernel
theorem dX9_copyFrom_0 : decode cX9_copyFrom 0 = .ok (.aload_n 1, 1) := by decide +kernel
theorem dX9_copyFrom_1 : decode cX9_copyFrom 1 = .ok (.getfield 22, 3) := by decide +kernel
theorem dX9_copyFrom_4 : decode cX9_copyFrom 4 = .ok (.aload_n 0, 1) := by decide +kernel
theorem dX9_copyFrom_5 : decode cX9_copyFrom 5 = .ok (.getfield 22, 3) := by decide +kernel
theorem dX9_copyFrom_8 : decode cX9_copyFrom 8 = .ok (.if_icmp .eq 4, 3) := by decide +kernel
theorem dX9_copyFrom_11 : decode cX9_copyFrom 11 = .ok (.return_, 1) := by decide +kernel
theorem dX9_copyFrom_12 : decode cX9_copyFrom 12 = .ok (.aload_n 0, 1) := by decide +kernel
theorem dX9_copyFrom_13 : decode cX9_copyFrom 13 = .ok (.getfield 12, 3) := by decide +kernel
theorem dX9_copyFrom_16 : decode cX9_copyFrom 16 = .ok (.aload_n 1, 1) := by decide +kernel
theorem dX9_copyFrom_17 : decode cX9_copyFrom 17 = .ok (.getfield 12, 3) := by decide +kernel
theorem dX9_copyFrom_20 : decode cX9_copyFrom 20 = .ok (.invokevirtual 50, 3) := by decide +kernel
theorem dX9_copyFrom_23 : decode cX9_copyFrom 23 = .ok (.aload_n 1, 1) := by decide +kernel
theorem dX9_copyFrom_24 : decode cX9_copyFrom 24 = .ok (.getfield 29, 3) := by decide +kernel
theorem dX9_copyFrom_27 : decode cX9_copyFrom 27 = .ok (.iconst 0, 1) := by decide +kernel
theorem dX9_copyFrom_28 : decode cX9_copyFrom 28 = .ok (.aload_n 0, 1) := by decide +kernel
theorem dX9_copyFrom_29 : decode cX9_copyFrom 29 = .ok (.getfield 29, 3) := by decide +kernel
theorem dX9_copyFrom_32 : decode cX9_copyFrom 32 = .ok (.iconst 0, 1) := by decide +kernel
theorem dX9_copyFrom_33 : decode cX9_copyFrom 33 = .ok (.aload_n 0, 1) := by decide +kernel
theorem dX9_copyFrom_34 : decode cX9_copyFrom 34 = .ok (.getfield 26, 3) := by decide +kernel
theorem dX9_copyFrom_37 : decode cX9_copyFrom 37 = .ok (.iconst 1, 1) := by decide +kernel
theorem dX9_copyFrom_38 : decode cX9_copyFrom 38 = .ok (.iadd, 1) := by decide +kernel
theorem dX9_copyFrom_39 : decode cX9_copyFrom 39 = .ok (.invokestatic 80, 3) := by decide +kernel
theorem dX9_copyFrom_42 : decode cX9_copyFrom 42 = .ok (.aload_n 1, 1) := by decide +kernel
theorem dX9_copyFrom_43 : decode cX9_copyFrom 43 = .ok (.getfield 32, 3) := by decide +kernel
theorem dX9_copyFrom_46 : decode cX9_copyFrom 46 = .ok (.iconst 0, 1) := by decide +kernel
theorem dX9_copyFrom_47 : decode cX9_copyFrom 47 = .ok (.aload_n 0, 1) := by decide +kernel
theorem dX9_copyFrom_48 : decode cX9_copyFrom 48 = .ok (.getfield 32, 3) := by decide +kernel
theorem dX9_copyFrom_51 : decode cX9_copyFrom 51 = .ok (.iconst 0, 1) := by decide +kernel
theorem dX9_copyFrom_52 : decode cX9_copyFrom 52 = .ok (.aload_n 0, 1) := by decide +kernel
theorem dX9_copyFrom_53 : decode cX9_copyFrom 53 = .ok (.getfield 26, 3) := by decide +kernel
theorem dX9_copyFrom_56 : decode cX9_copyFrom 56 = .ok (.iconst 1, 1) := by decide +kernel
theorem dX9_copyFrom_57 : decode cX9_copyFrom 57 = .ok (.iadd, 1) := by decide +kernel
theorem dX9_copyFrom_58 : decode cX9_copyFrom 58 = .ok (.invokestatic 80, 3) := by decide +kernel
theorem dX9_copyFrom_61 : decode cX9_copyFrom 61 = .ok (.aload_n 1, 1) := by decide +kernel
theorem dX9_copyFrom_62 : decode cX9_copyFrom 62 = .ok (.getfield 35, 3) := by decide +kernel
theorem dX9_copyFrom_65 : decode cX9_copyFrom 65 = .ok (.iconst 0, 1) := by decide +kernel
theorem dX9_copyFrom_66 : decode cX9_copyFrom 66 = .ok (.aload_n 0, 1) := by decide +kernel
theorem dX9_copyFrom_67 : decode cX9_copyFrom 67 = .ok (.getfield 35, 3) := by decide +kernel
theorem dX9_copyFrom_70 : decode cX9_copyFrom 70 = .ok (.iconst 0, 1) := by decide +kernel
theorem dX9_copyFrom_71 : decode cX9_copyFrom 71 = .ok (.aload_n 0, 1) := by decide +kernel
theorem dX9_copyFrom_72 : decode cX9_copyFrom 72 = .ok (.getfield 26, 3) := by decide +kernel
theorem dX9_copyFrom_75 : decode cX9_copyFrom 75 = .ok (.iconst 1, 1) := by decide +kernel
theorem dX9_copyFrom_76 : decode cX9_copyFrom 76 = .ok (.iadd, 1) := by decide +kernel
theorem dX9_copyFrom_77 : decode cX9_copyFrom 77 = .ok (.invokestatic 80, 3) := by decide +kernel
theorem dX9_copyFrom_80 : decode cX9_copyFrom 80 = .ok (.aload_n 1, 1) := by decide +kernel
theorem dX9_copyFrom_81 : decode cX9_copyFrom 81 = .ok (.getfield 38, 3) := by decide +kernel
theorem dX9_copyFrom_84 : decode cX9_copyFrom 84 = .ok (.iconst 0, 1) := by decide +kernel
theorem dX9_copyFrom_85 : decode cX9_copyFrom 85 = .ok (.aload_n 0, 1) := by decide +kernel
theorem dX9_copyFrom_86 : decode cX9_copyFrom 86 = .ok (.getfield 38, 3) := by decide +kernel
theorem dX9_copyFrom_89 : decode cX9_copyFrom 89 = .ok (.iconst 0, 1) := by decide +kernel
theorem dX9_copyFrom_90 : decode cX9_copyFrom 90 = .ok (.aload_n 0, 1) := by decide +kernel
theorem dX9_copyFrom_91 : decode cX9_copyFrom 91 = .ok (.getfield 26, 3) := by decide +kernel
theorem dX9_copyFrom_94 : decode cX9_copyFrom 94 = .ok (.iconst 1, 1) := by decide +kernel
theorem dX9_copyFrom_95 : decode cX9_copyFrom 95 = .ok (.iadd, 1) := by decide +kernel
theorem dX9_copyFrom_96 : decode cX9_copyFrom 96 = .ok (.invokestatic 80, 3) := by decide +kernel
theorem dX9_copyFrom_99 : decode cX9_copyFrom 99 = .ok (.aload_n 1, 1) := by decide +kernel
theorem dX9_copyFrom_100 : decode cX9_copyFrom 100 = .ok (.getfield 41, 3) := by decide +kernel
theorem dX9_copyFrom_103 : decode cX9_copyFrom 103 = .ok (.iconst 0, 1) := by decide +kernel
theorem dX9_copyFrom_104 : decode cX9_copyFrom 104 = .ok (.aload_n 0, 1) := by decide +kernel
theorem dX9_copyFrom_105 : decode cX9_copyFrom 105 = .ok (.getfield 41, 3) := by decide +kernel
theorem dX9_copyFrom_108 : decode cX9_copyFrom 108 = .ok (.iconst 0, 1) := by decide +kernel
theorem dX9_copyFrom_109 : decode cX9_copyFrom 109 = .ok (.aload_n 0, 1) := by decide +kernel
theorem dX9_copyFrom_110 : decode cX9_copyFrom 110 = .ok (.getfield 26, 3) := by decide +kernel
theorem dX9_copyFrom_113 : decode cX9_copyFrom 113 = .ok (.iconst 1, 1) := by decide +kernel
theorem dX9_copyFrom_114 : decode cX9_copyFrom 114 = .ok (.iadd, 1) := by decide +kernel
theorem dX9_copyFrom_115 : decode cX9_copyFrom 115 = .ok (.invokestatic 80, 3) := by decide +kernel
theorem dX9_copyFrom_118 : decode cX9_copyFrom 118 = .ok (.aload_n 1, 1) := by decide +kernel
theorem dX9_copyFrom_119 : decode cX9_copyFrom 119 = .ok (.getfield 44, 3) := by decide +kernel
theorem dX9_copyFrom_122 : decode cX9_copyFrom 122 = .ok (.iconst 0, 1) := by decide +kernel
theorem dX9_copyFrom_123 : decode cX9_copyFrom 123 = .ok (.aload_n 0, 1) := by decide +kernel
theorem dX9_copyFrom_124 : decode cX9_copyFrom 124 = .ok (.getfield 44, 3) := by decide +kernel
theorem dX9_copyFrom_127 : decode cX9_copyFrom 127 = .ok (.iconst 0, 1) := by decide +kernel
theorem dX9_copyFrom_128 : decode cX9_copyFrom 128 = .ok (.aload_n 0, 1) := by decide +kernel
theorem dX9_copyFrom_129 : decode cX9_copyFrom 129 = .ok (.getfield 26, 3) := by decide +kernel
theorem dX9_copyFrom_132 : decode cX9_copyFrom 132 = .ok (.iconst 1, 1) := by decide +kernel
theorem dX9_copyFrom_133 : decode cX9_copyFrom 133 = .ok (.iadd, 1) := by decide +kernel
theorem dX9_copyFrom_134 : decode cX9_copyFrom 134 = .ok (.invokestatic 80, 3) := by decide +kernel
theorem dX9_copyFrom_137 : decode cX9_copyFrom 137 = .ok (.aload_n 1, 1) := by decide +kernel
theorem dX9_copyFrom_138 : decode cX9_copyFrom 138 = .ok (.getfield 18, 3) := by decide +kernel
theorem dX9_copyFrom_141 : decode cX9_copyFrom 141 = .ok (.iconst 0, 1) := by decide +kernel
theorem dX9_copyFrom_142 : decode cX9_copyFrom 142 = .ok (.aload_n 0, 1) := by decide +kernel
theorem dX9_copyFrom_143 : decode cX9_copyFrom 143 = .ok (.getfield 18, 3) := by decide +kernel
theorem dX9_copyFrom_146 : decode cX9_copyFrom 146 = .ok (.iconst 0, 1) := by decide +kernel
theorem dX9_copyFrom_147 : decode cX9_copyFrom 147 = .ok (.bipush 32, 2) := by decide +kernel
theorem dX9_copyFrom_149 : decode cX9_copyFrom 149 = .ok (.invokestatic 80, 3) := by decide +kernel
theorem dX9_copyFrom_152 : decode cX9_copyFrom 152 = .ok (.aload_n 0, 1) := by decide +kernel
theorem dX9_copyFrom_153 : decode cX9_copyFrom 153 = .ok (.aload_n 1, 1) := by decide +kernel
theorem dX9_copyFrom_154 : decode cX9_copyFrom 154 = .ok (.getfield 77, 3) := by decide +kernel
theorem dX9_copyFrom_157 : decode cX9_copyFrom 157 = .ok (.putfield 77, 3) := by decide +kernel
theorem dX9_copyFrom_160 : decode cX9_copyFrom 160 = .ok (.aload_n 0, 1) := by decide +kernel
theorem dX9_copyFrom_161 : decode cX9_copyFrom 161 = .ok (.aload_n 1, 1) := by decide +kernel
theorem dX9_copyFrom_162 : decode cX9_copyFrom 162 = .ok (.getfield 54, 3) := by decide +kernel
theorem dX9_copyFrom_165 : decode cX9_copyFrom 165 = .ok (.putfield 54, 3) := by decide +kernel
theorem dX9_copyFrom_168 : decode cX9_copyFrom 168 = .ok (.aload_n 0, 1) := by decide +kernel
theorem dX9_copyFrom_169 : decode cX9_copyFrom 169 = .ok (.aload_n 1, 1) := by decide +kernel
theorem dX9_copyFrom_170 : decode cX9_copyFrom 170 = .ok (.getfield 57, 3) := by decide +kernel
theorem dX9_copyFrom_173 : decode cX9_copyFrom 173 = .ok (.putfield 57, 3) := by decide +kernel
theorem dX9_copyFrom_176 : decode cX9_copyFrom 176 = .ok (.aload_n 0, 1) := by decide +kernel
theorem dX9_copyFrom_177 : decode cX9_copyFrom 177 = .ok (.aload_n 1, 1) := by decide +kernel
theorem dX9_copyFrom_178 : decode cX9_copyFrom 178 = .ok (.getfield 60, 3) := by decide +kernel
theorem dX9_copyFrom_181 : decode cX9_copyFrom 181 = .ok (.putfield 60, 3) := by decide +kernel
theorem dX9_copyFrom_184 : decode cX9_copyFrom 184 = .ok (.aload_n 0, 1) := by decide +kernel
theorem dX9_copyFrom_185 : decode cX9_copyFrom 185 = .ok (.aload_n 1, 1) := by decide +kernel
theorem dX9_copyFrom_186 : decode cX9_copyFrom 186 = .ok (.getfield 63, 3) := by decide +kernel
theorem dX9_copyFrom_189 : decode cX9_copyFrom 189 = .ok (.putfield 63, 3) := by decide +kernel
theorem dX9_copyFrom_192 : decode cX9_copyFrom 192 = .ok (.aload_n 0, 1) := by decide +kernel
theorem dX9_copyFrom_193 : decode cX9_copyFrom 193 = .ok (.aload_n 1, 1) := by decide +kernel
theorem dX9_copyFrom_194 : decode cX9_copyFrom 194 = .ok (.getfield 66, 3) := by decide +kernel
theorem dX9_copyFrom_197 : decode cX9_copyFrom 197 = .ok (.putfield 66, 3) := by decide +kernel
theorem dX9_copyFrom_200 : decode cX9_copyFrom 200 = .ok (.aload_n 0, 1) := by decide +kernel
theorem dX9_copyFrom_201 : decode cX9_copyFrom 201 = .ok (.aload_n 1, 1) := by decide +kernel
theorem dX9_copyFrom_202 : decode cX9_copyFrom 202 = .ok (.getfield 69, 3) := by decide +kernel
theorem dX9_copyFrom_205 : decode cX9_copyFrom 205 = .ok (.putfield 69, 3) := by decide +kernel
theorem dX9_copyFrom_208 : decode cX9_copyFrom 208 = .ok (.return_, 1) := by decide +kernel
theorem dX9_goBackTo_0 : decode cX9_goBackTo 0 = .ok (.aload_n 0, 1) := by decide +kernel
theorem dX9_goBackTo_1 : decode cX9_goBackTo 1 = .ok (.getfield 12, 3) := by decide +kernel
theorem dX9_goBackTo_4 : decode cX9_goBackTo 4 = .ok (.getfield 86, 3) := by decide +kernel
theorem dX9_goBackTo_7 : decode cX9_goBackTo 7 = .ok (.getfield 90, 3) := by decide +kernel
theorem dX9_goBackTo_10 : decode cX9_goBackTo 10 = .ok (.istore_n 2, 1) := by decide +kernel
theorem dX9_goBackTo_11 : decode cX9_goBackTo 11 = .ok (.aload_n 0, 1) := by decide +kernel
theorem dX9_goBackTo_12 : decode cX9_goBackTo 12 = .ok (.aload_n 1, 1) := by decide +kernel
theorem dX9_goBackTo_13 : decode cX9_goBackTo 13 = .ok (.invokevirtual 95, 3) := by decide +kernel
theorem dX9_goBackTo_16 : decode cX9_goBackTo 16 = .ok (.aload_n 0, 1) := by decide +kernel
theorem dX9_goBackTo_17 : decode cX9_goBackTo 17 = .ok (.getfield 12, 3) := by decide +kernel
theorem dX9_goBackTo_20 : decode cX9_goBackTo 20 = .ok (.getfield 86, 3) := by decide +kernel
theorem dX9_goBackTo_23 : decode cX9_goBackTo 23 = .ok (.iload_n 2, 1) := by decide +kernel
theorem dX9_goBackTo_24 : decode cX9_goBackTo 24 = .ok (.putfield 90, 3) := by decide +kernel
theorem dX9_goBackTo_27 : decode cX9_goBackTo 27 = .ok (.return_, 1) := by decide +kernel
theorem dX9_startOf_0 : decode cX9_startOf 0 = .ok (.iload_n 1, 1) := by decide +kernel
theorem dX9_startOf_1 : decode cX9_startOf 1 = .ok (.aload_n 0, 1) := by decide +kernel
theorem dX9_startOf_2 : decode cX9_startOf 2 = .ok (.getfield 12, 3) := by decide +kernel
theorem dX9_startOf_5 : decode cX9_startOf 5 = .ok (.getfield 98, 3) := by decide +kernel
theorem dX9_startOf_8 : decode cX9_startOf 8 = .ok (.imul, 1) := by decide +kernel
theorem dX9_startOf_9 : decode cX9_startOf 9 = .ok (.ireturn, 1) := by decide +kernel
theorem dX9_bucketOf_0 : decode cX9_bucketOf 0 = .ok (.aload_n 0, 1) := by decide +kernel
theorem dX9_bucketOf_1 : decode cX9_bucketOf 1 = .ok (.getfield 12, 3) := by decide +kernel
theorem dX9_bucketOf_4 : decode cX9_bucketOf 4 = .ok (.getfield 98, 3) := by decide +kernel
theorem dX9_bucketOf_7 : decode cX9_bucketOf 7 = .ok (.iconst 1, 1) := by decide +kernel
theorem dX9_bucketOf_8 : decode cX9_bucketOf 8 = .ok (.if_icmp .ge 7, 3) := by decide +kernel
theorem dX9_bucketOf_11 : decode cX9_bucketOf 11 = .ok (.iconst 0, 1) := by decide +kernel
theorem dX9_bucketOf_12 : decode cX9_bucketOf 12 = .ok (.goto 12, 3) := by decide +kernel
theorem dX9_bucketOf_15 : decode cX9_bucketOf 15 = .ok (.iload_n 1, 1) := by decide +kernel
theorem dX9_bucketOf_16 : decode cX9_bucketOf 16 = .ok (.aload_n 0, 1) := by decide +kernel
theorem dX9_bucketOf_17 : decode cX9_bucketOf 17 = .ok (.getfield 12, 3) := by decide +kernel
theorem dX9_bucketOf_20 : decode cX9_bucketOf 20 = .ok (.getfield 98, 3) := by decide +kernel
theorem dX9_bucketOf_23 : decode cX9_bucketOf 23 = .ok (.idiv, 1) := by decide +kernel
theorem dX9_bucketOf_24 : decode cX9_bucketOf 24 = .ok (.ireturn, 1) := by decide +kernel
theorem dX9_indexOf_0 : decode cX9_indexOf 0 = .ok (.iload_n 2, 1) := by decide +kernel
theorem dX9_indexOf_1 : decode cX9_indexOf 1 = .ok (.ifCond .ge 5, 3) := by decide +kernel
theorem dX9_indexOf_4 : decode cX9_indexOf 4 = .ok (.iconst (-1), 1) := by decide +kernel
theorem dX9_indexOf_5 : decode cX9_indexOf 5 = .ok (.ireturn, 1) := by decide +kernel
theorem dX9_indexOf_6 : decode cX9_indexOf 6 = .ok (.iload_n 1, 1) := by decide +kernel
theorem dX9_indexOf_7 : decode cX9_indexOf 7 = .ok (.bipush 100, 2) := by decide +kernel
theorem dX9_indexOf_9 : decode cX9_indexOf 9 = .ok (.if_icmp .ne 22, 3) := by decide +kernel
theorem dX9_indexOf_12 : decode cX9_indexOf 12 = .ok (.iload_n 2, 1) := by decide +kernel
theorem dX9_indexOf_13 : decode cX9_indexOf 13 = .ok (.aload_n 0, 1) := by decide +kernel
theorem dX9_indexOf_14 : decode cX9_indexOf 14 = .ok (.getfield 77, 3) := by decide +kernel
theorem dX9_indexOf_17 : decode cX9_indexOf 17 = .ok (.if_icmp .ge 12, 3) := by decide +kernel
theorem dX9_indexOf_20 : decode cX9_indexOf 20 = .ok (.aload_n 0, 1) := by decide +kernel
theorem dX9_indexOf_21 : decode cX9_indexOf 21 = .ok (.getfield 22, 3) := by decide +kernel
theorem dX9_indexOf_24 : decode cX9_indexOf 24 = .ok (.iload_n 2, 1) := by decide +kernel
theorem dX9_indexOf_25 : decode cX9_indexOf 25 = .ok (.iadd, 1) := by decide +kernel
theorem dX9_indexOf_26 : decode cX9_indexOf 26 = .ok (.goto 4, 3) := by decide +kernel
theorem dX9_indexOf_29 : decode cX9_indexOf 29 = .ok (.iconst (-1), 1) := by decide +kernel
theorem dX9_indexOf_30 : decode cX9_indexOf 30 = .ok (.ireturn, 1) := by decide +kernel
theorem dX9_indexOf_31 : decode cX9_indexOf 31 = .ok (.iload_n 1, 1) := by decide +kernel
theorem dX9_indexOf_32 : decode cX9_indexOf 32 = .ok (.ifCond .lt 29, 3) := by decide +kernel
theorem dX9_indexOf_35 : decode cX9_indexOf 35 = .ok (.iload_n 1, 1) := by decide +kernel
theorem dX9_indexOf_36 : decode cX9_indexOf 36 = .ok (.aload_n 0, 1) := by decide +kernel
theorem dX9_indexOf_37 : decode cX9_indexOf 37 = .ok (.getfield 12, 3) := by decide +kernel
theorem dX9_indexOf_40 : decode cX9_indexOf 40 = .ok (.getfield 101, 3) := by decide +kernel
theorem dX9_indexOf_43 : decode cX9_indexOf 43 = .ok (.if_icmp .ge 18, 3) := by decide +kernel
theorem dX9_indexOf_46 : decode cX9_indexOf 46 = .ok (.iload_n 2, 1) := by decide +kernel
theorem dX9_indexOf_47 : decode cX9_indexOf 47 = .ok (.aload_n 0, 1) := by decide +kernel
theorem dX9_indexOf_48 : decode cX9_indexOf 48 = .ok (.getfield 12, 3) := by decide +kernel
theorem dX9_indexOf_51 : decode cX9_indexOf 51 = .ok (.getfield 98, 3) := by decide +kernel
theorem dX9_indexOf_54 : decode cX9_indexOf 54 = .ok (.if_icmp .ge 7, 3) := by decide +kernel
theorem dX9_indexOf_57 : decode cX9_indexOf 57 = .ok (.iconst 1, 1) := by decide +kernel
theorem dX9_indexOf_58 : decode cX9_indexOf 58 = .ok (.goto 4, 3) := by decide +kernel
theorem dX9_indexOf_61 : decode cX9_indexOf 61 = .ok (.iconst 0, 1) := by decide +kernel
theorem dX9_indexOf_62 : decode cX9_indexOf 62 = .ok (.istore_n 3, 1) := by decide +kernel
theorem dX9_indexOf_63 : decode cX9_indexOf 63 = .ok (.iload_n 3, 1) := by decide +kernel
theorem dX9_indexOf_64 : decode cX9_indexOf 64 = .ok (.ifCond .eq 13, 3) := by decide +kernel
theorem dX9_indexOf_67 : decode cX9_indexOf 67 = .ok (.aload_n 0, 1) := by decide +kernel
theorem dX9_indexOf_68 : decode cX9_indexOf 68 = .ok (.iload_n 1, 1) := by decide +kernel
theorem dX9_indexOf_69 : decode cX9_indexOf 69 = .ok (.invokevirtual 104, 3) := by decide +kernel
theorem dX9_indexOf_72 : decode cX9_indexOf 72 = .ok (.iload_n 2, 1) := by decide +kernel
theorem dX9_indexOf_73 : decode cX9_indexOf 73 = .ok (.iadd, 1) := by decide +kernel
theorem dX9_indexOf_74 : decode cX9_indexOf 74 = .ok (.goto 4, 3) := by decide +kernel
theorem dX9_indexOf_77 : decode cX9_indexOf 77 = .ok (.iconst (-1), 1) := by decide +kernel
theorem dX9_indexOf_78 : decode cX9_indexOf 78 = .ok (.ireturn, 1) := by decide +kernel
theorem dX9_otherOf_0 : decode cX9_otherOf 0 = .ok (.aload_n 0, 1) := by decide +kernel
theorem dX9_otherOf_1 : decode cX9_otherOf 1 = .ok (.getfield 41, 3) := by decide +kernel
theorem dX9_otherOf_4 : decode cX9_otherOf 4 = .ok (.iload_n 1, 1) := by decide +kernel
theorem dX9_otherOf_5 : decode cX9_otherOf 5 = .ok (.iaload, 1) := by decide +kernel
theorem dX9_otherOf_6 : decode cX9_otherOf 6 = .ok (.aload_n 0, 1) := by decide +kernel
theorem dX9_otherOf_7 : decode cX9_otherOf 7 = .ok (.getfield 44, 3) := by decide +kernel
theorem dX9_otherOf_10 : decode cX9_otherOf 10 = .ok (.iload_n 1, 1) := by decide +kernel
theorem dX9_otherOf_11 : decode cX9_otherOf 11 = .ok (.iaload, 1) := by decide +kernel
theorem dX9_otherOf_12 : decode cX9_otherOf 12 = .ok (.if_icmp .ne 5, 3) := by decide +kernel
theorem dX9_otherOf_15 : decode cX9_otherOf 15 = .ok (.iconst (-1), 1) := by decide +kernel
theorem dX9_otherOf_16 : decode cX9_otherOf 16 = .ok (.ireturn, 1) := by decide +kernel
theorem dX9_otherOf_17 : decode cX9_otherOf 17 = .ok (.aload_n 0, 1) := by decide +kernel
theorem dX9_otherOf_18 : decode cX9_otherOf 18 = .ok (.getfield 41, 3) := by decide +kernel
theorem dX9_otherOf_21 : decode cX9_otherOf 21 = .ok (.iload_n 1, 1) := by decide +kernel
theorem dX9_otherOf_22 : decode cX9_otherOf 22 = .ok (.iaload, 1) := by decide +kernel
theorem dX9_otherOf_23 : decode cX9_otherOf 23 = .ok (.iload_n 2, 1) := by decide +kernel
theorem dX9_otherOf_24 : decode cX9_otherOf 24 = .ok (.if_icmp .ne 12, 3) := by decide +kernel
theorem dX9_otherOf_27 : decode cX9_otherOf 27 = .ok (.aload_n 0, 1) := by decide +kernel
theorem dX9_otherOf_28 : decode cX9_otherOf 28 = .ok (.getfield 44, 3) := by decide +kernel
theorem dX9_otherOf_31 : decode cX9_otherOf 31 = .ok (.iload_n 1, 1) := by decide +kernel
theorem dX9_otherOf_32 : decode cX9_otherOf 32 = .ok (.iaload, 1) := by decide +kernel
theorem dX9_otherOf_33 : decode cX9_otherOf 33 = .ok (.goto 9, 3) := by decide +kernel
theorem dX9_otherOf_36 : decode cX9_otherOf 36 = .ok (.aload_n 0, 1) := by decide +kernel
theorem dX9_otherOf_37 : decode cX9_otherOf 37 = .ok (.getfield 41, 3) := by decide +kernel
theorem dX9_otherOf_40 : decode cX9_otherOf 40 = .ok (.iload_n 1, 1) := by decide +kernel
theorem dX9_otherOf_41 : decode cX9_otherOf 41 = .ok (.iaload, 1) := by decide +kernel
theorem dX9_otherOf_42 : decode cX9_otherOf 42 = .ok (.ireturn, 1) := by decide +kernel
theorem dX9_locate_0 : decode cX9_locate 0 = .ok (.aload_n 0, 1) := by decide +kernel
theorem dX9_locate_1 : decode cX9_locate 1 = .ok (.aload_n 0, 1) := by decide +kernel
theorem dX9_locate_2 : decode cX9_locate 2 = .ok (.getfield 12, 3) := by decide +kernel
theorem dX9_locate_5 : decode cX9_locate 5 = .ok (.iload_n 1, 1) := by decide +kernel
theorem dX9_locate_6 : decode cX9_locate 6 = .ok (.invokevirtual 108, 3) := by decide +kernel
theorem dX9_locate_9 : decode cX9_locate 9 = .ok (.iload_n 1, 1) := by decide +kernel
theorem dX9_locate_10 : decode cX9_locate 10 = .ok (.invokevirtual 111, 3) := by decide +kernel
theorem dX9_locate_13 : decode cX9_locate 13 = .ok (.istore_n 2, 1) := by decide +kernel
theorem dX9_locate_14 : decode cX9_locate 14 = .ok (.iload_n 2, 1) := by decide +kernel
theorem dX9_locate_15 : decode cX9_locate 15 = .ok (.ifCond .ge 17, 3) := by decide +kernel
theorem dX9_locate_18 : decode cX9_locate 18 = .ok (.aload_n 0, 1) := by decide +kernel
theorem dX9_locate_19 : decode cX9_locate 19 = .ok (.aload_n 0, 1) := by decide +kernel
theorem dX9_locate_20 : decode cX9_locate 20 = .ok (.getfield 12, 3) := by decide +kernel
theorem dX9_locate_23 : decode cX9_locate 23 = .ok (.iload_n 1, 1) := by decide +kernel
theorem dX9_locate_24 : decode cX9_locate 24 = .ok (.invokevirtual 115, 3) := by decide +kernel
theorem dX9_locate_27 : decode cX9_locate 27 = .ok (.iload_n 1, 1) := by decide +kernel
theorem dX9_locate_28 : decode cX9_locate 28 = .ok (.invokevirtual 111, 3) := by decide +kernel
theorem dX9_locate_31 : decode cX9_locate 31 = .ok (.istore_n 2, 1) := by decide +kernel
theorem dX9_locate_32 : decode cX9_locate 32 = .ok (.aload_n 0, 1) := by decide +kernel
theorem dX9_locate_33 : decode cX9_locate 33 = .ok (.getfield 22, 3) := by decide +kernel
theorem dX9_locate_36 : decode cX9_locate 36 = .ok (.istore_n 3, 1) := by decide +kernel
theorem dX9_locate_37 : decode cX9_locate 37 = .ok (.iload_n 2, 1) := by decide +kernel
theorem dX9_locate_38 : decode cX9_locate 38 = .ok (.ifCond .ge 34, 3) := by decide +kernel
theorem dX9_locate_41 : decode cX9_locate 41 = .ok (.iload_n 3, 1) := by decide +kernel
theorem dX9_locate_42 : decode cX9_locate 42 = .ok (.aload_n 0, 1) := by decide +kernel
theorem dX9_locate_43 : decode cX9_locate 43 = .ok (.getfield 22, 3) := by decide +kernel
theorem dX9_locate_46 : decode cX9_locate 46 = .ok (.aload_n 0, 1) := by decide +kernel
theorem dX9_locate_47 : decode cX9_locate 47 = .ok (.getfield 77, 3) := by decide +kernel
theorem dX9_locate_50 : decode cX9_locate 50 = .ok (.iadd, 1) := by decide +kernel
theorem dX9_locate_51 : decode cX9_locate 51 = .ok (.if_icmp .ge 21, 3) := by decide +kernel
theorem dX9_locate_54 : decode cX9_locate 54 = .ok (.aload_n 0, 1) := by decide +kernel
theorem dX9_locate_55 : decode cX9_locate 55 = .ok (.getfield 29, 3) := by decide +kernel
theorem dX9_locate_58 : decode cX9_locate 58 = .ok (.iload_n 3, 1) := by decide +kernel
theorem dX9_locate_59 : decode cX9_locate 59 = .ok (.iaload, 1) := by decide +kernel
theorem dX9_locate_60 : decode cX9_locate 60 = .ok (.iload_n 1, 1) := by decide +kernel
theorem dX9_locate_61 : decode cX9_locate 61 = .ok (.if_icmp .ne 5, 3) := by decide +kernel
theorem dX9_locate_64 : decode cX9_locate 64 = .ok (.iload_n 3, 1) := by decide +kernel
theorem dX9_locate_65 : decode cX9_locate 65 = .ok (.istore_n 2, 1) := by decide +kernel
theorem dX9_locate_66 : decode cX9_locate 66 = .ok (.iinc 3 1, 3) := by decide +kernel
theorem dX9_locate_69 : decode cX9_locate 69 = .ok (.goto (-32), 3) := by decide +kernel
theorem dX9_locate_72 : decode cX9_locate 72 = .ok (.iload_n 2, 1) := by decide +kernel
theorem dX9_locate_73 : decode cX9_locate 73 = .ok (.ireturn, 1) := by decide +kernel
theorem dX9_indexIn_0 : decode cX9_indexIn 0 = .ok (.aload_n 0, 1) := by decide +kernel
theorem dX9_indexIn_1 : decode cX9_indexIn 1 = .ok (.iload_n 1, 1) := by decide +kernel
theorem dX9_indexIn_2 : decode cX9_indexIn 2 = .ok (.invokevirtual 104, 3) := by decide +kernel
theorem dX9_indexIn_5 : decode cX9_indexIn 5 = .ok (.istore_n 3, 1) := by decide +kernel
theorem dX9_indexIn_6 : decode cX9_indexIn 6 = .ok (.iload_n 3, 1) := by decide +kernel
theorem dX9_indexIn_7 : decode cX9_indexIn 7 = .ok (.istore 4, 2) := by decide +kernel
theorem dX9_indexIn_9 : decode cX9_indexIn 9 = .ok (.iload 4, 2) := by decide +kernel
theorem dX9_indexIn_11 : decode cX9_indexIn 11 = .ok (.iload_n 3, 1) := by decide +kernel
theorem dX9_indexIn_12 : decode cX9_indexIn 12 = .ok (.aload_n 0, 1) := by decide +kernel
theorem dX9_indexIn_13 : decode cX9_indexIn 13 = .ok (.getfield 12, 3) := by decide +kernel
theorem dX9_indexIn_16 : decode cX9_indexIn 16 = .ok (.getfield 98, 3) := by decide +kernel
theorem dX9_indexIn_19 : decode cX9_indexIn 19 = .ok (.iadd, 1) := by decide +kernel
theorem dX9_indexIn_20 : decode cX9_indexIn 20 = .ok (.if_icmp .ge 23, 3) := by decide +kernel
theorem dX9_indexIn_23 : decode cX9_indexIn 23 = .ok (.aload_n 0, 1) := by decide +kernel
theorem dX9_indexIn_24 : decode cX9_indexIn 24 = .ok (.getfield 29, 3) := by decide +kernel
theorem dX9_indexIn_27 : decode cX9_indexIn 27 = .ok (.iload 4, 2) := by decide +kernel
theorem dX9_indexIn_29 : decode cX9_indexIn 29 = .ok (.iaload, 1) := by decide +kernel
theorem dX9_indexIn_30 : decode cX9_indexIn 30 = .ok (.iload_n 2, 1) := by decide +kernel
theorem dX9_indexIn_31 : decode cX9_indexIn 31 = .ok (.if_icmp .ne 6, 3) := by decide +kernel
theorem dX9_indexIn_34 : decode cX9_indexIn 34 = .ok (.iload 4, 2) := by decide +kernel
theorem dX9_indexIn_36 : decode cX9_indexIn 36 = .ok (.ireturn, 1) := by decide +kernel
theorem dX9_indexIn_37 : decode cX9_indexIn 37 = .ok (.iinc 4 1, 3) := by decide +kernel
theorem dX9_indexIn_40 : decode cX9_indexIn 40 = .ok (.goto (-31), 3) := by decide +kernel
theorem dX9_indexIn_43 : decode cX9_indexIn 43 = .ok (.iconst (-1), 1) := by decide +kernel
theorem dX9_indexIn_44 : decode cX9_indexIn 44 = .ok (.ireturn, 1) := by decide +kernel
theorem dX9_readsTill_0 : decode cX9_readsTill 0 = .ok (.aload_n 0, 1) := by decide +kernel
theorem dX9_readsTill_1 : decode cX9_readsTill 1 = .ok (.getfield 12, 3) := by decide +kernel
theorem dX9_readsTill_4 : decode cX9_readsTill 4 = .ok (.iload_n 1, 1) := by decide +kernel
theorem dX9_readsTill_5 : decode cX9_readsTill 5 = .ok (.invokevirtual 108, 3) := by decide +kernel
theorem dX9_readsTill_8 : decode cX9_readsTill 8 = .ok (.istore_n 3, 1) := by decide +kernel
theorem dX9_readsTill_9 : decode cX9_readsTill 9 = .ok (.iload_n 3, 1) := by decide +kernel
theorem dX9_readsTill_10 : decode cX9_readsTill 10 = .ok (.aload_n 0, 1) := by decide +kernel
theorem dX9_readsTill_11 : decode cX9_readsTill 11 = .ok (.getfield 12, 3) := by decide +kernel
theorem dX9_readsTill_14 : decode cX9_readsTill 14 = .ok (.iload_n 1, 1) := by decide +kernel
theorem dX9_readsTill_15 : decode cX9_readsTill 15 = .ok (.invokevirtual 115, 3) := by decide +kernel
theorem dX9_readsTill_18 : decode cX9_readsTill 18 = .ok (.if_icmp .ne 7, 3) := by decide +kernel
theorem dX9_readsTill_21 : decode cX9_readsTill 21 = .ok (.iconst 1, 1) := by decide +kernel
theorem dX9_readsTill_22 : decode cX9_readsTill 22 = .ok (.goto 4, 3) := by decide +kernel
theorem dX9_readsTill_25 : decode cX9_readsTill 25 = .ok (.iconst 2, 1) := by decide +kernel
theorem dX9_readsTill_26 : decode cX9_readsTill 26 = .ok (.istore 4, 2) := by decide +kernel
theorem dX9_readsTill_28 : decode cX9_readsTill 28 = .ok (.iload_n 2, 1) := by decide +kernel
theorem dX9_readsTill_29 : decode cX9_readsTill 29 = .ok (.ifCond .ge 19, 3) := by decide +kernel
theorem dX9_readsTill_32 : decode cX9_readsTill 32 = .ok (.iload 4, 2) := by decide +kernel
theorem dX9_readsTill_34 : decode cX9_readsTill 34 = .ok (.aload_n 0, 1) := by decide +kernel
theorem dX9_readsTill_35 : decode cX9_readsTill 35 = .ok (.getfield 77, 3) := by decide +kernel
theorem dX9_readsTill_38 : decode cX9_readsTill 38 = .ok (.ifCond .le 7, 3) := by decide +kernel
theorem dX9_readsTill_41 : decode cX9_readsTill 41 = .ok (.iconst 1, 1) := by decide +kernel
theorem dX9_readsTill_42 : decode cX9_readsTill 42 = .ok (.goto 4, 3) := by decide +kernel
theorem dX9_readsTill_45 : decode cX9_readsTill 45 = .ok (.iconst 0, 1) := by decide +kernel
theorem dX9_readsTill_46 : decode cX9_readsTill 46 = .ok (.iadd, 1) := by decide +kernel
theorem dX9_readsTill_47 : decode cX9_readsTill 47 = .ok (.ireturn, 1) := by decide +kernel
theorem dX9_readsTill_48 : decode cX9_readsTill 48 = .ok (.iload_n 2, 1) := by decide +kernel
theorem dX9_readsTill_49 : decode cX9_readsTill 49 = .ok (.aload_n 0, 1) := by decide +kernel
theorem dX9_readsTill_50 : decode cX9_readsTill 50 = .ok (.getfield 22, 3) := by decide +kernel
theorem dX9_readsTill_53 : decode cX9_readsTill 53 = .ok (.if_icmp .lt 8, 3) := by decide +kernel
theorem dX9_readsTill_56 : decode cX9_readsTill 56 = .ok (.iload 4, 2) := by decide +kernel
theorem dX9_readsTill_58 : decode cX9_readsTill 58 = .ok (.iconst 1, 1) := by decide +kernel
theorem dX9_readsTill_59 : decode cX9_readsTill 59 = .ok (.iadd, 1) := by decide +kernel
theorem dX9_readsTill_60 : decode cX9_readsTill 60 = .ok (.ireturn, 1) := by decide +kernel
theorem dX9_readsTill_61 : decode cX9_readsTill 61 = .ok (.aload_n 0, 1) := by decide +kernel
theorem dX9_readsTill_62 : decode cX9_readsTill 62 = .ok (.iload_n 2, 1) := by decide +kernel
theorem dX9_readsTill_63 : decode cX9_readsTill 63 = .ok (.invokevirtual 118, 3) := by decide +kernel
theorem dX9_readsTill_66 : decode cX9_readsTill 66 = .ok (.iload_n 3, 1) := by decide +kernel
theorem dX9_readsTill_67 : decode cX9_readsTill 67 = .ok (.if_icmp .ne 7, 3) := by decide +kernel
theorem dX9_readsTill_70 : decode cX9_readsTill 70 = .ok (.iconst 1, 1) := by decide +kernel
theorem dX9_readsTill_71 : decode cX9_readsTill 71 = .ok (.goto 4, 3) := by decide +kernel
theorem dX9_readsTill_74 : decode cX9_readsTill 74 = .ok (.iconst 2, 1) := by decide +kernel
theorem dX9_readsTill_75 : decode cX9_readsTill 75 = .ok (.ireturn, 1) := by decide +kernel
theorem dX9_entriesTill_0 : decode cX9_entriesTill 0 = .ok (.aload_n 0, 1) := by decide +kernel
theorem dX9_entriesTill_1 : decode cX9_entriesTill 1 = .ok (.getfield 41, 3) := by decide +kernel
theorem dX9_entriesTill_4 : decode cX9_entriesTill 4 = .ok (.iload_n 1, 1) := by decide +kernel
theorem dX9_entriesTill_5 : decode cX9_entriesTill 5 = .ok (.iaload, 1) := by decide +kernel
theorem dX9_entriesTill_6 : decode cX9_entriesTill 6 = .ok (.istore_n 2, 1) := by decide +kernel
theorem dX9_entriesTill_7 : decode cX9_entriesTill 7 = .ok (.iload_n 1, 1) := by decide +kernel
theorem dX9_entriesTill_8 : decode cX9_entriesTill 8 = .ok (.aload_n 0, 1) := by decide +kernel
theorem dX9_entriesTill_9 : decode cX9_entriesTill 9 = .ok (.getfield 22, 3) := by decide +kernel
theorem dX9_entriesTill_12 : decode cX9_entriesTill 12 = .ok (.if_icmp .ge 23, 3) := by decide +kernel
theorem dX9_entriesTill_15 : decode cX9_entriesTill 15 = .ok (.aload_n 0, 1) := by decide +kernel
theorem dX9_entriesTill_16 : decode cX9_entriesTill 16 = .ok (.iload_n 1, 1) := by decide +kernel
theorem dX9_entriesTill_17 : decode cX9_entriesTill 17 = .ok (.invokevirtual 118, 3) := by decide +kernel
theorem dX9_entriesTill_20 : decode cX9_entriesTill 20 = .ok (.iload_n 2, 1) := by decide +kernel
theorem dX9_entriesTill_21 : decode cX9_entriesTill 21 = .ok (.if_icmp .ne 14, 3) := by decide +kernel
theorem dX9_entriesTill_24 : decode cX9_entriesTill 24 = .ok (.aload_n 0, 1) := by decide +kernel
theorem dX9_entriesTill_25 : decode cX9_entriesTill 25 = .ok (.aload_n 0, 1) := by decide +kernel
theorem dX9_entriesTill_26 : decode cX9_entriesTill 26 = .ok (.iload_n 2, 1) := by decide +kernel
theorem dX9_entriesTill_27 : decode cX9_entriesTill 27 = .ok (.invokevirtual 104, 3) := by decide +kernel
theorem dX9_entriesTill_30 : decode cX9_entriesTill 30 = .ok (.iload_n 1, 1) := by decide +kernel
theorem dX9_entriesTill_31 : decode cX9_entriesTill 31 = .ok (.invokevirtual 121, 3) := by decide +kernel
theorem dX9_entriesTill_34 : decode cX9_entriesTill 34 = .ok (.ireturn, 1) := by decide +kernel
theorem dX9_entriesTill_35 : decode cX9_entriesTill 35 = .ok (.aload_n 0, 1) := by decide +kernel
theorem dX9_entriesTill_36 : decode cX9_entriesTill 36 = .ok (.getfield 44, 3) := by decide +kernel
theorem dX9_entriesTill_39 : decode cX9_entriesTill 39 = .ok (.iload_n 1, 1) := by decide +kernel
theorem dX9_entriesTill_40 : decode cX9_entriesTill 40 = .ok (.iaload, 1) := by decide +kernel
theorem dX9_entriesTill_41 : decode cX9_entriesTill 41 = .ok (.istore_n 3, 1) := by decide +kernel
theorem dX9_entriesTill_42 : decode cX9_entriesTill 42 = .ok (.iload_n 1, 1) := by decide +kernel
theorem dX9_entriesTill_43 : decode cX9_entriesTill 43 = .ok (.aload_n 0, 1) := by decide +kernel
theorem dX9_entriesTill_44 : decode cX9_entriesTill 44 = .ok (.getfield 22, 3) := by decide +kernel
theorem dX9_entriesTill_47 : decode cX9_entriesTill 47 = .ok (.if_icmp .ge 21, 3) := by decide +kernel
theorem dX9_entriesTill_50 : decode cX9_entriesTill 50 = .ok (.aload_n 0, 1) := by decide +kernel
theorem dX9_entriesTill_51 : decode cX9_entriesTill 51 = .ok (.getfield 18, 3) := by decide +kernel
theorem dX9_entriesTill_54 : decode cX9_entriesTill 54 = .ok (.iload_n 2, 1) := by decide +kernel
theorem dX9_entriesTill_55 : decode cX9_entriesTill 55 = .ok (.iaload, 1) := by decide +kernel
theorem dX9_entriesTill_56 : decode cX9_entriesTill 56 = .ok (.aload_n 0, 1) := by decide +kernel
theorem dX9_entriesTill_57 : decode cX9_entriesTill 57 = .ok (.aload_n 0, 1) := by decide +kernel
theorem dX9_entriesTill_58 : decode cX9_entriesTill 58 = .ok (.iload_n 3, 1) := by decide +kernel
theorem dX9_entriesTill_59 : decode cX9_entriesTill 59 = .ok (.invokevirtual 104, 3) := by decide +kernel
theorem dX9_entriesTill_62 : decode cX9_entriesTill 62 = .ok (.iload_n 1, 1) := by decide +kernel
theorem dX9_entriesTill_63 : decode cX9_entriesTill 63 = .ok (.invokevirtual 121, 3) := by decide +kernel
theorem dX9_entriesTill_66 : decode cX9_entriesTill 66 = .ok (.iadd, 1) := by decide +kernel
theorem dX9_entriesTill_67 : decode cX9_entriesTill 67 = .ok (.ireturn, 1) := by decide +kernel
theorem dX9_entriesTill_68 : decode cX9_entriesTill 68 = .ok (.iload_n 2, 1) := by decide +kernel
theorem dX9_entriesTill_69 : decode cX9_entriesTill 69 = .ok (.iload_n 3, 1) := by decide +kernel
theorem dX9_entriesTill_70 : decode cX9_entriesTill 70 = .ok (.if_icmp .ne 12, 3) := by decide +kernel
theorem dX9_entriesTill_73 : decode cX9_entriesTill 73 = .ok (.aload_n 0, 1) := by decide +kernel
theorem dX9_entriesTill_74 : decode cX9_entriesTill 74 = .ok (.getfield 18, 3) := by decide +kernel
theorem dX9_entriesTill_77 : decode cX9_entriesTill 77 = .ok (.iload_n 2, 1) := by decide +kernel
theorem dX9_entriesTill_78 : decode cX9_entriesTill 78 = .ok (.iaload, 1) := by decide +kernel
theorem dX9_entriesTill_79 : decode cX9_entriesTill 79 = .ok (.goto 16, 3) := by decide +kernel
theorem dX9_entriesTill_82 : decode cX9_entriesTill 82 = .ok (.aload_n 0, 1) := by decide +kernel
theorem dX9_entriesTill_83 : decode cX9_entriesTill 83 = .ok (.getfield 18, 3) := by decide +kernel
theorem dX9_entriesTill_86 : decode cX9_entriesTill 86 = .ok (.iload_n 2, 1) := by decide +kernel
theorem dX9_entriesTill_87 : decode cX9_entriesTill 87 = .ok (.iaload, 1) := by decide +kernel
theorem dX9_entriesTill_88 : decode cX9_entriesTill 88 = .ok (.aload_n 0, 1) := by decide +kernel
theorem dX9_entriesTill_89 : decode cX9_entriesTill 89 = .ok (.getfield 18, 3) := by decide +kernel
theorem dX9_entriesTill_92 : decode cX9_entriesTill 92 = .ok (.iload_n 3, 1) := by decide +kernel
theorem dX9_entriesTill_93 : decode cX9_entriesTill 93 = .ok (.iaload, 1) := by decide +kernel
theorem dX9_entriesTill_94 : decode cX9_entriesTill 94 = .ok (.iadd, 1) := by decide +kernel
theorem dX9_entriesTill_95 : decode cX9_entriesTill 95 = .ok (.istore 4, 2) := by decide +kernel
theorem dX9_entriesTill_97 : decode cX9_entriesTill 97 = .ok (.iload 4, 2) := by decide +kernel
theorem dX9_entriesTill_99 : decode cX9_entriesTill 99 = .ok (.iload_n 1, 1) := by decide +kernel
theorem dX9_entriesTill_100 : decode cX9_entriesTill 100 = .ok (.iadd, 1) := by decide +kernel
theorem dX9_entriesTill_101 : decode cX9_entriesTill 101 = .ok (.aload_n 0, 1) := by decide +kernel
theorem dX9_entriesTill_102 : decode cX9_entriesTill 102 = .ok (.getfield 22, 3) := by decide +kernel
theorem dX9_entriesTill_105 : decode cX9_entriesTill 105 = .ok (.isub, 1) := by decide +kernel
theorem dX9_entriesTill_106 : decode cX9_entriesTill 106 = .ok (.iconst 1, 1) := by decide +kernel
theorem dX9_entriesTill_107 : decode cX9_entriesTill 107 = .ok (.iadd, 1) := by decide +kernel
theorem dX9_entriesTill_108 : decode cX9_entriesTill 108 = .ok (.ireturn, 1) := by decide +kernel
theorem dX9_entriesFrom_0 : decode cX9_entriesFrom 0 = .ok (.iconst 0, 1) := by decide +kernel
theorem dX9_entriesFrom_1 : decode cX9_entriesFrom 1 = .ok (.istore_n 3, 1) := by decide +kernel
theorem dX9_entriesFrom_2 : decode cX9_entriesFrom 2 = .ok (.iload_n 1, 1) := by decide +kernel
theorem dX9_entriesFrom_3 : decode cX9_entriesFrom 3 = .ok (.istore 4, 2) := by decide +kernel
theorem dX9_entriesFrom_5 : decode cX9_entriesFrom 5 = .ok (.iload 4, 2) := by decide +kernel
theorem dX9_entriesFrom_7 : decode cX9_entriesFrom 7 = .ok (.iload_n 2, 1) := by decide +kernel
theorem dX9_entriesFrom_8 : decode cX9_entriesFrom 8 = .ok (.if_icmp .gt 27, 3) := by decide +kernel
theorem dX9_entriesFrom_11 : decode cX9_entriesFrom 11 = .ok (.iload_n 3, 1) := by decide +kernel
theorem dX9_entriesFrom_12 : decode cX9_entriesFrom 12 = .ok (.aload_n 0, 1) := by decide +kernel
theorem dX9_entriesFrom_13 : decode cX9_entriesFrom 13 = .ok (.getfield 29, 3) := by decide +kernel
theorem dX9_entriesFrom_16 : decode cX9_entriesFrom 16 = .ok (.iload 4, 2) := by decide +kernel
theorem dX9_entriesFrom_18 : decode cX9_entriesFrom 18 = .ok (.iaload, 1) := by decide +kernel
theorem dX9_entriesFrom_19 : decode cX9_entriesFrom 19 = .ok (.ifCond .lt 7, 3) := by decide +kernel
theorem dX9_entriesFrom_22 : decode cX9_entriesFrom 22 = .ok (.iconst 1, 1) := by decide +kernel
theorem dX9_entriesFrom_23 : decode cX9_entriesFrom 23 = .ok (.goto 4, 3) := by decide +kernel
theorem dX9_entriesFrom_26 : decode cX9_entriesFrom 26 = .ok (.iconst 0, 1) := by decide +kernel
theorem dX9_entriesFrom_27 : decode cX9_entriesFrom 27 = .ok (.iadd, 1) := by decide +kernel
theorem dX9_entriesFrom_28 : decode cX9_entriesFrom 28 = .ok (.istore_n 3, 1) := by decide +kernel
theorem dX9_entriesFrom_29 : decode cX9_entriesFrom 29 = .ok (.iinc 4 1, 3) := by decide +kernel
theorem dX9_entriesFrom_32 : decode cX9_entriesFrom 32 = .ok (.goto (-27), 3) := by decide +kernel
theorem dX9_entriesFrom_35 : decode cX9_entriesFrom 35 = .ok (.iload_n 3, 1) := by decide +kernel
theorem dX9_entriesFrom_36 : decode cX9_entriesFrom 36 = .ok (.ireturn, 1) := by decide +kernel
theorem dX9_entries_0 : decode cX9_entries 0 = .ok (.aload_n 0, 1) := by decide +kernel
theorem dX9_entries_1 : decode cX9_entries 1 = .ok (.iconst 0, 1) := by decide +kernel
theorem dX9_entries_2 : decode cX9_entries 2 = .ok (.aload_n 0, 1) := by decide +kernel
theorem dX9_entries_3 : decode cX9_entries 3 = .ok (.getfield 26, 3) := by decide +kernel
theorem dX9_entries_6 : decode cX9_entries 6 = .ok (.iconst 1, 1) := by decide +kernel
theorem dX9_entries_7 : decode cX9_entries 7 = .ok (.isub, 1) := by decide +kernel
theorem dX9_entries_8 : decode cX9_entries 8 = .ok (.invokevirtual 121, 3) := by decide +kernel
theorem dX9_entries_11 : decode cX9_entries 11 = .ok (.ireturn, 1) := by decide +kernel
theorem dX9_movedInAll_0 : decode cX9_movedInAll 0 = .ok (.iconst 0, 1) := by decide +kernel
theorem dX9_movedInAll_1 : decode cX9_movedInAll 1 = .ok (.istore_n 1, 1) := by decide +kernel
theorem dX9_movedInAll_2 : decode cX9_movedInAll 2 = .ok (.iconst 0, 1) := by decide +kernel
theorem dX9_movedInAll_3 : decode cX9_movedInAll 3 = .ok (.istore_n 2, 1) := by decide +kernel
theorem dX9_movedInAll_4 : decode cX9_movedInAll 4 = .ok (.iload_n 2, 1) := by decide +kernel
theorem dX9_movedInAll_5 : decode cX9_movedInAll 5 = .ok (.aload_n 0, 1) := by decide +kernel
theorem dX9_movedInAll_6 : decode cX9_movedInAll 6 = .ok (.getfield 26, 3) := by decide +kernel
theorem dX9_movedInAll_9 : decode cX9_movedInAll 9 = .ok (.if_icmp .ge 31, 3) := by decide +kernel
theorem dX9_movedInAll_12 : decode cX9_movedInAll 12 = .ok (.iload_n 1, 1) := by decide +kernel
theorem dX9_movedInAll_13 : decode cX9_movedInAll 13 = .ok (.aload_n 0, 1) := by decide +kernel
theorem dX9_movedInAll_14 : decode cX9_movedInAll 14 = .ok (.getfield 29, 3) := by decide +kernel
theorem dX9_movedInAll_17 : decode cX9_movedInAll 17 = .ok (.iload_n 2, 1) := by decide +kernel
theorem dX9_movedInAll_18 : decode cX9_movedInAll 18 = .ok (.iaload, 1) := by decide +kernel
theorem dX9_movedInAll_19 : decode cX9_movedInAll 19 = .ok (.ifCond .lt 12, 3) := by decide +kernel
theorem dX9_movedInAll_22 : decode cX9_movedInAll 22 = .ok (.aload_n 0, 1) := by decide +kernel
theorem dX9_movedInAll_23 : decode cX9_movedInAll 23 = .ok (.getfield 38, 3) := by decide +kernel
theorem dX9_movedInAll_26 : decode cX9_movedInAll 26 = .ok (.iload_n 2, 1) := by decide +kernel
theorem dX9_movedInAll_27 : decode cX9_movedInAll 27 = .ok (.iaload, 1) := by decide +kernel
theorem dX9_movedInAll_28 : decode cX9_movedInAll 28 = .ok (.goto 4, 3) := by decide +kernel
theorem dX9_movedInAll_31 : decode cX9_movedInAll 31 = .ok (.iconst 0, 1) := by decide +kernel
theorem dX9_movedInAll_32 : decode cX9_movedInAll 32 = .ok (.iadd, 1) := by decide +kernel
theorem dX9_movedInAll_33 : decode cX9_movedInAll 33 = .ok (.istore_n 1, 1) := by decide +kernel
theorem dX9_movedInAll_34 : decode cX9_movedInAll 34 = .ok (.iinc 2 1, 3) := by decide +kernel
theorem dX9_movedInAll_37 : decode cX9_movedInAll 37 = .ok (.goto (-33), 3) := by decide +kernel
theorem dX9_movedInAll_40 : decode cX9_movedInAll 40 = .ok (.iload_n 1, 1) := by decide +kernel
theorem dX9_movedInAll_41 : decode cX9_movedInAll 41 = .ok (.ireturn, 1) := by decide +kernel
theorem dX9_movedMost_0 : decode cX9_movedMost 0 = .ok (.iconst 0, 1) := by decide +kernel
theorem dX9_movedMost_1 : decode cX9_movedMost 1 = .ok (.istore_n 1, 1) := by decide +kernel
theorem dX9_movedMost_2 : decode cX9_movedMost 2 = .ok (.iconst 0, 1) := by decide +kernel
theorem dX9_movedMost_3 : decode cX9_movedMost 3 = .ok (.istore_n 2, 1) := by decide +kernel
theorem dX9_movedMost_4 : decode cX9_movedMost 4 = .ok (.iload_n 2, 1) := by decide +kernel
theorem dX9_movedMost_5 : decode cX9_movedMost 5 = .ok (.aload_n 0, 1) := by decide +kernel
theorem dX9_movedMost_6 : decode cX9_movedMost 6 = .ok (.getfield 26, 3) := by decide +kernel
theorem dX9_movedMost_9 : decode cX9_movedMost 9 = .ok (.if_icmp .ge 39, 3) := by decide +kernel
theorem dX9_movedMost_12 : decode cX9_movedMost 12 = .ok (.aload_n 0, 1) := by decide +kernel
theorem dX9_movedMost_13 : decode cX9_movedMost 13 = .ok (.getfield 29, 3) := by decide +kernel
theorem dX9_movedMost_16 : decode cX9_movedMost 16 = .ok (.iload_n 2, 1) := by decide +kernel
theorem dX9_movedMost_17 : decode cX9_movedMost 17 = .ok (.iaload, 1) := by decide +kernel
theorem dX9_movedMost_18 : decode cX9_movedMost 18 = .ok (.ifCond .lt 22, 3) := by decide +kernel
theorem dX9_movedMost_21 : decode cX9_movedMost 21 = .ok (.aload_n 0, 1) := by decide +kernel
theorem dX9_movedMost_22 : decode cX9_movedMost 22 = .ok (.getfield 38, 3) := by decide +kernel
theorem dX9_movedMost_25 : decode cX9_movedMost 25 = .ok (.iload_n 2, 1) := by decide +kernel
theorem dX9_movedMost_26 : decode cX9_movedMost 26 = .ok (.iaload, 1) := by decide +kernel
theorem dX9_movedMost_27 : decode cX9_movedMost 27 = .ok (.iload_n 1, 1) := by decide +kernel
theorem dX9_movedMost_28 : decode cX9_movedMost 28 = .ok (.if_icmp .le 12, 3) := by decide +kernel
theorem dX9_movedMost_31 : decode cX9_movedMost 31 = .ok (.aload_n 0, 1) := by decide +kernel
theorem dX9_movedMost_32 : decode cX9_movedMost 32 = .ok (.getfield 38, 3) := by decide +kernel
theorem dX9_movedMost_35 : decode cX9_movedMost 35 = .ok (.iload_n 2, 1) := by decide +kernel
theorem dX9_movedMost_36 : decode cX9_movedMost 36 = .ok (.iaload, 1) := by decide +kernel
theorem dX9_movedMost_37 : decode cX9_movedMost 37 = .ok (.goto 4, 3) := by decide +kernel
theorem dX9_movedMost_40 : decode cX9_movedMost 40 = .ok (.iload_n 1, 1) := by decide +kernel
theorem dX9_movedMost_41 : decode cX9_movedMost 41 = .ok (.istore_n 1, 1) := by decide +kernel
theorem dX9_movedMost_42 : decode cX9_movedMost 42 = .ok (.iinc 2 1, 3) := by decide +kernel
theorem dX9_movedMost_45 : decode cX9_movedMost 45 = .ok (.goto (-41), 3) := by decide +kernel
theorem dX9_movedMost_48 : decode cX9_movedMost 48 = .ok (.iload_n 1, 1) := by decide +kernel
theorem dX9_movedMost_49 : decode cX9_movedMost 49 = .ok (.ireturn, 1) := by decide +kernel
theorem dX9_readsMost_0 : decode cX9_readsMost 0 = .ok (.iconst 0, 1) := by decide +kernel
theorem dX9_readsMost_1 : decode cX9_readsMost 1 = .ok (.istore_n 1, 1) := by decide +kernel
theorem dX9_readsMost_2 : decode cX9_readsMost 2 = .ok (.iconst 0, 1) := by decide +kernel
theorem dX9_readsMost_3 : decode cX9_readsMost 3 = .ok (.istore_n 2, 1) := by decide +kernel
theorem dX9_readsMost_4 : decode cX9_readsMost 4 = .ok (.iload_n 2, 1) := by decide +kernel
theorem dX9_readsMost_5 : decode cX9_readsMost 5 = .ok (.aload_n 0, 1) := by decide +kernel
theorem dX9_readsMost_6 : decode cX9_readsMost 6 = .ok (.getfield 26, 3) := by decide +kernel
theorem dX9_readsMost_9 : decode cX9_readsMost 9 = .ok (.if_icmp .ge 45, 3) := by decide +kernel
theorem dX9_readsMost_12 : decode cX9_readsMost 12 = .ok (.aload_n 0, 1) := by decide +kernel
theorem dX9_readsMost_13 : decode cX9_readsMost 13 = .ok (.getfield 29, 3) := by decide +kernel
theorem dX9_readsMost_16 : decode cX9_readsMost 16 = .ok (.iload_n 2, 1) := by decide +kernel
theorem dX9_readsMost_17 : decode cX9_readsMost 17 = .ok (.iaload, 1) := by decide +kernel
theorem dX9_readsMost_18 : decode cX9_readsMost 18 = .ok (.ifCond .lt 17, 3) := by decide +kernel
theorem dX9_readsMost_21 : decode cX9_readsMost 21 = .ok (.aload_n 0, 1) := by decide +kernel
theorem dX9_readsMost_22 : decode cX9_readsMost 22 = .ok (.aload_n 0, 1) := by decide +kernel
theorem dX9_readsMost_23 : decode cX9_readsMost 23 = .ok (.getfield 29, 3) := by decide +kernel
theorem dX9_readsMost_26 : decode cX9_readsMost 26 = .ok (.iload_n 2, 1) := by decide +kernel
theorem dX9_readsMost_27 : decode cX9_readsMost 27 = .ok (.iaload, 1) := by decide +kernel
theorem dX9_readsMost_28 : decode cX9_readsMost 28 = .ok (.iload_n 2, 1) := by decide +kernel
theorem dX9_readsMost_29 : decode cX9_readsMost 29 = .ok (.invokevirtual 124, 3) := by decide +kernel
theorem dX9_readsMost_32 : decode cX9_readsMost 32 = .ok (.goto 4, 3) := by decide +kernel
theorem dX9_readsMost_35 : decode cX9_readsMost 35 = .ok (.iconst 0, 1) := by decide +kernel
theorem dX9_readsMost_36 : decode cX9_readsMost 36 = .ok (.istore_n 3, 1) := by decide +kernel
theorem dX9_readsMost_37 : decode cX9_readsMost 37 = .ok (.iload_n 3, 1) := by decide +kernel
theorem dX9_readsMost_38 : decode cX9_readsMost 38 = .ok (.iload_n 1, 1) := by decide +kernel
theorem dX9_readsMost_39 : decode cX9_readsMost 39 = .ok (.if_icmp .le 7, 3) := by decide +kernel
theorem dX9_readsMost_42 : decode cX9_readsMost 42 = .ok (.iload_n 3, 1) := by decide +kernel
theorem dX9_readsMost_43 : decode cX9_readsMost 43 = .ok (.goto 4, 3) := by decide +kernel
theorem dX9_readsMost_46 : decode cX9_readsMost 46 = .ok (.iload_n 1, 1) := by decide +kernel
theorem dX9_readsMost_47 : decode cX9_readsMost 47 = .ok (.istore_n 1, 1) := by decide +kernel
theorem dX9_readsMost_48 : decode cX9_readsMost 48 = .ok (.iinc 2 1, 3) := by decide +kernel
theorem dX9_readsMost_51 : decode cX9_readsMost 51 = .ok (.goto (-47), 3) := by decide +kernel
theorem dX9_readsMost_54 : decode cX9_readsMost 54 = .ok (.iload_n 1, 1) := by decide +kernel
theorem dX9_readsMost_55 : decode cX9_readsMost 55 = .ok (.ireturn, 1) := by decide +kernel
theorem dX9_takeInHand_0 : decode cX9_takeInHand 0 = .ok (.aload_n 0, 1) := by decide +kernel
theorem dX9_takeInHand_1 : decode cX9_takeInHand 1 = .ok (.getfield 29, 3) := by decide +kernel
theorem dX9_takeInHand_4 : decode cX9_takeInHand 4 = .ok (.aload_n 0, 1) := by decide +kernel
theorem dX9_takeInHand_5 : decode cX9_takeInHand 5 = .ok (.getfield 26, 3) := by decide +kernel
theorem dX9_takeInHand_8 : decode cX9_takeInHand 8 = .ok (.iload_n 1, 1) := by decide +kernel
theorem dX9_takeInHand_9 : decode cX9_takeInHand 9 = .ok (.iastore, 1) := by decide +kernel
theorem dX9_takeInHand_10 : decode cX9_takeInHand 10 = .ok (.aload_n 0, 1) := by decide +kernel
theorem dX9_takeInHand_11 : decode cX9_takeInHand 11 = .ok (.getfield 32, 3) := by decide +kernel
theorem dX9_takeInHand_14 : decode cX9_takeInHand 14 = .ok (.aload_n 0, 1) := by decide +kernel
theorem dX9_takeInHand_15 : decode cX9_takeInHand 15 = .ok (.getfield 26, 3) := by decide +kernel
theorem dX9_takeInHand_18 : decode cX9_takeInHand 18 = .ok (.iload_n 2, 1) := by decide +kernel
theorem dX9_takeInHand_19 : decode cX9_takeInHand 19 = .ok (.iastore, 1) := by decide +kernel
theorem dX9_takeInHand_20 : decode cX9_takeInHand 20 = .ok (.aload_n 0, 1) := by decide +kernel
theorem dX9_takeInHand_21 : decode cX9_takeInHand 21 = .ok (.getfield 35, 3) := by decide +kernel
theorem dX9_takeInHand_24 : decode cX9_takeInHand 24 = .ok (.aload_n 0, 1) := by decide +kernel
theorem dX9_takeInHand_25 : decode cX9_takeInHand 25 = .ok (.getfield 26, 3) := by decide +kernel
theorem dX9_takeInHand_28 : decode cX9_takeInHand 28 = .ok (.iload_n 3, 1) := by decide +kernel
theorem dX9_takeInHand_29 : decode cX9_takeInHand 29 = .ok (.iastore, 1) := by decide +kernel
theorem dX9_takeInHand_30 : decode cX9_takeInHand 30 = .ok (.aload_n 0, 1) := by decide +kernel
theorem dX9_takeInHand_31 : decode cX9_takeInHand 31 = .ok (.getfield 38, 3) := by decide +kernel
theorem dX9_takeInHand_34 : decode cX9_takeInHand 34 = .ok (.aload_n 0, 1) := by decide +kernel
theorem dX9_takeInHand_35 : decode cX9_takeInHand 35 = .ok (.getfield 26, 3) := by decide +kernel
theorem dX9_takeInHand_38 : decode cX9_takeInHand 38 = .ok (.iload 4, 2) := by decide +kernel
theorem dX9_takeInHand_40 : decode cX9_takeInHand 40 = .ok (.iastore, 1) := by decide +kernel
theorem dX9_takeInHand_41 : decode cX9_takeInHand 41 = .ok (.aload_n 0, 1) := by decide +kernel
theorem dX9_takeInHand_42 : decode cX9_takeInHand 42 = .ok (.getfield 41, 3) := by decide +kernel
theorem dX9_takeInHand_45 : decode cX9_takeInHand 45 = .ok (.aload_n 0, 1) := by decide +kernel
theorem dX9_takeInHand_46 : decode cX9_takeInHand 46 = .ok (.getfield 26, 3) := by decide +kernel
theorem dX9_takeInHand_49 : decode cX9_takeInHand 49 = .ok (.aload_n 0, 1) := by decide +kernel
theorem dX9_takeInHand_50 : decode cX9_takeInHand 50 = .ok (.getfield 12, 3) := by decide +kernel
theorem dX9_takeInHand_53 : decode cX9_takeInHand 53 = .ok (.iload_n 1, 1) := by decide +kernel
theorem dX9_takeInHand_54 : decode cX9_takeInHand 54 = .ok (.invokevirtual 108, 3) := by decide +kernel
theorem dX9_takeInHand_57 : decode cX9_takeInHand 57 = .ok (.iastore, 1) := by decide +kernel
theorem dX9_takeInHand_58 : decode cX9_takeInHand 58 = .ok (.aload_n 0, 1) := by decide +kernel
theorem dX9_takeInHand_59 : decode cX9_takeInHand 59 = .ok (.getfield 44, 3) := by decide +kernel
theorem dX9_takeInHand_62 : decode cX9_takeInHand 62 = .ok (.aload_n 0, 1) := by decide +kernel
theorem dX9_takeInHand_63 : decode cX9_takeInHand 63 = .ok (.getfield 26, 3) := by decide +kernel
theorem dX9_takeInHand_66 : decode cX9_takeInHand 66 = .ok (.aload_n 0, 1) := by decide +kernel
theorem dX9_takeInHand_67 : decode cX9_takeInHand 67 = .ok (.getfield 12, 3) := by decide +kernel
theorem dX9_takeInHand_70 : decode cX9_takeInHand 70 = .ok (.iload_n 1, 1) := by decide +kernel
theorem dX9_takeInHand_71 : decode cX9_takeInHand 71 = .ok (.invokevirtual 115, 3) := by decide +kernel
theorem dX9_takeInHand_74 : decode cX9_takeInHand 74 = .ok (.iastore, 1) := by decide +kernel
theorem dX9_takeInHand_75 : decode cX9_takeInHand 75 = .ok (.return_, 1) := by decide +kernel
theorem dX9_emptyHand_0 : decode cX9_emptyHand 0 = .ok (.aload_n 0, 1) := by decide +kernel
theorem dX9_emptyHand_1 : decode cX9_emptyHand 1 = .ok (.getfield 29, 3) := by decide +kernel
theorem dX9_emptyHand_4 : decode cX9_emptyHand 4 = .ok (.aload_n 0, 1) := by decide +kernel
theorem dX9_emptyHand_5 : decode cX9_emptyHand 5 = .ok (.getfield 26, 3) := by decide +kernel
theorem dX9_emptyHand_8 : decode cX9_emptyHand 8 = .ok (.iconst (-1), 1) := by decide +kernel
theorem dX9_emptyHand_9 : decode cX9_emptyHand 9 = .ok (.iastore, 1) := by decide +kernel
theorem dX9_emptyHand_10 : decode cX9_emptyHand 10 = .ok (.return_, 1) := by decide +kernel
theorem dX9_openBucketFor_0 : decode cX9_openBucketFor 0 = .ok (.aload_n 0, 1) := by decide +kernel
theorem dX9_openBucketFor_1 : decode cX9_openBucketFor 1 = .ok (.getfield 18, 3) := by decide +kernel
theorem dX9_openBucketFor_4 : decode cX9_openBucketFor 4 = .ok (.aload_n 0, 1) := by decide +kernel
theorem dX9_openBucketFor_5 : decode cX9_openBucketFor 5 = .ok (.getfield 41, 3) := by decide +kernel
theorem dX9_openBucketFor_8 : decode cX9_openBucketFor 8 = .ok (.iload_n 1, 1) := by decide +kernel
theorem dX9_openBucketFor_9 : decode cX9_openBucketFor 9 = .ok (.iaload, 1) := by decide +kernel
theorem dX9_openBucketFor_10 : decode cX9_openBucketFor 10 = .ok (.iaload, 1) := by decide +kernel
theorem dX9_openBucketFor_11 : decode cX9_openBucketFor 11 = .ok (.aload_n 0, 1) := by decide +kernel
theorem dX9_openBucketFor_12 : decode cX9_openBucketFor 12 = .ok (.getfield 12, 3) := by decide +kernel
theorem dX9_openBucketFor_15 : decode cX9_openBucketFor 15 = .ok (.getfield 98, 3) := by decide +kernel
theorem dX9_openBucketFor_18 : decode cX9_openBucketFor 18 = .ok (.if_icmp .ge 10, 3) := by decide +kernel
theorem dX9_openBucketFor_21 : decode cX9_openBucketFor 21 = .ok (.aload_n 0, 1) := by decide +kernel
theorem dX9_openBucketFor_22 : decode cX9_openBucketFor 22 = .ok (.getfield 41, 3) := by decide +kernel
theorem dX9_openBucketFor_25 : decode cX9_openBucketFor 25 = .ok (.iload_n 1, 1) := by decide +kernel
theorem dX9_openBucketFor_26 : decode cX9_openBucketFor 26 = .ok (.iaload, 1) := by decide +kernel
theorem dX9_openBucketFor_27 : decode cX9_openBucketFor 27 = .ok (.ireturn, 1) := by decide +kernel
theorem dX9_openBucketFor_28 : decode cX9_openBucketFor 28 = .ok (.aload_n 0, 1) := by decide +kernel
theorem dX9_openBucketFor_29 : decode cX9_openBucketFor 29 = .ok (.getfield 18, 3) := by decide +kernel
theorem dX9_openBucketFor_32 : decode cX9_openBucketFor 32 = .ok (.aload_n 0, 1) := by decide +kernel
theorem dX9_openBucketFor_33 : decode cX9_openBucketFor 33 = .ok (.getfield 44, 3) := by decide +kernel
theorem dX9_openBucketFor_36 : decode cX9_openBucketFor 36 = .ok (.iload_n 1, 1) := by decide +kernel
theorem dX9_openBucketFor_37 : decode cX9_openBucketFor 37 = .ok (.iaload, 1) := by decide +kernel
theorem dX9_openBucketFor_38 : decode cX9_openBucketFor 38 = .ok (.iaload, 1) := by decide +kernel
theorem dX9_openBucketFor_39 : decode cX9_openBucketFor 39 = .ok (.aload_n 0, 1) := by decide +kernel
theorem dX9_openBucketFor_40 : decode cX9_openBucketFor 40 = .ok (.getfield 12, 3) := by decide +kernel
theorem dX9_openBucketFor_43 : decode cX9_openBucketFor 43 = .ok (.getfield 98, 3) := by decide +kernel
theorem dX9_openBucketFor_46 : decode cX9_openBucketFor 46 = .ok (.if_icmp .ge 12, 3) := by decide +kernel
theorem dX9_openBucketFor_49 : decode cX9_openBucketFor 49 = .ok (.aload_n 0, 1) := by decide +kernel
theorem dX9_openBucketFor_50 : decode cX9_openBucketFor 50 = .ok (.getfield 44, 3) := by decide +kernel
theorem dX9_openBucketFor_53 : decode cX9_openBucketFor 53 = .ok (.iload_n 1, 1) := by decide +kernel
theorem dX9_openBucketFor_54 : decode cX9_openBucketFor 54 = .ok (.iaload, 1) := by decide +kernel
theorem dX9_openBucketFor_55 : decode cX9_openBucketFor 55 = .ok (.goto 4, 3) := by decide +kernel
theorem dX9_openBucketFor_58 : decode cX9_openBucketFor 58 = .ok (.iconst (-1), 1) := by decide +kernel
theorem dX9_openBucketFor_59 : decode cX9_openBucketFor 59 = .ok (.ireturn, 1) := by decide +kernel
theorem dX9_emptyPlaceIn_0 : decode cX9_emptyPlaceIn 0 = .ok (.iload_n 1, 1) := by decide +kernel
theorem dX9_emptyPlaceIn_1 : decode cX9_emptyPlaceIn 1 = .ok (.aload_n 0, 1) := by decide +kernel
theorem dX9_emptyPlaceIn_2 : decode cX9_emptyPlaceIn 2 = .ok (.getfield 12, 3) := by decide +kernel
theorem dX9_emptyPlaceIn_5 : decode cX9_emptyPlaceIn 5 = .ok (.getfield 98, 3) := by decide +kernel
theorem dX9_emptyPlaceIn_8 : decode cX9_emptyPlaceIn 8 = .ok (.imul, 1) := by decide +kernel
theorem dX9_emptyPlaceIn_9 : decode cX9_emptyPlaceIn 9 = .ok (.istore_n 2, 1) := by decide +kernel
theorem dX9_emptyPlaceIn_10 : decode cX9_emptyPlaceIn 10 = .ok (.iload_n 2, 1) := by decide +kernel
theorem dX9_emptyPlaceIn_11 : decode cX9_emptyPlaceIn 11 = .ok (.aload_n 0, 1) := by decide +kernel
theorem dX9_emptyPlaceIn_12 : decode cX9_emptyPlaceIn 12 = .ok (.getfield 12, 3) := by decide +kernel
theorem dX9_emptyPlaceIn_15 : decode cX9_emptyPlaceIn 15 = .ok (.getfield 98, 3) := by decide +kernel
theorem dX9_emptyPlaceIn_18 : decode cX9_emptyPlaceIn 18 = .ok (.iadd, 1) := by decide +kernel
theorem dX9_emptyPlaceIn_19 : decode cX9_emptyPlaceIn 19 = .ok (.iconst 1, 1) := by decide +kernel
theorem dX9_emptyPlaceIn_20 : decode cX9_emptyPlaceIn 20 = .ok (.isub, 1) := by decide +kernel
theorem dX9_emptyPlaceIn_21 : decode cX9_emptyPlaceIn 21 = .ok (.istore_n 3, 1) := by decide +kernel
theorem dX9_emptyPlaceIn_22 : decode cX9_emptyPlaceIn 22 = .ok (.iload_n 2, 1) := by decide +kernel
theorem dX9_emptyPlaceIn_23 : decode cX9_emptyPlaceIn 23 = .ok (.iload_n 3, 1) := by decide +kernel
theorem dX9_emptyPlaceIn_24 : decode cX9_emptyPlaceIn 24 = .ok (.if_icmp .ge 18, 3) := by decide +kernel
theorem dX9_emptyPlaceIn_27 : decode cX9_emptyPlaceIn 27 = .ok (.aload_n 0, 1) := by decide +kernel
theorem dX9_emptyPlaceIn_28 : decode cX9_emptyPlaceIn 28 = .ok (.getfield 29, 3) := by decide +kernel
theorem dX9_emptyPlaceIn_31 : decode cX9_emptyPlaceIn 31 = .ok (.iload_n 2, 1) := by decide +kernel
theorem dX9_emptyPlaceIn_32 : decode cX9_emptyPlaceIn 32 = .ok (.iaload, 1) := by decide +kernel
theorem dX9_emptyPlaceIn_33 : decode cX9_emptyPlaceIn 33 = .ok (.ifCond .lt 9, 3) := by decide +kernel
theorem dX9_emptyPlaceIn_36 : decode cX9_emptyPlaceIn 36 = .ok (.iinc 2 1, 3) := by decide +kernel
theorem dX9_emptyPlaceIn_39 : decode cX9_emptyPlaceIn 39 = .ok (.goto (-17), 3) := by decide +kernel
theorem dX9_emptyPlaceIn_42 : decode cX9_emptyPlaceIn 42 = .ok (.iload_n 2, 1) := by decide +kernel
theorem dX9_emptyPlaceIn_43 : decode cX9_emptyPlaceIn 43 = .ok (.ireturn, 1) := by decide +kernel
theorem dX9_move_0 : decode cX9_move 0 = .ok (.aload_n 0, 1) := by decide +kernel
theorem dX9_move_1 : decode cX9_move 1 = .ok (.getfield 29, 3) := by decide +kernel
theorem dX9_move_4 : decode cX9_move 4 = .ok (.iload_n 2, 1) := by decide +kernel
theorem dX9_move_5 : decode cX9_move 5 = .ok (.aload_n 0, 1) := by decide +kernel
theorem dX9_move_6 : decode cX9_move 6 = .ok (.getfield 29, 3) := by decide +kernel
theorem dX9_move_9 : decode cX9_move 9 = .ok (.iload_n 1, 1) := by decide +kernel
theorem dX9_move_10 : decode cX9_move 10 = .ok (.iaload, 1) := by decide +kernel
theorem dX9_move_11 : decode cX9_move 11 = .ok (.iastore, 1) := by decide +kernel
theorem dX9_move_12 : decode cX9_move 12 = .ok (.aload_n 0, 1) := by decide +kernel
theorem dX9_move_13 : decode cX9_move 13 = .ok (.getfield 32, 3) := by decide +kernel
theorem dX9_move_16 : decode cX9_move 16 = .ok (.iload_n 2, 1) := by decide +kernel
theorem dX9_move_17 : decode cX9_move 17 = .ok (.aload_n 0, 1) := by decide +kernel
theorem dX9_move_18 : decode cX9_move 18 = .ok (.getfield 32, 3) := by decide +kernel
theorem dX9_move_21 : decode cX9_move 21 = .ok (.iload_n 1, 1) := by decide +kernel
theorem dX9_move_22 : decode cX9_move 22 = .ok (.iaload, 1) := by decide +kernel
theorem dX9_move_23 : decode cX9_move 23 = .ok (.iastore, 1) := by decide +kernel
theorem dX9_move_24 : decode cX9_move 24 = .ok (.aload_n 0, 1) := by decide +kernel
theorem dX9_move_25 : decode cX9_move 25 = .ok (.getfield 35, 3) := by decide +kernel
theorem dX9_move_28 : decode cX9_move 28 = .ok (.iload_n 2, 1) := by decide +kernel
theorem dX9_move_29 : decode cX9_move 29 = .ok (.aload_n 0, 1) := by decide +kernel
theorem dX9_move_30 : decode cX9_move 30 = .ok (.getfield 35, 3) := by decide +kernel
theorem dX9_move_33 : decode cX9_move 33 = .ok (.iload_n 1, 1) := by decide +kernel
theorem dX9_move_34 : decode cX9_move 34 = .ok (.iaload, 1) := by decide +kernel
theorem dX9_move_35 : decode cX9_move 35 = .ok (.iastore, 1) := by decide +kernel
theorem dX9_move_36 : decode cX9_move 36 = .ok (.aload_n 0, 1) := by decide +kernel
theorem dX9_move_37 : decode cX9_move 37 = .ok (.getfield 38, 3) := by decide +kernel
theorem dX9_move_40 : decode cX9_move 40 = .ok (.iload_n 2, 1) := by decide +kernel
theorem dX9_move_41 : decode cX9_move 41 = .ok (.aload_n 0, 1) := by decide +kernel
theorem dX9_move_42 : decode cX9_move 42 = .ok (.getfield 38, 3) := by decide +kernel
theorem dX9_move_45 : decode cX9_move 45 = .ok (.iload_n 1, 1) := by decide +kernel
theorem dX9_move_46 : decode cX9_move 46 = .ok (.iaload, 1) := by decide +kernel
theorem dX9_move_47 : decode cX9_move 47 = .ok (.iastore, 1) := by decide +kernel
theorem dX9_move_48 : decode cX9_move 48 = .ok (.aload_n 0, 1) := by decide +kernel
theorem dX9_move_49 : decode cX9_move 49 = .ok (.getfield 41, 3) := by decide +kernel
theorem dX9_move_52 : decode cX9_move 52 = .ok (.iload_n 2, 1) := by decide +kernel
theorem dX9_move_53 : decode cX9_move 53 = .ok (.aload_n 0, 1) := by decide +kernel
theorem dX9_move_54 : decode cX9_move 54 = .ok (.getfield 41, 3) := by decide +kernel
theorem dX9_move_57 : decode cX9_move 57 = .ok (.iload_n 1, 1) := by decide +kernel
theorem dX9_move_58 : decode cX9_move 58 = .ok (.iaload, 1) := by decide +kernel
theorem dX9_move_59 : decode cX9_move 59 = .ok (.iastore, 1) := by decide +kernel
theorem dX9_move_60 : decode cX9_move 60 = .ok (.aload_n 0, 1) := by decide +kernel
theorem dX9_move_61 : decode cX9_move 61 = .ok (.getfield 44, 3) := by decide +kernel
theorem dX9_move_64 : decode cX9_move 64 = .ok (.iload_n 2, 1) := by decide +kernel
theorem dX9_move_65 : decode cX9_move 65 = .ok (.aload_n 0, 1) := by decide +kernel
theorem dX9_move_66 : decode cX9_move 66 = .ok (.getfield 44, 3) := by decide +kernel
theorem dX9_move_69 : decode cX9_move 69 = .ok (.iload_n 1, 1) := by decide +kernel
theorem dX9_move_70 : decode cX9_move 70 = .ok (.iaload, 1) := by decide +kernel
theorem dX9_move_71 : decode cX9_move 71 = .ok (.iastore, 1) := by decide +kernel
theorem dX9_move_72 : decode cX9_move 72 = .ok (.aload_n 0, 1) := by decide +kernel
theorem dX9_move_73 : decode cX9_move 73 = .ok (.getfield 29, 3) := by decide +kernel
theorem dX9_move_76 : decode cX9_move 76 = .ok (.iload_n 1, 1) := by decide +kernel
theorem dX9_move_77 : decode cX9_move 77 = .ok (.iconst (-1), 1) := by decide +kernel
theorem dX9_move_78 : decode cX9_move 78 = .ok (.iastore, 1) := by decide +kernel
theorem dX9_move_79 : decode cX9_move 79 = .ok (.aload_n 0, 1) := by decide +kernel
theorem dX9_move_80 : decode cX9_move 80 = .ok (.getfield 12, 3) := by decide +kernel
theorem dX9_move_83 : decode cX9_move 83 = .ok (.getfield 98, 3) := by decide +kernel
theorem dX9_move_86 : decode cX9_move 86 = .ok (.istore_n 3, 1) := by decide +kernel
theorem dX9_move_87 : decode cX9_move 87 = .ok (.iload_n 3, 1) := by decide +kernel
theorem dX9_move_88 : decode cX9_move 88 = .ok (.ifCond .le 23, 3) := by decide +kernel
theorem dX9_move_91 : decode cX9_move 91 = .ok (.iload_n 1, 1) := by decide +kernel
theorem dX9_move_92 : decode cX9_move 92 = .ok (.aload_n 0, 1) := by decide +kernel
theorem dX9_move_93 : decode cX9_move 93 = .ok (.getfield 22, 3) := by decide +kernel
theorem dX9_move_96 : decode cX9_move 96 = .ok (.if_icmp .ge 15, 3) := by decide +kernel
theorem dX9_move_99 : decode cX9_move 99 = .ok (.aload_n 0, 1) := by decide +kernel
theorem dX9_move_100 : decode cX9_move 100 = .ok (.getfield 18, 3) := by decide +kernel
theorem dX9_move_103 : decode cX9_move 103 = .ok (.iload_n 1, 1) := by decide +kernel
theorem dX9_move_104 : decode cX9_move 104 = .ok (.iload_n 3, 1) := by decide +kernel
theorem dX9_move_105 : decode cX9_move 105 = .ok (.idiv, 1) := by decide +kernel
theorem dX9_move_106 : decode cX9_move 106 = .ok (.dup2, 1) := by decide +kernel
theorem dX9_move_107 : decode cX9_move 107 = .ok (.iaload, 1) := by decide +kernel
theorem dX9_move_108 : decode cX9_move 108 = .ok (.iconst 1, 1) := by decide +kernel
theorem dX9_move_109 : decode cX9_move 109 = .ok (.isub, 1) := by decide +kernel
theorem dX9_move_110 : decode cX9_move 110 = .ok (.iastore, 1) := by decide +kernel
theorem dX9_move_111 : decode cX9_move 111 = .ok (.iload_n 3, 1) := by decide +kernel
theorem dX9_move_112 : decode cX9_move 112 = .ok (.ifCond .le 23, 3) := by decide +kernel
theorem dX9_move_115 : decode cX9_move 115 = .ok (.iload_n 2, 1) := by decide +kernel
theorem dX9_move_116 : decode cX9_move 116 = .ok (.aload_n 0, 1) := by decide +kernel
theorem dX9_move_117 : decode cX9_move 117 = .ok (.getfield 22, 3) := by decide +kernel
theorem dX9_move_120 : decode cX9_move 120 = .ok (.if_icmp .ge 15, 3) := by decide +kernel
theorem dX9_move_123 : decode cX9_move 123 = .ok (.aload_n 0, 1) := by decide +kernel
theorem dX9_move_124 : decode cX9_move 124 = .ok (.getfield 18, 3) := by decide +kernel
theorem dX9_move_127 : decode cX9_move 127 = .ok (.iload_n 2, 1) := by decide +kernel
theorem dX9_move_128 : decode cX9_move 128 = .ok (.iload_n 3, 1) := by decide +kernel
theorem dX9_move_129 : decode cX9_move 129 = .ok (.idiv, 1) := by decide +kernel
theorem dX9_move_130 : decode cX9_move 130 = .ok (.dup2, 1) := by decide +kernel
theorem dX9_move_131 : decode cX9_move 131 = .ok (.iaload, 1) := by decide +kernel
theorem dX9_move_132 : decode cX9_move 132 = .ok (.iconst 1, 1) := by decide +kernel
theorem dX9_move_133 : decode cX9_move 133 = .ok (.iadd, 1) := by decide +kernel
theorem dX9_move_134 : decode cX9_move 134 = .ok (.iastore, 1) := by decide +kernel
theorem dX9_move_135 : decode cX9_move 135 = .ok (.return_, 1) := by decide +kernel
theorem dX9_swapHand_0 : decode cX9_swapHand 0 = .ok (.aload_n 0, 1) := by decide +kernel
theorem dX9_swapHand_1 : decode cX9_swapHand 1 = .ok (.getfield 29, 3) := by decide +kernel
theorem dX9_swapHand_4 : decode cX9_swapHand 4 = .ok (.aload_n 0, 1) := by decide +kernel
theorem dX9_swapHand_5 : decode cX9_swapHand 5 = .ok (.getfield 26, 3) := by decide +kernel
theorem dX9_swapHand_8 : decode cX9_swapHand 8 = .ok (.iaload, 1) := by decide +kernel
theorem dX9_swapHand_9 : decode cX9_swapHand 9 = .ok (.istore_n 2, 1) := by decide +kernel
theorem dX9_swapHand_10 : decode cX9_swapHand 10 = .ok (.aload_n 0, 1) := by decide +kernel
theorem dX9_swapHand_11 : decode cX9_swapHand 11 = .ok (.getfield 32, 3) := by decide +kernel
theorem dX9_swapHand_14 : decode cX9_swapHand 14 = .ok (.aload_n 0, 1) := by decide +kernel
theorem dX9_swapHand_15 : decode cX9_swapHand 15 = .ok (.getfield 26, 3) := by decide +kernel
theorem dX9_swapHand_18 : decode cX9_swapHand 18 = .ok (.iaload, 1) := by decide +kernel
theorem dX9_swapHand_19 : decode cX9_swapHand 19 = .ok (.istore_n 3, 1) := by decide +kernel
theorem dX9_swapHand_20 : decode cX9_swapHand 20 = .ok (.aload_n 0, 1) := by decide +kernel
theorem dX9_swapHand_21 : decode cX9_swapHand 21 = .ok (.getfield 35, 3) := by decide +kernel
theorem dX9_swapHand_24 : decode cX9_swapHand 24 = .ok (.aload_n 0, 1) := by decide +kernel
theorem dX9_swapHand_25 : decode cX9_swapHand 25 = .ok (.getfield 26, 3) := by decide +kernel
theorem dX9_swapHand_28 : decode cX9_swapHand 28 = .ok (.iaload, 1) := by decide +kernel
theorem dX9_swapHand_29 : decode cX9_swapHand 29 = .ok (.istore 4, 2) := by decide +kernel
theorem dX9_swapHand_31 : decode cX9_swapHand 31 = .ok (.aload_n 0, 1) := by decide +kernel
theorem dX9_swapHand_32 : decode cX9_swapHand 32 = .ok (.getfield 38, 3) := by decide +kernel
theorem dX9_swapHand_35 : decode cX9_swapHand 35 = .ok (.aload_n 0, 1) := by decide +kernel
theorem dX9_swapHand_36 : decode cX9_swapHand 36 = .ok (.getfield 26, 3) := by decide +kernel
theorem dX9_swapHand_39 : decode cX9_swapHand 39 = .ok (.iaload, 1) := by decide +kernel
theorem dX9_swapHand_40 : decode cX9_swapHand 40 = .ok (.istore 5, 2) := by decide +kernel
theorem dX9_swapHand_42 : decode cX9_swapHand 42 = .ok (.aload_n 0, 1) := by decide +kernel
theorem dX9_swapHand_43 : decode cX9_swapHand 43 = .ok (.getfield 41, 3) := by decide +kernel
theorem dX9_swapHand_46 : decode cX9_swapHand 46 = .ok (.aload_n 0, 1) := by decide +kernel
theorem dX9_swapHand_47 : decode cX9_swapHand 47 = .ok (.getfield 26, 3) := by decide +kernel
theorem dX9_swapHand_50 : decode cX9_swapHand 50 = .ok (.iaload, 1) := by decide +kernel
theorem dX9_swapHand_51 : decode cX9_swapHand 51 = .ok (.istore 6, 2) := by decide +kernel
theorem dX9_swapHand_53 : decode cX9_swapHand 53 = .ok (.aload_n 0, 1) := by decide +kernel
theorem dX9_swapHand_54 : decode cX9_swapHand 54 = .ok (.getfield 44, 3) := by decide +kernel
theorem dX9_swapHand_57 : decode cX9_swapHand 57 = .ok (.aload_n 0, 1) := by decide +kernel
theorem dX9_swapHand_58 : decode cX9_swapHand 58 = .ok (.getfield 26, 3) := by decide +kernel
theorem dX9_swapHand_61 : decode cX9_swapHand 61 = .ok (.iaload, 1) := by decide +kernel
theorem dX9_swapHand_62 : decode cX9_swapHand 62 = .ok (.istore 7, 2) := by decide +kernel
theorem dX9_swapHand_64 : decode cX9_swapHand 64 = .ok (.aload_n 0, 1) := by decide +kernel
theorem dX9_swapHand_65 : decode cX9_swapHand 65 = .ok (.getfield 29, 3) := by decide +kernel
theorem dX9_swapHand_68 : decode cX9_swapHand 68 = .ok (.aload_n 0, 1) := by decide +kernel
theorem dX9_swapHand_69 : decode cX9_swapHand 69 = .ok (.getfield 26, 3) := by decide +kernel
theorem dX9_swapHand_72 : decode cX9_swapHand 72 = .ok (.aload_n 0, 1) := by decide +kernel
theorem dX9_swapHand_73 : decode cX9_swapHand 73 = .ok (.getfield 29, 3) := by decide +kernel
theorem dX9_swapHand_76 : decode cX9_swapHand 76 = .ok (.iload_n 1, 1) := by decide +kernel
theorem dX9_swapHand_77 : decode cX9_swapHand 77 = .ok (.iaload, 1) := by decide +kernel
theorem dX9_swapHand_78 : decode cX9_swapHand 78 = .ok (.iastore, 1) := by decide +kernel
theorem dX9_swapHand_79 : decode cX9_swapHand 79 = .ok (.aload_n 0, 1) := by decide +kernel
theorem dX9_swapHand_80 : decode cX9_swapHand 80 = .ok (.getfield 32, 3) := by decide +kernel
theorem dX9_swapHand_83 : decode cX9_swapHand 83 = .ok (.aload_n 0, 1) := by decide +kernel
theorem dX9_swapHand_84 : decode cX9_swapHand 84 = .ok (.getfield 26, 3) := by decide +kernel
theorem dX9_swapHand_87 : decode cX9_swapHand 87 = .ok (.aload_n 0, 1) := by decide +kernel
theorem dX9_swapHand_88 : decode cX9_swapHand 88 = .ok (.getfield 32, 3) := by decide +kernel
theorem dX9_swapHand_91 : decode cX9_swapHand 91 = .ok (.iload_n 1, 1) := by decide +kernel
theorem dX9_swapHand_92 : decode cX9_swapHand 92 = .ok (.iaload, 1) := by decide +kernel
theorem dX9_swapHand_93 : decode cX9_swapHand 93 = .ok (.iastore, 1) := by decide +kernel
theorem dX9_swapHand_94 : decode cX9_swapHand 94 = .ok (.aload_n 0, 1) := by decide +kernel
theorem dX9_swapHand_95 : decode cX9_swapHand 95 = .ok (.getfield 35, 3) := by decide +kernel
theorem dX9_swapHand_98 : decode cX9_swapHand 98 = .ok (.aload_n 0, 1) := by decide +kernel
theorem dX9_swapHand_99 : decode cX9_swapHand 99 = .ok (.getfield 26, 3) := by decide +kernel
theorem dX9_swapHand_102 : decode cX9_swapHand 102 = .ok (.aload_n 0, 1) := by decide +kernel
theorem dX9_swapHand_103 : decode cX9_swapHand 103 = .ok (.getfield 35, 3) := by decide +kernel
theorem dX9_swapHand_106 : decode cX9_swapHand 106 = .ok (.iload_n 1, 1) := by decide +kernel
theorem dX9_swapHand_107 : decode cX9_swapHand 107 = .ok (.iaload, 1) := by decide +kernel
theorem dX9_swapHand_108 : decode cX9_swapHand 108 = .ok (.iastore, 1) := by decide +kernel
theorem dX9_swapHand_109 : decode cX9_swapHand 109 = .ok (.aload_n 0, 1) := by decide +kernel
theorem dX9_swapHand_110 : decode cX9_swapHand 110 = .ok (.getfield 38, 3) := by decide +kernel
theorem dX9_swapHand_113 : decode cX9_swapHand 113 = .ok (.aload_n 0, 1) := by decide +kernel
theorem dX9_swapHand_114 : decode cX9_swapHand 114 = .ok (.getfield 26, 3) := by decide +kernel
theorem dX9_swapHand_117 : decode cX9_swapHand 117 = .ok (.aload_n 0, 1) := by decide +kernel
theorem dX9_swapHand_118 : decode cX9_swapHand 118 = .ok (.getfield 38, 3) := by decide +kernel
theorem dX9_swapHand_121 : decode cX9_swapHand 121 = .ok (.iload_n 1, 1) := by decide +kernel
theorem dX9_swapHand_122 : decode cX9_swapHand 122 = .ok (.iaload, 1) := by decide +kernel
theorem dX9_swapHand_123 : decode cX9_swapHand 123 = .ok (.iastore, 1) := by decide +kernel
theorem dX9_swapHand_124 : decode cX9_swapHand 124 = .ok (.aload_n 0, 1) := by decide +kernel
theorem dX9_swapHand_125 : decode cX9_swapHand 125 = .ok (.getfield 41, 3) := by decide +kernel
theorem dX9_swapHand_128 : decode cX9_swapHand 128 = .ok (.aload_n 0, 1) := by decide +kernel
theorem dX9_swapHand_129 : decode cX9_swapHand 129 = .ok (.getfield 26, 3) := by decide +kernel
theorem dX9_swapHand_132 : decode cX9_swapHand 132 = .ok (.aload_n 0, 1) := by decide +kernel
theorem dX9_swapHand_133 : decode cX9_swapHand 133 = .ok (.getfield 41, 3) := by decide +kernel
theorem dX9_swapHand_136 : decode cX9_swapHand 136 = .ok (.iload_n 1, 1) := by decide +kernel
theorem dX9_swapHand_137 : decode cX9_swapHand 137 = .ok (.iaload, 1) := by decide +kernel
theorem dX9_swapHand_138 : decode cX9_swapHand 138 = .ok (.iastore, 1) := by decide +kernel
theorem dX9_swapHand_139 : decode cX9_swapHand 139 = .ok (.aload_n 0, 1) := by decide +kernel
theorem dX9_swapHand_140 : decode cX9_swapHand 140 = .ok (.getfield 44, 3) := by decide +kernel
theorem dX9_swapHand_143 : decode cX9_swapHand 143 = .ok (.aload_n 0, 1) := by decide +kernel
theorem dX9_swapHand_144 : decode cX9_swapHand 144 = .ok (.getfield 26, 3) := by decide +kernel
theorem dX9_swapHand_147 : decode cX9_swapHand 147 = .ok (.aload_n 0, 1) := by decide +kernel
theorem dX9_swapHand_148 : decode cX9_swapHand 148 = .ok (.getfield 44, 3) := by decide +kernel
theorem dX9_swapHand_151 : decode cX9_swapHand 151 = .ok (.iload_n 1, 1) := by decide +kernel
theorem dX9_swapHand_152 : decode cX9_swapHand 152 = .ok (.iaload, 1) := by decide +kernel
theorem dX9_swapHand_153 : decode cX9_swapHand 153 = .ok (.iastore, 1) := by decide +kernel
theorem dX9_swapHand_154 : decode cX9_swapHand 154 = .ok (.aload_n 0, 1) := by decide +kernel
theorem dX9_swapHand_155 : decode cX9_swapHand 155 = .ok (.getfield 29, 3) := by decide +kernel
theorem dX9_swapHand_158 : decode cX9_swapHand 158 = .ok (.iload_n 1, 1) := by decide +kernel
theorem dX9_swapHand_159 : decode cX9_swapHand 159 = .ok (.iload_n 2, 1) := by decide +kernel
theorem dX9_swapHand_160 : decode cX9_swapHand 160 = .ok (.iastore, 1) := by decide +kernel
theorem dX9_swapHand_161 : decode cX9_swapHand 161 = .ok (.aload_n 0, 1) := by decide +kernel
theorem dX9_swapHand_162 : decode cX9_swapHand 162 = .ok (.getfield 32, 3) := by decide +kernel
theorem dX9_swapHand_165 : decode cX9_swapHand 165 = .ok (.iload_n 1, 1) := by decide +kernel
theorem dX9_swapHand_166 : decode cX9_swapHand 166 = .ok (.iload_n 3, 1) := by decide +kernel
theorem dX9_swapHand_167 : decode cX9_swapHand 167 = .ok (.iastore, 1) := by decide +kernel
theorem dX9_swapHand_168 : decode cX9_swapHand 168 = .ok (.aload_n 0, 1) := by decide +kernel
theorem dX9_swapHand_169 : decode cX9_swapHand 169 = .ok (.getfield 35, 3) := by decide +kernel
theorem dX9_swapHand_172 : decode cX9_swapHand 172 = .ok (.iload_n 1, 1) := by decide +kernel
theorem dX9_swapHand_173 : decode cX9_swapHand 173 = .ok (.iload 4, 2) := by decide +kernel
theorem dX9_swapHand_175 : decode cX9_swapHand 175 = .ok (.iastore, 1) := by decide +kernel
theorem dX9_swapHand_176 : decode cX9_swapHand 176 = .ok (.aload_n 0, 1) := by decide +kernel
theorem dX9_swapHand_177 : decode cX9_swapHand 177 = .ok (.getfield 38, 3) := by decide +kernel
theorem dX9_swapHand_180 : decode cX9_swapHand 180 = .ok (.iload_n 1, 1) := by decide +kernel
theorem dX9_swapHand_181 : decode cX9_swapHand 181 = .ok (.iload 5, 2) := by decide +kernel
theorem dX9_swapHand_183 : decode cX9_swapHand 183 = .ok (.iastore, 1) := by decide +kernel
theorem dX9_swapHand_184 : decode cX9_swapHand 184 = .ok (.aload_n 0, 1) := by decide +kernel
theorem dX9_swapHand_185 : decode cX9_swapHand 185 = .ok (.getfield 41, 3) := by decide +kernel
theorem dX9_swapHand_188 : decode cX9_swapHand 188 = .ok (.iload_n 1, 1) := by decide +kernel
theorem dX9_swapHand_189 : decode cX9_swapHand 189 = .ok (.iload 6, 2) := by decide +kernel
theorem dX9_swapHand_191 : decode cX9_swapHand 191 = .ok (.iastore, 1) := by decide +kernel
theorem dX9_swapHand_192 : decode cX9_swapHand 192 = .ok (.aload_n 0, 1) := by decide +kernel
theorem dX9_swapHand_193 : decode cX9_swapHand 193 = .ok (.getfield 44, 3) := by decide +kernel
theorem dX9_swapHand_196 : decode cX9_swapHand 196 = .ok (.iload_n 1, 1) := by decide +kernel
theorem dX9_swapHand_197 : decode cX9_swapHand 197 = .ok (.iload 7, 2) := by decide +kernel
theorem dX9_swapHand_199 : decode cX9_swapHand 199 = .ok (.iastore, 1) := by decide +kernel
theorem dX9_swapHand_200 : decode cX9_swapHand 200 = .ok (.return_, 1) := by decide +kernel
theorem dX9_closeStash_0 : decode cX9_closeStash 0 = .ok (.aload_n 0, 1) := by decide +kernel
theorem dX9_closeStash_1 : decode cX9_closeStash 1 = .ok (.getfield 22, 3) := by decide +kernel
theorem dX9_closeStash_4 : decode cX9_closeStash 4 = .ok (.iload_n 1, 1) := by decide +kernel
theorem dX9_closeStash_5 : decode cX9_closeStash 5 = .ok (.iadd, 1) := by decide +kernel
theorem dX9_closeStash_6 : decode cX9_closeStash 6 = .ok (.istore_n 2, 1) := by decide +kernel
theorem dX9_closeStash_7 : decode cX9_closeStash 7 = .ok (.iload_n 2, 1) := by decide +kernel
theorem dX9_closeStash_8 : decode cX9_closeStash 8 = .ok (.aload_n 0, 1) := by decide +kernel
theorem dX9_closeStash_9 : decode cX9_closeStash 9 = .ok (.getfield 22, 3) := by decide +kernel
theorem dX9_closeStash_12 : decode cX9_closeStash 12 = .ok (.aload_n 0, 1) := by decide +kernel
theorem dX9_closeStash_13 : decode cX9_closeStash 13 = .ok (.getfield 77, 3) := by decide +kernel
theorem dX9_closeStash_16 : decode cX9_closeStash 16 = .ok (.iadd, 1) := by decide +kernel
theorem dX9_closeStash_17 : decode cX9_closeStash 17 = .ok (.iconst 1, 1) := by decide +kernel
theorem dX9_closeStash_18 : decode cX9_closeStash 18 = .ok (.isub, 1) := by decide +kernel
theorem dX9_closeStash_19 : decode cX9_closeStash 19 = .ok (.if_icmp .ge 17, 3) := by decide +kernel
theorem dX9_closeStash_22 : decode cX9_closeStash 22 = .ok (.aload_n 0, 1) := by decide +kernel
theorem dX9_closeStash_23 : decode cX9_closeStash 23 = .ok (.iload_n 2, 1) := by decide +kernel
theorem dX9_closeStash_24 : decode cX9_closeStash 24 = .ok (.iconst 1, 1) := by decide +kernel
theorem dX9_closeStash_25 : decode cX9_closeStash 25 = .ok (.iadd, 1) := by decide +kernel
theorem dX9_closeStash_26 : decode cX9_closeStash 26 = .ok (.iload_n 2, 1) := by decide +kernel
theorem dX9_closeStash_27 : decode cX9_closeStash 27 = .ok (.invokevirtual 127, 3) := by decide +kernel
theorem dX9_closeStash_30 : decode cX9_closeStash 30 = .ok (.iinc 2 1, 3) := by decide +kernel
theorem dX9_closeStash_33 : decode cX9_closeStash 33 = .ok (.goto (-26), 3) := by decide +kernel
theorem dX9_closeStash_36 : decode cX9_closeStash 36 = .ok (.aload_n 0, 1) := by decide +kernel
theorem dX9_closeStash_37 : decode cX9_closeStash 37 = .ok (.dup, 1) := by decide +kernel
theorem dX9_closeStash_38 : decode cX9_closeStash 38 = .ok (.getfield 77, 3) := by decide +kernel
theorem dX9_closeStash_41 : decode cX9_closeStash 41 = .ok (.iconst 1, 1) := by decide +kernel
theorem dX9_closeStash_42 : decode cX9_closeStash 42 = .ok (.isub, 1) := by decide +kernel
theorem dX9_closeStash_43 : decode cX9_closeStash 43 = .ok (.putfield 77, 3) := by decide +kernel
theorem dX9_closeStash_46 : decode cX9_closeStash 46 = .ok (.return_, 1) := by decide +kernel
