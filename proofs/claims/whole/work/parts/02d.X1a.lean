theorem dX1_init_0 : decode cX1_init 0 = .ok (.aload_n 0, 1) := by decide +kernel
theorem dX1_init_1 : decode cX1_init 1 = .ok (.invokespecial 3, 3) := by decide +kernel
theorem dX1_init_4 : decode cX1_init 4 = .ok (.aload_n 0, 1) := by decide +kernel
theorem dX1_init_5 : decode cX1_init 5 = .ok (.bipush 32, 2) := by decide +kernel
theorem dX1_init_7 : decode cX1_init 7 = .ok (.newarray .int, 2) := by decide +kernel
theorem dX1_init_9 : decode cX1_init 9 = .ok (.putfield 9, 3) := by decide +kernel
theorem dX1_init_12 : decode cX1_init 12 = .ok (.aload_n 0, 1) := by decide +kernel
theorem dX1_init_13 : decode cX1_init 13 = .ok (.bipush 32, 2) := by decide +kernel
theorem dX1_init_15 : decode cX1_init 15 = .ok (.newarray .int, 2) := by decide +kernel
theorem dX1_init_17 : decode cX1_init 17 = .ok (.putfield 15, 3) := by decide +kernel
theorem dX1_init_20 : decode cX1_init 20 = .ok (.aload_n 0, 1) := by decide +kernel
theorem dX1_init_21 : decode cX1_init 21 = .ok (.bipush 32, 2) := by decide +kernel
theorem dX1_init_23 : decode cX1_init 23 = .ok (.newarray .int, 2) := by decide +kernel
theorem dX1_init_25 : decode cX1_init 25 = .ok (.putfield 18, 3) := by decide +kernel
theorem dX1_init_28 : decode cX1_init 28 = .ok (.aload_n 0, 1) := by decide +kernel
theorem dX1_init_29 : decode cX1_init 29 = .ok (.bipush 32, 2) := by decide +kernel
theorem dX1_init_31 : decode cX1_init 31 = .ok (.newarray .int, 2) := by decide +kernel
theorem dX1_init_33 : decode cX1_init 33 = .ok (.putfield 21, 3) := by decide +kernel
theorem dX1_init_36 : decode cX1_init 36 = .ok (.aload_n 0, 1) := by decide +kernel
theorem dX1_init_37 : decode cX1_init 37 = .ok (.bipush 32, 2) := by decide +kernel
theorem dX1_init_39 : decode cX1_init 39 = .ok (.newarray .boolean, 2) := by decide +kernel
theorem dX1_init_41 : decode cX1_init 41 = .ok (.putfield 24, 3) := by decide +kernel
theorem dX1_init_44 : decode cX1_init 44 = .ok (.return_, 1) := by decide +kernel
theorem dX1_seek_0 : decode cX1_seek 0 = .ok (.aload_n 0, 1) := by decide +kernel
theorem dX1_seek_1 : decode cX1_seek 1 = .ok (.aload_n 1, 1) := by decide +kernel
theorem dX1_seek_2 : decode cX1_seek 2 = .ok (.getfield 28, 3) := by decide +kernel
theorem dX1_seek_5 : decode cX1_seek 5 = .ok (.getfield 34, 3) := by decide +kernel
theorem dX1_seek_8 : decode cX1_seek 8 = .ok (.iload_n 2, 1) := by decide +kernel
theorem dX1_seek_9 : decode cX1_seek 9 = .ok (.iload_n 3, 1) := by decide +kernel
theorem dX1_seek_10 : decode cX1_seek 10 = .ok (.invokevirtual 40, 3) := by decide +kernel
theorem dX1_seek_13 : decode cX1_seek 13 = .ok (.aload_n 1, 1) := by decide +kernel
theorem dX1_seek_14 : decode cX1_seek 14 = .ok (.getfield 28, 3) := by decide +kernel
theorem dX1_seek_17 : decode cX1_seek 17 = .ok (.getfield 44, 3) := by decide +kernel
theorem dX1_seek_20 : decode cX1_seek 20 = .ok (.istore 4, 2) := by decide +kernel
theorem dX1_seek_22 : decode cX1_seek 22 = .ok (.iconst 0, 1) := by decide +kernel
theorem dX1_seek_23 : decode cX1_seek 23 = .ok (.istore 5, 2) := by decide +kernel
theorem dX1_seek_25 : decode cX1_seek 25 = .ok (.iload 5, 2) := by decide +kernel
theorem dX1_seek_27 : decode cX1_seek 27 = .ok (.aload_n 0, 1) := by decide +kernel
theorem dX1_seek_28 : decode cX1_seek 28 = .ok (.getfield 47, 3) := by decide +kernel
theorem dX1_seek_31 : decode cX1_seek 31 = .ok (.if_icmp .ge 175, 3) := by decide +kernel
theorem dX1_seek_34 : decode cX1_seek 34 = .ok (.iload 5, 2) := by decide +kernel
theorem dX1_seek_36 : decode cX1_seek 36 = .ok (.bipush 32, 2) := by decide +kernel
theorem dX1_seek_38 : decode cX1_seek 38 = .ok (.if_icmp .ge 168, 3) := by decide +kernel
theorem dX1_seek_41 : decode cX1_seek 41 = .ok (.aload_n 0, 1) := by decide +kernel
theorem dX1_seek_42 : decode cX1_seek 42 = .ok (.getfield 15, 3) := by decide +kernel
theorem dX1_seek_45 : decode cX1_seek 45 = .ok (.iload 5, 2) := by decide +kernel
theorem dX1_seek_47 : decode cX1_seek 47 = .ok (.iaload, 1) := by decide +kernel
theorem dX1_seek_48 : decode cX1_seek 48 = .ok (.istore 6, 2) := by decide +kernel
theorem dX1_seek_50 : decode cX1_seek 50 = .ok (.iload 6, 2) := by decide +kernel
theorem dX1_seek_52 : decode cX1_seek 52 = .ok (.iload 4, 2) := by decide +kernel
theorem dX1_seek_54 : decode cX1_seek 54 = .ok (.imul, 1) := by decide +kernel
theorem dX1_seek_55 : decode cX1_seek 55 = .ok (.istore 7, 2) := by decide +kernel
theorem dX1_seek_57 : decode cX1_seek 57 = .ok (.iload 7, 2) := by decide +kernel
theorem dX1_seek_59 : decode cX1_seek 59 = .ok (.istore 8, 2) := by decide +kernel
theorem dX1_seek_61 : decode cX1_seek 61 = .ok (.iload 8, 2) := by decide +kernel
theorem dX1_seek_63 : decode cX1_seek 63 = .ok (.iload 7, 2) := by decide +kernel
theorem dX1_seek_65 : decode cX1_seek 65 = .ok (.iload 4, 2) := by decide +kernel
theorem dX1_seek_67 : decode cX1_seek 67 = .ok (.iadd, 1) := by decide +kernel
theorem dX1_seek_68 : decode cX1_seek 68 = .ok (.if_icmp .ge 132, 3) := by decide +kernel
theorem dX1_seek_71 : decode cX1_seek 71 = .ok (.aload_n 1, 1) := by decide +kernel
theorem dX1_seek_72 : decode cX1_seek 72 = .ok (.getfield 50, 3) := by decide +kernel
theorem dX1_seek_75 : decode cX1_seek 75 = .ok (.iload 8, 2) := by decide +kernel
theorem dX1_seek_77 : decode cX1_seek 77 = .ok (.iaload, 1) := by decide +kernel
theorem dX1_seek_78 : decode cX1_seek 78 = .ok (.ifCond .ge 6, 3) := by decide +kernel
theorem dX1_seek_81 : decode cX1_seek 81 = .ok (.goto 113, 3) := by decide +kernel
theorem dX1_seek_84 : decode cX1_seek 84 = .ok (.aload_n 1, 1) := by decide +kernel
theorem dX1_seek_85 : decode cX1_seek 85 = .ok (.getfield 53, 3) := by decide +kernel
theorem dX1_seek_88 : decode cX1_seek 88 = .ok (.iload 8, 2) := by decide +kernel
theorem dX1_seek_90 : decode cX1_seek 90 = .ok (.iaload, 1) := by decide +kernel
theorem dX1_seek_91 : decode cX1_seek 91 = .ok (.istore 9, 2) := by decide +kernel
theorem dX1_seek_93 : decode cX1_seek 93 = .ok (.iload 9, 2) := by decide +kernel
theorem dX1_seek_95 : decode cX1_seek 95 = .ok (.iload 6, 2) := by decide +kernel
theorem dX1_seek_97 : decode cX1_seek 97 = .ok (.if_icmp .ne 13, 3) := by decide +kernel
theorem dX1_seek_100 : decode cX1_seek 100 = .ok (.aload_n 1, 1) := by decide +kernel
theorem dX1_seek_101 : decode cX1_seek 101 = .ok (.getfield 56, 3) := by decide +kernel
theorem dX1_seek_104 : decode cX1_seek 104 = .ok (.iload 8, 2) := by decide +kernel
theorem dX1_seek_106 : decode cX1_seek 106 = .ok (.iaload, 1) := by decide +kernel
theorem dX1_seek_107 : decode cX1_seek 107 = .ok (.goto 5, 3) := by decide +kernel
theorem dX1_seek_110 : decode cX1_seek 110 = .ok (.iload 9, 2) := by decide +kernel
theorem dX1_seek_112 : decode cX1_seek 112 = .ok (.istore 10, 2) := by decide +kernel
theorem dX1_seek_114 : decode cX1_seek 114 = .ok (.aload_n 0, 1) := by decide +kernel
theorem dX1_seek_115 : decode cX1_seek 115 = .ok (.getfield 24, 3) := by decide +kernel
theorem dX1_seek_118 : decode cX1_seek 118 = .ok (.iload 10, 2) := by decide +kernel
theorem dX1_seek_120 : decode cX1_seek 120 = .ok (.baload, 1) := by decide +kernel
theorem dX1_seek_121 : decode cX1_seek 121 = .ok (.ifCond .eq 6, 3) := by decide +kernel
theorem dX1_seek_124 : decode cX1_seek 124 = .ok (.goto 70, 3) := by decide +kernel
theorem dX1_seek_127 : decode cX1_seek 127 = .ok (.aload_n 0, 1) := by decide +kernel
theorem dX1_seek_128 : decode cX1_seek 128 = .ok (.getfield 24, 3) := by decide +kernel
theorem dX1_seek_131 : decode cX1_seek 131 = .ok (.iload 10, 2) := by decide +kernel
theorem dX1_seek_133 : decode cX1_seek 133 = .ok (.iconst 1, 1) := by decide +kernel
theorem dX1_seek_134 : decode cX1_seek 134 = .ok (.bastore, 1) := by decide +kernel
theorem dX1_seek_135 : decode cX1_seek 135 = .ok (.aload_n 0, 1) := by decide +kernel
theorem dX1_seek_136 : decode cX1_seek 136 = .ok (.getfield 18, 3) := by decide +kernel
theorem dX1_seek_139 : decode cX1_seek 139 = .ok (.iload 10, 2) := by decide +kernel
theorem dX1_seek_141 : decode cX1_seek 141 = .ok (.iload 8, 2) := by decide +kernel
theorem dX1_seek_143 : decode cX1_seek 143 = .ok (.iastore, 1) := by decide +kernel
theorem dX1_seek_144 : decode cX1_seek 144 = .ok (.aload_n 0, 1) := by decide +kernel
theorem dX1_seek_145 : decode cX1_seek 145 = .ok (.getfield 21, 3) := by decide +kernel
theorem dX1_seek_148 : decode cX1_seek 148 = .ok (.iload 10, 2) := by decide +kernel
theorem dX1_seek_150 : decode cX1_seek 150 = .ok (.iload 6, 2) := by decide +kernel
theorem dX1_seek_152 : decode cX1_seek 152 = .ok (.iastore, 1) := by decide +kernel
theorem dX1_seek_153 : decode cX1_seek 153 = .ok (.aload_n 1, 1) := by decide +kernel
theorem dX1_seek_154 : decode cX1_seek 154 = .ok (.getfield 59, 3) := by decide +kernel
theorem dX1_seek_157 : decode cX1_seek 157 = .ok (.iload 10, 2) := by decide +kernel
theorem dX1_seek_159 : decode cX1_seek 159 = .ok (.iaload, 1) := by decide +kernel
theorem dX1_seek_160 : decode cX1_seek 160 = .ok (.iload 4, 2) := by decide +kernel
theorem dX1_seek_162 : decode cX1_seek 162 = .ok (.if_icmp .ge 11, 3) := by decide +kernel
theorem dX1_seek_165 : decode cX1_seek 165 = .ok (.aload_n 0, 1) := by decide +kernel
theorem dX1_seek_166 : decode cX1_seek 166 = .ok (.iload 10, 2) := by decide +kernel
theorem dX1_seek_168 : decode cX1_seek 168 = .ok (.invokevirtual 62, 3) := by decide +kernel
theorem dX1_seek_171 : decode cX1_seek 171 = .ok (.iconst 1, 1) := by decide +kernel
theorem dX1_seek_172 : decode cX1_seek 172 = .ok (.ireturn, 1) := by decide +kernel
theorem dX1_seek_173 : decode cX1_seek 173 = .ok (.aload_n 0, 1) := by decide +kernel
theorem dX1_seek_174 : decode cX1_seek 174 = .ok (.getfield 15, 3) := by decide +kernel
theorem dX1_seek_177 : decode cX1_seek 177 = .ok (.aload_n 0, 1) := by decide +kernel
theorem dX1_seek_178 : decode cX1_seek 178 = .ok (.getfield 47, 3) := by decide +kernel
theorem dX1_seek_181 : decode cX1_seek 181 = .ok (.iload 10, 2) := by decide +kernel
theorem dX1_seek_183 : decode cX1_seek 183 = .ok (.iastore, 1) := by decide +kernel
theorem dX1_seek_184 : decode cX1_seek 184 = .ok (.aload_n 0, 1) := by decide +kernel
theorem dX1_seek_185 : decode cX1_seek 185 = .ok (.dup, 1) := by decide +kernel
theorem dX1_seek_186 : decode cX1_seek 186 = .ok (.getfield 47, 3) := by decide +kernel
theorem dX1_seek_189 : decode cX1_seek 189 = .ok (.iconst 1, 1) := by decide +kernel
theorem dX1_seek_190 : decode cX1_seek 190 = .ok (.iadd, 1) := by decide +kernel
theorem dX1_seek_191 : decode cX1_seek 191 = .ok (.putfield 47, 3) := by decide +kernel
theorem dX1_seek_194 : decode cX1_seek 194 = .ok (.iinc 8 1, 3) := by decide +kernel
theorem dX1_seek_197 : decode cX1_seek 197 = .ok (.goto (-136), 3) := by decide +kernel
theorem dX1_seek_200 : decode cX1_seek 200 = .ok (.iinc 5 1, 3) := by decide +kernel
theorem dX1_seek_203 : decode cX1_seek 203 = .ok (.goto (-178), 3) := by decide +kernel
theorem dX1_seek_206 : decode cX1_seek 206 = .ok (.iconst 0, 1) := by decide +kernel
theorem dX1_seek_207 : decode cX1_seek 207 = .ok (.ireturn, 1) := by decide +kernel
theorem dX1_begin_0 : decode cX1_begin 0 = .ok (.iconst 0, 1) := by decide +kernel
theorem dX1_begin_1 : decode cX1_begin 1 = .ok (.istore 4, 2) := by decide +kernel
theorem dX1_begin_3 : decode cX1_begin 3 = .ok (.iload 4, 2) := by decide +kernel
theorem dX1_begin_5 : decode cX1_begin 5 = .ok (.iload_n 1, 1) := by decide +kernel
theorem dX1_begin_6 : decode cX1_begin 6 = .ok (.if_icmp .ge 24, 3) := by decide +kernel
theorem dX1_begin_9 : decode cX1_begin 9 = .ok (.iload 4, 2) := by decide +kernel
theorem dX1_begin_11 : decode cX1_begin 11 = .ok (.bipush 32, 2) := by decide +kernel
theorem dX1_begin_13 : decode cX1_begin 13 = .ok (.if_icmp .ge 17, 3) := by decide +kernel
theorem dX1_begin_16 : decode cX1_begin 16 = .ok (.aload_n 0, 1) := by decide +kernel
theorem dX1_begin_17 : decode cX1_begin 17 = .ok (.getfield 24, 3) := by decide +kernel
theorem dX1_begin_20 : decode cX1_begin 20 = .ok (.iload 4, 2) := by decide +kernel
theorem dX1_begin_22 : decode cX1_begin 22 = .ok (.iconst 0, 1) := by decide +kernel
theorem dX1_begin_23 : decode cX1_begin 23 = .ok (.bastore, 1) := by decide +kernel
theorem dX1_begin_24 : decode cX1_begin 24 = .ok (.iinc 4 1, 3) := by decide +kernel
theorem dX1_begin_27 : decode cX1_begin 27 = .ok (.goto (-24), 3) := by decide +kernel
theorem dX1_begin_30 : decode cX1_begin 30 = .ok (.aload_n 0, 1) := by decide +kernel
theorem dX1_begin_31 : decode cX1_begin 31 = .ok (.iconst 0, 1) := by decide +kernel
theorem dX1_begin_32 : decode cX1_begin 32 = .ok (.putfield 66, 3) := by decide +kernel
theorem dX1_begin_35 : decode cX1_begin 35 = .ok (.aload_n 0, 1) := by decide +kernel
theorem dX1_begin_36 : decode cX1_begin 36 = .ok (.iconst (-1), 1) := by decide +kernel
theorem dX1_begin_37 : decode cX1_begin 37 = .ok (.putfield 69, 3) := by decide +kernel
theorem dX1_begin_40 : decode cX1_begin 40 = .ok (.aload_n 0, 1) := by decide +kernel
theorem dX1_begin_41 : decode cX1_begin 41 = .ok (.getfield 15, 3) := by decide +kernel
theorem dX1_begin_44 : decode cX1_begin 44 = .ok (.iconst 0, 1) := by decide +kernel
theorem dX1_begin_45 : decode cX1_begin 45 = .ok (.iload_n 2, 1) := by decide +kernel
theorem dX1_begin_46 : decode cX1_begin 46 = .ok (.iastore, 1) := by decide +kernel
theorem dX1_begin_47 : decode cX1_begin 47 = .ok (.aload_n 0, 1) := by decide +kernel
theorem dX1_begin_48 : decode cX1_begin 48 = .ok (.iconst 1, 1) := by decide +kernel
theorem dX1_begin_49 : decode cX1_begin 49 = .ok (.putfield 47, 3) := by decide +kernel
theorem dX1_begin_52 : decode cX1_begin 52 = .ok (.aload_n 0, 1) := by decide +kernel
theorem dX1_begin_53 : decode cX1_begin 53 = .ok (.getfield 24, 3) := by decide +kernel
theorem dX1_begin_56 : decode cX1_begin 56 = .ok (.iload_n 2, 1) := by decide +kernel
theorem dX1_begin_57 : decode cX1_begin 57 = .ok (.iconst 1, 1) := by decide +kernel
theorem dX1_begin_58 : decode cX1_begin 58 = .ok (.bastore, 1) := by decide +kernel
theorem dX1_begin_59 : decode cX1_begin 59 = .ok (.aload_n 0, 1) := by decide +kernel
theorem dX1_begin_60 : decode cX1_begin 60 = .ok (.getfield 21, 3) := by decide +kernel
theorem dX1_begin_63 : decode cX1_begin 63 = .ok (.iload_n 2, 1) := by decide +kernel
theorem dX1_begin_64 : decode cX1_begin 64 = .ok (.iconst (-1), 1) := by decide +kernel
theorem dX1_begin_65 : decode cX1_begin 65 = .ok (.iastore, 1) := by decide +kernel
theorem dX1_begin_66 : decode cX1_begin 66 = .ok (.iload_n 3, 1) := by decide +kernel
theorem dX1_begin_67 : decode cX1_begin 67 = .ok (.iload_n 2, 1) := by decide +kernel
theorem dX1_begin_68 : decode cX1_begin 68 = .ok (.if_icmp .eq 29, 3) := by decide +kernel
theorem dX1_begin_71 : decode cX1_begin 71 = .ok (.aload_n 0, 1) := by decide +kernel
theorem dX1_begin_72 : decode cX1_begin 72 = .ok (.getfield 15, 3) := by decide +kernel
theorem dX1_begin_75 : decode cX1_begin 75 = .ok (.iconst 1, 1) := by decide +kernel
theorem dX1_begin_76 : decode cX1_begin 76 = .ok (.iload_n 3, 1) := by decide +kernel
theorem dX1_begin_77 : decode cX1_begin 77 = .ok (.iastore, 1) := by decide +kernel
theorem dX1_begin_78 : decode cX1_begin 78 = .ok (.aload_n 0, 1) := by decide +kernel
theorem dX1_begin_79 : decode cX1_begin 79 = .ok (.iconst 2, 1) := by decide +kernel
theorem dX1_begin_80 : decode cX1_begin 80 = .ok (.putfield 47, 3) := by decide +kernel
theorem dX1_begin_83 : decode cX1_begin 83 = .ok (.aload_n 0, 1) := by decide +kernel
theorem dX1_begin_84 : decode cX1_begin 84 = .ok (.getfield 24, 3) := by decide +kernel
theorem dX1_begin_87 : decode cX1_begin 87 = .ok (.iload_n 3, 1) := by decide +kernel
theorem dX1_begin_88 : decode cX1_begin 88 = .ok (.iconst 1, 1) := by decide +kernel
theorem dX1_begin_89 : decode cX1_begin 89 = .ok (.bastore, 1) := by decide +kernel
theorem dX1_begin_90 : decode cX1_begin 90 = .ok (.aload_n 0, 1) := by decide +kernel
theorem dX1_begin_91 : decode cX1_begin 91 = .ok (.getfield 21, 3) := by decide +kernel
theorem dX1_begin_94 : decode cX1_begin 94 = .ok (.iload_n 3, 1) := by decide +kernel
theorem dX1_begin_95 : decode cX1_begin 95 = .ok (.iconst (-1), 1) := by decide +kernel
theorem dX1_begin_96 : decode cX1_begin 96 = .ok (.iastore, 1) := by decide +kernel
theorem dX1_begin_97 : decode cX1_begin 97 = .ok (.return_, 1) := by decide +kernel
theorem dX1_trace_0 : decode cX1_trace 0 = .ok (.aload_n 0, 1) := by decide +kernel
theorem dX1_trace_1 : decode cX1_trace 1 = .ok (.iload_n 1, 1) := by decide +kernel
theorem dX1_trace_2 : decode cX1_trace 2 = .ok (.putfield 69, 3) := by decide +kernel
theorem dX1_trace_5 : decode cX1_trace 5 = .ok (.iload_n 1, 1) := by decide +kernel
theorem dX1_trace_6 : decode cX1_trace 6 = .ok (.istore_n 2, 1) := by decide +kernel
theorem dX1_trace_7 : decode cX1_trace 7 = .ok (.iconst 0, 1) := by decide +kernel
theorem dX1_trace_8 : decode cX1_trace 8 = .ok (.istore_n 3, 1) := by decide +kernel
theorem dX1_trace_9 : decode cX1_trace 9 = .ok (.iload_n 3, 1) := by decide +kernel
theorem dX1_trace_10 : decode cX1_trace 10 = .ok (.bipush 32, 2) := by decide +kernel
theorem dX1_trace_12 : decode cX1_trace 12 = .ok (.if_icmp .ge 35, 3) := by decide +kernel
theorem dX1_trace_15 : decode cX1_trace 15 = .ok (.aload_n 0, 1) := by decide +kernel
theorem dX1_trace_16 : decode cX1_trace 16 = .ok (.getfield 21, 3) := by decide +kernel
theorem dX1_trace_19 : decode cX1_trace 19 = .ok (.iload_n 2, 1) := by decide +kernel
theorem dX1_trace_20 : decode cX1_trace 20 = .ok (.iaload, 1) := by decide +kernel
theorem dX1_trace_21 : decode cX1_trace 21 = .ok (.ifCond .lt 26, 3) := by decide +kernel
theorem dX1_trace_24 : decode cX1_trace 24 = .ok (.aload_n 0, 1) := by decide +kernel
theorem dX1_trace_25 : decode cX1_trace 25 = .ok (.getfield 21, 3) := by decide +kernel
theorem dX1_trace_28 : decode cX1_trace 28 = .ok (.iload_n 2, 1) := by decide +kernel
theorem dX1_trace_29 : decode cX1_trace 29 = .ok (.iaload, 1) := by decide +kernel
theorem dX1_trace_30 : decode cX1_trace 30 = .ok (.istore_n 2, 1) := by decide +kernel
theorem dX1_trace_31 : decode cX1_trace 31 = .ok (.aload_n 0, 1) := by decide +kernel
theorem dX1_trace_32 : decode cX1_trace 32 = .ok (.dup, 1) := by decide +kernel
theorem dX1_trace_33 : decode cX1_trace 33 = .ok (.getfield 66, 3) := by decide +kernel
theorem dX1_trace_36 : decode cX1_trace 36 = .ok (.iconst 1, 1) := by decide +kernel
theorem dX1_trace_37 : decode cX1_trace 37 = .ok (.iadd, 1) := by decide +kernel
theorem dX1_trace_38 : decode cX1_trace 38 = .ok (.putfield 66, 3) := by decide +kernel
theorem dX1_trace_41 : decode cX1_trace 41 = .ok (.iinc 3 1, 3) := by decide +kernel
theorem dX1_trace_44 : decode cX1_trace 44 = .ok (.goto (-35), 3) := by decide +kernel
theorem dX1_trace_47 : decode cX1_trace 47 = .ok (.iload_n 1, 1) := by decide +kernel
theorem dX1_trace_48 : decode cX1_trace 48 = .ok (.istore_n 2, 1) := by decide +kernel
theorem dX1_trace_49 : decode cX1_trace 49 = .ok (.aload_n 0, 1) := by decide +kernel
theorem dX1_trace_50 : decode cX1_trace 50 = .ok (.getfield 66, 3) := by decide +kernel
theorem dX1_trace_53 : decode cX1_trace 53 = .ok (.iconst 1, 1) := by decide +kernel
theorem dX1_trace_54 : decode cX1_trace 54 = .ok (.isub, 1) := by decide +kernel
theorem dX1_trace_55 : decode cX1_trace 55 = .ok (.istore_n 3, 1) := by decide +kernel
theorem dX1_trace_56 : decode cX1_trace 56 = .ok (.iload_n 3, 1) := by decide +kernel
theorem dX1_trace_57 : decode cX1_trace 57 = .ok (.ifCond .lt 28, 3) := by decide +kernel
theorem dX1_trace_60 : decode cX1_trace 60 = .ok (.aload_n 0, 1) := by decide +kernel
theorem dX1_trace_61 : decode cX1_trace 61 = .ok (.getfield 9, 3) := by decide +kernel
theorem dX1_trace_64 : decode cX1_trace 64 = .ok (.iload_n 3, 1) := by decide +kernel
theorem dX1_trace_65 : decode cX1_trace 65 = .ok (.aload_n 0, 1) := by decide +kernel
theorem dX1_trace_66 : decode cX1_trace 66 = .ok (.getfield 18, 3) := by decide +kernel
theorem dX1_trace_69 : decode cX1_trace 69 = .ok (.iload_n 2, 1) := by decide +kernel
theorem dX1_trace_70 : decode cX1_trace 70 = .ok (.iaload, 1) := by decide +kernel
theorem dX1_trace_71 : decode cX1_trace 71 = .ok (.iastore, 1) := by decide +kernel
theorem dX1_trace_72 : decode cX1_trace 72 = .ok (.aload_n 0, 1) := by decide +kernel
theorem dX1_trace_73 : decode cX1_trace 73 = .ok (.getfield 21, 3) := by decide +kernel
theorem dX1_trace_76 : decode cX1_trace 76 = .ok (.iload_n 2, 1) := by decide +kernel
theorem dX1_trace_77 : decode cX1_trace 77 = .ok (.iaload, 1) := by decide +kernel
theorem dX1_trace_78 : decode cX1_trace 78 = .ok (.istore_n 2, 1) := by decide +kernel
theorem dX1_trace_79 : decode cX1_trace 79 = .ok (.iinc 3 (-1), 3) := by decide +kernel
theorem dX1_trace_82 : decode cX1_trace 82 = .ok (.goto (-26), 3) := by decide +kernel
theorem dX1_trace_85 : decode cX1_trace 85 = .ok (.return_, 1) := by decide +kernel
