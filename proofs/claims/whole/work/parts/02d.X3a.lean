theorem dX3_init_0 : decode cX3_init 0 = .ok (.aload_n 0, 1) := by decide +kernel
theorem dX3_init_1 : decode cX3_init 1 = .ok (.invokespecial 3, 3) := by decide +kernel
theorem dX3_init_4 : decode cX3_init 4 = .ok (.aload_n 0, 1) := by decide +kernel
theorem dX3_init_5 : decode cX3_init 5 = .ok (.new 9, 3) := by decide +kernel
theorem dX3_init_8 : decode cX3_init 8 = .ok (.dup, 1) := by decide +kernel
theorem dX3_init_9 : decode cX3_init 9 = .ok (.bipush 64, 2) := by decide +kernel
theorem dX3_init_11 : decode cX3_init 11 = .ok (.invokespecial 11, 3) := by decide +kernel
theorem dX3_init_14 : decode cX3_init 14 = .ok (.putfield 14, 3) := by decide +kernel
theorem dX3_init_17 : decode cX3_init 17 = .ok (.aload_n 0, 1) := by decide +kernel
theorem dX3_init_18 : decode cX3_init 18 = .ok (.new 20, 3) := by decide +kernel
theorem dX3_init_21 : decode cX3_init 21 = .ok (.dup, 1) := by decide +kernel
theorem dX3_init_22 : decode cX3_init 22 = .ok (.invokespecial 22, 3) := by decide +kernel
theorem dX3_init_25 : decode cX3_init 25 = .ok (.putfield 23, 3) := by decide +kernel
theorem dX3_init_28 : decode cX3_init 28 = .ok (.aload_n 0, 1) := by decide +kernel
theorem dX3_init_29 : decode cX3_init 29 = .ok (.aload_n 1, 1) := by decide +kernel
theorem dX3_init_30 : decode cX3_init 30 = .ok (.putfield 27, 3) := by decide +kernel
theorem dX3_init_33 : decode cX3_init 33 = .ok (.aload_n 0, 1) := by decide +kernel
theorem dX3_init_34 : decode cX3_init 34 = .ok (.aload_n 2, 1) := by decide +kernel
theorem dX3_init_35 : decode cX3_init 35 = .ok (.putfield 31, 3) := by decide +kernel
theorem dX3_init_38 : decode cX3_init 38 = .ok (.return_, 1) := by decide +kernel
theorem dX3_enter_0 : decode cX3_enter 0 = .ok (.aload_n 1, 1) := by decide +kernel
theorem dX3_enter_1 : decode cX3_enter 1 = .ok (.dup, 1) := by decide +kernel
theorem dX3_enter_2 : decode cX3_enter 2 = .ok (.getfield 35, 3) := by decide +kernel
theorem dX3_enter_5 : decode cX3_enter 5 = .ok (.iconst 1, 1) := by decide +kernel
theorem dX3_enter_6 : decode cX3_enter 6 = .ok (.iadd, 1) := by decide +kernel
theorem dX3_enter_7 : decode cX3_enter 7 = .ok (.putfield 35, 3) := by decide +kernel
theorem dX3_enter_10 : decode cX3_enter 10 = .ok (.aload_n 1, 1) := by decide +kernel
theorem dX3_enter_11 : decode cX3_enter 11 = .ok (.iload_n 2, 1) := by decide +kernel
theorem dX3_enter_12 : decode cX3_enter 12 = .ok (.invokevirtual 39, 3) := by decide +kernel
theorem dX3_enter_15 : decode cX3_enter 15 = .ok (.istore 4, 2) := by decide +kernel
theorem dX3_enter_17 : decode cX3_enter 17 = .ok (.iload 4, 2) := by decide +kernel
theorem dX3_enter_19 : decode cX3_enter 19 = .ok (.ifCond .lt 13, 3) := by decide +kernel
theorem dX3_enter_22 : decode cX3_enter 22 = .ok (.aload_n 1, 1) := by decide +kernel
theorem dX3_enter_23 : decode cX3_enter 23 = .ok (.getfield 43, 3) := by decide +kernel
theorem dX3_enter_26 : decode cX3_enter 26 = .ok (.iload 4, 2) := by decide +kernel
theorem dX3_enter_28 : decode cX3_enter 28 = .ok (.iload_n 3, 1) := by decide +kernel
theorem dX3_enter_29 : decode cX3_enter 29 = .ok (.iastore, 1) := by decide +kernel
theorem dX3_enter_30 : decode cX3_enter 30 = .ok (.iconst 0, 1) := by decide +kernel
theorem dX3_enter_31 : decode cX3_enter 31 = .ok (.ireturn, 1) := by decide +kernel
theorem dX3_enter_32 : decode cX3_enter 32 = .ok (.aload_n 1, 1) := by decide +kernel
theorem dX3_enter_33 : decode cX3_enter 33 = .ok (.iload_n 2, 1) := by decide +kernel
theorem dX3_enter_34 : decode cX3_enter 34 = .ok (.iload_n 3, 1) := by decide +kernel
theorem dX3_enter_35 : decode cX3_enter 35 = .ok (.aload_n 1, 1) := by decide +kernel
theorem dX3_enter_36 : decode cX3_enter 36 = .ok (.getfield 35, 3) := by decide +kernel
theorem dX3_enter_39 : decode cX3_enter 39 = .ok (.iconst 0, 1) := by decide +kernel
theorem dX3_enter_40 : decode cX3_enter 40 = .ok (.invokevirtual 47, 3) := by decide +kernel
theorem dX3_enter_43 : decode cX3_enter 43 = .ok (.aload_n 0, 1) := by decide +kernel
theorem dX3_enter_44 : decode cX3_enter 44 = .ok (.getfield 27, 3) := by decide +kernel
theorem dX3_enter_47 : decode cX3_enter 47 = .ok (.aload_n 1, 1) := by decide +kernel
theorem dX3_enter_48 : decode cX3_enter 48 = .ok (.invokevirtual 51, 3) := by decide +kernel
theorem dX3_enter_51 : decode cX3_enter 51 = .ok (.istore 5, 2) := by decide +kernel
theorem dX3_enter_53 : decode cX3_enter 53 = .ok (.iload 5, 2) := by decide +kernel
theorem dX3_enter_55 : decode cX3_enter 55 = .ok (.ifCond .le 6, 3) := by decide +kernel
theorem dX3_enter_58 : decode cX3_enter 58 = .ok (.iload 5, 2) := by decide +kernel
theorem dX3_enter_60 : decode cX3_enter 60 = .ok (.ireturn, 1) := by decide +kernel
theorem dX3_enter_61 : decode cX3_enter 61 = .ok (.aload_n 1, 1) := by decide +kernel
theorem dX3_enter_62 : decode cX3_enter 62 = .ok (.getfield 57, 3) := by decide +kernel
theorem dX3_enter_65 : decode cX3_enter 65 = .ok (.getfield 61, 3) := by decide +kernel
theorem dX3_enter_68 : decode cX3_enter 68 = .ok (.istore 6, 2) := by decide +kernel
theorem dX3_enter_70 : decode cX3_enter 70 = .ok (.iload 6, 2) := by decide +kernel
theorem dX3_enter_72 : decode cX3_enter 72 = .ok (.iconst 3, 1) := by decide +kernel
theorem dX3_enter_73 : decode cX3_enter 73 = .ok (.if_icmp .ne 32, 3) := by decide +kernel
theorem dX3_enter_76 : decode cX3_enter 76 = .ok (.aload_n 0, 1) := by decide +kernel
theorem dX3_enter_77 : decode cX3_enter 77 = .ok (.getfield 27, 3) := by decide +kernel
theorem dX3_enter_80 : decode cX3_enter 80 = .ok (.aload_n 1, 1) := by decide +kernel
theorem dX3_enter_81 : decode cX3_enter 81 = .ok (.aload_n 1, 1) := by decide +kernel
theorem dX3_enter_82 : decode cX3_enter 82 = .ok (.getfield 66, 3) := by decide +kernel
theorem dX3_enter_85 : decode cX3_enter 85 = .ok (.invokevirtual 69, 3) := by decide +kernel
theorem dX3_enter_88 : decode cX3_enter 88 = .ok (.ifCond .eq 17, 3) := by decide +kernel
theorem dX3_enter_91 : decode cX3_enter 91 = .ok (.aload_n 0, 1) := by decide +kernel
theorem dX3_enter_92 : decode cX3_enter 92 = .ok (.getfield 27, 3) := by decide +kernel
theorem dX3_enter_95 : decode cX3_enter 95 = .ok (.aload_n 1, 1) := by decide +kernel
theorem dX3_enter_96 : decode cX3_enter 96 = .ok (.aload_n 1, 1) := by decide +kernel
theorem dX3_enter_97 : decode cX3_enter 97 = .ok (.getfield 66, 3) := by decide +kernel
theorem dX3_enter_100 : decode cX3_enter 100 = .ok (.invokevirtual 73, 3) := by decide +kernel
theorem dX3_enter_103 : decode cX3_enter 103 = .ok (.iconst 2, 1) := by decide +kernel
theorem dX3_enter_104 : decode cX3_enter 104 = .ok (.ireturn, 1) := by decide +kernel
theorem dX3_enter_105 : decode cX3_enter 105 = .ok (.iload 6, 2) := by decide +kernel
theorem dX3_enter_107 : decode cX3_enter 107 = .ok (.iconst 2, 1) := by decide +kernel
theorem dX3_enter_108 : decode cX3_enter 108 = .ok (.if_icmp .ne 13, 3) := by decide +kernel
theorem dX3_enter_111 : decode cX3_enter 111 = .ok (.aload_n 0, 1) := by decide +kernel
theorem dX3_enter_112 : decode cX3_enter 112 = .ok (.aload_n 1, 1) := by decide +kernel
theorem dX3_enter_113 : decode cX3_enter 113 = .ok (.invokevirtual 77, 3) := by decide +kernel
theorem dX3_enter_116 : decode cX3_enter 116 = .ok (.ifCond .eq 5, 3) := by decide +kernel
theorem dX3_enter_119 : decode cX3_enter 119 = .ok (.iconst 5, 1) := by decide +kernel
theorem dX3_enter_120 : decode cX3_enter 120 = .ok (.ireturn, 1) := by decide +kernel
theorem dX3_enter_121 : decode cX3_enter 121 = .ok (.iload 6, 2) := by decide +kernel
theorem dX3_enter_123 : decode cX3_enter 123 = .ok (.iconst 1, 1) := by decide +kernel
theorem dX3_enter_124 : decode cX3_enter 124 = .ok (.if_icmp .eq 9, 3) := by decide +kernel
theorem dX3_enter_127 : decode cX3_enter 127 = .ok (.iload 6, 2) := by decide +kernel
theorem dX3_enter_129 : decode cX3_enter 129 = .ok (.iconst 3, 1) := by decide +kernel
theorem dX3_enter_130 : decode cX3_enter 130 = .ok (.if_icmp .ne 13, 3) := by decide +kernel
theorem dX3_enter_133 : decode cX3_enter 133 = .ok (.aload_n 0, 1) := by decide +kernel
theorem dX3_enter_134 : decode cX3_enter 134 = .ok (.aload_n 1, 1) := by decide +kernel
theorem dX3_enter_135 : decode cX3_enter 135 = .ok (.invokevirtual 81, 3) := by decide +kernel
theorem dX3_enter_138 : decode cX3_enter 138 = .ok (.ifCond .eq 5, 3) := by decide +kernel
theorem dX3_enter_141 : decode cX3_enter 141 = .ok (.iconst 4, 1) := by decide +kernel
theorem dX3_enter_142 : decode cX3_enter 142 = .ok (.ireturn, 1) := by decide +kernel
theorem dX3_enter_143 : decode cX3_enter 143 = .ok (.aload_n 1, 1) := by decide +kernel
theorem dX3_enter_144 : decode cX3_enter 144 = .ok (.invokevirtual 84, 3) := by decide +kernel
theorem dX3_enter_147 : decode cX3_enter 147 = .ok (.aload_n 1, 1) := by decide +kernel
theorem dX3_enter_148 : decode cX3_enter 148 = .ok (.dup, 1) := by decide +kernel
theorem dX3_enter_149 : decode cX3_enter 149 = .ok (.getfield 87, 3) := by decide +kernel
theorem dX3_enter_152 : decode cX3_enter 152 = .ok (.iconst 1, 1) := by decide +kernel
theorem dX3_enter_153 : decode cX3_enter 153 = .ok (.iadd, 1) := by decide +kernel
theorem dX3_enter_154 : decode cX3_enter 154 = .ok (.putfield 87, 3) := by decide +kernel
theorem dX3_enter_157 : decode cX3_enter 157 = .ok (.iconst (-1), 1) := by decide +kernel
theorem dX3_enter_158 : decode cX3_enter 158 = .ok (.ireturn, 1) := by decide +kernel
theorem dX3_redraw_0 : decode cX3_redraw 0 = .ok (.aload_n 0, 1) := by decide +kernel
theorem dX3_redraw_1 : decode cX3_redraw 1 = .ok (.getfield 14, 3) := by decide +kernel
theorem dX3_redraw_4 : decode cX3_redraw 4 = .ok (.aload_n 1, 1) := by decide +kernel
theorem dX3_redraw_5 : decode cX3_redraw 5 = .ok (.invokevirtual 90, 3) := by decide +kernel
theorem dX3_redraw_8 : decode cX3_redraw 8 = .ok (.iconst 0, 1) := by decide +kernel
theorem dX3_redraw_9 : decode cX3_redraw 9 = .ok (.istore_n 2, 1) := by decide +kernel
theorem dX3_redraw_10 : decode cX3_redraw 10 = .ok (.iload_n 2, 1) := by decide +kernel
theorem dX3_redraw_11 : decode cX3_redraw 11 = .ok (.aload_n 0, 1) := by decide +kernel
theorem dX3_redraw_12 : decode cX3_redraw 12 = .ok (.getfield 14, 3) := by decide +kernel
theorem dX3_redraw_15 : decode cX3_redraw 15 = .ok (.getfield 57, 3) := by decide +kernel
theorem dX3_redraw_18 : decode cX3_redraw 18 = .ok (.getfield 94, 3) := by decide +kernel
theorem dX3_redraw_21 : decode cX3_redraw 21 = .ok (.if_icmp .ge 44, 3) := by decide +kernel
theorem dX3_redraw_24 : decode cX3_redraw 24 = .ok (.aload_n 1, 1) := by decide +kernel
theorem dX3_redraw_25 : decode cX3_redraw 25 = .ok (.getfield 57, 3) := by decide +kernel
theorem dX3_redraw_28 : decode cX3_redraw 28 = .ok (.invokevirtual 97, 3) := by decide +kernel
theorem dX3_redraw_31 : decode cX3_redraw 31 = .ok (.aload_n 0, 1) := by decide +kernel
theorem dX3_redraw_32 : decode cX3_redraw 32 = .ok (.aload_n 1, 1) := by decide +kernel
theorem dX3_redraw_33 : decode cX3_redraw 33 = .ok (.invokevirtual 100, 3) := by decide +kernel
theorem dX3_redraw_36 : decode cX3_redraw 36 = .ok (.ifCond .eq 15, 3) := by decide +kernel
theorem dX3_redraw_39 : decode cX3_redraw 39 = .ok (.aload_n 1, 1) := by decide +kernel
theorem dX3_redraw_40 : decode cX3_redraw 40 = .ok (.dup, 1) := by decide +kernel
theorem dX3_redraw_41 : decode cX3_redraw 41 = .ok (.getfield 103, 3) := by decide +kernel
theorem dX3_redraw_44 : decode cX3_redraw 44 = .ok (.iconst 1, 1) := by decide +kernel
theorem dX3_redraw_45 : decode cX3_redraw 45 = .ok (.iadd, 1) := by decide +kernel
theorem dX3_redraw_46 : decode cX3_redraw 46 = .ok (.putfield 103, 3) := by decide +kernel
theorem dX3_redraw_49 : decode cX3_redraw 49 = .ok (.iconst 1, 1) := by decide +kernel
theorem dX3_redraw_50 : decode cX3_redraw 50 = .ok (.ireturn, 1) := by decide +kernel
theorem dX3_redraw_51 : decode cX3_redraw 51 = .ok (.aload_n 1, 1) := by decide +kernel
theorem dX3_redraw_52 : decode cX3_redraw 52 = .ok (.aload_n 0, 1) := by decide +kernel
theorem dX3_redraw_53 : decode cX3_redraw 53 = .ok (.getfield 14, 3) := by decide +kernel
theorem dX3_redraw_56 : decode cX3_redraw 56 = .ok (.invokevirtual 106, 3) := by decide +kernel
theorem dX3_redraw_59 : decode cX3_redraw 59 = .ok (.iinc 2 1, 3) := by decide +kernel
theorem dX3_redraw_62 : decode cX3_redraw 62 = .ok (.goto (-52), 3) := by decide +kernel
theorem dX3_redraw_65 : decode cX3_redraw 65 = .ok (.iconst 0, 1) := by decide +kernel
theorem dX3_redraw_66 : decode cX3_redraw 66 = .ok (.ireturn, 1) := by decide +kernel
theorem dX3_grow_0 : decode cX3_grow 0 = .ok (.aload_n 0, 1) := by decide +kernel
theorem dX3_grow_1 : decode cX3_grow 1 = .ok (.getfield 14, 3) := by decide +kernel
theorem dX3_grow_4 : decode cX3_grow 4 = .ok (.aload_n 1, 1) := by decide +kernel
theorem dX3_grow_5 : decode cX3_grow 5 = .ok (.invokevirtual 90, 3) := by decide +kernel
theorem dX3_grow_8 : decode cX3_grow 8 = .ok (.iconst 1, 1) := by decide +kernel
theorem dX3_grow_9 : decode cX3_grow 9 = .ok (.istore_n 2, 1) := by decide +kernel
theorem dX3_grow_10 : decode cX3_grow 10 = .ok (.iload_n 2, 1) := by decide +kernel
theorem dX3_grow_11 : decode cX3_grow 11 = .ok (.iconst 4, 1) := by decide +kernel
theorem dX3_grow_12 : decode cX3_grow 12 = .ok (.if_icmp .gt 66, 3) := by decide +kernel
theorem dX3_grow_15 : decode cX3_grow 15 = .ok (.aload_n 0, 1) := by decide +kernel
theorem dX3_grow_16 : decode cX3_grow 16 = .ok (.getfield 14, 3) := by decide +kernel
theorem dX3_grow_19 : decode cX3_grow 19 = .ok (.getfield 57, 3) := by decide +kernel
theorem dX3_grow_22 : decode cX3_grow 22 = .ok (.getfield 109, 3) := by decide +kernel
theorem dX3_grow_25 : decode cX3_grow 25 = .ok (.iload_n 2, 1) := by decide +kernel
theorem dX3_grow_26 : decode cX3_grow 26 = .ok (.ishl, 1) := by decide +kernel
theorem dX3_grow_27 : decode cX3_grow 27 = .ok (.istore_n 3, 1) := by decide +kernel
theorem dX3_grow_28 : decode cX3_grow 28 = .ok (.iload_n 3, 1) := by decide +kernel
theorem dX3_grow_29 : decode cX3_grow 29 = .ok (.bipush 16, 2) := by decide +kernel
theorem dX3_grow_31 : decode cX3_grow 31 = .ok (.if_icmp .le 5, 3) := by decide +kernel
theorem dX3_grow_34 : decode cX3_grow 34 = .ok (.iconst 0, 1) := by decide +kernel
theorem dX3_grow_35 : decode cX3_grow 35 = .ok (.ireturn, 1) := by decide +kernel
theorem dX3_grow_36 : decode cX3_grow 36 = .ok (.aload_n 1, 1) := by decide +kernel
theorem dX3_grow_37 : decode cX3_grow 37 = .ok (.getfield 57, 3) := by decide +kernel
theorem dX3_grow_40 : decode cX3_grow 40 = .ok (.iload_n 3, 1) := by decide +kernel
theorem dX3_grow_41 : decode cX3_grow 41 = .ok (.putfield 109, 3) := by decide +kernel
theorem dX3_grow_44 : decode cX3_grow 44 = .ok (.aload_n 0, 1) := by decide +kernel
theorem dX3_grow_45 : decode cX3_grow 45 = .ok (.aload_n 1, 1) := by decide +kernel
theorem dX3_grow_46 : decode cX3_grow 46 = .ok (.invokevirtual 100, 3) := by decide +kernel
theorem dX3_grow_49 : decode cX3_grow 49 = .ok (.ifCond .eq 15, 3) := by decide +kernel
theorem dX3_grow_52 : decode cX3_grow 52 = .ok (.aload_n 1, 1) := by decide +kernel
theorem dX3_grow_53 : decode cX3_grow 53 = .ok (.dup, 1) := by decide +kernel
theorem dX3_grow_54 : decode cX3_grow 54 = .ok (.getfield 112, 3) := by decide +kernel
theorem dX3_grow_57 : decode cX3_grow 57 = .ok (.iload_n 2, 1) := by decide +kernel
theorem dX3_grow_58 : decode cX3_grow 58 = .ok (.iadd, 1) := by decide +kernel
theorem dX3_grow_59 : decode cX3_grow 59 = .ok (.putfield 112, 3) := by decide +kernel
theorem dX3_grow_62 : decode cX3_grow 62 = .ok (.iconst 1, 1) := by decide +kernel
theorem dX3_grow_63 : decode cX3_grow 63 = .ok (.ireturn, 1) := by decide +kernel
theorem dX3_grow_64 : decode cX3_grow 64 = .ok (.aload_n 1, 1) := by decide +kernel
theorem dX3_grow_65 : decode cX3_grow 65 = .ok (.aload_n 0, 1) := by decide +kernel
theorem dX3_grow_66 : decode cX3_grow 66 = .ok (.getfield 14, 3) := by decide +kernel
theorem dX3_grow_69 : decode cX3_grow 69 = .ok (.invokevirtual 106, 3) := by decide +kernel
theorem dX3_grow_72 : decode cX3_grow 72 = .ok (.iinc 2 1, 3) := by decide +kernel
theorem dX3_grow_75 : decode cX3_grow 75 = .ok (.goto (-65), 3) := by decide +kernel
theorem dX3_grow_78 : decode cX3_grow 78 = .ok (.iconst 0, 1) := by decide +kernel
theorem dX3_grow_79 : decode cX3_grow 79 = .ok (.ireturn, 1) := by decide +kernel
theorem dX3_rehashBy_0 : decode cX3_rehashBy 0 = .ok (.aload_n 0, 1) := by decide +kernel
theorem dX3_rehashBy_1 : decode cX3_rehashBy 1 = .ok (.getfield 14, 3) := by decide +kernel
theorem dX3_rehashBy_4 : decode cX3_rehashBy 4 = .ok (.aload_n 1, 1) := by decide +kernel
theorem dX3_rehashBy_5 : decode cX3_rehashBy 5 = .ok (.invokevirtual 90, 3) := by decide +kernel
theorem dX3_rehashBy_8 : decode cX3_rehashBy 8 = .ok (.aload_n 1, 1) := by decide +kernel
theorem dX3_rehashBy_9 : decode cX3_rehashBy 9 = .ok (.getfield 57, 3) := by decide +kernel
theorem dX3_rehashBy_12 : decode cX3_rehashBy 12 = .ok (.iload_n 2, 1) := by decide +kernel
theorem dX3_rehashBy_13 : decode cX3_rehashBy 13 = .ok (.iload_n 3, 1) := by decide +kernel
theorem dX3_rehashBy_14 : decode cX3_rehashBy 14 = .ok (.iload 4, 2) := by decide +kernel
theorem dX3_rehashBy_16 : decode cX3_rehashBy 16 = .ok (.iload 5, 2) := by decide +kernel
theorem dX3_rehashBy_18 : decode cX3_rehashBy 18 = .ok (.invokevirtual 115, 3) := by decide +kernel
theorem dX3_rehashBy_21 : decode cX3_rehashBy 21 = .ok (.aload_n 0, 1) := by decide +kernel
theorem dX3_rehashBy_22 : decode cX3_rehashBy 22 = .ok (.aload_n 1, 1) := by decide +kernel
theorem dX3_rehashBy_23 : decode cX3_rehashBy 23 = .ok (.invokevirtual 100, 3) := by decide +kernel
theorem dX3_rehashBy_26 : decode cX3_rehashBy 26 = .ok (.ifCond .eq 15, 3) := by decide +kernel
theorem dX3_rehashBy_29 : decode cX3_rehashBy 29 = .ok (.aload_n 1, 1) := by decide +kernel
theorem dX3_rehashBy_30 : decode cX3_rehashBy 30 = .ok (.dup, 1) := by decide +kernel
theorem dX3_rehashBy_31 : decode cX3_rehashBy 31 = .ok (.getfield 103, 3) := by decide +kernel
theorem dX3_rehashBy_34 : decode cX3_rehashBy 34 = .ok (.iconst 1, 1) := by decide +kernel
theorem dX3_rehashBy_35 : decode cX3_rehashBy 35 = .ok (.iadd, 1) := by decide +kernel
theorem dX3_rehashBy_36 : decode cX3_rehashBy 36 = .ok (.putfield 103, 3) := by decide +kernel
theorem dX3_rehashBy_39 : decode cX3_rehashBy 39 = .ok (.iconst 1, 1) := by decide +kernel
theorem dX3_rehashBy_40 : decode cX3_rehashBy 40 = .ok (.ireturn, 1) := by decide +kernel
theorem dX3_rehashBy_41 : decode cX3_rehashBy 41 = .ok (.aload_n 1, 1) := by decide +kernel
theorem dX3_rehashBy_42 : decode cX3_rehashBy 42 = .ok (.aload_n 0, 1) := by decide +kernel
theorem dX3_rehashBy_43 : decode cX3_rehashBy 43 = .ok (.getfield 14, 3) := by decide +kernel
theorem dX3_rehashBy_46 : decode cX3_rehashBy 46 = .ok (.invokevirtual 106, 3) := by decide +kernel
theorem dX3_rehashBy_49 : decode cX3_rehashBy 49 = .ok (.iconst 0, 1) := by decide +kernel
theorem dX3_rehashBy_50 : decode cX3_rehashBy 50 = .ok (.ireturn, 1) := by decide +kernel
theorem dX3_layAnew_0 : decode cX3_layAnew 0 = .ok (.aload_n 1, 1) := by decide +kernel
theorem dX3_layAnew_1 : decode cX3_layAnew 1 = .ok (.invokevirtual 118, 3) := by decide +kernel
theorem dX3_layAnew_4 : decode cX3_layAnew 4 = .ok (.iconst 0, 1) := by decide +kernel
theorem dX3_layAnew_5 : decode cX3_layAnew 5 = .ok (.istore_n 2, 1) := by decide +kernel
theorem dX3_layAnew_6 : decode cX3_layAnew 6 = .ok (.iload_n 2, 1) := by decide +kernel
theorem dX3_layAnew_7 : decode cX3_layAnew 7 = .ok (.aload_n 0, 1) := by decide +kernel
theorem dX3_layAnew_8 : decode cX3_layAnew 8 = .ok (.getfield 14, 3) := by decide +kernel
theorem dX3_layAnew_11 : decode cX3_layAnew 11 = .ok (.getfield 66, 3) := by decide +kernel
theorem dX3_layAnew_14 : decode cX3_layAnew 14 = .ok (.if_icmp .gt 40, 3) := by decide +kernel
theorem dX3_layAnew_17 : decode cX3_layAnew 17 = .ok (.aload_n 0, 1) := by decide +kernel
theorem dX3_layAnew_18 : decode cX3_layAnew 18 = .ok (.getfield 14, 3) := by decide +kernel
theorem dX3_layAnew_21 : decode cX3_layAnew 21 = .ok (.getfield 121, 3) := by decide +kernel
theorem dX3_layAnew_24 : decode cX3_layAnew 24 = .ok (.iload_n 2, 1) := by decide +kernel
theorem dX3_layAnew_25 : decode cX3_layAnew 25 = .ok (.iaload, 1) := by decide +kernel
theorem dX3_layAnew_26 : decode cX3_layAnew 26 = .ok (.ifCond .lt 22, 3) := by decide +kernel
theorem dX3_layAnew_29 : decode cX3_layAnew 29 = .ok (.aload_n 0, 1) := by decide +kernel
theorem dX3_layAnew_30 : decode cX3_layAnew 30 = .ok (.aload_n 1, 1) := by decide +kernel
theorem dX3_layAnew_31 : decode cX3_layAnew 31 = .ok (.iload_n 2, 1) := by decide +kernel
theorem dX3_layAnew_32 : decode cX3_layAnew 32 = .ok (.invokevirtual 124, 3) := by decide +kernel
theorem dX3_layAnew_35 : decode cX3_layAnew 35 = .ok (.aload_n 0, 1) := by decide +kernel
theorem dX3_layAnew_36 : decode cX3_layAnew 36 = .ok (.getfield 27, 3) := by decide +kernel
theorem dX3_layAnew_39 : decode cX3_layAnew 39 = .ok (.aload_n 1, 1) := by decide +kernel
theorem dX3_layAnew_40 : decode cX3_layAnew 40 = .ok (.invokevirtual 51, 3) := by decide +kernel
theorem dX3_layAnew_43 : decode cX3_layAnew 43 = .ok (.ifCond .ne 5, 3) := by decide +kernel
theorem dX3_layAnew_46 : decode cX3_layAnew 46 = .ok (.iconst 0, 1) := by decide +kernel
theorem dX3_layAnew_47 : decode cX3_layAnew 47 = .ok (.ireturn, 1) := by decide +kernel
theorem dX3_layAnew_48 : decode cX3_layAnew 48 = .ok (.iinc 2 1, 3) := by decide +kernel
theorem dX3_layAnew_51 : decode cX3_layAnew 51 = .ok (.goto (-45), 3) := by decide +kernel
theorem dX3_layAnew_54 : decode cX3_layAnew 54 = .ok (.iconst 1, 1) := by decide +kernel
theorem dX3_layAnew_55 : decode cX3_layAnew 55 = .ok (.ireturn, 1) := by decide +kernel
theorem dX3_takeOver_0 : decode cX3_takeOver 0 = .ok (.aload_n 1, 1) := by decide +kernel
theorem dX3_takeOver_1 : decode cX3_takeOver 1 = .ok (.aload_n 0, 1) := by decide +kernel
theorem dX3_takeOver_2 : decode cX3_takeOver 2 = .ok (.getfield 14, 3) := by decide +kernel
theorem dX3_takeOver_5 : decode cX3_takeOver 5 = .ok (.getfield 121, 3) := by decide +kernel
theorem dX3_takeOver_8 : decode cX3_takeOver 8 = .ok (.iload_n 2, 1) := by decide +kernel
theorem dX3_takeOver_9 : decode cX3_takeOver 9 = .ok (.iaload, 1) := by decide +kernel
theorem dX3_takeOver_10 : decode cX3_takeOver 10 = .ok (.aload_n 0, 1) := by decide +kernel
theorem dX3_takeOver_11 : decode cX3_takeOver 11 = .ok (.getfield 14, 3) := by decide +kernel
theorem dX3_takeOver_14 : decode cX3_takeOver 14 = .ok (.getfield 43, 3) := by decide +kernel
theorem dX3_takeOver_17 : decode cX3_takeOver 17 = .ok (.iload_n 2, 1) := by decide +kernel
theorem dX3_takeOver_18 : decode cX3_takeOver 18 = .ok (.iaload, 1) := by decide +kernel
theorem dX3_takeOver_19 : decode cX3_takeOver 19 = .ok (.aload_n 0, 1) := by decide +kernel
theorem dX3_takeOver_20 : decode cX3_takeOver 20 = .ok (.getfield 14, 3) := by decide +kernel
theorem dX3_takeOver_23 : decode cX3_takeOver 23 = .ok (.getfield 127, 3) := by decide +kernel
theorem dX3_takeOver_26 : decode cX3_takeOver 26 = .ok (.iload_n 2, 1) := by decide +kernel
theorem dX3_takeOver_27 : decode cX3_takeOver 27 = .ok (.iaload, 1) := by decide +kernel
theorem dX3_takeOver_28 : decode cX3_takeOver 28 = .ok (.aload_n 0, 1) := by decide +kernel
theorem dX3_takeOver_29 : decode cX3_takeOver 29 = .ok (.getfield 14, 3) := by decide +kernel
theorem dX3_takeOver_32 : decode cX3_takeOver 32 = .ok (.getfield 130, 3) := by decide +kernel
theorem dX3_takeOver_35 : decode cX3_takeOver 35 = .ok (.iload_n 2, 1) := by decide +kernel
theorem dX3_takeOver_36 : decode cX3_takeOver 36 = .ok (.iaload, 1) := by decide +kernel
theorem dX3_takeOver_37 : decode cX3_takeOver 37 = .ok (.invokevirtual 47, 3) := by decide +kernel
theorem dX3_takeOver_40 : decode cX3_takeOver 40 = .ok (.return_, 1) := by decide +kernel
theorem dX3_layBatch_0 : decode cX3_layBatch 0 = .ok (.aload_n 0, 1) := by decide +kernel
theorem dX3_layBatch_1 : decode cX3_layBatch 1 = .ok (.getfield 14, 3) := by decide +kernel
theorem dX3_layBatch_4 : decode cX3_layBatch 4 = .ok (.aload_n 1, 1) := by decide +kernel
theorem dX3_layBatch_5 : decode cX3_layBatch 5 = .ok (.invokevirtual 90, 3) := by decide +kernel
theorem dX3_layBatch_8 : decode cX3_layBatch 8 = .ok (.aload_n 0, 1) := by decide +kernel
theorem dX3_layBatch_9 : decode cX3_layBatch 9 = .ok (.getfield 31, 3) := by decide +kernel
theorem dX3_layBatch_12 : decode cX3_layBatch 12 = .ok (.aload_n 0, 1) := by decide +kernel
theorem dX3_layBatch_13 : decode cX3_layBatch 13 = .ok (.getfield 14, 3) := by decide +kernel
theorem dX3_layBatch_16 : decode cX3_layBatch 16 = .ok (.invokevirtual 133, 3) := by decide +kernel
theorem dX3_layBatch_19 : decode cX3_layBatch 19 = .ok (.aload_n 1, 1) := by decide +kernel
theorem dX3_layBatch_20 : decode cX3_layBatch 20 = .ok (.invokevirtual 118, 3) := by decide +kernel
theorem dX3_layBatch_23 : decode cX3_layBatch 23 = .ok (.iconst 0, 1) := by decide +kernel
theorem dX3_layBatch_24 : decode cX3_layBatch 24 = .ok (.istore_n 2, 1) := by decide +kernel
theorem dX3_layBatch_25 : decode cX3_layBatch 25 = .ok (.iload_n 2, 1) := by decide +kernel
theorem dX3_layBatch_26 : decode cX3_layBatch 26 = .ok (.aload_n 0, 1) := by decide +kernel
theorem dX3_layBatch_27 : decode cX3_layBatch 27 = .ok (.getfield 31, 3) := by decide +kernel
theorem dX3_layBatch_30 : decode cX3_layBatch 30 = .ok (.getfield 138, 3) := by decide +kernel
theorem dX3_layBatch_33 : decode cX3_layBatch 33 = .ok (.if_icmp .ge 44, 3) := by decide +kernel
theorem dX3_layBatch_36 : decode cX3_layBatch 36 = .ok (.aload_n 0, 1) := by decide +kernel
theorem dX3_layBatch_37 : decode cX3_layBatch 37 = .ok (.aload_n 1, 1) := by decide +kernel
theorem dX3_layBatch_38 : decode cX3_layBatch 38 = .ok (.aload_n 0, 1) := by decide +kernel
theorem dX3_layBatch_39 : decode cX3_layBatch 39 = .ok (.getfield 31, 3) := by decide +kernel
theorem dX3_layBatch_42 : decode cX3_layBatch 42 = .ok (.getfield 141, 3) := by decide +kernel
theorem dX3_layBatch_45 : decode cX3_layBatch 45 = .ok (.iload_n 2, 1) := by decide +kernel
theorem dX3_layBatch_46 : decode cX3_layBatch 46 = .ok (.iaload, 1) := by decide +kernel
theorem dX3_layBatch_47 : decode cX3_layBatch 47 = .ok (.invokevirtual 124, 3) := by decide +kernel
theorem dX3_layBatch_50 : decode cX3_layBatch 50 = .ok (.aload_n 1, 1) := by decide +kernel
theorem dX3_layBatch_51 : decode cX3_layBatch 51 = .ok (.aload_n 1, 1) := by decide +kernel
theorem dX3_layBatch_52 : decode cX3_layBatch 52 = .ok (.getfield 66, 3) := by decide +kernel
theorem dX3_layBatch_55 : decode cX3_layBatch 55 = .ok (.aload_n 1, 1) := by decide +kernel
theorem dX3_layBatch_56 : decode cX3_layBatch 56 = .ok (.aload_n 0, 1) := by decide +kernel
theorem dX3_layBatch_57 : decode cX3_layBatch 57 = .ok (.getfield 31, 3) := by decide +kernel
theorem dX3_layBatch_60 : decode cX3_layBatch 60 = .ok (.getfield 144, 3) := by decide +kernel
theorem dX3_layBatch_63 : decode cX3_layBatch 63 = .ok (.iload_n 2, 1) := by decide +kernel
theorem dX3_layBatch_64 : decode cX3_layBatch 64 = .ok (.iaload, 1) := by decide +kernel
theorem dX3_layBatch_65 : decode cX3_layBatch 65 = .ok (.invokevirtual 147, 3) := by decide +kernel
theorem dX3_layBatch_68 : decode cX3_layBatch 68 = .ok (.invokevirtual 150, 3) := by decide +kernel
theorem dX3_layBatch_71 : decode cX3_layBatch 71 = .ok (.iinc 2 1, 3) := by decide +kernel
theorem dX3_layBatch_74 : decode cX3_layBatch 74 = .ok (.goto (-49), 3) := by decide +kernel
theorem dX3_layBatch_77 : decode cX3_layBatch 77 = .ok (.iconst 0, 1) := by decide +kernel
theorem dX3_layBatch_78 : decode cX3_layBatch 78 = .ok (.istore_n 2, 1) := by decide +kernel
theorem dX3_layBatch_79 : decode cX3_layBatch 79 = .ok (.iload_n 2, 1) := by decide +kernel
theorem dX3_layBatch_80 : decode cX3_layBatch 80 = .ok (.aload_n 0, 1) := by decide +kernel
theorem dX3_layBatch_81 : decode cX3_layBatch 81 = .ok (.getfield 31, 3) := by decide +kernel
theorem dX3_layBatch_84 : decode cX3_layBatch 84 = .ok (.getfield 154, 3) := by decide +kernel
theorem dX3_layBatch_87 : decode cX3_layBatch 87 = .ok (.if_icmp .ge 56, 3) := by decide +kernel
theorem dX3_layBatch_90 : decode cX3_layBatch 90 = .ok (.aload_n 0, 1) := by decide +kernel
theorem dX3_layBatch_91 : decode cX3_layBatch 91 = .ok (.getfield 31, 3) := by decide +kernel
theorem dX3_layBatch_94 : decode cX3_layBatch 94 = .ok (.getfield 157, 3) := by decide +kernel
theorem dX3_layBatch_97 : decode cX3_layBatch 97 = .ok (.iload_n 2, 1) := by decide +kernel
theorem dX3_layBatch_98 : decode cX3_layBatch 98 = .ok (.baload, 1) := by decide +kernel
theorem dX3_layBatch_99 : decode cX3_layBatch 99 = .ok (.ifCond .ne 38, 3) := by decide +kernel
theorem dX3_layBatch_102 : decode cX3_layBatch 102 = .ok (.aload_n 0, 1) := by decide +kernel
theorem dX3_layBatch_103 : decode cX3_layBatch 103 = .ok (.aload_n 1, 1) := by decide +kernel
theorem dX3_layBatch_104 : decode cX3_layBatch 104 = .ok (.aload_n 0, 1) := by decide +kernel
theorem dX3_layBatch_105 : decode cX3_layBatch 105 = .ok (.getfield 31, 3) := by decide +kernel
theorem dX3_layBatch_108 : decode cX3_layBatch 108 = .ok (.getfield 161, 3) := by decide +kernel
theorem dX3_layBatch_111 : decode cX3_layBatch 111 = .ok (.iload_n 2, 1) := by decide +kernel
theorem dX3_layBatch_112 : decode cX3_layBatch 112 = .ok (.iaload, 1) := by decide +kernel
theorem dX3_layBatch_113 : decode cX3_layBatch 113 = .ok (.invokevirtual 124, 3) := by decide +kernel
theorem dX3_layBatch_116 : decode cX3_layBatch 116 = .ok (.aload_n 0, 1) := by decide +kernel
theorem dX3_layBatch_117 : decode cX3_layBatch 117 = .ok (.getfield 27, 3) := by decide +kernel
theorem dX3_layBatch_120 : decode cX3_layBatch 120 = .ok (.aload_n 1, 1) := by decide +kernel
theorem dX3_layBatch_121 : decode cX3_layBatch 121 = .ok (.invokevirtual 51, 3) := by decide +kernel
theorem dX3_layBatch_124 : decode cX3_layBatch 124 = .ok (.ifCond .ne 13, 3) := by decide +kernel
theorem dX3_layBatch_127 : decode cX3_layBatch 127 = .ok (.aload_n 1, 1) := by decide +kernel
theorem dX3_layBatch_128 : decode cX3_layBatch 128 = .ok (.aload_n 0, 1) := by decide +kernel
theorem dX3_layBatch_129 : decode cX3_layBatch 129 = .ok (.getfield 14, 3) := by decide +kernel
theorem dX3_layBatch_132 : decode cX3_layBatch 132 = .ok (.invokevirtual 106, 3) := by decide +kernel
theorem dX3_layBatch_135 : decode cX3_layBatch 135 = .ok (.iconst 0, 1) := by decide +kernel
theorem dX3_layBatch_136 : decode cX3_layBatch 136 = .ok (.ireturn, 1) := by decide +kernel
theorem dX3_layBatch_137 : decode cX3_layBatch 137 = .ok (.iinc 2 1, 3) := by decide +kernel
theorem dX3_layBatch_140 : decode cX3_layBatch 140 = .ok (.goto (-61), 3) := by decide +kernel
theorem dX3_layBatch_143 : decode cX3_layBatch 143 = .ok (.iconst 1, 1) := by decide +kernel
theorem dX3_layBatch_144 : decode cX3_layBatch 144 = .ok (.ireturn, 1) := by decide +kernel
theorem dX3_remove_0 : decode cX3_remove 0 = .ok (.aload_n 1, 1) := by decide +kernel
theorem dX3_remove_1 : decode cX3_remove 1 = .ok (.iload_n 2, 1) := by decide +kernel
theorem dX3_remove_2 : decode cX3_remove 2 = .ok (.invokevirtual 39, 3) := by decide +kernel
theorem dX3_remove_5 : decode cX3_remove 5 = .ok (.istore_n 3, 1) := by decide +kernel
theorem dX3_remove_6 : decode cX3_remove 6 = .ok (.iload_n 3, 1) := by decide +kernel
theorem dX3_remove_7 : decode cX3_remove 7 = .ok (.ifCond .ge 5, 3) := by decide +kernel
theorem dX3_remove_10 : decode cX3_remove 10 = .ok (.iconst (-1), 1) := by decide +kernel
theorem dX3_remove_11 : decode cX3_remove 11 = .ok (.ireturn, 1) := by decide +kernel
theorem dX3_remove_12 : decode cX3_remove 12 = .ok (.aload_n 1, 1) := by decide +kernel
theorem dX3_remove_13 : decode cX3_remove 13 = .ok (.getfield 43, 3) := by decide +kernel
theorem dX3_remove_16 : decode cX3_remove 16 = .ok (.iload_n 3, 1) := by decide +kernel
theorem dX3_remove_17 : decode cX3_remove 17 = .ok (.iaload, 1) := by decide +kernel
theorem dX3_remove_18 : decode cX3_remove 18 = .ok (.istore 4, 2) := by decide +kernel
theorem dX3_remove_20 : decode cX3_remove 20 = .ok (.aload_n 1, 1) := by decide +kernel
theorem dX3_remove_21 : decode cX3_remove 21 = .ok (.iload_n 3, 1) := by decide +kernel
theorem dX3_remove_22 : decode cX3_remove 22 = .ok (.aload_n 1, 1) := by decide +kernel
theorem dX3_remove_23 : decode cX3_remove 23 = .ok (.getfield 66, 3) := by decide +kernel
theorem dX3_remove_26 : decode cX3_remove 26 = .ok (.invokevirtual 150, 3) := by decide +kernel
theorem dX3_remove_29 : decode cX3_remove 29 = .ok (.aload_n 1, 1) := by decide +kernel
theorem dX3_remove_30 : decode cX3_remove 30 = .ok (.invokevirtual 84, 3) := by decide +kernel
theorem dX3_remove_33 : decode cX3_remove 33 = .ok (.iload_n 3, 1) := by decide +kernel
theorem dX3_remove_34 : decode cX3_remove 34 = .ok (.aload_n 1, 1) := by decide +kernel
theorem dX3_remove_35 : decode cX3_remove 35 = .ok (.getfield 164, 3) := by decide +kernel
theorem dX3_remove_38 : decode cX3_remove 38 = .ok (.if_icmp .lt 13, 3) := by decide +kernel
theorem dX3_remove_41 : decode cX3_remove 41 = .ok (.aload_n 1, 1) := by decide +kernel
theorem dX3_remove_42 : decode cX3_remove 42 = .ok (.iload_n 3, 1) := by decide +kernel
theorem dX3_remove_43 : decode cX3_remove 43 = .ok (.aload_n 1, 1) := by decide +kernel
theorem dX3_remove_44 : decode cX3_remove 44 = .ok (.getfield 164, 3) := by decide +kernel
theorem dX3_remove_47 : decode cX3_remove 47 = .ok (.isub, 1) := by decide +kernel
theorem dX3_remove_48 : decode cX3_remove 48 = .ok (.invokevirtual 167, 3) := by decide +kernel
theorem dX3_remove_51 : decode cX3_remove 51 = .ok (.aload_n 0, 1) := by decide +kernel
theorem dX3_remove_52 : decode cX3_remove 52 = .ok (.getfield 27, 3) := by decide +kernel
theorem dX3_remove_55 : decode cX3_remove 55 = .ok (.aload_n 1, 1) := by decide +kernel
theorem dX3_remove_56 : decode cX3_remove 56 = .ok (.iconst 0, 1) := by decide +kernel
theorem dX3_remove_57 : decode cX3_remove 57 = .ok (.invokevirtual 170, 3) := by decide +kernel
theorem dX3_remove_60 : decode cX3_remove 60 = .ok (.pop, 1) := by decide +kernel
theorem dX3_remove_61 : decode cX3_remove 61 = .ok (.iload 4, 2) := by decide +kernel
theorem dX3_remove_63 : decode cX3_remove 63 = .ok (.ireturn, 1) := by decide +kernel
theorem dX3_loadBy_0 : decode cX3_loadBy 0 = .ok (.aload_n 1, 1) := by decide +kernel
theorem dX3_loadBy_1 : decode cX3_loadBy 1 = .ok (.getfield 87, 3) := by decide +kernel
theorem dX3_loadBy_4 : decode cX3_loadBy 4 = .ok (.istore 4, 2) := by decide +kernel
theorem dX3_loadBy_6 : decode cX3_loadBy 6 = .ok (.aload_n 0, 1) := by decide +kernel
theorem dX3_loadBy_7 : decode cX3_loadBy 7 = .ok (.getfield 23, 3) := by decide +kernel
theorem dX3_loadBy_10 : decode cX3_loadBy 10 = .ok (.iload_n 2, 1) := by decide +kernel
theorem dX3_loadBy_11 : decode cX3_loadBy 11 = .ok (.putfield 174, 3) := by decide +kernel
theorem dX3_loadBy_14 : decode cX3_loadBy 14 = .ok (.iconst 0, 1) := by decide +kernel
theorem dX3_loadBy_15 : decode cX3_loadBy 15 = .ok (.istore 5, 2) := by decide +kernel
theorem dX3_loadBy_17 : decode cX3_loadBy 17 = .ok (.iload 5, 2) := by decide +kernel
theorem dX3_loadBy_19 : decode cX3_loadBy 19 = .ok (.iload_n 3, 1) := by decide +kernel
theorem dX3_loadBy_20 : decode cX3_loadBy 20 = .ok (.if_icmp .ge 65, 3) := by decide +kernel
theorem dX3_loadBy_23 : decode cX3_loadBy 23 = .ok (.aload_n 0, 1) := by decide +kernel
theorem dX3_loadBy_24 : decode cX3_loadBy 24 = .ok (.getfield 23, 3) := by decide +kernel
theorem dX3_loadBy_27 : decode cX3_loadBy 27 = .ok (.iconst 4, 1) := by decide +kernel
theorem dX3_loadBy_28 : decode cX3_loadBy 28 = .ok (.invokevirtual 177, 3) := by decide +kernel
theorem dX3_loadBy_31 : decode cX3_loadBy 31 = .ok (.istore 6, 2) := by decide +kernel
theorem dX3_loadBy_33 : decode cX3_loadBy 33 = .ok (.aload_n 0, 1) := by decide +kernel
theorem dX3_loadBy_34 : decode cX3_loadBy 34 = .ok (.getfield 23, 3) := by decide +kernel
theorem dX3_loadBy_37 : decode cX3_loadBy 37 = .ok (.sipush 1000, 3) := by decide +kernel
theorem dX3_loadBy_40 : decode cX3_loadBy 40 = .ok (.invokevirtual 177, 3) := by decide +kernel
theorem dX3_loadBy_43 : decode cX3_loadBy 43 = .ok (.istore 7, 2) := by decide +kernel
theorem dX3_loadBy_45 : decode cX3_loadBy 45 = .ok (.iload 6, 2) := by decide +kernel
theorem dX3_loadBy_47 : decode cX3_loadBy 47 = .ok (.ifCond .ne 14, 3) := by decide +kernel
theorem dX3_loadBy_50 : decode cX3_loadBy 50 = .ok (.aload_n 0, 1) := by decide +kernel
theorem dX3_loadBy_51 : decode cX3_loadBy 51 = .ok (.aload_n 1, 1) := by decide +kernel
theorem dX3_loadBy_52 : decode cX3_loadBy 52 = .ok (.iload 7, 2) := by decide +kernel
theorem dX3_loadBy_54 : decode cX3_loadBy 54 = .ok (.invokevirtual 180, 3) := by decide +kernel
theorem dX3_loadBy_57 : decode cX3_loadBy 57 = .ok (.pop, 1) := by decide +kernel
theorem dX3_loadBy_58 : decode cX3_loadBy 58 = .ok (.goto 21, 3) := by decide +kernel
theorem dX3_loadBy_61 : decode cX3_loadBy 61 = .ok (.aload_n 0, 1) := by decide +kernel
theorem dX3_loadBy_62 : decode cX3_loadBy 62 = .ok (.aload_n 1, 1) := by decide +kernel
theorem dX3_loadBy_63 : decode cX3_loadBy 63 = .ok (.iload 7, 2) := by decide +kernel
theorem dX3_loadBy_65 : decode cX3_loadBy 65 = .ok (.aload_n 0, 1) := by decide +kernel
theorem dX3_loadBy_66 : decode cX3_loadBy 66 = .ok (.getfield 23, 3) := by decide +kernel
theorem dX3_loadBy_69 : decode cX3_loadBy 69 = .ok (.sipush 1000, 3) := by decide +kernel
theorem dX3_loadBy_72 : decode cX3_loadBy 72 = .ok (.invokevirtual 177, 3) := by decide +kernel
theorem dX3_loadBy_75 : decode cX3_loadBy 75 = .ok (.invokevirtual 184, 3) := by decide +kernel
theorem dX3_loadBy_78 : decode cX3_loadBy 78 = .ok (.pop, 1) := by decide +kernel
theorem dX3_loadBy_79 : decode cX3_loadBy 79 = .ok (.iinc 5 1, 3) := by decide +kernel
theorem dX3_loadBy_82 : decode cX3_loadBy 82 = .ok (.goto (-65), 3) := by decide +kernel
theorem dX3_loadBy_85 : decode cX3_loadBy 85 = .ok (.aload_n 1, 1) := by decide +kernel
theorem dX3_loadBy_86 : decode cX3_loadBy 86 = .ok (.getfield 87, 3) := by decide +kernel
theorem dX3_loadBy_89 : decode cX3_loadBy 89 = .ok (.iload 4, 2) := by decide +kernel
theorem dX3_loadBy_91 : decode cX3_loadBy 91 = .ok (.isub, 1) := by decide +kernel
theorem dX3_loadBy_92 : decode cX3_loadBy 92 = .ok (.ireturn, 1) := by decide +kernel
