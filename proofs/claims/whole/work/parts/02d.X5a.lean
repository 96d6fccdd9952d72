theorem dX5_init_0 : decode cX5_init 0 = .ok (.aload_n 0, 1) := by decide +kernel
theorem dX5_init_1 : decode cX5_init 1 = .ok (.invokespecial 3, 3) := by decide +kernel
theorem dX5_init_4 : decode cX5_init 4 = .ok (.aload_n 0, 1) := by decide +kernel
theorem dX5_init_5 : decode cX5_init 5 = .ok (.bipush 32, 2) := by decide +kernel
theorem dX5_init_7 : decode cX5_init 7 = .ok (.newarray .int, 2) := by decide +kernel
theorem dX5_init_9 : decode cX5_init 9 = .ok (.putfield 9, 3) := by decide +kernel
theorem dX5_init_12 : decode cX5_init 12 = .ok (.aload_n 0, 1) := by decide +kernel
theorem dX5_init_13 : decode cX5_init 13 = .ok (.bipush 32, 2) := by decide +kernel
theorem dX5_init_15 : decode cX5_init 15 = .ok (.newarray .int, 2) := by decide +kernel
theorem dX5_init_17 : decode cX5_init 17 = .ok (.putfield 15, 3) := by decide +kernel
theorem dX5_init_20 : decode cX5_init 20 = .ok (.aload_n 0, 1) := by decide +kernel
theorem dX5_init_21 : decode cX5_init 21 = .ok (.bipush 32, 2) := by decide +kernel
theorem dX5_init_23 : decode cX5_init 23 = .ok (.newarray .int, 2) := by decide +kernel
theorem dX5_init_25 : decode cX5_init 25 = .ok (.putfield 18, 3) := by decide +kernel
theorem dX5_init_28 : decode cX5_init 28 = .ok (.return_, 1) := by decide +kernel
theorem dX5_join_0 : decode cX5_join 0 = .ok (.aload_n 1, 1) := by decide +kernel
theorem dX5_join_1 : decode cX5_join 1 = .ok (.getfield 21, 3) := by decide +kernel
theorem dX5_join_4 : decode cX5_join 4 = .ok (.getfield 27, 3) := by decide +kernel
theorem dX5_join_7 : decode cX5_join 7 = .ok (.istore_n 2, 1) := by decide +kernel
theorem dX5_join_8 : decode cX5_join 8 = .ok (.iconst 0, 1) := by decide +kernel
theorem dX5_join_9 : decode cX5_join 9 = .ok (.istore_n 3, 1) := by decide +kernel
theorem dX5_join_10 : decode cX5_join 10 = .ok (.iload_n 3, 1) := by decide +kernel
theorem dX5_join_11 : decode cX5_join 11 = .ok (.bipush 32, 2) := by decide +kernel
theorem dX5_join_13 : decode cX5_join 13 = .ok (.if_icmp .ge 39, 3) := by decide +kernel
theorem dX5_join_16 : decode cX5_join 16 = .ok (.aload_n 0, 1) := by decide +kernel
theorem dX5_join_17 : decode cX5_join 17 = .ok (.getfield 9, 3) := by decide +kernel
theorem dX5_join_20 : decode cX5_join 20 = .ok (.iload_n 3, 1) := by decide +kernel
theorem dX5_join_21 : decode cX5_join 21 = .ok (.iload_n 3, 1) := by decide +kernel
theorem dX5_join_22 : decode cX5_join 22 = .ok (.iastore, 1) := by decide +kernel
theorem dX5_join_23 : decode cX5_join 23 = .ok (.aload_n 0, 1) := by decide +kernel
theorem dX5_join_24 : decode cX5_join 24 = .ok (.getfield 15, 3) := by decide +kernel
theorem dX5_join_27 : decode cX5_join 27 = .ok (.iload_n 3, 1) := by decide +kernel
theorem dX5_join_28 : decode cX5_join 28 = .ok (.iconst 0, 1) := by decide +kernel
theorem dX5_join_29 : decode cX5_join 29 = .ok (.iastore, 1) := by decide +kernel
theorem dX5_join_30 : decode cX5_join 30 = .ok (.aload_n 0, 1) := by decide +kernel
theorem dX5_join_31 : decode cX5_join 31 = .ok (.getfield 18, 3) := by decide +kernel
theorem dX5_join_34 : decode cX5_join 34 = .ok (.iload_n 3, 1) := by decide +kernel
theorem dX5_join_35 : decode cX5_join 35 = .ok (.iload_n 3, 1) := by decide +kernel
theorem dX5_join_36 : decode cX5_join 36 = .ok (.iload_n 2, 1) := by decide +kernel
theorem dX5_join_37 : decode cX5_join 37 = .ok (.if_icmp .ge 7, 3) := by decide +kernel
theorem dX5_join_40 : decode cX5_join 40 = .ok (.iconst 1, 1) := by decide +kernel
theorem dX5_join_41 : decode cX5_join 41 = .ok (.goto 4, 3) := by decide +kernel
theorem dX5_join_44 : decode cX5_join 44 = .ok (.iconst 0, 1) := by decide +kernel
theorem dX5_join_45 : decode cX5_join 45 = .ok (.iastore, 1) := by decide +kernel
theorem dX5_join_46 : decode cX5_join 46 = .ok (.iinc 3 1, 3) := by decide +kernel
theorem dX5_join_49 : decode cX5_join 49 = .ok (.goto (-39), 3) := by decide +kernel
theorem dX5_join_52 : decode cX5_join 52 = .ok (.iload_n 2, 1) := by decide +kernel
theorem dX5_join_53 : decode cX5_join 53 = .ok (.istore_n 3, 1) := by decide +kernel
theorem dX5_join_54 : decode cX5_join 54 = .ok (.iconst 0, 1) := by decide +kernel
theorem dX5_join_55 : decode cX5_join 55 = .ok (.istore 4, 2) := by decide +kernel
theorem dX5_join_57 : decode cX5_join 57 = .ok (.iload 4, 2) := by decide +kernel
theorem dX5_join_59 : decode cX5_join 59 = .ok (.aload_n 1, 1) := by decide +kernel
theorem dX5_join_60 : decode cX5_join 60 = .ok (.getfield 33, 3) := by decide +kernel
theorem dX5_join_63 : decode cX5_join 63 = .ok (.if_icmp .ge 72, 3) := by decide +kernel
theorem dX5_join_66 : decode cX5_join 66 = .ok (.aload_n 1, 1) := by decide +kernel
theorem dX5_join_67 : decode cX5_join 67 = .ok (.getfield 36, 3) := by decide +kernel
theorem dX5_join_70 : decode cX5_join 70 = .ok (.iload 4, 2) := by decide +kernel
theorem dX5_join_72 : decode cX5_join 72 = .ok (.iaload, 1) := by decide +kernel
theorem dX5_join_73 : decode cX5_join 73 = .ok (.ifCond .lt 56, 3) := by decide +kernel
theorem dX5_join_76 : decode cX5_join 76 = .ok (.iload_n 3, 1) := by decide +kernel
theorem dX5_join_77 : decode cX5_join 77 = .ok (.aload_n 0, 1) := by decide +kernel
theorem dX5_join_78 : decode cX5_join 78 = .ok (.aload_n 0, 1) := by decide +kernel
theorem dX5_join_79 : decode cX5_join 79 = .ok (.getfield 9, 3) := by decide +kernel
theorem dX5_join_82 : decode cX5_join 82 = .ok (.aload_n 1, 1) := by decide +kernel
theorem dX5_join_83 : decode cX5_join 83 = .ok (.getfield 39, 3) := by decide +kernel
theorem dX5_join_86 : decode cX5_join 86 = .ok (.iload 4, 2) := by decide +kernel
theorem dX5_join_88 : decode cX5_join 88 = .ok (.iaload, 1) := by decide +kernel
theorem dX5_join_89 : decode cX5_join 89 = .ok (.iaload, 1) := by decide +kernel
theorem dX5_join_90 : decode cX5_join 90 = .ok (.aload_n 0, 1) := by decide +kernel
theorem dX5_join_91 : decode cX5_join 91 = .ok (.getfield 9, 3) := by decide +kernel
theorem dX5_join_94 : decode cX5_join 94 = .ok (.aload_n 1, 1) := by decide +kernel
theorem dX5_join_95 : decode cX5_join 95 = .ok (.getfield 42, 3) := by decide +kernel
theorem dX5_join_98 : decode cX5_join 98 = .ok (.iload 4, 2) := by decide +kernel
theorem dX5_join_100 : decode cX5_join 100 = .ok (.iaload, 1) := by decide +kernel
theorem dX5_join_101 : decode cX5_join 101 = .ok (.iaload, 1) := by decide +kernel
theorem dX5_join_102 : decode cX5_join 102 = .ok (.iload_n 2, 1) := by decide +kernel
theorem dX5_join_103 : decode cX5_join 103 = .ok (.invokevirtual 45, 3) := by decide +kernel
theorem dX5_join_106 : decode cX5_join 106 = .ok (.isub, 1) := by decide +kernel
theorem dX5_join_107 : decode cX5_join 107 = .ok (.istore_n 3, 1) := by decide +kernel
theorem dX5_join_108 : decode cX5_join 108 = .ok (.aload_n 0, 1) := by decide +kernel
theorem dX5_join_109 : decode cX5_join 109 = .ok (.getfield 15, 3) := by decide +kernel
theorem dX5_join_112 : decode cX5_join 112 = .ok (.aload_n 0, 1) := by decide +kernel
theorem dX5_join_113 : decode cX5_join 113 = .ok (.getfield 9, 3) := by decide +kernel
theorem dX5_join_116 : decode cX5_join 116 = .ok (.aload_n 1, 1) := by decide +kernel
theorem dX5_join_117 : decode cX5_join 117 = .ok (.getfield 39, 3) := by decide +kernel
theorem dX5_join_120 : decode cX5_join 120 = .ok (.iload 4, 2) := by decide +kernel
theorem dX5_join_122 : decode cX5_join 122 = .ok (.iaload, 1) := by decide +kernel
theorem dX5_join_123 : decode cX5_join 123 = .ok (.iaload, 1) := by decide +kernel
theorem dX5_join_124 : decode cX5_join 124 = .ok (.dup2, 1) := by decide +kernel
theorem dX5_join_125 : decode cX5_join 125 = .ok (.iaload, 1) := by decide +kernel
theorem dX5_join_126 : decode cX5_join 126 = .ok (.iconst 1, 1) := by decide +kernel
theorem dX5_join_127 : decode cX5_join 127 = .ok (.iadd, 1) := by decide +kernel
theorem dX5_join_128 : decode cX5_join 128 = .ok (.iastore, 1) := by decide +kernel
theorem dX5_join_129 : decode cX5_join 129 = .ok (.iinc 4 1, 3) := by decide +kernel
theorem dX5_join_132 : decode cX5_join 132 = .ok (.goto (-75), 3) := by decide +kernel
theorem dX5_join_135 : decode cX5_join 135 = .ok (.iload_n 3, 1) := by decide +kernel
theorem dX5_join_136 : decode cX5_join 136 = .ok (.ireturn, 1) := by decide +kernel
theorem dX5_unite_0 : decode cX5_unite 0 = .ok (.iload_n 1, 1) := by decide +kernel
theorem dX5_unite_1 : decode cX5_unite 1 = .ok (.iload_n 2, 1) := by decide +kernel
theorem dX5_unite_2 : decode cX5_unite 2 = .ok (.if_icmp .ne 5, 3) := by decide +kernel
theorem dX5_unite_5 : decode cX5_unite 5 = .ok (.iconst 0, 1) := by decide +kernel
theorem dX5_unite_6 : decode cX5_unite 6 = .ok (.ireturn, 1) := by decide +kernel
theorem dX5_unite_7 : decode cX5_unite 7 = .ok (.iconst 0, 1) := by decide +kernel
theorem dX5_unite_8 : decode cX5_unite 8 = .ok (.istore 4, 2) := by decide +kernel
theorem dX5_unite_10 : decode cX5_unite 10 = .ok (.iload 4, 2) := by decide +kernel
theorem dX5_unite_12 : decode cX5_unite 12 = .ok (.iload_n 3, 1) := by decide +kernel
theorem dX5_unite_13 : decode cX5_unite 13 = .ok (.if_icmp .ge 28, 3) := by decide +kernel
theorem dX5_unite_16 : decode cX5_unite 16 = .ok (.aload_n 0, 1) := by decide +kernel
theorem dX5_unite_17 : decode cX5_unite 17 = .ok (.getfield 9, 3) := by decide +kernel
theorem dX5_unite_20 : decode cX5_unite 20 = .ok (.iload 4, 2) := by decide +kernel
theorem dX5_unite_22 : decode cX5_unite 22 = .ok (.iaload, 1) := by decide +kernel
theorem dX5_unite_23 : decode cX5_unite 23 = .ok (.iload_n 2, 1) := by decide +kernel
theorem dX5_unite_24 : decode cX5_unite 24 = .ok (.if_icmp .ne 11, 3) := by decide +kernel
theorem dX5_unite_27 : decode cX5_unite 27 = .ok (.aload_n 0, 1) := by decide +kernel
theorem dX5_unite_28 : decode cX5_unite 28 = .ok (.getfield 9, 3) := by decide +kernel
theorem dX5_unite_31 : decode cX5_unite 31 = .ok (.iload 4, 2) := by decide +kernel
theorem dX5_unite_33 : decode cX5_unite 33 = .ok (.iload_n 1, 1) := by decide +kernel
theorem dX5_unite_34 : decode cX5_unite 34 = .ok (.iastore, 1) := by decide +kernel
theorem dX5_unite_35 : decode cX5_unite 35 = .ok (.iinc 4 1, 3) := by decide +kernel
theorem dX5_unite_38 : decode cX5_unite 38 = .ok (.goto (-28), 3) := by decide +kernel
theorem dX5_unite_41 : decode cX5_unite 41 = .ok (.aload_n 0, 1) := by decide +kernel
theorem dX5_unite_42 : decode cX5_unite 42 = .ok (.getfield 15, 3) := by decide +kernel
theorem dX5_unite_45 : decode cX5_unite 45 = .ok (.iload_n 1, 1) := by decide +kernel
theorem dX5_unite_46 : decode cX5_unite 46 = .ok (.dup2, 1) := by decide +kernel
theorem dX5_unite_47 : decode cX5_unite 47 = .ok (.iaload, 1) := by decide +kernel
theorem dX5_unite_48 : decode cX5_unite 48 = .ok (.aload_n 0, 1) := by decide +kernel
theorem dX5_unite_49 : decode cX5_unite 49 = .ok (.getfield 15, 3) := by decide +kernel
theorem dX5_unite_52 : decode cX5_unite 52 = .ok (.iload_n 2, 1) := by decide +kernel
theorem dX5_unite_53 : decode cX5_unite 53 = .ok (.iaload, 1) := by decide +kernel
theorem dX5_unite_54 : decode cX5_unite 54 = .ok (.iadd, 1) := by decide +kernel
theorem dX5_unite_55 : decode cX5_unite 55 = .ok (.iastore, 1) := by decide +kernel
theorem dX5_unite_56 : decode cX5_unite 56 = .ok (.aload_n 0, 1) := by decide +kernel
theorem dX5_unite_57 : decode cX5_unite 57 = .ok (.getfield 18, 3) := by decide +kernel
theorem dX5_unite_60 : decode cX5_unite 60 = .ok (.iload_n 1, 1) := by decide +kernel
theorem dX5_unite_61 : decode cX5_unite 61 = .ok (.dup2, 1) := by decide +kernel
theorem dX5_unite_62 : decode cX5_unite 62 = .ok (.iaload, 1) := by decide +kernel
theorem dX5_unite_63 : decode cX5_unite 63 = .ok (.aload_n 0, 1) := by decide +kernel
theorem dX5_unite_64 : decode cX5_unite 64 = .ok (.getfield 18, 3) := by decide +kernel
theorem dX5_unite_67 : decode cX5_unite 67 = .ok (.iload_n 2, 1) := by decide +kernel
theorem dX5_unite_68 : decode cX5_unite 68 = .ok (.iaload, 1) := by decide +kernel
theorem dX5_unite_69 : decode cX5_unite 69 = .ok (.iadd, 1) := by decide +kernel
theorem dX5_unite_70 : decode cX5_unite 70 = .ok (.iastore, 1) := by decide +kernel
theorem dX5_unite_71 : decode cX5_unite 71 = .ok (.aload_n 0, 1) := by decide +kernel
theorem dX5_unite_72 : decode cX5_unite 72 = .ok (.getfield 15, 3) := by decide +kernel
theorem dX5_unite_75 : decode cX5_unite 75 = .ok (.iload_n 2, 1) := by decide +kernel
theorem dX5_unite_76 : decode cX5_unite 76 = .ok (.iconst 0, 1) := by decide +kernel
theorem dX5_unite_77 : decode cX5_unite 77 = .ok (.iastore, 1) := by decide +kernel
theorem dX5_unite_78 : decode cX5_unite 78 = .ok (.aload_n 0, 1) := by decide +kernel
theorem dX5_unite_79 : decode cX5_unite 79 = .ok (.getfield 18, 3) := by decide +kernel
theorem dX5_unite_82 : decode cX5_unite 82 = .ok (.iload_n 2, 1) := by decide +kernel
theorem dX5_unite_83 : decode cX5_unite 83 = .ok (.iconst 0, 1) := by decide +kernel
theorem dX5_unite_84 : decode cX5_unite 84 = .ok (.iastore, 1) := by decide +kernel
theorem dX5_unite_85 : decode cX5_unite 85 = .ok (.iconst 1, 1) := by decide +kernel
theorem dX5_unite_86 : decode cX5_unite 86 = .ok (.ireturn, 1) := by decide +kernel
theorem dX5_bits_0 : decode cX5_bits 0 = .ok (.iconst 0, 1) := by decide +kernel
theorem dX5_bits_1 : decode cX5_bits 1 = .ok (.istore_n 2, 1) := by decide +kernel
theorem dX5_bits_2 : decode cX5_bits 2 = .ok (.iconst 0, 1) := by decide +kernel
theorem dX5_bits_3 : decode cX5_bits 3 = .ok (.istore_n 3, 1) := by decide +kernel
theorem dX5_bits_4 : decode cX5_bits 4 = .ok (.iload_n 3, 1) := by decide +kernel
theorem dX5_bits_5 : decode cX5_bits 5 = .ok (.bipush 16, 2) := by decide +kernel
theorem dX5_bits_7 : decode cX5_bits 7 = .ok (.if_icmp .ge 29, 3) := by decide +kernel
theorem dX5_bits_10 : decode cX5_bits 10 = .ok (.iload_n 2, 1) := by decide +kernel
theorem dX5_bits_11 : decode cX5_bits 11 = .ok (.aload_n 0, 1) := by decide +kernel
theorem dX5_bits_12 : decode cX5_bits 12 = .ok (.getfield 9, 3) := by decide +kernel
theorem dX5_bits_15 : decode cX5_bits 15 = .ok (.iload_n 3, 1) := by decide +kernel
theorem dX5_bits_16 : decode cX5_bits 16 = .ok (.iaload, 1) := by decide +kernel
theorem dX5_bits_17 : decode cX5_bits 17 = .ok (.iload_n 1, 1) := by decide +kernel
theorem dX5_bits_18 : decode cX5_bits 18 = .ok (.if_icmp .ne 9, 3) := by decide +kernel
theorem dX5_bits_21 : decode cX5_bits 21 = .ok (.iconst 1, 1) := by decide +kernel
theorem dX5_bits_22 : decode cX5_bits 22 = .ok (.iload_n 3, 1) := by decide +kernel
theorem dX5_bits_23 : decode cX5_bits 23 = .ok (.ishl, 1) := by decide +kernel
theorem dX5_bits_24 : decode cX5_bits 24 = .ok (.goto 4, 3) := by decide +kernel
theorem dX5_bits_27 : decode cX5_bits 27 = .ok (.iconst 0, 1) := by decide +kernel
theorem dX5_bits_28 : decode cX5_bits 28 = .ok (.ior, 1) := by decide +kernel
theorem dX5_bits_29 : decode cX5_bits 29 = .ok (.istore_n 2, 1) := by decide +kernel
theorem dX5_bits_30 : decode cX5_bits 30 = .ok (.iinc 3 1, 3) := by decide +kernel
theorem dX5_bits_33 : decode cX5_bits 33 = .ok (.goto (-29), 3) := by decide +kernel
theorem dX5_bits_36 : decode cX5_bits 36 = .ok (.iload_n 2, 1) := by decide +kernel
theorem dX5_bits_37 : decode cX5_bits 37 = .ok (.ireturn, 1) := by decide +kernel
theorem dX5_entriesIn_0 : decode cX5_entriesIn 0 = .ok (.iconst 0, 1) := by decide +kernel
theorem dX5_entriesIn_1 : decode cX5_entriesIn 1 = .ok (.istore_n 3, 1) := by decide +kernel
theorem dX5_entriesIn_2 : decode cX5_entriesIn 2 = .ok (.iconst 0, 1) := by decide +kernel
theorem dX5_entriesIn_3 : decode cX5_entriesIn 3 = .ok (.istore 4, 2) := by decide +kernel
theorem dX5_entriesIn_5 : decode cX5_entriesIn 5 = .ok (.iload 4, 2) := by decide +kernel
theorem dX5_entriesIn_7 : decode cX5_entriesIn 7 = .ok (.aload_n 1, 1) := by decide +kernel
theorem dX5_entriesIn_8 : decode cX5_entriesIn 8 = .ok (.getfield 21, 3) := by decide +kernel
theorem dX5_entriesIn_11 : decode cX5_entriesIn 11 = .ok (.getfield 27, 3) := by decide +kernel
theorem dX5_entriesIn_14 : decode cX5_entriesIn 14 = .ok (.if_icmp .ge 34, 3) := by decide +kernel
theorem dX5_entriesIn_17 : decode cX5_entriesIn 17 = .ok (.iload_n 3, 1) := by decide +kernel
theorem dX5_entriesIn_18 : decode cX5_entriesIn 18 = .ok (.aload_n 0, 1) := by decide +kernel
theorem dX5_entriesIn_19 : decode cX5_entriesIn 19 = .ok (.getfield 9, 3) := by decide +kernel
theorem dX5_entriesIn_22 : decode cX5_entriesIn 22 = .ok (.iload 4, 2) := by decide +kernel
theorem dX5_entriesIn_24 : decode cX5_entriesIn 24 = .ok (.iaload, 1) := by decide +kernel
theorem dX5_entriesIn_25 : decode cX5_entriesIn 25 = .ok (.iload_n 2, 1) := by decide +kernel
theorem dX5_entriesIn_26 : decode cX5_entriesIn 26 = .ok (.if_icmp .ne 13, 3) := by decide +kernel
theorem dX5_entriesIn_29 : decode cX5_entriesIn 29 = .ok (.aload_n 1, 1) := by decide +kernel
theorem dX5_entriesIn_30 : decode cX5_entriesIn 30 = .ok (.getfield 49, 3) := by decide +kernel
theorem dX5_entriesIn_33 : decode cX5_entriesIn 33 = .ok (.iload 4, 2) := by decide +kernel
theorem dX5_entriesIn_35 : decode cX5_entriesIn 35 = .ok (.iaload, 1) := by decide +kernel
theorem dX5_entriesIn_36 : decode cX5_entriesIn 36 = .ok (.goto 4, 3) := by decide +kernel
theorem dX5_entriesIn_39 : decode cX5_entriesIn 39 = .ok (.iconst 0, 1) := by decide +kernel
theorem dX5_entriesIn_40 : decode cX5_entriesIn 40 = .ok (.iadd, 1) := by decide +kernel
theorem dX5_entriesIn_41 : decode cX5_entriesIn 41 = .ok (.istore_n 3, 1) := by decide +kernel
theorem dX5_entriesIn_42 : decode cX5_entriesIn 42 = .ok (.iinc 4 1, 3) := by decide +kernel
theorem dX5_entriesIn_45 : decode cX5_entriesIn 45 = .ok (.goto (-40), 3) := by decide +kernel
theorem dX5_entriesIn_48 : decode cX5_entriesIn 48 = .ok (.iload_n 3, 1) := by decide +kernel
theorem dX5_entriesIn_49 : decode cX5_entriesIn 49 = .ok (.ireturn, 1) := by decide +kernel
theorem dX5_kindOf_0 : decode cX5_kindOf 0 = .ok (.aload_n 0, 1) := by decide +kernel
theorem dX5_kindOf_1 : decode cX5_kindOf 1 = .ok (.getfield 15, 3) := by decide +kernel
theorem dX5_kindOf_4 : decode cX5_kindOf 4 = .ok (.iload_n 1, 1) := by decide +kernel
theorem dX5_kindOf_5 : decode cX5_kindOf 5 = .ok (.iaload, 1) := by decide +kernel
theorem dX5_kindOf_6 : decode cX5_kindOf 6 = .ok (.aload_n 0, 1) := by decide +kernel
theorem dX5_kindOf_7 : decode cX5_kindOf 7 = .ok (.getfield 18, 3) := by decide +kernel
theorem dX5_kindOf_10 : decode cX5_kindOf 10 = .ok (.iload_n 1, 1) := by decide +kernel
theorem dX5_kindOf_11 : decode cX5_kindOf 11 = .ok (.iaload, 1) := by decide +kernel
theorem dX5_kindOf_12 : decode cX5_kindOf 12 = .ok (.if_icmp .ge 5, 3) := by decide +kernel
theorem dX5_kindOf_15 : decode cX5_kindOf 15 = .ok (.iconst 0, 1) := by decide +kernel
theorem dX5_kindOf_16 : decode cX5_kindOf 16 = .ok (.ireturn, 1) := by decide +kernel
theorem dX5_kindOf_17 : decode cX5_kindOf 17 = .ok (.aload_n 0, 1) := by decide +kernel
theorem dX5_kindOf_18 : decode cX5_kindOf 18 = .ok (.getfield 15, 3) := by decide +kernel
theorem dX5_kindOf_21 : decode cX5_kindOf 21 = .ok (.iload_n 1, 1) := by decide +kernel
theorem dX5_kindOf_22 : decode cX5_kindOf 22 = .ok (.iaload, 1) := by decide +kernel
theorem dX5_kindOf_23 : decode cX5_kindOf 23 = .ok (.aload_n 0, 1) := by decide +kernel
theorem dX5_kindOf_24 : decode cX5_kindOf 24 = .ok (.getfield 18, 3) := by decide +kernel
theorem dX5_kindOf_27 : decode cX5_kindOf 27 = .ok (.iload_n 1, 1) := by decide +kernel
theorem dX5_kindOf_28 : decode cX5_kindOf 28 = .ok (.iaload, 1) := by decide +kernel
theorem dX5_kindOf_29 : decode cX5_kindOf 29 = .ok (.if_icmp .ne 7, 3) := by decide +kernel
theorem dX5_kindOf_32 : decode cX5_kindOf 32 = .ok (.iconst 1, 1) := by decide +kernel
theorem dX5_kindOf_33 : decode cX5_kindOf 33 = .ok (.goto 4, 3) := by decide +kernel
theorem dX5_kindOf_36 : decode cX5_kindOf 36 = .ok (.iconst 2, 1) := by decide +kernel
theorem dX5_kindOf_37 : decode cX5_kindOf 37 = .ok (.ireturn, 1) := by decide +kernel
theorem dX5_tangled_0 : decode cX5_tangled 0 = .ok (.iconst 0, 1) := by decide +kernel
theorem dX5_tangled_1 : decode cX5_tangled 1 = .ok (.istore_n 2, 1) := by decide +kernel
theorem dX5_tangled_2 : decode cX5_tangled 2 = .ok (.iconst 0, 1) := by decide +kernel
theorem dX5_tangled_3 : decode cX5_tangled 3 = .ok (.istore_n 3, 1) := by decide +kernel
theorem dX5_tangled_4 : decode cX5_tangled 4 = .ok (.iload_n 3, 1) := by decide +kernel
theorem dX5_tangled_5 : decode cX5_tangled 5 = .ok (.iload_n 1, 1) := by decide +kernel
theorem dX5_tangled_6 : decode cX5_tangled 6 = .ok (.if_icmp .ge 36, 3) := by decide +kernel
theorem dX5_tangled_9 : decode cX5_tangled 9 = .ok (.iload_n 2, 1) := by decide +kernel
theorem dX5_tangled_10 : decode cX5_tangled 10 = .ok (.aload_n 0, 1) := by decide +kernel
theorem dX5_tangled_11 : decode cX5_tangled 11 = .ok (.getfield 9, 3) := by decide +kernel
theorem dX5_tangled_14 : decode cX5_tangled 14 = .ok (.iload_n 3, 1) := by decide +kernel
theorem dX5_tangled_15 : decode cX5_tangled 15 = .ok (.iaload, 1) := by decide +kernel
theorem dX5_tangled_16 : decode cX5_tangled 16 = .ok (.iload_n 3, 1) := by decide +kernel
theorem dX5_tangled_17 : decode cX5_tangled 17 = .ok (.if_icmp .ne 16, 3) := by decide +kernel
theorem dX5_tangled_20 : decode cX5_tangled 20 = .ok (.aload_n 0, 1) := by decide +kernel
theorem dX5_tangled_21 : decode cX5_tangled 21 = .ok (.iload_n 3, 1) := by decide +kernel
theorem dX5_tangled_22 : decode cX5_tangled 22 = .ok (.invokevirtual 52, 3) := by decide +kernel
theorem dX5_tangled_25 : decode cX5_tangled 25 = .ok (.iconst 2, 1) := by decide +kernel
theorem dX5_tangled_26 : decode cX5_tangled 26 = .ok (.if_icmp .ne 7, 3) := by decide +kernel
theorem dX5_tangled_29 : decode cX5_tangled 29 = .ok (.iconst 1, 1) := by decide +kernel
theorem dX5_tangled_30 : decode cX5_tangled 30 = .ok (.goto 4, 3) := by decide +kernel
theorem dX5_tangled_33 : decode cX5_tangled 33 = .ok (.iconst 0, 1) := by decide +kernel
theorem dX5_tangled_34 : decode cX5_tangled 34 = .ok (.iadd, 1) := by decide +kernel
theorem dX5_tangled_35 : decode cX5_tangled 35 = .ok (.istore_n 2, 1) := by decide +kernel
theorem dX5_tangled_36 : decode cX5_tangled 36 = .ok (.iinc 3 1, 3) := by decide +kernel
theorem dX5_tangled_39 : decode cX5_tangled 39 = .ok (.goto (-35), 3) := by decide +kernel
theorem dX5_tangled_42 : decode cX5_tangled 42 = .ok (.iload_n 2, 1) := by decide +kernel
theorem dX5_tangled_43 : decode cX5_tangled 43 = .ok (.ireturn, 1) := by decide +kernel
