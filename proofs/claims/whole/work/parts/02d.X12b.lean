theorem dX12_addsNew_57 : decode cX12_addsNew 57 = .ok (.dup, 1) := by decide +kernel
theorem dX12_addsNew_58 : decode cX12_addsNew 58 = .ok (.getfield 142, 3) := by decide +kernel
theorem dX12_addsNew_61 : decode cX12_addsNew 61 = .ok (.iconst 1, 1) := by decide +kernel
theorem dX12_addsNew_62 : decode cX12_addsNew 62 = .ok (.iadd, 1) := by decide +kernel
theorem dX12_addsNew_63 : decode cX12_addsNew 63 = .ok (.putfield 142, 3) := by decide +kernel
theorem dX12_addsNew_66 : decode cX12_addsNew 66 = .ok (.return_, 1) := by decide +kernel
theorem dX12_empties_0 : decode cX12_empties 0 = .ok (.bipush 20, 2) := by decide +kernel
theorem dX12_empties_2 : decode cX12_empties 2 = .ok (.istore_n 2, 1) := by decide +kernel
theorem dX12_empties_3 : decode cX12_empties 3 = .ok (.iload_n 2, 1) := by decide +kernel
theorem dX12_empties_4 : decode cX12_empties 4 = .ok (.sipush 292, 3) := by decide +kernel
theorem dX12_empties_7 : decode cX12_empties 7 = .ok (.if_icmp .ge 18, 3) := by decide +kernel
theorem dX12_empties_10 : decode cX12_empties 10 = .ok (.aload_n 0, 1) := by decide +kernel
theorem dX12_empties_11 : decode cX12_empties 11 = .ok (.getfield 7, 3) := by decide +kernel
theorem dX12_empties_14 : decode cX12_empties 14 = .ok (.iload_n 1, 1) := by decide +kernel
theorem dX12_empties_15 : decode cX12_empties 15 = .ok (.iload_n 2, 1) := by decide +kernel
theorem dX12_empties_16 : decode cX12_empties 16 = .ok (.iadd, 1) := by decide +kernel
theorem dX12_empties_17 : decode cX12_empties 17 = .ok (.iconst 0, 1) := by decide +kernel
theorem dX12_empties_18 : decode cX12_empties 18 = .ok (.iastore, 1) := by decide +kernel
theorem dX12_empties_19 : decode cX12_empties 19 = .ok (.iinc 2 1, 3) := by decide +kernel
theorem dX12_empties_22 : decode cX12_empties 22 = .ok (.goto (-19), 3) := by decide +kernel
theorem dX12_empties_25 : decode cX12_empties 25 = .ok (.aload_n 0, 1) := by decide +kernel
theorem dX12_empties_26 : decode cX12_empties 26 = .ok (.getfield 7, 3) := by decide +kernel
theorem dX12_empties_29 : decode cX12_empties 29 = .ok (.iload_n 1, 1) := by decide +kernel
theorem dX12_empties_30 : decode cX12_empties 30 = .ok (.bipush 18, 2) := by decide +kernel
theorem dX12_empties_32 : decode cX12_empties 32 = .ok (.iadd, 1) := by decide +kernel
theorem dX12_empties_33 : decode cX12_empties 33 = .ok (.iconst 0, 1) := by decide +kernel
theorem dX12_empties_34 : decode cX12_empties 34 = .ok (.iastore, 1) := by decide +kernel
theorem dX12_empties_35 : decode cX12_empties 35 = .ok (.return_, 1) := by decide +kernel
theorem dX12_doAllCome_0 : decode cX12_doAllCome 0 = .ok (.iload_n 2, 1) := by decide +kernel
theorem dX12_doAllCome_1 : decode cX12_doAllCome 1 = .ok (.istore_n 3, 1) := by decide +kernel
theorem dX12_doAllCome_2 : decode cX12_doAllCome 2 = .ok (.iload_n 3, 1) := by decide +kernel
theorem dX12_doAllCome_3 : decode cX12_doAllCome 3 = .ok (.aload_n 0, 1) := by decide +kernel
theorem dX12_doAllCome_4 : decode cX12_doAllCome 4 = .ok (.getfield 142, 3) := by decide +kernel
theorem dX12_doAllCome_7 : decode cX12_doAllCome 7 = .ok (.if_icmp .ge 59, 3) := by decide +kernel
theorem dX12_doAllCome_10 : decode cX12_doAllCome 10 = .ok (.aload_n 0, 1) := by decide +kernel
theorem dX12_doAllCome_11 : decode cX12_doAllCome 11 = .ok (.iload_n 1, 1) := by decide +kernel
theorem dX12_doAllCome_12 : decode cX12_doAllCome 12 = .ok (.aload_n 0, 1) := by decide +kernel
theorem dX12_doAllCome_13 : decode cX12_doAllCome 13 = .ok (.getfield 39, 3) := by decide +kernel
theorem dX12_doAllCome_16 : decode cX12_doAllCome 16 = .ok (.iconst 4, 1) := by decide +kernel
theorem dX12_doAllCome_17 : decode cX12_doAllCome 17 = .ok (.iload_n 3, 1) := by decide +kernel
theorem dX12_doAllCome_18 : decode cX12_doAllCome 18 = .ok (.imul, 1) := by decide +kernel
theorem dX12_doAllCome_19 : decode cX12_doAllCome 19 = .ok (.iaload, 1) := by decide +kernel
theorem dX12_doAllCome_20 : decode cX12_doAllCome 20 = .ok (.iconst 1, 1) := by decide +kernel
theorem dX12_doAllCome_21 : decode cX12_doAllCome 21 = .ok (.isub, 1) := by decide +kernel
theorem dX12_doAllCome_22 : decode cX12_doAllCome 22 = .ok (.aload_n 0, 1) := by decide +kernel
theorem dX12_doAllCome_23 : decode cX12_doAllCome 23 = .ok (.getfield 39, 3) := by decide +kernel
theorem dX12_doAllCome_26 : decode cX12_doAllCome 26 = .ok (.iconst 4, 1) := by decide +kernel
theorem dX12_doAllCome_27 : decode cX12_doAllCome 27 = .ok (.iload_n 3, 1) := by decide +kernel
theorem dX12_doAllCome_28 : decode cX12_doAllCome 28 = .ok (.imul, 1) := by decide +kernel
theorem dX12_doAllCome_29 : decode cX12_doAllCome 29 = .ok (.iconst 1, 1) := by decide +kernel
theorem dX12_doAllCome_30 : decode cX12_doAllCome 30 = .ok (.iadd, 1) := by decide +kernel
theorem dX12_doAllCome_31 : decode cX12_doAllCome 31 = .ok (.iaload, 1) := by decide +kernel
theorem dX12_doAllCome_32 : decode cX12_doAllCome 32 = .ok (.aload_n 0, 1) := by decide +kernel
theorem dX12_doAllCome_33 : decode cX12_doAllCome 33 = .ok (.getfield 39, 3) := by decide +kernel
theorem dX12_doAllCome_36 : decode cX12_doAllCome 36 = .ok (.iconst 4, 1) := by decide +kernel
theorem dX12_doAllCome_37 : decode cX12_doAllCome 37 = .ok (.iload_n 3, 1) := by decide +kernel
theorem dX12_doAllCome_38 : decode cX12_doAllCome 38 = .ok (.imul, 1) := by decide +kernel
theorem dX12_doAllCome_39 : decode cX12_doAllCome 39 = .ok (.iconst 2, 1) := by decide +kernel
theorem dX12_doAllCome_40 : decode cX12_doAllCome 40 = .ok (.iadd, 1) := by decide +kernel
theorem dX12_doAllCome_41 : decode cX12_doAllCome 41 = .ok (.iaload, 1) := by decide +kernel
theorem dX12_doAllCome_42 : decode cX12_doAllCome 42 = .ok (.aload_n 0, 1) := by decide +kernel
theorem dX12_doAllCome_43 : decode cX12_doAllCome 43 = .ok (.getfield 39, 3) := by decide +kernel
theorem dX12_doAllCome_46 : decode cX12_doAllCome 46 = .ok (.iconst 4, 1) := by decide +kernel
theorem dX12_doAllCome_47 : decode cX12_doAllCome 47 = .ok (.iload_n 3, 1) := by decide +kernel
theorem dX12_doAllCome_48 : decode cX12_doAllCome 48 = .ok (.imul, 1) := by decide +kernel
theorem dX12_doAllCome_49 : decode cX12_doAllCome 49 = .ok (.iconst 3, 1) := by decide +kernel
theorem dX12_doAllCome_50 : decode cX12_doAllCome 50 = .ok (.iadd, 1) := by decide +kernel
theorem dX12_doAllCome_51 : decode cX12_doAllCome 51 = .ok (.iaload, 1) := by decide +kernel
theorem dX12_doAllCome_52 : decode cX12_doAllCome 52 = .ok (.invokevirtual 148, 3) := by decide +kernel
theorem dX12_doAllCome_55 : decode cX12_doAllCome 55 = .ok (.ifCond .ne 5, 3) := by decide +kernel
theorem dX12_doAllCome_58 : decode cX12_doAllCome 58 = .ok (.iconst 0, 1) := by decide +kernel
theorem dX12_doAllCome_59 : decode cX12_doAllCome 59 = .ok (.ireturn, 1) := by decide +kernel
theorem dX12_doAllCome_60 : decode cX12_doAllCome 60 = .ok (.iinc 3 1, 3) := by decide +kernel
theorem dX12_doAllCome_63 : decode cX12_doAllCome 63 = .ok (.goto (-61), 3) := by decide +kernel
theorem dX12_doAllCome_66 : decode cX12_doAllCome 66 = .ok (.iconst 1, 1) := by decide +kernel
theorem dX12_doAllCome_67 : decode cX12_doAllCome 67 = .ok (.ireturn, 1) := by decide +kernel
theorem dX12_rehashes_0 : decode cX12_rehashes 0 = .ok (.aload_n 0, 1) := by decide +kernel
theorem dX12_rehashes_1 : decode cX12_rehashes 1 = .ok (.iload_n 1, 1) := by decide +kernel
theorem dX12_rehashes_2 : decode cX12_rehashes 2 = .ok (.sipush 584, 3) := by decide +kernel
theorem dX12_rehashes_5 : decode cX12_rehashes 5 = .ok (.invokevirtual 83, 3) := by decide +kernel
theorem dX12_rehashes_8 : decode cX12_rehashes 8 = .ok (.aload_n 0, 1) := by decide +kernel
theorem dX12_rehashes_9 : decode cX12_rehashes 9 = .ok (.iload_n 1, 1) := by decide +kernel
theorem dX12_rehashes_10 : decode cX12_rehashes 10 = .ok (.invokevirtual 152, 3) := by decide +kernel
theorem dX12_rehashes_13 : decode cX12_rehashes 13 = .ok (.aload_n 0, 1) := by decide +kernel
theorem dX12_rehashes_14 : decode cX12_rehashes 14 = .ok (.iload_n 2, 1) := by decide +kernel
theorem dX12_rehashes_15 : decode cX12_rehashes 15 = .ok (.iload_n 3, 1) := by decide +kernel
theorem dX12_rehashes_16 : decode cX12_rehashes 16 = .ok (.iload 4, 2) := by decide +kernel
theorem dX12_rehashes_18 : decode cX12_rehashes 18 = .ok (.invokevirtual 155, 3) := by decide +kernel
theorem dX12_rehashes_21 : decode cX12_rehashes 21 = .ok (.iconst 0, 1) := by decide +kernel
theorem dX12_rehashes_22 : decode cX12_rehashes 22 = .ok (.istore 5, 2) := by decide +kernel
theorem dX12_rehashes_24 : decode cX12_rehashes 24 = .ok (.iload 5, 2) := by decide +kernel
theorem dX12_rehashes_26 : decode cX12_rehashes 26 = .ok (.aload_n 0, 1) := by decide +kernel
theorem dX12_rehashes_27 : decode cX12_rehashes 27 = .ok (.getfield 7, 3) := by decide +kernel
theorem dX12_rehashes_30 : decode cX12_rehashes 30 = .ok (.iload_n 1, 1) := by decide +kernel
theorem dX12_rehashes_31 : decode cX12_rehashes 31 = .ok (.iconst 4, 1) := by decide +kernel
theorem dX12_rehashes_32 : decode cX12_rehashes 32 = .ok (.iadd, 1) := by decide +kernel
theorem dX12_rehashes_33 : decode cX12_rehashes 33 = .ok (.iaload, 1) := by decide +kernel
theorem dX12_rehashes_34 : decode cX12_rehashes 34 = .ok (.if_icmp .ge 101, 3) := by decide +kernel
theorem dX12_rehashes_37 : decode cX12_rehashes 37 = .ok (.iconst 0, 1) := by decide +kernel
theorem dX12_rehashes_38 : decode cX12_rehashes 38 = .ok (.istore 6, 2) := by decide +kernel
theorem dX12_rehashes_40 : decode cX12_rehashes 40 = .ok (.iload 6, 2) := by decide +kernel
theorem dX12_rehashes_42 : decode cX12_rehashes 42 = .ok (.iconst 4, 1) := by decide +kernel
theorem dX12_rehashes_43 : decode cX12_rehashes 43 = .ok (.if_icmp .ge 49, 3) := by decide +kernel
theorem dX12_rehashes_46 : decode cX12_rehashes 46 = .ok (.aload_n 0, 1) := by decide +kernel
theorem dX12_rehashes_47 : decode cX12_rehashes 47 = .ok (.getfield 7, 3) := by decide +kernel
theorem dX12_rehashes_50 : decode cX12_rehashes 50 = .ok (.iload_n 1, 1) := by decide +kernel
theorem dX12_rehashes_51 : decode cX12_rehashes 51 = .ok (.bipush 7, 2) := by decide +kernel
theorem dX12_rehashes_53 : decode cX12_rehashes 53 = .ok (.iadd, 1) := by decide +kernel
theorem dX12_rehashes_54 : decode cX12_rehashes 54 = .ok (.iload 6, 2) := by decide +kernel
theorem dX12_rehashes_56 : decode cX12_rehashes 56 = .ok (.iadd, 1) := by decide +kernel
theorem dX12_rehashes_57 : decode cX12_rehashes 57 = .ok (.iload 6, 2) := by decide +kernel
theorem dX12_rehashes_59 : decode cX12_rehashes 59 = .ok (.iconst 2, 1) := by decide +kernel
theorem dX12_rehashes_60 : decode cX12_rehashes 60 = .ok (.irem, 1) := by decide +kernel
theorem dX12_rehashes_61 : decode cX12_rehashes 61 = .ok (.ifCond .ne 16, 3) := by decide +kernel
theorem dX12_rehashes_64 : decode cX12_rehashes 64 = .ok (.iconst 1, 1) := by decide +kernel
theorem dX12_rehashes_65 : decode cX12_rehashes 65 = .ok (.aload_n 0, 1) := by decide +kernel
theorem dX12_rehashes_66 : decode cX12_rehashes 66 = .ok (.iload_n 1, 1) := by decide +kernel
theorem dX12_rehashes_67 : decode cX12_rehashes 67 = .ok (.sipush 1008, 3) := by decide +kernel
theorem dX12_rehashes_70 : decode cX12_rehashes 70 = .ok (.invokevirtual 119, 3) := by decide +kernel
theorem dX12_rehashes_73 : decode cX12_rehashes 73 = .ok (.iadd, 1) := by decide +kernel
theorem dX12_rehashes_74 : decode cX12_rehashes 74 = .ok (.goto 11, 3) := by decide +kernel
theorem dX12_rehashes_77 : decode cX12_rehashes 77 = .ok (.aload_n 0, 1) := by decide +kernel
theorem dX12_rehashes_78 : decode cX12_rehashes 78 = .ok (.iload_n 1, 1) := by decide +kernel
theorem dX12_rehashes_79 : decode cX12_rehashes 79 = .ok (.sipush 1009, 3) := by decide +kernel
theorem dX12_rehashes_82 : decode cX12_rehashes 82 = .ok (.invokevirtual 119, 3) := by decide +kernel
theorem dX12_rehashes_85 : decode cX12_rehashes 85 = .ok (.iastore, 1) := by decide +kernel
theorem dX12_rehashes_86 : decode cX12_rehashes 86 = .ok (.iinc 6 1, 3) := by decide +kernel
theorem dX12_rehashes_89 : decode cX12_rehashes 89 = .ok (.goto (-49), 3) := by decide +kernel
theorem dX12_rehashes_92 : decode cX12_rehashes 92 = .ok (.aload_n 0, 1) := by decide +kernel
theorem dX12_rehashes_93 : decode cX12_rehashes 93 = .ok (.iload_n 1, 1) := by decide +kernel
theorem dX12_rehashes_94 : decode cX12_rehashes 94 = .ok (.invokevirtual 159, 3) := by decide +kernel
theorem dX12_rehashes_97 : decode cX12_rehashes 97 = .ok (.aload_n 0, 1) := by decide +kernel
theorem dX12_rehashes_98 : decode cX12_rehashes 98 = .ok (.iload_n 1, 1) := by decide +kernel
theorem dX12_rehashes_99 : decode cX12_rehashes 99 = .ok (.iconst 0, 1) := by decide +kernel
theorem dX12_rehashes_100 : decode cX12_rehashes 100 = .ok (.invokevirtual 162, 3) := by decide +kernel
theorem dX12_rehashes_103 : decode cX12_rehashes 103 = .ok (.ifCond .eq 18, 3) := by decide +kernel
theorem dX12_rehashes_106 : decode cX12_rehashes 106 = .ok (.aload_n 0, 1) := by decide +kernel
theorem dX12_rehashes_107 : decode cX12_rehashes 107 = .ok (.getfield 7, 3) := by decide +kernel
theorem dX12_rehashes_110 : decode cX12_rehashes 110 = .ok (.iload_n 1, 1) := by decide +kernel
theorem dX12_rehashes_111 : decode cX12_rehashes 111 = .ok (.bipush 14, 2) := by decide +kernel
theorem dX12_rehashes_113 : decode cX12_rehashes 113 = .ok (.iadd, 1) := by decide +kernel
theorem dX12_rehashes_114 : decode cX12_rehashes 114 = .ok (.dup2, 1) := by decide +kernel
theorem dX12_rehashes_115 : decode cX12_rehashes 115 = .ok (.iaload, 1) := by decide +kernel
theorem dX12_rehashes_116 : decode cX12_rehashes 116 = .ok (.iconst 1, 1) := by decide +kernel
theorem dX12_rehashes_117 : decode cX12_rehashes 117 = .ok (.iadd, 1) := by decide +kernel
theorem dX12_rehashes_118 : decode cX12_rehashes 118 = .ok (.iastore, 1) := by decide +kernel
theorem dX12_rehashes_119 : decode cX12_rehashes 119 = .ok (.iconst 1, 1) := by decide +kernel
theorem dX12_rehashes_120 : decode cX12_rehashes 120 = .ok (.ireturn, 1) := by decide +kernel
theorem dX12_rehashes_121 : decode cX12_rehashes 121 = .ok (.aload_n 0, 1) := by decide +kernel
theorem dX12_rehashes_122 : decode cX12_rehashes 122 = .ok (.sipush 584, 3) := by decide +kernel
theorem dX12_rehashes_125 : decode cX12_rehashes 125 = .ok (.iload_n 1, 1) := by decide +kernel
theorem dX12_rehashes_126 : decode cX12_rehashes 126 = .ok (.invokevirtual 122, 3) := by decide +kernel
theorem dX12_rehashes_129 : decode cX12_rehashes 129 = .ok (.iinc 5 1, 3) := by decide +kernel
theorem dX12_rehashes_132 : decode cX12_rehashes 132 = .ok (.goto (-108), 3) := by decide +kernel
theorem dX12_rehashes_135 : decode cX12_rehashes 135 = .ok (.iconst 0, 1) := by decide +kernel
theorem dX12_rehashes_136 : decode cX12_rehashes 136 = .ok (.ireturn, 1) := by decide +kernel
theorem dX12_grows_0 : decode cX12_grows 0 = .ok (.aload_n 0, 1) := by decide +kernel
theorem dX12_grows_1 : decode cX12_grows 1 = .ok (.iload_n 1, 1) := by decide +kernel
theorem dX12_grows_2 : decode cX12_grows 2 = .ok (.sipush 584, 3) := by decide +kernel
theorem dX12_grows_5 : decode cX12_grows 5 = .ok (.invokevirtual 83, 3) := by decide +kernel
theorem dX12_grows_8 : decode cX12_grows 8 = .ok (.aload_n 0, 1) := by decide +kernel
theorem dX12_grows_9 : decode cX12_grows 9 = .ok (.iload_n 1, 1) := by decide +kernel
theorem dX12_grows_10 : decode cX12_grows 10 = .ok (.invokevirtual 152, 3) := by decide +kernel
theorem dX12_grows_13 : decode cX12_grows 13 = .ok (.aload_n 0, 1) := by decide +kernel
theorem dX12_grows_14 : decode cX12_grows 14 = .ok (.iload_n 2, 1) := by decide +kernel
theorem dX12_grows_15 : decode cX12_grows 15 = .ok (.iload_n 3, 1) := by decide +kernel
theorem dX12_grows_16 : decode cX12_grows 16 = .ok (.iload 4, 2) := by decide +kernel
theorem dX12_grows_18 : decode cX12_grows 18 = .ok (.invokevirtual 155, 3) := by decide +kernel
theorem dX12_grows_21 : decode cX12_grows 21 = .ok (.aload_n 0, 1) := by decide +kernel
theorem dX12_grows_22 : decode cX12_grows 22 = .ok (.getfield 7, 3) := by decide +kernel
theorem dX12_grows_25 : decode cX12_grows 25 = .ok (.iload_n 1, 1) := by decide +kernel
theorem dX12_grows_26 : decode cX12_grows 26 = .ok (.iconst 0, 1) := by decide +kernel
theorem dX12_grows_27 : decode cX12_grows 27 = .ok (.iadd, 1) := by decide +kernel
theorem dX12_grows_28 : decode cX12_grows 28 = .ok (.iaload, 1) := by decide +kernel
theorem dX12_grows_29 : decode cX12_grows 29 = .ok (.istore 5, 2) := by decide +kernel
theorem dX12_grows_31 : decode cX12_grows 31 = .ok (.iconst 1, 1) := by decide +kernel
theorem dX12_grows_32 : decode cX12_grows 32 = .ok (.istore 6, 2) := by decide +kernel
theorem dX12_grows_34 : decode cX12_grows 34 = .ok (.iload 5, 2) := by decide +kernel
theorem dX12_grows_36 : decode cX12_grows 36 = .ok (.bipush 8, 2) := by decide +kernel
theorem dX12_grows_38 : decode cX12_grows 38 = .ok (.if_icmp .gt 63, 3) := by decide +kernel
theorem dX12_grows_41 : decode cX12_grows 41 = .ok (.iload 5, 2) := by decide +kernel
theorem dX12_grows_43 : decode cX12_grows 43 = .ok (.iconst 2, 1) := by decide +kernel
theorem dX12_grows_44 : decode cX12_grows 44 = .ok (.imul, 1) := by decide +kernel
theorem dX12_grows_45 : decode cX12_grows 45 = .ok (.istore 5, 2) := by decide +kernel
theorem dX12_grows_47 : decode cX12_grows 47 = .ok (.aload_n 0, 1) := by decide +kernel
theorem dX12_grows_48 : decode cX12_grows 48 = .ok (.getfield 7, 3) := by decide +kernel
theorem dX12_grows_51 : decode cX12_grows 51 = .ok (.iload_n 1, 1) := by decide +kernel
theorem dX12_grows_52 : decode cX12_grows 52 = .ok (.iconst 0, 1) := by decide +kernel
theorem dX12_grows_53 : decode cX12_grows 53 = .ok (.iadd, 1) := by decide +kernel
theorem dX12_grows_54 : decode cX12_grows 54 = .ok (.iload 5, 2) := by decide +kernel
theorem dX12_grows_56 : decode cX12_grows 56 = .ok (.iastore, 1) := by decide +kernel
theorem dX12_grows_57 : decode cX12_grows 57 = .ok (.aload_n 0, 1) := by decide +kernel
theorem dX12_grows_58 : decode cX12_grows 58 = .ok (.iload_n 1, 1) := by decide +kernel
theorem dX12_grows_59 : decode cX12_grows 59 = .ok (.invokevirtual 159, 3) := by decide +kernel
theorem dX12_grows_62 : decode cX12_grows 62 = .ok (.aload_n 0, 1) := by decide +kernel
theorem dX12_grows_63 : decode cX12_grows 63 = .ok (.iload_n 1, 1) := by decide +kernel
theorem dX12_grows_64 : decode cX12_grows 64 = .ok (.iconst 0, 1) := by decide +kernel
theorem dX12_grows_65 : decode cX12_grows 65 = .ok (.invokevirtual 162, 3) := by decide +kernel
theorem dX12_grows_68 : decode cX12_grows 68 = .ok (.ifCond .eq 19, 3) := by decide +kernel
theorem dX12_grows_71 : decode cX12_grows 71 = .ok (.aload_n 0, 1) := by decide +kernel
theorem dX12_grows_72 : decode cX12_grows 72 = .ok (.getfield 7, 3) := by decide +kernel
theorem dX12_grows_75 : decode cX12_grows 75 = .ok (.iload_n 1, 1) := by decide +kernel
theorem dX12_grows_76 : decode cX12_grows 76 = .ok (.bipush 15, 2) := by decide +kernel
theorem dX12_grows_78 : decode cX12_grows 78 = .ok (.iadd, 1) := by decide +kernel
theorem dX12_grows_79 : decode cX12_grows 79 = .ok (.dup2, 1) := by decide +kernel
theorem dX12_grows_80 : decode cX12_grows 80 = .ok (.iaload, 1) := by decide +kernel
theorem dX12_grows_81 : decode cX12_grows 81 = .ok (.iload 6, 2) := by decide +kernel
theorem dX12_grows_83 : decode cX12_grows 83 = .ok (.iadd, 1) := by decide +kernel
theorem dX12_grows_84 : decode cX12_grows 84 = .ok (.iastore, 1) := by decide +kernel
theorem dX12_grows_85 : decode cX12_grows 85 = .ok (.iconst 1, 1) := by decide +kernel
theorem dX12_grows_86 : decode cX12_grows 86 = .ok (.ireturn, 1) := by decide +kernel
theorem dX12_grows_87 : decode cX12_grows 87 = .ok (.aload_n 0, 1) := by decide +kernel
theorem dX12_grows_88 : decode cX12_grows 88 = .ok (.sipush 584, 3) := by decide +kernel
theorem dX12_grows_91 : decode cX12_grows 91 = .ok (.iload_n 1, 1) := by decide +kernel
theorem dX12_grows_92 : decode cX12_grows 92 = .ok (.invokevirtual 122, 3) := by decide +kernel
theorem dX12_grows_95 : decode cX12_grows 95 = .ok (.iinc 6 1, 3) := by decide +kernel
theorem dX12_grows_98 : decode cX12_grows 98 = .ok (.goto (-64), 3) := by decide +kernel
theorem dX12_grows_101 : decode cX12_grows 101 = .ok (.iconst 0, 1) := by decide +kernel
theorem dX12_grows_102 : decode cX12_grows 102 = .ok (.ireturn, 1) := by decide +kernel
theorem dX12_puts_0 : decode cX12_puts 0 = .ok (.aload_n 0, 1) := by decide +kernel
theorem dX12_puts_1 : decode cX12_puts 1 = .ok (.getfield 7, 3) := by decide +kernel
theorem dX12_puts_4 : decode cX12_puts 4 = .ok (.iload_n 1, 1) := by decide +kernel
theorem dX12_puts_5 : decode cX12_puts 5 = .ok (.bipush 12, 2) := by decide +kernel
theorem dX12_puts_7 : decode cX12_puts 7 = .ok (.iadd, 1) := by decide +kernel
theorem dX12_puts_8 : decode cX12_puts 8 = .ok (.dup2, 1) := by decide +kernel
theorem dX12_puts_9 : decode cX12_puts 9 = .ok (.iaload, 1) := by decide +kernel
theorem dX12_puts_10 : decode cX12_puts 10 = .ok (.iconst 1, 1) := by decide +kernel
theorem dX12_puts_11 : decode cX12_puts 11 = .ok (.iadd, 1) := by decide +kernel
theorem dX12_puts_12 : decode cX12_puts 12 = .ok (.iastore, 1) := by decide +kernel
theorem dX12_puts_13 : decode cX12_puts 13 = .ok (.aload_n 0, 1) := by decide +kernel
theorem dX12_puts_14 : decode cX12_puts 14 = .ok (.iload_n 1, 1) := by decide +kernel
theorem dX12_puts_15 : decode cX12_puts 15 = .ok (.iload_n 2, 1) := by decide +kernel
theorem dX12_puts_16 : decode cX12_puts 16 = .ok (.invokevirtual 166, 3) := by decide +kernel
theorem dX12_puts_19 : decode cX12_puts 19 = .ok (.istore 4, 2) := by decide +kernel
theorem dX12_puts_21 : decode cX12_puts 21 = .ok (.iload 4, 2) := by decide +kernel
theorem dX12_puts_23 : decode cX12_puts 23 = .ok (.ifCond .lt 15, 3) := by decide +kernel
theorem dX12_puts_26 : decode cX12_puts 26 = .ok (.aload_n 0, 1) := by decide +kernel
theorem dX12_puts_27 : decode cX12_puts 27 = .ok (.getfield 7, 3) := by decide +kernel
theorem dX12_puts_30 : decode cX12_puts 30 = .ok (.iload 4, 2) := by decide +kernel
theorem dX12_puts_32 : decode cX12_puts 32 = .ok (.iconst 1, 1) := by decide +kernel
theorem dX12_puts_33 : decode cX12_puts 33 = .ok (.iadd, 1) := by decide +kernel
theorem dX12_puts_34 : decode cX12_puts 34 = .ok (.iload_n 3, 1) := by decide +kernel
theorem dX12_puts_35 : decode cX12_puts 35 = .ok (.iastore, 1) := by decide +kernel
theorem dX12_puts_36 : decode cX12_puts 36 = .ok (.iconst 0, 1) := by decide +kernel
theorem dX12_puts_37 : decode cX12_puts 37 = .ok (.ireturn, 1) := by decide +kernel
theorem dX12_puts_38 : decode cX12_puts 38 = .ok (.aload_n 0, 1) := by decide +kernel
theorem dX12_puts_39 : decode cX12_puts 39 = .ok (.getfield 7, 3) := by decide +kernel
theorem dX12_puts_42 : decode cX12_puts 42 = .ok (.iload_n 1, 1) := by decide +kernel
theorem dX12_puts_43 : decode cX12_puts 43 = .ok (.bipush 12, 2) := by decide +kernel
theorem dX12_puts_45 : decode cX12_puts 45 = .ok (.iadd, 1) := by decide +kernel
theorem dX12_puts_46 : decode cX12_puts 46 = .ok (.iaload, 1) := by decide +kernel
theorem dX12_puts_47 : decode cX12_puts 47 = .ok (.istore 5, 2) := by decide +kernel
theorem dX12_puts_49 : decode cX12_puts 49 = .ok (.aload_n 0, 1) := by decide +kernel
theorem dX12_puts_50 : decode cX12_puts 50 = .ok (.iload_n 1, 1) := by decide +kernel
theorem dX12_puts_51 : decode cX12_puts 51 = .ok (.iload_n 2, 1) := by decide +kernel
theorem dX12_puts_52 : decode cX12_puts 52 = .ok (.iload_n 3, 1) := by decide +kernel
theorem dX12_puts_53 : decode cX12_puts 53 = .ok (.iload 5, 2) := by decide +kernel
theorem dX12_puts_55 : decode cX12_puts 55 = .ok (.iconst 0, 1) := by decide +kernel
theorem dX12_puts_56 : decode cX12_puts 56 = .ok (.invokevirtual 148, 3) := by decide +kernel
theorem dX12_puts_59 : decode cX12_puts 59 = .ok (.istore 6, 2) := by decide +kernel
theorem dX12_puts_61 : decode cX12_puts 61 = .ok (.iload 6, 2) := by decide +kernel
theorem dX12_puts_63 : decode cX12_puts 63 = .ok (.ifCond .le 6, 3) := by decide +kernel
theorem dX12_puts_66 : decode cX12_puts 66 = .ok (.iload 6, 2) := by decide +kernel
theorem dX12_puts_68 : decode cX12_puts 68 = .ok (.ireturn, 1) := by decide +kernel
theorem dX12_puts_69 : decode cX12_puts 69 = .ok (.aload_n 0, 1) := by decide +kernel
theorem dX12_puts_70 : decode cX12_puts 70 = .ok (.getfield 7, 3) := by decide +kernel
theorem dX12_puts_73 : decode cX12_puts 73 = .ok (.iload_n 1, 1) := by decide +kernel
theorem dX12_puts_74 : decode cX12_puts 74 = .ok (.bipush 6, 2) := by decide +kernel
theorem dX12_puts_76 : decode cX12_puts 76 = .ok (.iadd, 1) := by decide +kernel
theorem dX12_puts_77 : decode cX12_puts 77 = .ok (.iaload, 1) := by decide +kernel
theorem dX12_puts_78 : decode cX12_puts 78 = .ok (.istore 7, 2) := by decide +kernel
theorem dX12_puts_80 : decode cX12_puts 80 = .ok (.iload 7, 2) := by decide +kernel
theorem dX12_puts_82 : decode cX12_puts 82 = .ok (.iconst 3, 1) := by decide +kernel
theorem dX12_puts_83 : decode cX12_puts 83 = .ok (.if_icmp .ne 12, 3) := by decide +kernel
theorem dX12_puts_86 : decode cX12_puts 86 = .ok (.aload_n 0, 1) := by decide +kernel
theorem dX12_puts_87 : decode cX12_puts 87 = .ok (.iload_n 1, 1) := by decide +kernel
theorem dX12_puts_88 : decode cX12_puts 88 = .ok (.iload_n 2, 1) := by decide +kernel
theorem dX12_puts_89 : decode cX12_puts 89 = .ok (.invokevirtual 132, 3) := by decide +kernel
theorem dX12_puts_92 : decode cX12_puts 92 = .ok (.goto 4, 3) := by decide +kernel
theorem dX12_puts_95 : decode cX12_puts 95 = .ok (.iconst (-1), 1) := by decide +kernel
theorem dX12_puts_96 : decode cX12_puts 96 = .ok (.istore 8, 2) := by decide +kernel
theorem dX12_puts_98 : decode cX12_puts 98 = .ok (.iload 8, 2) := by decide +kernel
theorem dX12_puts_100 : decode cX12_puts 100 = .ok (.ifCond .le 21, 3) := by decide +kernel
theorem dX12_puts_103 : decode cX12_puts 103 = .ok (.aload_n 0, 1) := by decide +kernel
theorem dX12_puts_104 : decode cX12_puts 104 = .ok (.aload_n 0, 1) := by decide +kernel
theorem dX12_puts_105 : decode cX12_puts 105 = .ok (.iload_n 1, 1) := by decide +kernel
theorem dX12_puts_106 : decode cX12_puts 106 = .ok (.iload 8, 2) := by decide +kernel
theorem dX12_puts_108 : decode cX12_puts 108 = .ok (.invokevirtual 135, 3) := by decide +kernel
theorem dX12_puts_111 : decode cX12_puts 111 = .ok (.iload_n 2, 1) := by decide +kernel
theorem dX12_puts_112 : decode cX12_puts 112 = .ok (.iload_n 3, 1) := by decide +kernel
theorem dX12_puts_113 : decode cX12_puts 113 = .ok (.iload 5, 2) := by decide +kernel
theorem dX12_puts_115 : decode cX12_puts 115 = .ok (.iconst 0, 1) := by decide +kernel
theorem dX12_puts_116 : decode cX12_puts 116 = .ok (.invokevirtual 128, 3) := by decide +kernel
theorem dX12_puts_119 : decode cX12_puts 119 = .ok (.iconst 2, 1) := by decide +kernel
theorem dX12_puts_120 : decode cX12_puts 120 = .ok (.ireturn, 1) := by decide +kernel
theorem dX12_puts_121 : decode cX12_puts 121 = .ok (.iload 7, 2) := by decide +kernel
theorem dX12_puts_123 : decode cX12_puts 123 = .ok (.iconst 1, 1) := by decide +kernel
theorem dX12_puts_124 : decode cX12_puts 124 = .ok (.if_icmp .eq 9, 3) := by decide +kernel
theorem dX12_puts_127 : decode cX12_puts 127 = .ok (.iload 7, 2) := by decide +kernel
theorem dX12_puts_129 : decode cX12_puts 129 = .ok (.iconst 3, 1) := by decide +kernel
theorem dX12_puts_130 : decode cX12_puts 130 = .ok (.if_icmp .ne 17, 3) := by decide +kernel
theorem dX12_puts_133 : decode cX12_puts 133 = .ok (.aload_n 0, 1) := by decide +kernel
theorem dX12_puts_134 : decode cX12_puts 134 = .ok (.iload_n 1, 1) := by decide +kernel
theorem dX12_puts_135 : decode cX12_puts 135 = .ok (.iload_n 2, 1) := by decide +kernel
theorem dX12_puts_136 : decode cX12_puts 136 = .ok (.iload_n 3, 1) := by decide +kernel
theorem dX12_puts_137 : decode cX12_puts 137 = .ok (.iload 5, 2) := by decide +kernel
theorem dX12_puts_139 : decode cX12_puts 139 = .ok (.invokevirtual 169, 3) := by decide +kernel
theorem dX12_puts_142 : decode cX12_puts 142 = .ok (.ifCond .eq 5, 3) := by decide +kernel
theorem dX12_puts_145 : decode cX12_puts 145 = .ok (.iconst 4, 1) := by decide +kernel
theorem dX12_puts_146 : decode cX12_puts 146 = .ok (.ireturn, 1) := by decide +kernel
theorem dX12_puts_147 : decode cX12_puts 147 = .ok (.iload 7, 2) := by decide +kernel
theorem dX12_puts_149 : decode cX12_puts 149 = .ok (.iconst 2, 1) := by decide +kernel
theorem dX12_puts_150 : decode cX12_puts 150 = .ok (.if_icmp .ne 17, 3) := by decide +kernel
theorem dX12_puts_153 : decode cX12_puts 153 = .ok (.aload_n 0, 1) := by decide +kernel
theorem dX12_puts_154 : decode cX12_puts 154 = .ok (.iload_n 1, 1) := by decide +kernel
theorem dX12_puts_155 : decode cX12_puts 155 = .ok (.iload_n 2, 1) := by decide +kernel
theorem dX12_puts_156 : decode cX12_puts 156 = .ok (.iload_n 3, 1) := by decide +kernel
theorem dX12_puts_157 : decode cX12_puts 157 = .ok (.iload 5, 2) := by decide +kernel
theorem dX12_puts_159 : decode cX12_puts 159 = .ok (.invokevirtual 173, 3) := by decide +kernel
theorem dX12_puts_162 : decode cX12_puts 162 = .ok (.ifCond .eq 5, 3) := by decide +kernel
theorem dX12_puts_165 : decode cX12_puts 165 = .ok (.iconst 5, 1) := by decide +kernel
theorem dX12_puts_166 : decode cX12_puts 166 = .ok (.ireturn, 1) := by decide +kernel
theorem dX12_puts_167 : decode cX12_puts 167 = .ok (.aload_n 0, 1) := by decide +kernel
theorem dX12_puts_168 : decode cX12_puts 168 = .ok (.getfield 7, 3) := by decide +kernel
theorem dX12_puts_171 : decode cX12_puts 171 = .ok (.iload_n 1, 1) := by decide +kernel
theorem dX12_puts_172 : decode cX12_puts 172 = .ok (.bipush 13, 2) := by decide +kernel
theorem dX12_puts_174 : decode cX12_puts 174 = .ok (.iadd, 1) := by decide +kernel
theorem dX12_puts_175 : decode cX12_puts 175 = .ok (.dup2, 1) := by decide +kernel
theorem dX12_puts_176 : decode cX12_puts 176 = .ok (.iaload, 1) := by decide +kernel
theorem dX12_puts_177 : decode cX12_puts 177 = .ok (.iconst 1, 1) := by decide +kernel
theorem dX12_puts_178 : decode cX12_puts 178 = .ok (.iadd, 1) := by decide +kernel
theorem dX12_puts_179 : decode cX12_puts 179 = .ok (.iastore, 1) := by decide +kernel
theorem dX12_puts_180 : decode cX12_puts 180 = .ok (.iconst (-1), 1) := by decide +kernel
theorem dX12_puts_181 : decode cX12_puts 181 = .ok (.ireturn, 1) := by decide +kernel
theorem dX12_drops_0 : decode cX12_drops 0 = .ok (.aload_n 0, 1) := by decide +kernel
theorem dX12_drops_1 : decode cX12_drops 1 = .ok (.iload_n 1, 1) := by decide +kernel
theorem dX12_drops_2 : decode cX12_drops 2 = .ok (.iload_n 2, 1) := by decide +kernel
theorem dX12_drops_3 : decode cX12_drops 3 = .ok (.invokevirtual 166, 3) := by decide +kernel
theorem dX12_drops_6 : decode cX12_drops 6 = .ok (.istore_n 3, 1) := by decide +kernel
theorem dX12_drops_7 : decode cX12_drops 7 = .ok (.iload_n 3, 1) := by decide +kernel
theorem dX12_drops_8 : decode cX12_drops 8 = .ok (.ifCond .ge 5, 3) := by decide +kernel
theorem dX12_drops_11 : decode cX12_drops 11 = .ok (.iconst (-1), 1) := by decide +kernel
theorem dX12_drops_12 : decode cX12_drops 12 = .ok (.ireturn, 1) := by decide +kernel
theorem dX12_drops_13 : decode cX12_drops 13 = .ok (.aload_n 0, 1) := by decide +kernel
theorem dX12_drops_14 : decode cX12_drops 14 = .ok (.getfield 7, 3) := by decide +kernel
theorem dX12_drops_17 : decode cX12_drops 17 = .ok (.iload_n 3, 1) := by decide +kernel
theorem dX12_drops_18 : decode cX12_drops 18 = .ok (.iconst 1, 1) := by decide +kernel
theorem dX12_drops_19 : decode cX12_drops 19 = .ok (.iadd, 1) := by decide +kernel
theorem dX12_drops_20 : decode cX12_drops 20 = .ok (.iaload, 1) := by decide +kernel
theorem dX12_drops_21 : decode cX12_drops 21 = .ok (.istore 4, 2) := by decide +kernel
theorem dX12_drops_23 : decode cX12_drops 23 = .ok (.aload_n 0, 1) := by decide +kernel
theorem dX12_drops_24 : decode cX12_drops 24 = .ok (.iload_n 1, 1) := by decide +kernel
theorem dX12_drops_25 : decode cX12_drops 25 = .ok (.iload_n 3, 1) := by decide +kernel
theorem dX12_drops_26 : decode cX12_drops 26 = .ok (.invokevirtual 176, 3) := by decide +kernel
theorem dX12_drops_29 : decode cX12_drops 29 = .ok (.iconst 0, 1) := by decide +kernel
theorem dX12_drops_30 : decode cX12_drops 30 = .ok (.istore 5, 2) := by decide +kernel
theorem dX12_drops_32 : decode cX12_drops 32 = .ok (.iload 5, 2) := by decide +kernel
theorem dX12_drops_34 : decode cX12_drops 34 = .ok (.aload_n 0, 1) := by decide +kernel
theorem dX12_drops_35 : decode cX12_drops 35 = .ok (.getfield 7, 3) := by decide +kernel
theorem dX12_drops_38 : decode cX12_drops 38 = .ok (.iload_n 1, 1) := by decide +kernel
theorem dX12_drops_39 : decode cX12_drops 39 = .ok (.bipush 18, 2) := by decide +kernel
theorem dX12_drops_41 : decode cX12_drops 41 = .ok (.iadd, 1) := by decide +kernel
theorem dX12_drops_42 : decode cX12_drops 42 = .ok (.iaload, 1) := by decide +kernel
theorem dX12_drops_43 : decode cX12_drops 43 = .ok (.if_icmp .ge 55, 3) := by decide +kernel
theorem dX12_drops_46 : decode cX12_drops 46 = .ok (.iload_n 1, 1) := by decide +kernel
theorem dX12_drops_47 : decode cX12_drops 47 = .ok (.bipush 100, 2) := by decide +kernel
theorem dX12_drops_49 : decode cX12_drops 49 = .ok (.iload 5, 2) := by decide +kernel
theorem dX12_drops_51 : decode cX12_drops 51 = .ok (.invokestatic 92, 3) := by decide +kernel
theorem dX12_drops_54 : decode cX12_drops 54 = .ok (.istore 6, 2) := by decide +kernel
theorem dX12_drops_56 : decode cX12_drops 56 = .ok (.aload_n 0, 1) := by decide +kernel
theorem dX12_drops_57 : decode cX12_drops 57 = .ok (.iload_n 1, 1) := by decide +kernel
theorem dX12_drops_58 : decode cX12_drops 58 = .ok (.aload_n 0, 1) := by decide +kernel
theorem dX12_drops_59 : decode cX12_drops 59 = .ok (.iload 6, 2) := by decide +kernel
theorem dX12_drops_61 : decode cX12_drops 61 = .ok (.invokevirtual 103, 3) := by decide +kernel
theorem dX12_drops_64 : decode cX12_drops 64 = .ok (.invokevirtual 125, 3) := by decide +kernel
theorem dX12_drops_67 : decode cX12_drops 67 = .ok (.istore 7, 2) := by decide +kernel
theorem dX12_drops_69 : decode cX12_drops 69 = .ok (.iload 7, 2) := by decide +kernel
theorem dX12_drops_71 : decode cX12_drops 71 = .ok (.ifCond .lt 21, 3) := by decide +kernel
theorem dX12_drops_74 : decode cX12_drops 74 = .ok (.aload_n 0, 1) := by decide +kernel
theorem dX12_drops_75 : decode cX12_drops 75 = .ok (.iload 6, 2) := by decide +kernel
theorem dX12_drops_77 : decode cX12_drops 77 = .ok (.iload 7, 2) := by decide +kernel
theorem dX12_drops_79 : decode cX12_drops 79 = .ok (.invokevirtual 116, 3) := by decide +kernel
theorem dX12_drops_82 : decode cX12_drops 82 = .ok (.aload_n 0, 1) := by decide +kernel
theorem dX12_drops_83 : decode cX12_drops 83 = .ok (.iload_n 1, 1) := by decide +kernel
theorem dX12_drops_84 : decode cX12_drops 84 = .ok (.iload 6, 2) := by decide +kernel
theorem dX12_drops_86 : decode cX12_drops 86 = .ok (.invokevirtual 176, 3) := by decide +kernel
theorem dX12_drops_89 : decode cX12_drops 89 = .ok (.goto 6, 3) := by decide +kernel
theorem dX12_drops_92 : decode cX12_drops 92 = .ok (.iinc 5 1, 3) := by decide +kernel
theorem dX12_drops_95 : decode cX12_drops 95 = .ok (.goto (-63), 3) := by decide +kernel
theorem dX12_drops_98 : decode cX12_drops 98 = .ok (.iload 4, 2) := by decide +kernel
theorem dX12_drops_100 : decode cX12_drops 100 = .ok (.ireturn, 1) := by decide +kernel
theorem dX12_goesOut_0 : decode cX12_goesOut 0 = .ok (.iconst 0, 1) := by decide +kernel
theorem dX12_goesOut_1 : decode cX12_goesOut 1 = .ok (.istore_n 3, 1) := by decide +kernel
theorem dX12_goesOut_2 : decode cX12_goesOut 2 = .ok (.iload_n 3, 1) := by decide +kernel
theorem dX12_goesOut_3 : decode cX12_goesOut 3 = .ok (.iconst 4, 1) := by decide +kernel
theorem dX12_goesOut_4 : decode cX12_goesOut 4 = .ok (.if_icmp .ge 18, 3) := by decide +kernel
theorem dX12_goesOut_7 : decode cX12_goesOut 7 = .ok (.aload_n 0, 1) := by decide +kernel
theorem dX12_goesOut_8 : decode cX12_goesOut 8 = .ok (.getfield 7, 3) := by decide +kernel
theorem dX12_goesOut_11 : decode cX12_goesOut 11 = .ok (.iload_n 2, 1) := by decide +kernel
theorem dX12_goesOut_12 : decode cX12_goesOut 12 = .ok (.iload_n 3, 1) := by decide +kernel
theorem dX12_goesOut_13 : decode cX12_goesOut 13 = .ok (.iadd, 1) := by decide +kernel
theorem dX12_goesOut_14 : decode cX12_goesOut 14 = .ok (.iconst 0, 1) := by decide +kernel
theorem dX12_goesOut_15 : decode cX12_goesOut 15 = .ok (.iastore, 1) := by decide +kernel
theorem dX12_goesOut_16 : decode cX12_goesOut 16 = .ok (.iinc 3 1, 3) := by decide +kernel
theorem dX12_goesOut_19 : decode cX12_goesOut 19 = .ok (.goto (-17), 3) := by decide +kernel
theorem dX12_goesOut_22 : decode cX12_goesOut 22 = .ok (.iload_n 2, 1) := by decide +kernel
theorem dX12_goesOut_23 : decode cX12_goesOut 23 = .ok (.iload_n 1, 1) := by decide +kernel
theorem dX12_goesOut_24 : decode cX12_goesOut 24 = .ok (.sipush 276, 3) := by decide +kernel
theorem dX12_goesOut_27 : decode cX12_goesOut 27 = .ok (.iadd, 1) := by decide +kernel
theorem dX12_goesOut_28 : decode cX12_goesOut 28 = .ok (.if_icmp .ge 4, 3) := by decide +kernel
theorem dX12_goesOut_31 : decode cX12_goesOut 31 = .ok (.return_, 1) := by decide +kernel
theorem dX12_goesOut_32 : decode cX12_goesOut 32 = .ok (.iload_n 2, 1) := by decide +kernel
theorem dX12_goesOut_33 : decode cX12_goesOut 33 = .ok (.istore_n 3, 1) := by decide +kernel
theorem dX12_goesOut_34 : decode cX12_goesOut 34 = .ok (.iload_n 3, 1) := by decide +kernel
theorem dX12_goesOut_35 : decode cX12_goesOut 35 = .ok (.iload_n 1, 1) := by decide +kernel
theorem dX12_goesOut_36 : decode cX12_goesOut 36 = .ok (.bipush 100, 2) := by decide +kernel
theorem dX12_goesOut_38 : decode cX12_goesOut 38 = .ok (.aload_n 0, 1) := by decide +kernel
theorem dX12_goesOut_39 : decode cX12_goesOut 39 = .ok (.getfield 7, 3) := by decide +kernel
theorem dX12_goesOut_42 : decode cX12_goesOut 42 = .ok (.iload_n 1, 1) := by decide +kernel
theorem dX12_goesOut_43 : decode cX12_goesOut 43 = .ok (.bipush 18, 2) := by decide +kernel
theorem dX12_goesOut_45 : decode cX12_goesOut 45 = .ok (.iadd, 1) := by decide +kernel
theorem dX12_goesOut_46 : decode cX12_goesOut 46 = .ok (.iaload, 1) := by decide +kernel
theorem dX12_goesOut_47 : decode cX12_goesOut 47 = .ok (.iconst 1, 1) := by decide +kernel
theorem dX12_goesOut_48 : decode cX12_goesOut 48 = .ok (.isub, 1) := by decide +kernel
theorem dX12_goesOut_49 : decode cX12_goesOut 49 = .ok (.invokestatic 92, 3) := by decide +kernel
theorem dX12_goesOut_52 : decode cX12_goesOut 52 = .ok (.if_icmp .ge 23, 3) := by decide +kernel
theorem dX12_goesOut_55 : decode cX12_goesOut 55 = .ok (.aload_n 0, 1) := by decide +kernel
theorem dX12_goesOut_56 : decode cX12_goesOut 56 = .ok (.getfield 7, 3) := by decide +kernel
theorem dX12_goesOut_59 : decode cX12_goesOut 59 = .ok (.iload_n 3, 1) := by decide +kernel
theorem dX12_goesOut_60 : decode cX12_goesOut 60 = .ok (.aload_n 0, 1) := by decide +kernel
theorem dX12_goesOut_61 : decode cX12_goesOut 61 = .ok (.getfield 7, 3) := by decide +kernel
theorem dX12_goesOut_64 : decode cX12_goesOut 64 = .ok (.iload_n 3, 1) := by decide +kernel
theorem dX12_goesOut_65 : decode cX12_goesOut 65 = .ok (.iconst 4, 1) := by decide +kernel
theorem dX12_goesOut_66 : decode cX12_goesOut 66 = .ok (.iadd, 1) := by decide +kernel
theorem dX12_goesOut_67 : decode cX12_goesOut 67 = .ok (.iaload, 1) := by decide +kernel
theorem dX12_goesOut_68 : decode cX12_goesOut 68 = .ok (.iastore, 1) := by decide +kernel
theorem dX12_goesOut_69 : decode cX12_goesOut 69 = .ok (.iinc 3 1, 3) := by decide +kernel
theorem dX12_goesOut_72 : decode cX12_goesOut 72 = .ok (.goto (-38), 3) := by decide +kernel
theorem dX12_goesOut_75 : decode cX12_goesOut 75 = .ok (.aload_n 0, 1) := by decide +kernel
theorem dX12_goesOut_76 : decode cX12_goesOut 76 = .ok (.getfield 7, 3) := by decide +kernel
theorem dX12_goesOut_79 : decode cX12_goesOut 79 = .ok (.iload_n 1, 1) := by decide +kernel
theorem dX12_goesOut_80 : decode cX12_goesOut 80 = .ok (.bipush 18, 2) := by decide +kernel
theorem dX12_goesOut_82 : decode cX12_goesOut 82 = .ok (.iadd, 1) := by decide +kernel
theorem dX12_goesOut_83 : decode cX12_goesOut 83 = .ok (.dup2, 1) := by decide +kernel
theorem dX12_goesOut_84 : decode cX12_goesOut 84 = .ok (.iaload, 1) := by decide +kernel
theorem dX12_goesOut_85 : decode cX12_goesOut 85 = .ok (.iconst 1, 1) := by decide +kernel
theorem dX12_goesOut_86 : decode cX12_goesOut 86 = .ok (.isub, 1) := by decide +kernel
theorem dX12_goesOut_87 : decode cX12_goesOut 87 = .ok (.iastore, 1) := by decide +kernel
theorem dX12_goesOut_88 : decode cX12_goesOut 88 = .ok (.iconst 0, 1) := by decide +kernel
theorem dX12_goesOut_89 : decode cX12_goesOut 89 = .ok (.istore_n 3, 1) := by decide +kernel
theorem dX12_goesOut_90 : decode cX12_goesOut 90 = .ok (.iload_n 3, 1) := by decide +kernel
theorem dX12_goesOut_91 : decode cX12_goesOut 91 = .ok (.iconst 4, 1) := by decide +kernel
theorem dX12_goesOut_92 : decode cX12_goesOut 92 = .ok (.if_icmp .ge 32, 3) := by decide +kernel
theorem dX12_goesOut_95 : decode cX12_goesOut 95 = .ok (.aload_n 0, 1) := by decide +kernel
theorem dX12_goesOut_96 : decode cX12_goesOut 96 = .ok (.getfield 7, 3) := by decide +kernel
theorem dX12_goesOut_99 : decode cX12_goesOut 99 = .ok (.iload_n 1, 1) := by decide +kernel
theorem dX12_goesOut_100 : decode cX12_goesOut 100 = .ok (.bipush 100, 2) := by decide +kernel
theorem dX12_goesOut_102 : decode cX12_goesOut 102 = .ok (.aload_n 0, 1) := by decide +kernel
theorem dX12_goesOut_103 : decode cX12_goesOut 103 = .ok (.getfield 7, 3) := by decide +kernel
theorem dX12_goesOut_106 : decode cX12_goesOut 106 = .ok (.iload_n 1, 1) := by decide +kernel
theorem dX12_goesOut_107 : decode cX12_goesOut 107 = .ok (.bipush 18, 2) := by decide +kernel
theorem dX12_goesOut_109 : decode cX12_goesOut 109 = .ok (.iadd, 1) := by decide +kernel
theorem dX12_goesOut_110 : decode cX12_goesOut 110 = .ok (.iaload, 1) := by decide +kernel
theorem dX12_goesOut_111 : decode cX12_goesOut 111 = .ok (.invokestatic 92, 3) := by decide +kernel
theorem dX12_goesOut_114 : decode cX12_goesOut 114 = .ok (.iload_n 3, 1) := by decide +kernel
theorem dX12_goesOut_115 : decode cX12_goesOut 115 = .ok (.iadd, 1) := by decide +kernel
theorem dX12_goesOut_116 : decode cX12_goesOut 116 = .ok (.iconst 0, 1) := by decide +kernel
theorem dX12_goesOut_117 : decode cX12_goesOut 117 = .ok (.iastore, 1) := by decide +kernel
theorem dX12_goesOut_118 : decode cX12_goesOut 118 = .ok (.iinc 3 1, 3) := by decide +kernel
theorem dX12_goesOut_121 : decode cX12_goesOut 121 = .ok (.goto (-31), 3) := by decide +kernel
theorem dX12_goesOut_124 : decode cX12_goesOut 124 = .ok (.return_, 1) := by decide +kernel
theorem dX12_settle_0 : decode cX12_settle 0 = .ok (.iconst 0, 1) := by decide +kernel
theorem dX12_settle_1 : decode cX12_settle 1 = .ok (.istore_n 1, 1) := by decide +kernel
theorem dX12_settle_2 : decode cX12_settle 2 = .ok (.iconst 0, 1) := by decide +kernel
theorem dX12_settle_3 : decode cX12_settle 3 = .ok (.istore_n 2, 1) := by decide +kernel
theorem dX12_settle_4 : decode cX12_settle 4 = .ok (.iload_n 2, 1) := by decide +kernel
theorem dX12_settle_5 : decode cX12_settle 5 = .ok (.aload_n 0, 1) := by decide +kernel
theorem dX12_settle_6 : decode cX12_settle 6 = .ok (.getfield 7, 3) := by decide +kernel
theorem dX12_settle_9 : decode cX12_settle 9 = .ok (.bipush 18, 2) := by decide +kernel
theorem dX12_settle_11 : decode cX12_settle 11 = .ok (.iaload, 1) := by decide +kernel
theorem dX12_settle_12 : decode cX12_settle 12 = .ok (.if_icmp .ge 99, 3) := by decide +kernel
theorem dX12_settle_15 : decode cX12_settle 15 = .ok (.iconst 0, 1) := by decide +kernel
theorem dX12_settle_16 : decode cX12_settle 16 = .ok (.bipush 100, 2) := by decide +kernel
theorem dX12_settle_18 : decode cX12_settle 18 = .ok (.iload_n 2, 1) := by decide +kernel
theorem dX12_settle_19 : decode cX12_settle 19 = .ok (.invokestatic 92, 3) := by decide +kernel
theorem dX12_settle_22 : decode cX12_settle 22 = .ok (.istore_n 3, 1) := by decide +kernel
theorem dX12_settle_23 : decode cX12_settle 23 = .ok (.aload_n 0, 1) := by decide +kernel
theorem dX12_settle_24 : decode cX12_settle 24 = .ok (.iconst 0, 1) := by decide +kernel
theorem dX12_settle_25 : decode cX12_settle 25 = .ok (.aload_n 0, 1) := by decide +kernel
theorem dX12_settle_26 : decode cX12_settle 26 = .ok (.iload_n 3, 1) := by decide +kernel
theorem dX12_settle_27 : decode cX12_settle 27 = .ok (.invokevirtual 103, 3) := by decide +kernel
theorem dX12_settle_30 : decode cX12_settle 30 = .ok (.invokevirtual 125, 3) := by decide +kernel
theorem dX12_settle_33 : decode cX12_settle 33 = .ok (.istore 4, 2) := by decide +kernel
theorem dX12_settle_35 : decode cX12_settle 35 = .ok (.iload 4, 2) := by decide +kernel
theorem dX12_settle_37 : decode cX12_settle 37 = .ok (.ifCond .ge 16, 3) := by decide +kernel
theorem dX12_settle_40 : decode cX12_settle 40 = .ok (.aload_n 0, 1) := by decide +kernel
theorem dX12_settle_41 : decode cX12_settle 41 = .ok (.iconst 0, 1) := by decide +kernel
theorem dX12_settle_42 : decode cX12_settle 42 = .ok (.aload_n 0, 1) := by decide +kernel
theorem dX12_settle_43 : decode cX12_settle 43 = .ok (.iload_n 3, 1) := by decide +kernel
theorem dX12_settle_44 : decode cX12_settle 44 = .ok (.invokevirtual 103, 3) := by decide +kernel
theorem dX12_settle_47 : decode cX12_settle 47 = .ok (.invokevirtual 132, 3) := by decide +kernel
theorem dX12_settle_50 : decode cX12_settle 50 = .ok (.goto 4, 3) := by decide +kernel
theorem dX12_settle_53 : decode cX12_settle 53 = .ok (.iconst (-1), 1) := by decide +kernel
theorem dX12_settle_54 : decode cX12_settle 54 = .ok (.istore 5, 2) := by decide +kernel
theorem dX12_settle_56 : decode cX12_settle 56 = .ok (.iload 5, 2) := by decide +kernel
theorem dX12_settle_58 : decode cX12_settle 58 = .ok (.ifCond .le 23, 3) := by decide +kernel
theorem dX12_settle_61 : decode cX12_settle 61 = .ok (.iload 5, 2) := by decide +kernel
theorem dX12_settle_63 : decode cX12_settle 63 = .ok (.aload_n 0, 1) := by decide +kernel
theorem dX12_settle_64 : decode cX12_settle 64 = .ok (.getfield 7, 3) := by decide +kernel
theorem dX12_settle_67 : decode cX12_settle 67 = .ok (.iconst 3, 1) := by decide +kernel
theorem dX12_settle_68 : decode cX12_settle 68 = .ok (.iaload, 1) := by decide +kernel
theorem dX12_settle_69 : decode cX12_settle 69 = .ok (.if_icmp .gt 12, 3) := by decide +kernel
theorem dX12_settle_72 : decode cX12_settle 72 = .ok (.aload_n 0, 1) := by decide +kernel
theorem dX12_settle_73 : decode cX12_settle 73 = .ok (.iconst 0, 1) := by decide +kernel
theorem dX12_settle_74 : decode cX12_settle 74 = .ok (.iload 5, 2) := by decide +kernel
theorem dX12_settle_76 : decode cX12_settle 76 = .ok (.invokevirtual 135, 3) := by decide +kernel
theorem dX12_settle_79 : decode cX12_settle 79 = .ok (.istore 4, 2) := by decide +kernel
theorem dX12_settle_81 : decode cX12_settle 81 = .ok (.iload 4, 2) := by decide +kernel
theorem dX12_settle_83 : decode cX12_settle 83 = .ok (.ifCond .ge 9, 3) := by decide +kernel
theorem dX12_settle_86 : decode cX12_settle 86 = .ok (.iinc 2 1, 3) := by decide +kernel
theorem dX12_settle_89 : decode cX12_settle 89 = .ok (.goto (-85), 3) := by decide +kernel
theorem dX12_settle_92 : decode cX12_settle 92 = .ok (.aload_n 0, 1) := by decide +kernel
theorem dX12_settle_93 : decode cX12_settle 93 = .ok (.iload_n 3, 1) := by decide +kernel
theorem dX12_settle_94 : decode cX12_settle 94 = .ok (.iload 4, 2) := by decide +kernel
theorem dX12_settle_96 : decode cX12_settle 96 = .ok (.invokevirtual 116, 3) := by decide +kernel
theorem dX12_settle_99 : decode cX12_settle 99 = .ok (.aload_n 0, 1) := by decide +kernel
theorem dX12_settle_100 : decode cX12_settle 100 = .ok (.iconst 0, 1) := by decide +kernel
theorem dX12_settle_101 : decode cX12_settle 101 = .ok (.iload_n 3, 1) := by decide +kernel
theorem dX12_settle_102 : decode cX12_settle 102 = .ok (.invokevirtual 176, 3) := by decide +kernel
theorem dX12_settle_105 : decode cX12_settle 105 = .ok (.iinc 1 1, 3) := by decide +kernel
theorem dX12_settle_108 : decode cX12_settle 108 = .ok (.goto (-104), 3) := by decide +kernel
theorem dX12_settle_111 : decode cX12_settle 111 = .ok (.iload_n 1, 1) := by decide +kernel
theorem dX12_settle_112 : decode cX12_settle 112 = .ok (.ireturn, 1) := by decide +kernel
theorem dX12_below_0 : decode cX12_below 0 = .ok (.aload_n 0, 1) := by decide +kernel
theorem dX12_below_1 : decode cX12_below 1 = .ok (.aload_n 0, 1) := by decide +kernel
theorem dX12_below_2 : decode cX12_below 2 = .ok (.getfield 179, 3) := by decide +kernel
theorem dX12_below_5 : decode cX12_below 5 = .ok (.ldc 87, 2) := by decide +kernel
theorem dX12_below_7 : decode cX12_below 7 = .ok (.imul, 1) := by decide +kernel
theorem dX12_below_8 : decode cX12_below 8 = .ok (.sipush 12345, 3) := by decide +kernel
theorem dX12_below_11 : decode cX12_below 11 = .ok (.iadd, 1) := by decide +kernel
theorem dX12_below_12 : decode cX12_below 12 = .ok (.putfield 179, 3) := by decide +kernel
theorem dX12_below_15 : decode cX12_below 15 = .ok (.aload_n 0, 1) := by decide +kernel
theorem dX12_below_16 : decode cX12_below 16 = .ok (.getfield 179, 3) := by decide +kernel
theorem dX12_below_19 : decode cX12_below 19 = .ok (.bipush 16, 2) := by decide +kernel
theorem dX12_below_21 : decode cX12_below 21 = .ok (.iushr, 1) := by decide +kernel
theorem dX12_below_22 : decode cX12_below 22 = .ok (.iload_n 1, 1) := by decide +kernel
theorem dX12_below_23 : decode cX12_below 23 = .ok (.irem, 1) := by decide +kernel
theorem dX12_below_24 : decode cX12_below 24 = .ok (.ireturn, 1) := by decide +kernel
theorem dX12_loads_0 : decode cX12_loads 0 = .ok (.aload_n 0, 1) := by decide +kernel
theorem dX12_loads_1 : decode cX12_loads 1 = .ok (.iload_n 2, 1) := by decide +kernel
theorem dX12_loads_2 : decode cX12_loads 2 = .ok (.putfield 179, 3) := by decide +kernel
theorem dX12_loads_5 : decode cX12_loads 5 = .ok (.iconst 0, 1) := by decide +kernel
theorem dX12_loads_6 : decode cX12_loads 6 = .ok (.istore 4, 2) := by decide +kernel
theorem dX12_loads_8 : decode cX12_loads 8 = .ok (.iconst 0, 1) := by decide +kernel
theorem dX12_loads_9 : decode cX12_loads 9 = .ok (.istore 5, 2) := by decide +kernel
theorem dX12_loads_11 : decode cX12_loads 11 = .ok (.iload 5, 2) := by decide +kernel
theorem dX12_loads_13 : decode cX12_loads 13 = .ok (.iload_n 3, 1) := by decide +kernel
theorem dX12_loads_14 : decode cX12_loads 14 = .ok (.if_icmp .ge 77, 3) := by decide +kernel
theorem dX12_loads_17 : decode cX12_loads 17 = .ok (.aload_n 0, 1) := by decide +kernel
theorem dX12_loads_18 : decode cX12_loads 18 = .ok (.iconst 4, 1) := by decide +kernel
theorem dX12_loads_19 : decode cX12_loads 19 = .ok (.invokevirtual 182, 3) := by decide +kernel
theorem dX12_loads_22 : decode cX12_loads 22 = .ok (.istore 6, 2) := by decide +kernel
theorem dX12_loads_24 : decode cX12_loads 24 = .ok (.aload_n 0, 1) := by decide +kernel
theorem dX12_loads_25 : decode cX12_loads 25 = .ok (.sipush 1000, 3) := by decide +kernel
theorem dX12_loads_28 : decode cX12_loads 28 = .ok (.invokevirtual 182, 3) := by decide +kernel
theorem dX12_loads_31 : decode cX12_loads 31 = .ok (.istore 7, 2) := by decide +kernel
theorem dX12_loads_33 : decode cX12_loads 33 = .ok (.iload 6, 2) := by decide +kernel
theorem dX12_loads_35 : decode cX12_loads 35 = .ok (.ifCond .ne 13, 3) := by decide +kernel
theorem dX12_loads_38 : decode cX12_loads 38 = .ok (.aload_n 0, 1) := by decide +kernel
theorem dX12_loads_39 : decode cX12_loads 39 = .ok (.iload_n 1, 1) := by decide +kernel
theorem dX12_loads_40 : decode cX12_loads 40 = .ok (.iload 7, 2) := by decide +kernel
theorem dX12_loads_42 : decode cX12_loads 42 = .ok (.invokevirtual 185, 3) := by decide +kernel
theorem dX12_loads_45 : decode cX12_loads 45 = .ok (.goto 17, 3) := by decide +kernel
theorem dX12_loads_48 : decode cX12_loads 48 = .ok (.aload_n 0, 1) := by decide +kernel
theorem dX12_loads_49 : decode cX12_loads 49 = .ok (.iload_n 1, 1) := by decide +kernel
theorem dX12_loads_50 : decode cX12_loads 50 = .ok (.iload 7, 2) := by decide +kernel
theorem dX12_loads_52 : decode cX12_loads 52 = .ok (.aload_n 0, 1) := by decide +kernel
theorem dX12_loads_53 : decode cX12_loads 53 = .ok (.sipush 1000, 3) := by decide +kernel
theorem dX12_loads_56 : decode cX12_loads 56 = .ok (.invokevirtual 182, 3) := by decide +kernel
theorem dX12_loads_59 : decode cX12_loads 59 = .ok (.invokevirtual 188, 3) := by decide +kernel
theorem dX12_loads_62 : decode cX12_loads 62 = .ok (.istore 8, 2) := by decide +kernel
theorem dX12_loads_64 : decode cX12_loads 64 = .ok (.iload 4, 2) := by decide +kernel
theorem dX12_loads_66 : decode cX12_loads 66 = .ok (.iload 6, 2) := by decide +kernel
theorem dX12_loads_68 : decode cX12_loads 68 = .ok (.ifCond .le 13, 3) := by decide +kernel
theorem dX12_loads_71 : decode cX12_loads 71 = .ok (.iload 8, 2) := by decide +kernel
theorem dX12_loads_73 : decode cX12_loads 73 = .ok (.iconst (-1), 1) := by decide +kernel
theorem dX12_loads_74 : decode cX12_loads 74 = .ok (.if_icmp .ne 7, 3) := by decide +kernel
theorem dX12_loads_77 : decode cX12_loads 77 = .ok (.iconst 1, 1) := by decide +kernel
theorem dX12_loads_78 : decode cX12_loads 78 = .ok (.goto 4, 3) := by decide +kernel
theorem dX12_loads_81 : decode cX12_loads 81 = .ok (.iconst 0, 1) := by decide +kernel
theorem dX12_loads_82 : decode cX12_loads 82 = .ok (.iadd, 1) := by decide +kernel
theorem dX12_loads_83 : decode cX12_loads 83 = .ok (.istore 4, 2) := by decide +kernel
theorem dX12_loads_85 : decode cX12_loads 85 = .ok (.iinc 5 1, 3) := by decide +kernel
theorem dX12_loads_88 : decode cX12_loads 88 = .ok (.goto (-77), 3) := by decide +kernel
theorem dX12_loads_91 : decode cX12_loads 91 = .ok (.iload 4, 2) := by decide +kernel
theorem dX12_loads_93 : decode cX12_loads 93 = .ok (.ireturn, 1) := by decide +kernel
theorem dX12_meets_0 : decode cX12_meets 0 = .ok (.aload_n 0, 1) := by decide +kernel
theorem dX12_meets_1 : decode cX12_meets 1 = .ok (.getfield 39, 3) := by decide +kernel
theorem dX12_meets_4 : decode cX12_meets 4 = .ok (.iconst 4, 1) := by decide +kernel
theorem dX12_meets_5 : decode cX12_meets 5 = .ok (.iload_n 2, 1) := by decide +kernel
theorem dX12_meets_6 : decode cX12_meets 6 = .ok (.imul, 1) := by decide +kernel
theorem dX12_meets_7 : decode cX12_meets 7 = .ok (.iaload, 1) := by decide +kernel
theorem dX12_meets_8 : decode cX12_meets 8 = .ok (.iconst 1, 1) := by decide +kernel
theorem dX12_meets_9 : decode cX12_meets 9 = .ok (.isub, 1) := by decide +kernel
theorem dX12_meets_10 : decode cX12_meets 10 = .ok (.istore 4, 2) := by decide +kernel
theorem dX12_meets_12 : decode cX12_meets 12 = .ok (.aload_n 0, 1) := by decide +kernel
theorem dX12_meets_13 : decode cX12_meets 13 = .ok (.iload_n 1, 1) := by decide +kernel
theorem dX12_meets_14 : decode cX12_meets 14 = .ok (.iload 4, 2) := by decide +kernel
theorem dX12_meets_16 : decode cX12_meets 16 = .ok (.iconst 0, 1) := by decide +kernel
theorem dX12_meets_17 : decode cX12_meets 17 = .ok (.invokevirtual 88, 3) := by decide +kernel
theorem dX12_meets_20 : decode cX12_meets 20 = .ok (.iload_n 3, 1) := by decide +kernel
theorem dX12_meets_21 : decode cX12_meets 21 = .ok (.if_icmp .eq 15, 3) := by decide +kernel
theorem dX12_meets_24 : decode cX12_meets 24 = .ok (.aload_n 0, 1) := by decide +kernel
theorem dX12_meets_25 : decode cX12_meets 25 = .ok (.iload_n 1, 1) := by decide +kernel
theorem dX12_meets_26 : decode cX12_meets 26 = .ok (.iload 4, 2) := by decide +kernel
theorem dX12_meets_28 : decode cX12_meets 28 = .ok (.iconst 1, 1) := by decide +kernel
theorem dX12_meets_29 : decode cX12_meets 29 = .ok (.invokevirtual 88, 3) := by decide +kernel
theorem dX12_meets_32 : decode cX12_meets 32 = .ok (.iload_n 3, 1) := by decide +kernel
theorem dX12_meets_33 : decode cX12_meets 33 = .ok (.if_icmp .ne 7, 3) := by decide +kernel
theorem dX12_meets_36 : decode cX12_meets 36 = .ok (.iconst 1, 1) := by decide +kernel
theorem dX12_meets_37 : decode cX12_meets 37 = .ok (.goto 4, 3) := by decide +kernel
theorem dX12_meets_40 : decode cX12_meets 40 = .ok (.iconst 0, 1) := by decide +kernel
theorem dX12_meets_41 : decode cX12_meets 41 = .ok (.ireturn, 1) := by decide +kernel
theorem dX12_leftIn_0 : decode cX12_leftIn 0 = .ok (.iconst 0, 1) := by decide +kernel
theorem dX12_leftIn_1 : decode cX12_leftIn 1 = .ok (.istore_n 3, 1) := by decide +kernel
theorem dX12_leftIn_2 : decode cX12_leftIn 2 = .ok (.iconst 0, 1) := by decide +kernel
theorem dX12_leftIn_3 : decode cX12_leftIn 3 = .ok (.istore 4, 2) := by decide +kernel
theorem dX12_leftIn_5 : decode cX12_leftIn 5 = .ok (.iload 4, 2) := by decide +kernel
theorem dX12_leftIn_7 : decode cX12_leftIn 7 = .ok (.aload_n 0, 1) := by decide +kernel
theorem dX12_leftIn_8 : decode cX12_leftIn 8 = .ok (.getfield 142, 3) := by decide +kernel
theorem dX12_leftIn_11 : decode cX12_leftIn 11 = .ok (.if_icmp .ge 38, 3) := by decide +kernel
theorem dX12_leftIn_14 : decode cX12_leftIn 14 = .ok (.iload_n 3, 1) := by decide +kernel
theorem dX12_leftIn_15 : decode cX12_leftIn 15 = .ok (.aload_n 0, 1) := by decide +kernel
theorem dX12_leftIn_16 : decode cX12_leftIn 16 = .ok (.getfield 48, 3) := by decide +kernel
theorem dX12_leftIn_19 : decode cX12_leftIn 19 = .ok (.iload 4, 2) := by decide +kernel
theorem dX12_leftIn_21 : decode cX12_leftIn 21 = .ok (.baload, 1) := by decide +kernel
theorem dX12_leftIn_22 : decode cX12_leftIn 22 = .ok (.ifCond .eq 18, 3) := by decide +kernel
theorem dX12_leftIn_25 : decode cX12_leftIn 25 = .ok (.aload_n 0, 1) := by decide +kernel
theorem dX12_leftIn_26 : decode cX12_leftIn 26 = .ok (.iload_n 1, 1) := by decide +kernel
theorem dX12_leftIn_27 : decode cX12_leftIn 27 = .ok (.iload 4, 2) := by decide +kernel
theorem dX12_leftIn_29 : decode cX12_leftIn 29 = .ok (.iload_n 2, 1) := by decide +kernel
theorem dX12_leftIn_30 : decode cX12_leftIn 30 = .ok (.invokevirtual 191, 3) := by decide +kernel
theorem dX12_leftIn_33 : decode cX12_leftIn 33 = .ok (.ifCond .eq 7, 3) := by decide +kernel
theorem dX12_leftIn_36 : decode cX12_leftIn 36 = .ok (.iconst 1, 1) := by decide +kernel
theorem dX12_leftIn_37 : decode cX12_leftIn 37 = .ok (.goto 4, 3) := by decide +kernel
theorem dX12_leftIn_40 : decode cX12_leftIn 40 = .ok (.iconst 0, 1) := by decide +kernel
theorem dX12_leftIn_41 : decode cX12_leftIn 41 = .ok (.iadd, 1) := by decide +kernel
theorem dX12_leftIn_42 : decode cX12_leftIn 42 = .ok (.istore_n 3, 1) := by decide +kernel
theorem dX12_leftIn_43 : decode cX12_leftIn 43 = .ok (.iinc 4 1, 3) := by decide +kernel
theorem dX12_leftIn_46 : decode cX12_leftIn 46 = .ok (.goto (-41), 3) := by decide +kernel
theorem dX12_leftIn_49 : decode cX12_leftIn 49 = .ok (.iload_n 3, 1) := by decide +kernel
theorem dX12_leftIn_50 : decode cX12_leftIn 50 = .ok (.ireturn, 1) := by decide +kernel
theorem dX12_leastLeft_0 : decode cX12_leastLeft 0 = .ok (.iconst (-1), 1) := by decide +kernel
theorem dX12_leastLeft_1 : decode cX12_leastLeft 1 = .ok (.istore_n 3, 1) := by decide +kernel
theorem dX12_leastLeft_2 : decode cX12_leastLeft 2 = .ok (.iconst 0, 1) := by decide +kernel
theorem dX12_leastLeft_3 : decode cX12_leastLeft 3 = .ok (.istore 4, 2) := by decide +kernel
theorem dX12_leastLeft_5 : decode cX12_leastLeft 5 = .ok (.iload 4, 2) := by decide +kernel
theorem dX12_leastLeft_7 : decode cX12_leastLeft 7 = .ok (.aload_n 0, 1) := by decide +kernel
theorem dX12_leastLeft_8 : decode cX12_leastLeft 8 = .ok (.getfield 142, 3) := by decide +kernel
theorem dX12_leastLeft_11 : decode cX12_leastLeft 11 = .ok (.if_icmp .ge 68, 3) := by decide +kernel
theorem dX12_leastLeft_14 : decode cX12_leastLeft 14 = .ok (.aload_n 0, 1) := by decide +kernel
theorem dX12_leastLeft_15 : decode cX12_leastLeft 15 = .ok (.getfield 48, 3) := by decide +kernel
theorem dX12_leastLeft_18 : decode cX12_leastLeft 18 = .ok (.iload 4, 2) := by decide +kernel
theorem dX12_leastLeft_20 : decode cX12_leastLeft 20 = .ok (.baload, 1) := by decide +kernel
theorem dX12_leastLeft_21 : decode cX12_leastLeft 21 = .ok (.ifCond .eq 52, 3) := by decide +kernel
theorem dX12_leastLeft_24 : decode cX12_leastLeft 24 = .ok (.iload_n 2, 1) := by decide +kernel
theorem dX12_leastLeft_25 : decode cX12_leastLeft 25 = .ok (.ifCond .lt 17, 3) := by decide +kernel
theorem dX12_leastLeft_28 : decode cX12_leastLeft 28 = .ok (.aload_n 0, 1) := by decide +kernel
theorem dX12_leastLeft_29 : decode cX12_leastLeft 29 = .ok (.iload_n 1, 1) := by decide +kernel
theorem dX12_leastLeft_30 : decode cX12_leastLeft 30 = .ok (.iload 4, 2) := by decide +kernel
theorem dX12_leastLeft_32 : decode cX12_leastLeft 32 = .ok (.iload_n 2, 1) := by decide +kernel
theorem dX12_leastLeft_33 : decode cX12_leastLeft 33 = .ok (.invokevirtual 191, 3) := by decide +kernel
theorem dX12_leastLeft_36 : decode cX12_leastLeft 36 = .ok (.ifCond .ne 6, 3) := by decide +kernel
theorem dX12_leastLeft_39 : decode cX12_leastLeft 39 = .ok (.goto 34, 3) := by decide +kernel
theorem dX12_leastLeft_42 : decode cX12_leastLeft 42 = .ok (.iload_n 3, 1) := by decide +kernel
theorem dX12_leastLeft_43 : decode cX12_leastLeft 43 = .ok (.ifCond .lt 23, 3) := by decide +kernel
theorem dX12_leastLeft_46 : decode cX12_leastLeft 46 = .ok (.aload_n 0, 1) := by decide +kernel
theorem dX12_leastLeft_47 : decode cX12_leastLeft 47 = .ok (.getfield 39, 3) := by decide +kernel
theorem dX12_leastLeft_50 : decode cX12_leastLeft 50 = .ok (.iconst 4, 1) := by decide +kernel
theorem dX12_leastLeft_51 : decode cX12_leastLeft 51 = .ok (.iload 4, 2) := by decide +kernel
theorem dX12_leastLeft_53 : decode cX12_leastLeft 53 = .ok (.imul, 1) := by decide +kernel
theorem dX12_leastLeft_54 : decode cX12_leastLeft 54 = .ok (.iaload, 1) := by decide +kernel
theorem dX12_leastLeft_55 : decode cX12_leastLeft 55 = .ok (.aload_n 0, 1) := by decide +kernel
theorem dX12_leastLeft_56 : decode cX12_leastLeft 56 = .ok (.getfield 39, 3) := by decide +kernel
theorem dX12_leastLeft_59 : decode cX12_leastLeft 59 = .ok (.iconst 4, 1) := by decide +kernel
theorem dX12_leastLeft_60 : decode cX12_leastLeft 60 = .ok (.iload_n 3, 1) := by decide +kernel
theorem dX12_leastLeft_61 : decode cX12_leastLeft 61 = .ok (.imul, 1) := by decide +kernel
theorem dX12_leastLeft_62 : decode cX12_leastLeft 62 = .ok (.iaload, 1) := by decide +kernel
theorem dX12_leastLeft_63 : decode cX12_leastLeft 63 = .ok (.if_icmp .ge 8, 3) := by decide +kernel
theorem dX12_leastLeft_66 : decode cX12_leastLeft 66 = .ok (.iload 4, 2) := by decide +kernel
theorem dX12_leastLeft_68 : decode cX12_leastLeft 68 = .ok (.goto 4, 3) := by decide +kernel
theorem dX12_leastLeft_71 : decode cX12_leastLeft 71 = .ok (.iload_n 3, 1) := by decide +kernel
theorem dX12_leastLeft_72 : decode cX12_leastLeft 72 = .ok (.istore_n 3, 1) := by decide +kernel
theorem dX12_leastLeft_73 : decode cX12_leastLeft 73 = .ok (.iinc 4 1, 3) := by decide +kernel
theorem dX12_leastLeft_76 : decode cX12_leastLeft 76 = .ok (.goto (-71), 3) := by decide +kernel
theorem dX12_leastLeft_79 : decode cX12_leastLeft 79 = .ok (.iload_n 3, 1) := by decide +kernel
theorem dX12_leastLeft_80 : decode cX12_leastLeft 80 = .ok (.ireturn, 1) := by decide +kernel
theorem dX12_peelable_0 : decode cX12_peelable 0 = .ok (.iconst 0, 1) := by decide +kernel
theorem dX12_peelable_1 : decode cX12_peelable 1 = .ok (.istore_n 2, 1) := by decide +kernel
theorem dX12_peelable_2 : decode cX12_peelable 2 = .ok (.iload_n 2, 1) := by decide +kernel
theorem dX12_peelable_3 : decode cX12_peelable 3 = .ok (.aload_n 0, 1) := by decide +kernel
theorem dX12_peelable_4 : decode cX12_peelable 4 = .ok (.getfield 7, 3) := by decide +kernel
theorem dX12_peelable_7 : decode cX12_peelable 7 = .ok (.iload_n 1, 1) := by decide +kernel
theorem dX12_peelable_8 : decode cX12_peelable 8 = .ok (.iconst 0, 1) := by decide +kernel
theorem dX12_peelable_9 : decode cX12_peelable 9 = .ok (.iadd, 1) := by decide +kernel
theorem dX12_peelable_10 : decode cX12_peelable 10 = .ok (.iaload, 1) := by decide +kernel
theorem dX12_peelable_11 : decode cX12_peelable 11 = .ok (.if_icmp .ge 32, 3) := by decide +kernel
theorem dX12_peelable_14 : decode cX12_peelable 14 = .ok (.aload_n 0, 1) := by decide +kernel
theorem dX12_peelable_15 : decode cX12_peelable 15 = .ok (.iload_n 1, 1) := by decide +kernel
theorem dX12_peelable_16 : decode cX12_peelable 16 = .ok (.iload_n 2, 1) := by decide +kernel
theorem dX12_peelable_17 : decode cX12_peelable 17 = .ok (.invokevirtual 194, 3) := by decide +kernel
theorem dX12_peelable_20 : decode cX12_peelable 20 = .ok (.iconst 1, 1) := by decide +kernel
theorem dX12_peelable_21 : decode cX12_peelable 21 = .ok (.aload_n 0, 1) := by decide +kernel
theorem dX12_peelable_22 : decode cX12_peelable 22 = .ok (.getfield 7, 3) := by decide +kernel
theorem dX12_peelable_25 : decode cX12_peelable 25 = .ok (.iload_n 1, 1) := by decide +kernel
theorem dX12_peelable_26 : decode cX12_peelable 26 = .ok (.iconst 1, 1) := by decide +kernel
theorem dX12_peelable_27 : decode cX12_peelable 27 = .ok (.iadd, 1) := by decide +kernel
theorem dX12_peelable_28 : decode cX12_peelable 28 = .ok (.iaload, 1) := by decide +kernel
theorem dX12_peelable_29 : decode cX12_peelable 29 = .ok (.invokestatic 79, 3) := by decide +kernel
theorem dX12_peelable_32 : decode cX12_peelable 32 = .ok (.ifCond .eq 5, 3) := by decide +kernel
theorem dX12_peelable_35 : decode cX12_peelable 35 = .ok (.iload_n 2, 1) := by decide +kernel
theorem dX12_peelable_36 : decode cX12_peelable 36 = .ok (.ireturn, 1) := by decide +kernel
theorem dX12_peelable_37 : decode cX12_peelable 37 = .ok (.iinc 2 1, 3) := by decide +kernel
theorem dX12_peelable_40 : decode cX12_peelable 40 = .ok (.goto (-38), 3) := by decide +kernel
theorem dX12_peelable_43 : decode cX12_peelable 43 = .ok (.iconst (-1), 1) := by decide +kernel
theorem dX12_peelable_44 : decode cX12_peelable 44 = .ok (.ireturn, 1) := by decide +kernel
theorem dX12_peelsAll_0 : decode cX12_peelsAll 0 = .ok (.aload_n 0, 1) := by decide +kernel
theorem dX12_peelsAll_1 : decode cX12_peelsAll 1 = .ok (.iload_n 1, 1) := by decide +kernel
theorem dX12_peelsAll_2 : decode cX12_peelsAll 2 = .ok (.invokevirtual 152, 3) := by decide +kernel
theorem dX12_peelsAll_5 : decode cX12_peelsAll 5 = .ok (.aload_n 0, 1) := by decide +kernel
theorem dX12_peelsAll_6 : decode cX12_peelsAll 6 = .ok (.iconst 0, 1) := by decide +kernel
theorem dX12_peelsAll_7 : decode cX12_peelsAll 7 = .ok (.putfield 197, 3) := by decide +kernel
theorem dX12_peelsAll_10 : decode cX12_peelsAll 10 = .ok (.iconst 0, 1) := by decide +kernel
theorem dX12_peelsAll_11 : decode cX12_peelsAll 11 = .ok (.istore_n 2, 1) := by decide +kernel
theorem dX12_peelsAll_12 : decode cX12_peelsAll 12 = .ok (.iload_n 2, 1) := by decide +kernel
theorem dX12_peelsAll_13 : decode cX12_peelsAll 13 = .ok (.aload_n 0, 1) := by decide +kernel
theorem dX12_peelsAll_14 : decode cX12_peelsAll 14 = .ok (.getfield 142, 3) := by decide +kernel
theorem dX12_peelsAll_17 : decode cX12_peelsAll 17 = .ok (.if_icmp .ge 16, 3) := by decide +kernel
theorem dX12_peelsAll_20 : decode cX12_peelsAll 20 = .ok (.aload_n 0, 1) := by decide +kernel
theorem dX12_peelsAll_21 : decode cX12_peelsAll 21 = .ok (.getfield 48, 3) := by decide +kernel
theorem dX12_peelsAll_24 : decode cX12_peelsAll 24 = .ok (.iload_n 2, 1) := by decide +kernel
theorem dX12_peelsAll_25 : decode cX12_peelsAll 25 = .ok (.iconst 1, 1) := by decide +kernel
theorem dX12_peelsAll_26 : decode cX12_peelsAll 26 = .ok (.bastore, 1) := by decide +kernel
theorem dX12_peelsAll_27 : decode cX12_peelsAll 27 = .ok (.iinc 2 1, 3) := by decide +kernel
theorem dX12_peelsAll_30 : decode cX12_peelsAll 30 = .ok (.goto (-18), 3) := by decide +kernel
theorem dX12_peelsAll_33 : decode cX12_peelsAll 33 = .ok (.aload_n 0, 1) := by decide +kernel
theorem dX12_peelsAll_34 : decode cX12_peelsAll 34 = .ok (.iload_n 1, 1) := by decide +kernel
theorem dX12_peelsAll_35 : decode cX12_peelsAll 35 = .ok (.invokevirtual 200, 3) := by decide +kernel
theorem dX12_peelsAll_38 : decode cX12_peelsAll 38 = .ok (.istore_n 2, 1) := by decide +kernel
theorem dX12_peelsAll_39 : decode cX12_peelsAll 39 = .ok (.iload_n 2, 1) := by decide +kernel
theorem dX12_peelsAll_40 : decode cX12_peelsAll 40 = .ok (.ifCond .lt 70, 3) := by decide +kernel
theorem dX12_peelsAll_43 : decode cX12_peelsAll 43 = .ok (.aload_n 0, 1) := by decide +kernel
theorem dX12_peelsAll_44 : decode cX12_peelsAll 44 = .ok (.iload_n 1, 1) := by decide +kernel
theorem dX12_peelsAll_45 : decode cX12_peelsAll 45 = .ok (.iload_n 2, 1) := by decide +kernel
theorem dX12_peelsAll_46 : decode cX12_peelsAll 46 = .ok (.invokevirtual 203, 3) := by decide +kernel
theorem dX12_peelsAll_49 : decode cX12_peelsAll 49 = .ok (.istore_n 3, 1) := by decide +kernel
theorem dX12_peelsAll_50 : decode cX12_peelsAll 50 = .ok (.iload_n 3, 1) := by decide +kernel
theorem dX12_peelsAll_51 : decode cX12_peelsAll 51 = .ok (.ifCond .lt 50, 3) := by decide +kernel
theorem dX12_peelsAll_54 : decode cX12_peelsAll 54 = .ok (.aload_n 0, 1) := by decide +kernel
theorem dX12_peelsAll_55 : decode cX12_peelsAll 55 = .ok (.getfield 48, 3) := by decide +kernel
theorem dX12_peelsAll_58 : decode cX12_peelsAll 58 = .ok (.iload_n 3, 1) := by decide +kernel
theorem dX12_peelsAll_59 : decode cX12_peelsAll 59 = .ok (.iconst 0, 1) := by decide +kernel
theorem dX12_peelsAll_60 : decode cX12_peelsAll 60 = .ok (.bastore, 1) := by decide +kernel
theorem dX12_peelsAll_61 : decode cX12_peelsAll 61 = .ok (.aload_n 0, 1) := by decide +kernel
theorem dX12_peelsAll_62 : decode cX12_peelsAll 62 = .ok (.getfield 42, 3) := by decide +kernel
theorem dX12_peelsAll_65 : decode cX12_peelsAll 65 = .ok (.aload_n 0, 1) := by decide +kernel
theorem dX12_peelsAll_66 : decode cX12_peelsAll 66 = .ok (.getfield 197, 3) := by decide +kernel
theorem dX12_peelsAll_69 : decode cX12_peelsAll 69 = .ok (.iload_n 3, 1) := by decide +kernel
theorem dX12_peelsAll_70 : decode cX12_peelsAll 70 = .ok (.iastore, 1) := by decide +kernel
theorem dX12_peelsAll_71 : decode cX12_peelsAll 71 = .ok (.aload_n 0, 1) := by decide +kernel
theorem dX12_peelsAll_72 : decode cX12_peelsAll 72 = .ok (.getfield 45, 3) := by decide +kernel
theorem dX12_peelsAll_75 : decode cX12_peelsAll 75 = .ok (.aload_n 0, 1) := by decide +kernel
theorem dX12_peelsAll_76 : decode cX12_peelsAll 76 = .ok (.getfield 197, 3) := by decide +kernel
theorem dX12_peelsAll_79 : decode cX12_peelsAll 79 = .ok (.iload_n 2, 1) := by decide +kernel
theorem dX12_peelsAll_80 : decode cX12_peelsAll 80 = .ok (.iastore, 1) := by decide +kernel
theorem dX12_peelsAll_81 : decode cX12_peelsAll 81 = .ok (.aload_n 0, 1) := by decide +kernel
theorem dX12_peelsAll_82 : decode cX12_peelsAll 82 = .ok (.dup, 1) := by decide +kernel
theorem dX12_peelsAll_83 : decode cX12_peelsAll 83 = .ok (.getfield 197, 3) := by decide +kernel
theorem dX12_peelsAll_86 : decode cX12_peelsAll 86 = .ok (.iconst 1, 1) := by decide +kernel
theorem dX12_peelsAll_87 : decode cX12_peelsAll 87 = .ok (.iadd, 1) := by decide +kernel
theorem dX12_peelsAll_88 : decode cX12_peelsAll 88 = .ok (.putfield 197, 3) := by decide +kernel
theorem dX12_peelsAll_91 : decode cX12_peelsAll 91 = .ok (.aload_n 0, 1) := by decide +kernel
theorem dX12_peelsAll_92 : decode cX12_peelsAll 92 = .ok (.iload_n 1, 1) := by decide +kernel
theorem dX12_peelsAll_93 : decode cX12_peelsAll 93 = .ok (.iload_n 2, 1) := by decide +kernel
theorem dX12_peelsAll_94 : decode cX12_peelsAll 94 = .ok (.invokevirtual 203, 3) := by decide +kernel
theorem dX12_peelsAll_97 : decode cX12_peelsAll 97 = .ok (.istore_n 3, 1) := by decide +kernel
theorem dX12_peelsAll_98 : decode cX12_peelsAll 98 = .ok (.goto (-48), 3) := by decide +kernel
theorem dX12_peelsAll_101 : decode cX12_peelsAll 101 = .ok (.aload_n 0, 1) := by decide +kernel
theorem dX12_peelsAll_102 : decode cX12_peelsAll 102 = .ok (.iload_n 1, 1) := by decide +kernel
theorem dX12_peelsAll_103 : decode cX12_peelsAll 103 = .ok (.invokevirtual 200, 3) := by decide +kernel
theorem dX12_peelsAll_106 : decode cX12_peelsAll 106 = .ok (.istore_n 2, 1) := by decide +kernel
theorem dX12_peelsAll_107 : decode cX12_peelsAll 107 = .ok (.goto (-68), 3) := by decide +kernel
theorem dX12_peelsAll_110 : decode cX12_peelsAll 110 = .ok (.return_, 1) := by decide +kernel
theorem dX12_batch_0 : decode cX12_batch 0 = .ok (.aload_n 0, 1) := by decide +kernel
theorem dX12_batch_1 : decode cX12_batch 1 = .ok (.iconst 0, 1) := by decide +kernel
theorem dX12_batch_2 : decode cX12_batch 2 = .ok (.sipush 584, 3) := by decide +kernel
theorem dX12_batch_5 : decode cX12_batch 5 = .ok (.invokevirtual 83, 3) := by decide +kernel
theorem dX12_batch_8 : decode cX12_batch 8 = .ok (.aload_n 0, 1) := by decide +kernel
theorem dX12_batch_9 : decode cX12_batch 9 = .ok (.iconst 0, 1) := by decide +kernel
theorem dX12_batch_10 : decode cX12_batch 10 = .ok (.invokevirtual 206, 3) := by decide +kernel
theorem dX12_batch_13 : decode cX12_batch 13 = .ok (.aload_n 0, 1) := by decide +kernel
theorem dX12_batch_14 : decode cX12_batch 14 = .ok (.iconst 0, 1) := by decide +kernel
theorem dX12_batch_15 : decode cX12_batch 15 = .ok (.invokevirtual 159, 3) := by decide +kernel
theorem dX12_batch_18 : decode cX12_batch 18 = .ok (.iconst 0, 1) := by decide +kernel
theorem dX12_batch_19 : decode cX12_batch 19 = .ok (.istore_n 1, 1) := by decide +kernel
theorem dX12_batch_20 : decode cX12_batch 20 = .ok (.iload_n 1, 1) := by decide +kernel
theorem dX12_batch_21 : decode cX12_batch 21 = .ok (.aload_n 0, 1) := by decide +kernel
theorem dX12_batch_22 : decode cX12_batch 22 = .ok (.getfield 197, 3) := by decide +kernel
theorem dX12_batch_25 : decode cX12_batch 25 = .ok (.if_icmp .ge 75, 3) := by decide +kernel
theorem dX12_batch_28 : decode cX12_batch 28 = .ok (.iconst 4, 1) := by decide +kernel
theorem dX12_batch_29 : decode cX12_batch 29 = .ok (.aload_n 0, 1) := by decide +kernel
theorem dX12_batch_30 : decode cX12_batch 30 = .ok (.getfield 42, 3) := by decide +kernel
theorem dX12_batch_33 : decode cX12_batch 33 = .ok (.iload_n 1, 1) := by decide +kernel
theorem dX12_batch_34 : decode cX12_batch 34 = .ok (.iaload, 1) := by decide +kernel
theorem dX12_batch_35 : decode cX12_batch 35 = .ok (.imul, 1) := by decide +kernel
theorem dX12_batch_36 : decode cX12_batch 36 = .ok (.istore_n 2, 1) := by decide +kernel
theorem dX12_batch_37 : decode cX12_batch 37 = .ok (.aload_n 0, 1) := by decide +kernel
theorem dX12_batch_38 : decode cX12_batch 38 = .ok (.iconst 0, 1) := by decide +kernel
theorem dX12_batch_39 : decode cX12_batch 39 = .ok (.aload_n 0, 1) := by decide +kernel
theorem dX12_batch_40 : decode cX12_batch 40 = .ok (.getfield 45, 3) := by decide +kernel
theorem dX12_batch_43 : decode cX12_batch 43 = .ok (.iload_n 1, 1) := by decide +kernel
theorem dX12_batch_44 : decode cX12_batch 44 = .ok (.iaload, 1) := by decide +kernel
theorem dX12_batch_45 : decode cX12_batch 45 = .ok (.aload_n 0, 1) := by decide +kernel
theorem dX12_batch_46 : decode cX12_batch 46 = .ok (.iconst 0, 1) := by decide +kernel
theorem dX12_batch_47 : decode cX12_batch 47 = .ok (.aload_n 0, 1) := by decide +kernel
theorem dX12_batch_48 : decode cX12_batch 48 = .ok (.getfield 45, 3) := by decide +kernel
theorem dX12_batch_51 : decode cX12_batch 51 = .ok (.iload_n 1, 1) := by decide +kernel
theorem dX12_batch_52 : decode cX12_batch 52 = .ok (.iaload, 1) := by decide +kernel
theorem dX12_batch_53 : decode cX12_batch 53 = .ok (.invokevirtual 99, 3) := by decide +kernel
theorem dX12_batch_56 : decode cX12_batch 56 = .ok (.invokestatic 92, 3) := by decide +kernel
theorem dX12_batch_59 : decode cX12_batch 59 = .ok (.aload_n 0, 1) := by decide +kernel
theorem dX12_batch_60 : decode cX12_batch 60 = .ok (.getfield 39, 3) := by decide +kernel
theorem dX12_batch_63 : decode cX12_batch 63 = .ok (.iload_n 2, 1) := by decide +kernel
theorem dX12_batch_64 : decode cX12_batch 64 = .ok (.iaload, 1) := by decide +kernel
theorem dX12_batch_65 : decode cX12_batch 65 = .ok (.iconst 1, 1) := by decide +kernel
theorem dX12_batch_66 : decode cX12_batch 66 = .ok (.isub, 1) := by decide +kernel
theorem dX12_batch_67 : decode cX12_batch 67 = .ok (.aload_n 0, 1) := by decide +kernel
theorem dX12_batch_68 : decode cX12_batch 68 = .ok (.getfield 39, 3) := by decide +kernel
theorem dX12_batch_71 : decode cX12_batch 71 = .ok (.iload_n 2, 1) := by decide +kernel
theorem dX12_batch_72 : decode cX12_batch 72 = .ok (.iconst 1, 1) := by decide +kernel
theorem dX12_batch_73 : decode cX12_batch 73 = .ok (.iadd, 1) := by decide +kernel
theorem dX12_batch_74 : decode cX12_batch 74 = .ok (.iaload, 1) := by decide +kernel
theorem dX12_batch_75 : decode cX12_batch 75 = .ok (.aload_n 0, 1) := by decide +kernel
theorem dX12_batch_76 : decode cX12_batch 76 = .ok (.getfield 39, 3) := by decide +kernel
theorem dX12_batch_79 : decode cX12_batch 79 = .ok (.iload_n 2, 1) := by decide +kernel
theorem dX12_batch_80 : decode cX12_batch 80 = .ok (.iconst 2, 1) := by decide +kernel
theorem dX12_batch_81 : decode cX12_batch 81 = .ok (.iadd, 1) := by decide +kernel
theorem dX12_batch_82 : decode cX12_batch 82 = .ok (.iaload, 1) := by decide +kernel
theorem dX12_batch_83 : decode cX12_batch 83 = .ok (.aload_n 0, 1) := by decide +kernel
theorem dX12_batch_84 : decode cX12_batch 84 = .ok (.getfield 39, 3) := by decide +kernel
theorem dX12_batch_87 : decode cX12_batch 87 = .ok (.iload_n 2, 1) := by decide +kernel
theorem dX12_batch_88 : decode cX12_batch 88 = .ok (.iconst 3, 1) := by decide +kernel
theorem dX12_batch_89 : decode cX12_batch 89 = .ok (.iadd, 1) := by decide +kernel
theorem dX12_batch_90 : decode cX12_batch 90 = .ok (.iaload, 1) := by decide +kernel
theorem dX12_batch_91 : decode cX12_batch 91 = .ok (.invokevirtual 128, 3) := by decide +kernel
theorem dX12_batch_94 : decode cX12_batch 94 = .ok (.iinc 1 1, 3) := by decide +kernel
theorem dX12_batch_97 : decode cX12_batch 97 = .ok (.goto (-77), 3) := by decide +kernel
theorem dX12_batch_100 : decode cX12_batch 100 = .ok (.aload_n 0, 1) := by decide +kernel
theorem dX12_batch_101 : decode cX12_batch 101 = .ok (.iconst 0, 1) := by decide +kernel
theorem dX12_batch_102 : decode cX12_batch 102 = .ok (.iconst (-1), 1) := by decide +kernel
theorem dX12_batch_103 : decode cX12_batch 103 = .ok (.invokevirtual 203, 3) := by decide +kernel
theorem dX12_batch_106 : decode cX12_batch 106 = .ok (.istore_n 1, 1) := by decide +kernel
theorem dX12_batch_107 : decode cX12_batch 107 = .ok (.iload_n 1, 1) := by decide +kernel
theorem dX12_batch_108 : decode cX12_batch 108 = .ok (.ifCond .lt 81, 3) := by decide +kernel
theorem dX12_batch_111 : decode cX12_batch 111 = .ok (.aload_n 0, 1) := by decide +kernel
theorem dX12_batch_112 : decode cX12_batch 112 = .ok (.getfield 48, 3) := by decide +kernel
theorem dX12_batch_115 : decode cX12_batch 115 = .ok (.iload_n 1, 1) := by decide +kernel
theorem dX12_batch_116 : decode cX12_batch 116 = .ok (.iconst 0, 1) := by decide +kernel
theorem dX12_batch_117 : decode cX12_batch 117 = .ok (.bastore, 1) := by decide +kernel
theorem dX12_batch_118 : decode cX12_batch 118 = .ok (.aload_n 0, 1) := by decide +kernel
theorem dX12_batch_119 : decode cX12_batch 119 = .ok (.iconst 0, 1) := by decide +kernel
theorem dX12_batch_120 : decode cX12_batch 120 = .ok (.aload_n 0, 1) := by decide +kernel
theorem dX12_batch_121 : decode cX12_batch 121 = .ok (.getfield 39, 3) := by decide +kernel
theorem dX12_batch_124 : decode cX12_batch 124 = .ok (.iconst 4, 1) := by decide +kernel
theorem dX12_batch_125 : decode cX12_batch 125 = .ok (.iload_n 1, 1) := by decide +kernel
theorem dX12_batch_126 : decode cX12_batch 126 = .ok (.imul, 1) := by decide +kernel
theorem dX12_batch_127 : decode cX12_batch 127 = .ok (.iaload, 1) := by decide +kernel
theorem dX12_batch_128 : decode cX12_batch 128 = .ok (.iconst 1, 1) := by decide +kernel
theorem dX12_batch_129 : decode cX12_batch 129 = .ok (.isub, 1) := by decide +kernel
theorem dX12_batch_130 : decode cX12_batch 130 = .ok (.aload_n 0, 1) := by decide +kernel
theorem dX12_batch_131 : decode cX12_batch 131 = .ok (.getfield 39, 3) := by decide +kernel
theorem dX12_batch_134 : decode cX12_batch 134 = .ok (.iconst 4, 1) := by decide +kernel
theorem dX12_batch_135 : decode cX12_batch 135 = .ok (.iload_n 1, 1) := by decide +kernel
theorem dX12_batch_136 : decode cX12_batch 136 = .ok (.imul, 1) := by decide +kernel
theorem dX12_batch_137 : decode cX12_batch 137 = .ok (.iconst 1, 1) := by decide +kernel
theorem dX12_batch_138 : decode cX12_batch 138 = .ok (.iadd, 1) := by decide +kernel
theorem dX12_batch_139 : decode cX12_batch 139 = .ok (.iaload, 1) := by decide +kernel
theorem dX12_batch_140 : decode cX12_batch 140 = .ok (.aload_n 0, 1) := by decide +kernel
theorem dX12_batch_141 : decode cX12_batch 141 = .ok (.getfield 39, 3) := by decide +kernel
theorem dX12_batch_144 : decode cX12_batch 144 = .ok (.iconst 4, 1) := by decide +kernel
theorem dX12_batch_145 : decode cX12_batch 145 = .ok (.iload_n 1, 1) := by decide +kernel
theorem dX12_batch_146 : decode cX12_batch 146 = .ok (.imul, 1) := by decide +kernel
theorem dX12_batch_147 : decode cX12_batch 147 = .ok (.iconst 2, 1) := by decide +kernel
theorem dX12_batch_148 : decode cX12_batch 148 = .ok (.iadd, 1) := by decide +kernel
theorem dX12_batch_149 : decode cX12_batch 149 = .ok (.iaload, 1) := by decide +kernel
theorem dX12_batch_150 : decode cX12_batch 150 = .ok (.aload_n 0, 1) := by decide +kernel
theorem dX12_batch_151 : decode cX12_batch 151 = .ok (.getfield 39, 3) := by decide +kernel
theorem dX12_batch_154 : decode cX12_batch 154 = .ok (.iconst 4, 1) := by decide +kernel
theorem dX12_batch_155 : decode cX12_batch 155 = .ok (.iload_n 1, 1) := by decide +kernel
theorem dX12_batch_156 : decode cX12_batch 156 = .ok (.imul, 1) := by decide +kernel
theorem dX12_batch_157 : decode cX12_batch 157 = .ok (.iconst 3, 1) := by decide +kernel
theorem dX12_batch_158 : decode cX12_batch 158 = .ok (.iadd, 1) := by decide +kernel
theorem dX12_batch_159 : decode cX12_batch 159 = .ok (.iaload, 1) := by decide +kernel
theorem dX12_batch_160 : decode cX12_batch 160 = .ok (.invokevirtual 148, 3) := by decide +kernel
theorem dX12_batch_163 : decode cX12_batch 163 = .ok (.ifCond .le 6, 3) := by decide +kernel
theorem dX12_batch_166 : decode cX12_batch 166 = .ok (.goto 13, 3) := by decide +kernel
theorem dX12_batch_169 : decode cX12_batch 169 = .ok (.aload_n 0, 1) := by decide +kernel
theorem dX12_batch_170 : decode cX12_batch 170 = .ok (.sipush 584, 3) := by decide +kernel
theorem dX12_batch_173 : decode cX12_batch 173 = .ok (.iconst 0, 1) := by decide +kernel
theorem dX12_batch_174 : decode cX12_batch 174 = .ok (.invokevirtual 122, 3) := by decide +kernel
theorem dX12_batch_177 : decode cX12_batch 177 = .ok (.iconst 0, 1) := by decide +kernel
theorem dX12_batch_178 : decode cX12_batch 178 = .ok (.ireturn, 1) := by decide +kernel
theorem dX12_batch_179 : decode cX12_batch 179 = .ok (.aload_n 0, 1) := by decide +kernel
theorem dX12_batch_180 : decode cX12_batch 180 = .ok (.iconst 0, 1) := by decide +kernel
theorem dX12_batch_181 : decode cX12_batch 181 = .ok (.iconst (-1), 1) := by decide +kernel
theorem dX12_batch_182 : decode cX12_batch 182 = .ok (.invokevirtual 203, 3) := by decide +kernel
theorem dX12_batch_185 : decode cX12_batch 185 = .ok (.istore_n 1, 1) := by decide +kernel
theorem dX12_batch_186 : decode cX12_batch 186 = .ok (.goto (-79), 3) := by decide +kernel
theorem dX12_batch_189 : decode cX12_batch 189 = .ok (.iconst 1, 1) := by decide +kernel
theorem dX12_batch_190 : decode cX12_batch 190 = .ok (.ireturn, 1) := by decide +kernel
theorem dX12_peel_0 : decode cX12_peel 0 = .ok (.aload_n 0, 1) := by decide +kernel
theorem dX12_peel_1 : decode cX12_peel 1 = .ok (.iconst 0, 1) := by decide +kernel
theorem dX12_peel_2 : decode cX12_peel 2 = .ok (.invokevirtual 206, 3) := by decide +kernel
theorem dX12_peel_5 : decode cX12_peel 5 = .ok (.iload_n 1, 1) := by decide +kernel
theorem dX12_peel_6 : decode cX12_peel 6 = .ok (.iconst (-1), 1) := by decide +kernel
theorem dX12_peel_7 : decode cX12_peel 7 = .ok (.if_icmp .ne 17, 3) := by decide +kernel
theorem dX12_peel_10 : decode cX12_peel 10 = .ok (.iload_n 2, 1) := by decide +kernel
theorem dX12_peel_11 : decode cX12_peel 11 = .ok (.ifCond .ne 10, 3) := by decide +kernel
theorem dX12_peel_14 : decode cX12_peel 14 = .ok (.aload_n 0, 1) := by decide +kernel
theorem dX12_peel_15 : decode cX12_peel 15 = .ok (.getfield 197, 3) := by decide +kernel
theorem dX12_peel_18 : decode cX12_peel 18 = .ok (.goto 5, 3) := by decide +kernel
theorem dX12_peel_21 : decode cX12_peel 21 = .ok (.bipush (-2), 2) := by decide +kernel
theorem dX12_peel_23 : decode cX12_peel 23 = .ok (.ireturn, 1) := by decide +kernel
theorem dX12_peel_24 : decode cX12_peel 24 = .ok (.iload_n 1, 1) := by decide +kernel
theorem dX12_peel_25 : decode cX12_peel 25 = .ok (.iconst 0, 1) := by decide +kernel
theorem dX12_peel_26 : decode cX12_peel 26 = .ok (.aload_n 0, 1) := by decide +kernel
theorem dX12_peel_27 : decode cX12_peel 27 = .ok (.getfield 197, 3) := by decide +kernel
theorem dX12_peel_30 : decode cX12_peel 30 = .ok (.iconst 1, 1) := by decide +kernel
theorem dX12_peel_31 : decode cX12_peel 31 = .ok (.isub, 1) := by decide +kernel
theorem dX12_peel_32 : decode cX12_peel 32 = .ok (.invokestatic 79, 3) := by decide +kernel
theorem dX12_peel_35 : decode cX12_peel 35 = .ok (.ifCond .eq 12, 3) := by decide +kernel
theorem dX12_peel_38 : decode cX12_peel 38 = .ok (.iload_n 2, 1) := by decide +kernel
theorem dX12_peel_39 : decode cX12_peel 39 = .ok (.iconst 0, 1) := by decide +kernel
theorem dX12_peel_40 : decode cX12_peel 40 = .ok (.iconst 1, 1) := by decide +kernel
theorem dX12_peel_41 : decode cX12_peel 41 = .ok (.invokestatic 79, 3) := by decide +kernel
theorem dX12_peel_44 : decode cX12_peel 44 = .ok (.ifCond .ne 6, 3) := by decide +kernel
theorem dX12_peel_47 : decode cX12_peel 47 = .ok (.bipush (-2), 2) := by decide +kernel
theorem dX12_peel_49 : decode cX12_peel 49 = .ok (.ireturn, 1) := by decide +kernel
theorem dX12_peel_50 : decode cX12_peel 50 = .ok (.iload_n 2, 1) := by decide +kernel
theorem dX12_peel_51 : decode cX12_peel 51 = .ok (.ifCond .ne 21, 3) := by decide +kernel
theorem dX12_peel_54 : decode cX12_peel 54 = .ok (.aload_n 0, 1) := by decide +kernel
theorem dX12_peel_55 : decode cX12_peel 55 = .ok (.getfield 39, 3) := by decide +kernel
theorem dX12_peel_58 : decode cX12_peel 58 = .ok (.iconst 4, 1) := by decide +kernel
theorem dX12_peel_59 : decode cX12_peel 59 = .ok (.aload_n 0, 1) := by decide +kernel
theorem dX12_peel_60 : decode cX12_peel 60 = .ok (.getfield 42, 3) := by decide +kernel
theorem dX12_peel_63 : decode cX12_peel 63 = .ok (.iload_n 1, 1) := by decide +kernel
theorem dX12_peel_64 : decode cX12_peel 64 = .ok (.iaload, 1) := by decide +kernel
theorem dX12_peel_65 : decode cX12_peel 65 = .ok (.imul, 1) := by decide +kernel
theorem dX12_peel_66 : decode cX12_peel 66 = .ok (.iaload, 1) := by decide +kernel
theorem dX12_peel_67 : decode cX12_peel 67 = .ok (.iconst 1, 1) := by decide +kernel
theorem dX12_peel_68 : decode cX12_peel 68 = .ok (.isub, 1) := by decide +kernel
theorem dX12_peel_69 : decode cX12_peel 69 = .ok (.goto 9, 3) := by decide +kernel
theorem dX12_peel_72 : decode cX12_peel 72 = .ok (.aload_n 0, 1) := by decide +kernel
theorem dX12_peel_73 : decode cX12_peel 73 = .ok (.getfield 45, 3) := by decide +kernel
theorem dX12_peel_76 : decode cX12_peel 76 = .ok (.iload_n 1, 1) := by decide +kernel
theorem dX12_peel_77 : decode cX12_peel 77 = .ok (.iaload, 1) := by decide +kernel
theorem dX12_peel_78 : decode cX12_peel 78 = .ok (.ireturn, 1) := by decide +kernel
theorem dX12_rehash_0 : decode cX12_rehash 0 = .ok (.iload_n 1, 1) := by decide +kernel
theorem dX12_rehash_1 : decode cX12_rehash 1 = .ok (.iconst 1, 1) := by decide +kernel
theorem dX12_rehash_2 : decode cX12_rehash 2 = .ok (.sipush 1008, 3) := by decide +kernel
theorem dX12_rehash_5 : decode cX12_rehash 5 = .ok (.invokestatic 79, 3) := by decide +kernel
theorem dX12_rehash_8 : decode cX12_rehash 8 = .ok (.ifCond .eq 37, 3) := by decide +kernel
theorem dX12_rehash_11 : decode cX12_rehash 11 = .ok (.iload_n 2, 1) := by decide +kernel
theorem dX12_rehash_12 : decode cX12_rehash 12 = .ok (.iconst 0, 1) := by decide +kernel
theorem dX12_rehash_13 : decode cX12_rehash 13 = .ok (.sipush 1008, 3) := by decide +kernel
theorem dX12_rehash_16 : decode cX12_rehash 16 = .ok (.invokestatic 79, 3) := by decide +kernel
theorem dX12_rehash_19 : decode cX12_rehash 19 = .ok (.ifCond .eq 26, 3) := by decide +kernel
theorem dX12_rehash_22 : decode cX12_rehash 22 = .ok (.iload_n 3, 1) := by decide +kernel
theorem dX12_rehash_23 : decode cX12_rehash 23 = .ok (.iconst 1, 1) := by decide +kernel
theorem dX12_rehash_24 : decode cX12_rehash 24 = .ok (.sipush 1008, 3) := by decide +kernel
theorem dX12_rehash_27 : decode cX12_rehash 27 = .ok (.invokestatic 79, 3) := by decide +kernel
theorem dX12_rehash_30 : decode cX12_rehash 30 = .ok (.ifCond .eq 15, 3) := by decide +kernel
theorem dX12_rehash_33 : decode cX12_rehash 33 = .ok (.iload 4, 2) := by decide +kernel
theorem dX12_rehash_35 : decode cX12_rehash 35 = .ok (.iconst 0, 1) := by decide +kernel
theorem dX12_rehash_36 : decode cX12_rehash 36 = .ok (.sipush 1008, 3) := by decide +kernel
theorem dX12_rehash_39 : decode cX12_rehash 39 = .ok (.invokestatic 79, 3) := by decide +kernel
theorem dX12_rehash_42 : decode cX12_rehash 42 = .ok (.ifCond .ne 5, 3) := by decide +kernel
theorem dX12_rehash_45 : decode cX12_rehash 45 = .ok (.iconst 0, 1) := by decide +kernel
theorem dX12_rehash_46 : decode cX12_rehash 46 = .ok (.ireturn, 1) := by decide +kernel
theorem dX12_rehash_47 : decode cX12_rehash 47 = .ok (.aload_n 0, 1) := by decide +kernel
theorem dX12_rehash_48 : decode cX12_rehash 48 = .ok (.iconst 0, 1) := by decide +kernel
theorem dX12_rehash_49 : decode cX12_rehash 49 = .ok (.sipush 584, 3) := by decide +kernel
theorem dX12_rehash_52 : decode cX12_rehash 52 = .ok (.invokevirtual 83, 3) := by decide +kernel
theorem dX12_rehash_55 : decode cX12_rehash 55 = .ok (.aload_n 0, 1) := by decide +kernel
theorem dX12_rehash_56 : decode cX12_rehash 56 = .ok (.iconst 0, 1) := by decide +kernel
theorem dX12_rehash_57 : decode cX12_rehash 57 = .ok (.invokevirtual 152, 3) := by decide +kernel
theorem dX12_rehash_60 : decode cX12_rehash 60 = .ok (.aload_n 0, 1) := by decide +kernel
theorem dX12_rehash_61 : decode cX12_rehash 61 = .ok (.getfield 7, 3) := by decide +kernel
theorem dX12_rehash_64 : decode cX12_rehash 64 = .ok (.bipush 7, 2) := by decide +kernel
theorem dX12_rehash_66 : decode cX12_rehash 66 = .ok (.iload_n 1, 1) := by decide +kernel
theorem dX12_rehash_67 : decode cX12_rehash 67 = .ok (.iastore, 1) := by decide +kernel
theorem dX12_rehash_68 : decode cX12_rehash 68 = .ok (.aload_n 0, 1) := by decide +kernel
theorem dX12_rehash_69 : decode cX12_rehash 69 = .ok (.getfield 7, 3) := by decide +kernel
theorem dX12_rehash_72 : decode cX12_rehash 72 = .ok (.bipush 8, 2) := by decide +kernel
theorem dX12_rehash_74 : decode cX12_rehash 74 = .ok (.iload_n 2, 1) := by decide +kernel
theorem dX12_rehash_75 : decode cX12_rehash 75 = .ok (.iastore, 1) := by decide +kernel
theorem dX12_rehash_76 : decode cX12_rehash 76 = .ok (.aload_n 0, 1) := by decide +kernel
theorem dX12_rehash_77 : decode cX12_rehash 77 = .ok (.getfield 7, 3) := by decide +kernel
theorem dX12_rehash_80 : decode cX12_rehash 80 = .ok (.bipush 9, 2) := by decide +kernel
theorem dX12_rehash_82 : decode cX12_rehash 82 = .ok (.iload_n 3, 1) := by decide +kernel
theorem dX12_rehash_83 : decode cX12_rehash 83 = .ok (.iastore, 1) := by decide +kernel
theorem dX12_rehash_84 : decode cX12_rehash 84 = .ok (.aload_n 0, 1) := by decide +kernel
theorem dX12_rehash_85 : decode cX12_rehash 85 = .ok (.getfield 7, 3) := by decide +kernel
theorem dX12_rehash_88 : decode cX12_rehash 88 = .ok (.bipush 10, 2) := by decide +kernel
theorem dX12_rehash_90 : decode cX12_rehash 90 = .ok (.iload 4, 2) := by decide +kernel
theorem dX12_rehash_92 : decode cX12_rehash 92 = .ok (.iastore, 1) := by decide +kernel
theorem dX12_rehash_93 : decode cX12_rehash 93 = .ok (.aload_n 0, 1) := by decide +kernel
theorem dX12_rehash_94 : decode cX12_rehash 94 = .ok (.iconst 0, 1) := by decide +kernel
theorem dX12_rehash_95 : decode cX12_rehash 95 = .ok (.invokevirtual 159, 3) := by decide +kernel
theorem dX12_rehash_98 : decode cX12_rehash 98 = .ok (.aload_n 0, 1) := by decide +kernel
theorem dX12_rehash_99 : decode cX12_rehash 99 = .ok (.iconst 0, 1) := by decide +kernel
theorem dX12_rehash_100 : decode cX12_rehash 100 = .ok (.iconst 0, 1) := by decide +kernel
theorem dX12_rehash_101 : decode cX12_rehash 101 = .ok (.invokevirtual 162, 3) := by decide +kernel
theorem dX12_rehash_104 : decode cX12_rehash 104 = .ok (.istore 5, 2) := by decide +kernel
theorem dX12_rehash_106 : decode cX12_rehash 106 = .ok (.iload 5, 2) := by decide +kernel
theorem dX12_rehash_108 : decode cX12_rehash 108 = .ok (.ifCond .eq 17, 3) := by decide +kernel
theorem dX12_rehash_111 : decode cX12_rehash 111 = .ok (.aload_n 0, 1) := by decide +kernel
theorem dX12_rehash_112 : decode cX12_rehash 112 = .ok (.getfield 7, 3) := by decide +kernel
theorem dX12_rehash_115 : decode cX12_rehash 115 = .ok (.bipush 14, 2) := by decide +kernel
theorem dX12_rehash_117 : decode cX12_rehash 117 = .ok (.dup2, 1) := by decide +kernel
theorem dX12_rehash_118 : decode cX12_rehash 118 = .ok (.iaload, 1) := by decide +kernel
theorem dX12_rehash_119 : decode cX12_rehash 119 = .ok (.iconst 1, 1) := by decide +kernel
theorem dX12_rehash_120 : decode cX12_rehash 120 = .ok (.iadd, 1) := by decide +kernel
theorem dX12_rehash_121 : decode cX12_rehash 121 = .ok (.iastore, 1) := by decide +kernel
theorem dX12_rehash_122 : decode cX12_rehash 122 = .ok (.goto 11, 3) := by decide +kernel
theorem dX12_rehash_125 : decode cX12_rehash 125 = .ok (.aload_n 0, 1) := by decide +kernel
theorem dX12_rehash_126 : decode cX12_rehash 126 = .ok (.sipush 584, 3) := by decide +kernel
theorem dX12_rehash_129 : decode cX12_rehash 129 = .ok (.iconst 0, 1) := by decide +kernel
theorem dX12_rehash_130 : decode cX12_rehash 130 = .ok (.invokevirtual 122, 3) := by decide +kernel
theorem dX12_rehash_133 : decode cX12_rehash 133 = .ok (.iload 5, 2) := by decide +kernel
theorem dX12_rehash_135 : decode cX12_rehash 135 = .ok (.ireturn, 1) := by decide +kernel
theorem dX12_hashBy_0 : decode cX12_hashBy 0 = .ok (.aload_n 0, 1) := by decide +kernel
theorem dX12_hashBy_1 : decode cX12_hashBy 1 = .ok (.getfield 60, 3) := by decide +kernel
theorem dX12_hashBy_4 : decode cX12_hashBy 4 = .ok (.iconst 2, 1) := by decide +kernel
theorem dX12_hashBy_5 : decode cX12_hashBy 5 = .ok (.iload_n 2, 1) := by decide +kernel
theorem dX12_hashBy_6 : decode cX12_hashBy 6 = .ok (.imul, 1) := by decide +kernel
theorem dX12_hashBy_7 : decode cX12_hashBy 7 = .ok (.iaload, 1) := by decide +kernel
theorem dX12_hashBy_8 : decode cX12_hashBy 8 = .ok (.iload_n 1, 1) := by decide +kernel
theorem dX12_hashBy_9 : decode cX12_hashBy 9 = .ok (.imul, 1) := by decide +kernel
theorem dX12_hashBy_10 : decode cX12_hashBy 10 = .ok (.aload_n 0, 1) := by decide +kernel
theorem dX12_hashBy_11 : decode cX12_hashBy 11 = .ok (.getfield 60, 3) := by decide +kernel
theorem dX12_hashBy_14 : decode cX12_hashBy 14 = .ok (.iconst 2, 1) := by decide +kernel
theorem dX12_hashBy_15 : decode cX12_hashBy 15 = .ok (.iload_n 2, 1) := by decide +kernel
theorem dX12_hashBy_16 : decode cX12_hashBy 16 = .ok (.imul, 1) := by decide +kernel
theorem dX12_hashBy_17 : decode cX12_hashBy 17 = .ok (.iconst 1, 1) := by decide +kernel
theorem dX12_hashBy_18 : decode cX12_hashBy 18 = .ok (.iadd, 1) := by decide +kernel
theorem dX12_hashBy_19 : decode cX12_hashBy 19 = .ok (.iaload, 1) := by decide +kernel
theorem dX12_hashBy_20 : decode cX12_hashBy 20 = .ok (.iadd, 1) := by decide +kernel
theorem dX12_hashBy_21 : decode cX12_hashBy 21 = .ok (.sipush 1009, 3) := by decide +kernel
theorem dX12_hashBy_24 : decode cX12_hashBy 24 = .ok (.irem, 1) := by decide +kernel
theorem dX12_hashBy_25 : decode cX12_hashBy 25 = .ok (.iload_n 3, 1) := by decide +kernel
theorem dX12_hashBy_26 : decode cX12_hashBy 26 = .ok (.irem, 1) := by decide +kernel
theorem dX12_hashBy_27 : decode cX12_hashBy 27 = .ok (.ireturn, 1) := by decide +kernel
theorem dX12_otherBy_0 : decode cX12_otherBy 0 = .ok (.aload_n 0, 1) := by decide +kernel
theorem dX12_otherBy_1 : decode cX12_otherBy 1 = .ok (.iload_n 1, 1) := by decide +kernel
theorem dX12_otherBy_2 : decode cX12_otherBy 2 = .ok (.iconst 0, 1) := by decide +kernel
theorem dX12_otherBy_3 : decode cX12_otherBy 3 = .ok (.iload_n 3, 1) := by decide +kernel
theorem dX12_otherBy_4 : decode cX12_otherBy 4 = .ok (.invokevirtual 209, 3) := by decide +kernel
theorem dX12_otherBy_7 : decode cX12_otherBy 7 = .ok (.istore 4, 2) := by decide +kernel
theorem dX12_otherBy_9 : decode cX12_otherBy 9 = .ok (.iload 4, 2) := by decide +kernel
theorem dX12_otherBy_11 : decode cX12_otherBy 11 = .ok (.iload_n 2, 1) := by decide +kernel
theorem dX12_otherBy_12 : decode cX12_otherBy 12 = .ok (.if_icmp .ne 13, 3) := by decide +kernel
theorem dX12_otherBy_15 : decode cX12_otherBy 15 = .ok (.aload_n 0, 1) := by decide +kernel
theorem dX12_otherBy_16 : decode cX12_otherBy 16 = .ok (.iload_n 1, 1) := by decide +kernel
theorem dX12_otherBy_17 : decode cX12_otherBy 17 = .ok (.iconst 1, 1) := by decide +kernel
theorem dX12_otherBy_18 : decode cX12_otherBy 18 = .ok (.iload_n 3, 1) := by decide +kernel
theorem dX12_otherBy_19 : decode cX12_otherBy 19 = .ok (.invokevirtual 209, 3) := by decide +kernel
theorem dX12_otherBy_22 : decode cX12_otherBy 22 = .ok (.goto 5, 3) := by decide +kernel
theorem dX12_otherBy_25 : decode cX12_otherBy 25 = .ok (.iload 4, 2) := by decide +kernel
theorem dX12_otherBy_27 : decode cX12_otherBy 27 = .ok (.ireturn, 1) := by decide +kernel
theorem dX12_asNow_0 : decode cX12_asNow 0 = .ok (.iconst 0, 1) := by decide +kernel
theorem dX12_asNow_1 : decode cX12_asNow 1 = .ok (.istore_n 1, 1) := by decide +kernel
theorem dX12_asNow_2 : decode cX12_asNow 2 = .ok (.iload_n 1, 1) := by decide +kernel
theorem dX12_asNow_3 : decode cX12_asNow 3 = .ok (.iconst 4, 1) := by decide +kernel
theorem dX12_asNow_4 : decode cX12_asNow 4 = .ok (.if_icmp .ge 24, 3) := by decide +kernel
theorem dX12_asNow_7 : decode cX12_asNow 7 = .ok (.aload_n 0, 1) := by decide +kernel
theorem dX12_asNow_8 : decode cX12_asNow 8 = .ok (.getfield 60, 3) := by decide +kernel
theorem dX12_asNow_11 : decode cX12_asNow 11 = .ok (.iload_n 1, 1) := by decide +kernel
theorem dX12_asNow_12 : decode cX12_asNow 12 = .ok (.aload_n 0, 1) := by decide +kernel
theorem dX12_asNow_13 : decode cX12_asNow 13 = .ok (.getfield 7, 3) := by decide +kernel
theorem dX12_asNow_16 : decode cX12_asNow 16 = .ok (.bipush 7, 2) := by decide +kernel
theorem dX12_asNow_18 : decode cX12_asNow 18 = .ok (.iload_n 1, 1) := by decide +kernel
theorem dX12_asNow_19 : decode cX12_asNow 19 = .ok (.iadd, 1) := by decide +kernel
theorem dX12_asNow_20 : decode cX12_asNow 20 = .ok (.iaload, 1) := by decide +kernel
theorem dX12_asNow_21 : decode cX12_asNow 21 = .ok (.iastore, 1) := by decide +kernel
theorem dX12_asNow_22 : decode cX12_asNow 22 = .ok (.iinc 1 1, 3) := by decide +kernel
theorem dX12_asNow_25 : decode cX12_asNow 25 = .ok (.goto (-23), 3) := by decide +kernel
theorem dX12_asNow_28 : decode cX12_asNow 28 = .ok (.return_, 1) := by decide +kernel
theorem dX12_laysFar_0 : decode cX12_laysFar 0 = .ok (.iconst 0, 1) := by decide +kernel
theorem dX12_laysFar_1 : decode cX12_laysFar 1 = .ok (.istore 4, 2) := by decide +kernel
theorem dX12_laysFar_3 : decode cX12_laysFar 3 = .ok (.iload 4, 2) := by decide +kernel
theorem dX12_laysFar_5 : decode cX12_laysFar 5 = .ok (.iload_n 2, 1) := by decide +kernel
theorem dX12_laysFar_6 : decode cX12_laysFar 6 = .ok (.if_icmp .ge 34, 3) := by decide +kernel
theorem dX12_laysFar_9 : decode cX12_laysFar 9 = .ok (.aload_n 0, 1) := by decide +kernel
theorem dX12_laysFar_10 : decode cX12_laysFar 10 = .ok (.getfield 57, 3) := by decide +kernel
theorem dX12_laysFar_13 : decode cX12_laysFar 13 = .ok (.iload 4, 2) := by decide +kernel
theorem dX12_laysFar_15 : decode cX12_laysFar 15 = .ok (.aload_n 0, 1) := by decide +kernel
theorem dX12_laysFar_16 : decode cX12_laysFar 16 = .ok (.getfield 54, 3) := by decide +kernel
theorem dX12_laysFar_19 : decode cX12_laysFar 19 = .ok (.iload 4, 2) := by decide +kernel
theorem dX12_laysFar_21 : decode cX12_laysFar 21 = .ok (.iaload, 1) := by decide +kernel
theorem dX12_laysFar_22 : decode cX12_laysFar 22 = .ok (.iload_n 3, 1) := by decide +kernel
theorem dX12_laysFar_23 : decode cX12_laysFar 23 = .ok (.if_icmp .ge 7, 3) := by decide +kernel
theorem dX12_laysFar_26 : decode cX12_laysFar 26 = .ok (.iconst 0, 1) := by decide +kernel
theorem dX12_laysFar_27 : decode cX12_laysFar 27 = .ok (.goto 6, 3) := by decide +kernel
theorem dX12_laysFar_30 : decode cX12_laysFar 30 = .ok (.sipush 1000, 3) := by decide +kernel
theorem dX12_laysFar_33 : decode cX12_laysFar 33 = .ok (.iastore, 1) := by decide +kernel
theorem dX12_laysFar_34 : decode cX12_laysFar 34 = .ok (.iinc 4 1, 3) := by decide +kernel
theorem dX12_laysFar_37 : decode cX12_laysFar 37 = .ok (.goto (-34), 3) := by decide +kernel
theorem dX12_laysFar_40 : decode cX12_laysFar 40 = .ok (.iconst 0, 1) := by decide +kernel
theorem dX12_laysFar_41 : decode cX12_laysFar 41 = .ok (.istore 4, 2) := by decide +kernel
theorem dX12_laysFar_43 : decode cX12_laysFar 43 = .ok (.iload 4, 2) := by decide +kernel
theorem dX12_laysFar_45 : decode cX12_laysFar 45 = .ok (.iload_n 2, 1) := by decide +kernel
theorem dX12_laysFar_46 : decode cX12_laysFar 46 = .ok (.if_icmp .ge 106, 3) := by decide +kernel
theorem dX12_laysFar_49 : decode cX12_laysFar 49 = .ok (.iconst 0, 1) := by decide +kernel
theorem dX12_laysFar_50 : decode cX12_laysFar 50 = .ok (.istore 5, 2) := by decide +kernel
theorem dX12_laysFar_52 : decode cX12_laysFar 52 = .ok (.iload 5, 2) := by decide +kernel
theorem dX12_laysFar_54 : decode cX12_laysFar 54 = .ok (.iload_n 1, 1) := by decide +kernel
theorem dX12_laysFar_55 : decode cX12_laysFar 55 = .ok (.if_icmp .ge 91, 3) := by decide +kernel
theorem dX12_laysFar_58 : decode cX12_laysFar 58 = .ok (.aload_n 0, 1) := by decide +kernel
theorem dX12_laysFar_59 : decode cX12_laysFar 59 = .ok (.getfield 51, 3) := by decide +kernel
theorem dX12_laysFar_62 : decode cX12_laysFar 62 = .ok (.iload 5, 2) := by decide +kernel
theorem dX12_laysFar_64 : decode cX12_laysFar 64 = .ok (.iaload, 1) := by decide +kernel
theorem dX12_laysFar_65 : decode cX12_laysFar 65 = .ok (.istore 6, 2) := by decide +kernel
theorem dX12_laysFar_67 : decode cX12_laysFar 67 = .ok (.iload 6, 2) := by decide +kernel
theorem dX12_laysFar_69 : decode cX12_laysFar 69 = .ok (.ifCond .ge 6, 3) := by decide +kernel
theorem dX12_laysFar_72 : decode cX12_laysFar 72 = .ok (.goto 68, 3) := by decide +kernel
theorem dX12_laysFar_75 : decode cX12_laysFar 75 = .ok (.aload_n 0, 1) := by decide +kernel
theorem dX12_laysFar_76 : decode cX12_laysFar 76 = .ok (.aload_n 0, 1) := by decide +kernel
theorem dX12_laysFar_77 : decode cX12_laysFar 77 = .ok (.getfield 39, 3) := by decide +kernel
theorem dX12_laysFar_80 : decode cX12_laysFar 80 = .ok (.iconst 4, 1) := by decide +kernel
theorem dX12_laysFar_81 : decode cX12_laysFar 81 = .ok (.iload 5, 2) := by decide +kernel
theorem dX12_laysFar_83 : decode cX12_laysFar 83 = .ok (.imul, 1) := by decide +kernel
theorem dX12_laysFar_84 : decode cX12_laysFar 84 = .ok (.iaload, 1) := by decide +kernel
theorem dX12_laysFar_85 : decode cX12_laysFar 85 = .ok (.iconst 1, 1) := by decide +kernel
theorem dX12_laysFar_86 : decode cX12_laysFar 86 = .ok (.isub, 1) := by decide +kernel
theorem dX12_laysFar_87 : decode cX12_laysFar 87 = .ok (.iload 6, 2) := by decide +kernel
theorem dX12_laysFar_89 : decode cX12_laysFar 89 = .ok (.iload_n 2, 1) := by decide +kernel
theorem dX12_laysFar_90 : decode cX12_laysFar 90 = .ok (.invokevirtual 212, 3) := by decide +kernel
theorem dX12_laysFar_93 : decode cX12_laysFar 93 = .ok (.istore 7, 2) := by decide +kernel
theorem dX12_laysFar_95 : decode cX12_laysFar 95 = .ok (.aload_n 0, 1) := by decide +kernel
theorem dX12_laysFar_96 : decode cX12_laysFar 96 = .ok (.getfield 57, 3) := by decide +kernel
theorem dX12_laysFar_99 : decode cX12_laysFar 99 = .ok (.iload 6, 2) := by decide +kernel
theorem dX12_laysFar_101 : decode cX12_laysFar 101 = .ok (.aload_n 0, 1) := by decide +kernel
theorem dX12_laysFar_102 : decode cX12_laysFar 102 = .ok (.getfield 57, 3) := by decide +kernel
theorem dX12_laysFar_105 : decode cX12_laysFar 105 = .ok (.iload 7, 2) := by decide +kernel
theorem dX12_laysFar_107 : decode cX12_laysFar 107 = .ok (.iaload, 1) := by decide +kernel
theorem dX12_laysFar_108 : decode cX12_laysFar 108 = .ok (.iconst 1, 1) := by decide +kernel
theorem dX12_laysFar_109 : decode cX12_laysFar 109 = .ok (.iadd, 1) := by decide +kernel
theorem dX12_laysFar_110 : decode cX12_laysFar 110 = .ok (.aload_n 0, 1) := by decide +kernel
theorem dX12_laysFar_111 : decode cX12_laysFar 111 = .ok (.getfield 57, 3) := by decide +kernel
theorem dX12_laysFar_114 : decode cX12_laysFar 114 = .ok (.iload 6, 2) := by decide +kernel
theorem dX12_laysFar_116 : decode cX12_laysFar 116 = .ok (.iaload, 1) := by decide +kernel
theorem dX12_laysFar_117 : decode cX12_laysFar 117 = .ok (.if_icmp .ge 15, 3) := by decide +kernel
theorem dX12_laysFar_120 : decode cX12_laysFar 120 = .ok (.aload_n 0, 1) := by decide +kernel
theorem dX12_laysFar_121 : decode cX12_laysFar 121 = .ok (.getfield 57, 3) := by decide +kernel
theorem dX12_laysFar_124 : decode cX12_laysFar 124 = .ok (.iload 7, 2) := by decide +kernel
theorem dX12_laysFar_126 : decode cX12_laysFar 126 = .ok (.iaload, 1) := by decide +kernel
theorem dX12_laysFar_127 : decode cX12_laysFar 127 = .ok (.iconst 1, 1) := by decide +kernel
theorem dX12_laysFar_128 : decode cX12_laysFar 128 = .ok (.iadd, 1) := by decide +kernel
theorem dX12_laysFar_129 : decode cX12_laysFar 129 = .ok (.goto 10, 3) := by decide +kernel
theorem dX12_laysFar_132 : decode cX12_laysFar 132 = .ok (.aload_n 0, 1) := by decide +kernel
theorem dX12_laysFar_133 : decode cX12_laysFar 133 = .ok (.getfield 57, 3) := by decide +kernel
theorem dX12_laysFar_136 : decode cX12_laysFar 136 = .ok (.iload 6, 2) := by decide +kernel
theorem dX12_laysFar_138 : decode cX12_laysFar 138 = .ok (.iaload, 1) := by decide +kernel
theorem dX12_laysFar_139 : decode cX12_laysFar 139 = .ok (.iastore, 1) := by decide +kernel
theorem dX12_laysFar_140 : decode cX12_laysFar 140 = .ok (.iinc 5 1, 3) := by decide +kernel
theorem dX12_laysFar_143 : decode cX12_laysFar 143 = .ok (.goto (-91), 3) := by decide +kernel
theorem dX12_laysFar_146 : decode cX12_laysFar 146 = .ok (.iinc 4 1, 3) := by decide +kernel
theorem dX12_laysFar_149 : decode cX12_laysFar 149 = .ok (.goto (-106), 3) := by decide +kernel
theorem dX12_laysFar_152 : decode cX12_laysFar 152 = .ok (.return_, 1) := by decide +kernel
theorem dX12_overBy_0 : decode cX12_overBy 0 = .ok (.iconst 0, 1) := by decide +kernel
theorem dX12_overBy_1 : decode cX12_overBy 1 = .ok (.istore_n 3, 1) := by decide +kernel
theorem dX12_overBy_2 : decode cX12_overBy 2 = .ok (.iconst 0, 1) := by decide +kernel
theorem dX12_overBy_3 : decode cX12_overBy 3 = .ok (.istore 4, 2) := by decide +kernel
theorem dX12_overBy_5 : decode cX12_overBy 5 = .ok (.iload 4, 2) := by decide +kernel
theorem dX12_overBy_7 : decode cX12_overBy 7 = .ok (.iload_n 1, 1) := by decide +kernel
theorem dX12_overBy_8 : decode cX12_overBy 8 = .ok (.if_icmp .ge 17, 3) := by decide +kernel
theorem dX12_overBy_11 : decode cX12_overBy 11 = .ok (.aload_n 0, 1) := by decide +kernel
theorem dX12_overBy_12 : decode cX12_overBy 12 = .ok (.getfield 54, 3) := by decide +kernel
theorem dX12_overBy_15 : decode cX12_overBy 15 = .ok (.iload 4, 2) := by decide +kernel
theorem dX12_overBy_17 : decode cX12_overBy 17 = .ok (.iconst 0, 1) := by decide +kernel
theorem dX12_overBy_18 : decode cX12_overBy 18 = .ok (.iastore, 1) := by decide +kernel
theorem dX12_overBy_19 : decode cX12_overBy 19 = .ok (.iinc 4 1, 3) := by decide +kernel
theorem dX12_overBy_22 : decode cX12_overBy 22 = .ok (.goto (-17), 3) := by decide +kernel
theorem dX12_overBy_25 : decode cX12_overBy 25 = .ok (.iconst 0, 1) := by decide +kernel
theorem dX12_overBy_26 : decode cX12_overBy 26 = .ok (.istore 4, 2) := by decide +kernel
theorem dX12_overBy_28 : decode cX12_overBy 28 = .ok (.iload 4, 2) := by decide +kernel
theorem dX12_overBy_30 : decode cX12_overBy 30 = .ok (.aload_n 0, 1) := by decide +kernel
theorem dX12_overBy_31 : decode cX12_overBy 31 = .ok (.getfield 142, 3) := by decide +kernel
theorem dX12_overBy_34 : decode cX12_overBy 34 = .ok (.if_icmp .ge 270, 3) := by decide +kernel
theorem dX12_overBy_37 : decode cX12_overBy 37 = .ok (.aload_n 0, 1) := by decide +kernel
theorem dX12_overBy_38 : decode cX12_overBy 38 = .ok (.getfield 39, 3) := by decide +kernel
theorem dX12_overBy_41 : decode cX12_overBy 41 = .ok (.iconst 4, 1) := by decide +kernel
theorem dX12_overBy_42 : decode cX12_overBy 42 = .ok (.iload 4, 2) := by decide +kernel
theorem dX12_overBy_44 : decode cX12_overBy 44 = .ok (.imul, 1) := by decide +kernel
theorem dX12_overBy_45 : decode cX12_overBy 45 = .ok (.iaload, 1) := by decide +kernel
theorem dX12_overBy_46 : decode cX12_overBy 46 = .ok (.iconst 1, 1) := by decide +kernel
theorem dX12_overBy_47 : decode cX12_overBy 47 = .ok (.isub, 1) := by decide +kernel
theorem dX12_overBy_48 : decode cX12_overBy 48 = .ok (.istore 5, 2) := by decide +kernel
theorem dX12_overBy_50 : decode cX12_overBy 50 = .ok (.aload_n 0, 1) := by decide +kernel
theorem dX12_overBy_51 : decode cX12_overBy 51 = .ok (.iload 4, 2) := by decide +kernel
theorem dX12_overBy_53 : decode cX12_overBy 53 = .ok (.iload_n 1, 1) := by decide +kernel
theorem dX12_overBy_54 : decode cX12_overBy 54 = .ok (.iload_n 2, 1) := by decide +kernel
theorem dX12_overBy_55 : decode cX12_overBy 55 = .ok (.invokevirtual 215, 3) := by decide +kernel
theorem dX12_overBy_58 : decode cX12_overBy 58 = .ok (.aload_n 0, 1) := by decide +kernel
theorem dX12_overBy_59 : decode cX12_overBy 59 = .ok (.iload 5, 2) := by decide +kernel
theorem dX12_overBy_61 : decode cX12_overBy 61 = .ok (.iconst 0, 1) := by decide +kernel
theorem dX12_overBy_62 : decode cX12_overBy 62 = .ok (.iload_n 1, 1) := by decide +kernel
theorem dX12_overBy_63 : decode cX12_overBy 63 = .ok (.invokevirtual 209, 3) := by decide +kernel
theorem dX12_overBy_66 : decode cX12_overBy 66 = .ok (.istore 6, 2) := by decide +kernel
theorem dX12_overBy_68 : decode cX12_overBy 68 = .ok (.aload_n 0, 1) := by decide +kernel
theorem dX12_overBy_69 : decode cX12_overBy 69 = .ok (.iload 5, 2) := by decide +kernel
theorem dX12_overBy_71 : decode cX12_overBy 71 = .ok (.iconst 1, 1) := by decide +kernel
theorem dX12_overBy_72 : decode cX12_overBy 72 = .ok (.iload_n 1, 1) := by decide +kernel
theorem dX12_overBy_73 : decode cX12_overBy 73 = .ok (.invokevirtual 209, 3) := by decide +kernel
theorem dX12_overBy_76 : decode cX12_overBy 76 = .ok (.istore 7, 2) := by decide +kernel
theorem dX12_overBy_78 : decode cX12_overBy 78 = .ok (.aload_n 0, 1) := by decide +kernel
theorem dX12_overBy_79 : decode cX12_overBy 79 = .ok (.getfield 57, 3) := by decide +kernel
theorem dX12_overBy_82 : decode cX12_overBy 82 = .ok (.iload 7, 2) := by decide +kernel
theorem dX12_overBy_84 : decode cX12_overBy 84 = .ok (.iaload, 1) := by decide +kernel
theorem dX12_overBy_85 : decode cX12_overBy 85 = .ok (.aload_n 0, 1) := by decide +kernel
theorem dX12_overBy_86 : decode cX12_overBy 86 = .ok (.getfield 57, 3) := by decide +kernel
theorem dX12_overBy_89 : decode cX12_overBy 89 = .ok (.iload 6, 2) := by decide +kernel
theorem dX12_overBy_91 : decode cX12_overBy 91 = .ok (.iaload, 1) := by decide +kernel
theorem dX12_overBy_92 : decode cX12_overBy 92 = .ok (.if_icmp .ge 8, 3) := by decide +kernel
theorem dX12_overBy_95 : decode cX12_overBy 95 = .ok (.iload 7, 2) := by decide +kernel
theorem dX12_overBy_97 : decode cX12_overBy 97 = .ok (.goto 5, 3) := by decide +kernel
theorem dX12_overBy_100 : decode cX12_overBy 100 = .ok (.iload 6, 2) := by decide +kernel
theorem dX12_overBy_102 : decode cX12_overBy 102 = .ok (.istore 8, 2) := by decide +kernel
theorem dX12_overBy_104 : decode cX12_overBy 104 = .ok (.aload_n 0, 1) := by decide +kernel
theorem dX12_overBy_105 : decode cX12_overBy 105 = .ok (.getfield 51, 3) := by decide +kernel
theorem dX12_overBy_108 : decode cX12_overBy 108 = .ok (.iload 4, 2) := by decide +kernel
theorem dX12_overBy_110 : decode cX12_overBy 110 = .ok (.aload_n 0, 1) := by decide +kernel
theorem dX12_overBy_111 : decode cX12_overBy 111 = .ok (.getfield 57, 3) := by decide +kernel
theorem dX12_overBy_114 : decode cX12_overBy 114 = .ok (.iload 8, 2) := by decide +kernel
theorem dX12_overBy_116 : decode cX12_overBy 116 = .ok (.iaload, 1) := by decide +kernel
theorem dX12_overBy_117 : decode cX12_overBy 117 = .ok (.sipush 1000, 3) := by decide +kernel
theorem dX12_overBy_120 : decode cX12_overBy 120 = .ok (.if_icmp .lt 7, 3) := by decide +kernel
theorem dX12_overBy_123 : decode cX12_overBy 123 = .ok (.iconst (-1), 1) := by decide +kernel
theorem dX12_overBy_124 : decode cX12_overBy 124 = .ok (.goto 5, 3) := by decide +kernel
theorem dX12_overBy_127 : decode cX12_overBy 127 = .ok (.iload 8, 2) := by decide +kernel
theorem dX12_overBy_129 : decode cX12_overBy 129 = .ok (.iastore, 1) := by decide +kernel
theorem dX12_overBy_130 : decode cX12_overBy 130 = .ok (.iload_n 3, 1) := by decide +kernel
theorem dX12_overBy_131 : decode cX12_overBy 131 = .ok (.aload_n 0, 1) := by decide +kernel
theorem dX12_overBy_132 : decode cX12_overBy 132 = .ok (.getfield 57, 3) := by decide +kernel
theorem dX12_overBy_135 : decode cX12_overBy 135 = .ok (.iload 8, 2) := by decide +kernel
theorem dX12_overBy_137 : decode cX12_overBy 137 = .ok (.iaload, 1) := by decide +kernel
theorem dX12_overBy_138 : decode cX12_overBy 138 = .ok (.sipush 1000, 3) := by decide +kernel
theorem dX12_overBy_141 : decode cX12_overBy 141 = .ok (.if_icmp .lt 7, 3) := by decide +kernel
theorem dX12_overBy_144 : decode cX12_overBy 144 = .ok (.iconst 1, 1) := by decide +kernel
theorem dX12_overBy_145 : decode cX12_overBy 145 = .ok (.goto 4, 3) := by decide +kernel
theorem dX12_overBy_148 : decode cX12_overBy 148 = .ok (.iconst 0, 1) := by decide +kernel
theorem dX12_overBy_149 : decode cX12_overBy 149 = .ok (.iadd, 1) := by decide +kernel
theorem dX12_overBy_150 : decode cX12_overBy 150 = .ok (.istore_n 3, 1) := by decide +kernel
theorem dX12_overBy_151 : decode cX12_overBy 151 = .ok (.aload_n 0, 1) := by decide +kernel
theorem dX12_overBy_152 : decode cX12_overBy 152 = .ok (.getfield 57, 3) := by decide +kernel
theorem dX12_overBy_155 : decode cX12_overBy 155 = .ok (.iload 8, 2) := by decide +kernel
theorem dX12_overBy_157 : decode cX12_overBy 157 = .ok (.iaload, 1) := by decide +kernel
theorem dX12_overBy_158 : decode cX12_overBy 158 = .ok (.sipush 1000, 3) := by decide +kernel
theorem dX12_overBy_161 : decode cX12_overBy 161 = .ok (.if_icmp .lt 6, 3) := by decide +kernel
theorem dX12_overBy_164 : decode cX12_overBy 164 = .ok (.goto 134, 3) := by decide +kernel
theorem dX12_overBy_167 : decode cX12_overBy 167 = .ok (.iload 4, 2) := by decide +kernel
theorem dX12_overBy_169 : decode cX12_overBy 169 = .ok (.istore 9, 2) := by decide +kernel
theorem dX12_overBy_171 : decode cX12_overBy 171 = .ok (.aload_n 0, 1) := by decide +kernel
theorem dX12_overBy_172 : decode cX12_overBy 172 = .ok (.getfield 57, 3) := by decide +kernel
theorem dX12_overBy_175 : decode cX12_overBy 175 = .ok (.iload 8, 2) := by decide +kernel
theorem dX12_overBy_177 : decode cX12_overBy 177 = .ok (.iaload, 1) := by decide +kernel
theorem dX12_overBy_178 : decode cX12_overBy 178 = .ok (.ifCond .le 109, 3) := by decide +kernel
theorem dX12_overBy_181 : decode cX12_overBy 181 = .ok (.iconst 0, 1) := by decide +kernel
theorem dX12_overBy_182 : decode cX12_overBy 182 = .ok (.istore 10, 2) := by decide +kernel
theorem dX12_overBy_184 : decode cX12_overBy 184 = .ok (.iload 10, 2) := by decide +kernel
theorem dX12_overBy_186 : decode cX12_overBy 186 = .ok (.iload 9, 2) := by decide +kernel
theorem dX12_overBy_188 : decode cX12_overBy 188 = .ok (.if_icmp .eq 57, 3) := by decide +kernel
theorem dX12_overBy_191 : decode cX12_overBy 191 = .ok (.iload 10, 2) := by decide +kernel
theorem dX12_overBy_193 : decode cX12_overBy 193 = .ok (.iload 4, 2) := by decide +kernel
theorem dX12_overBy_195 : decode cX12_overBy 195 = .ok (.if_icmp .ge 50, 3) := by decide +kernel
theorem dX12_overBy_198 : decode cX12_overBy 198 = .ok (.aload_n 0, 1) := by decide +kernel
theorem dX12_overBy_199 : decode cX12_overBy 199 = .ok (.getfield 51, 3) := by decide +kernel
theorem dX12_overBy_202 : decode cX12_overBy 202 = .ok (.iload 10, 2) := by decide +kernel
theorem dX12_overBy_204 : decode cX12_overBy 204 = .ok (.iaload, 1) := by decide +kernel
theorem dX12_overBy_205 : decode cX12_overBy 205 = .ok (.iload 8, 2) := by decide +kernel
theorem dX12_overBy_207 : decode cX12_overBy 207 = .ok (.if_icmp .ne 38, 3) := by decide +kernel
theorem dX12_overBy_210 : decode cX12_overBy 210 = .ok (.aload_n 0, 1) := by decide +kernel
theorem dX12_overBy_211 : decode cX12_overBy 211 = .ok (.getfield 57, 3) := by decide +kernel
theorem dX12_overBy_214 : decode cX12_overBy 214 = .ok (.aload_n 0, 1) := by decide +kernel
theorem dX12_overBy_215 : decode cX12_overBy 215 = .ok (.aload_n 0, 1) := by decide +kernel
theorem dX12_overBy_216 : decode cX12_overBy 216 = .ok (.getfield 39, 3) := by decide +kernel
theorem dX12_overBy_219 : decode cX12_overBy 219 = .ok (.iconst 4, 1) := by decide +kernel
theorem dX12_overBy_220 : decode cX12_overBy 220 = .ok (.iload 10, 2) := by decide +kernel
theorem dX12_overBy_222 : decode cX12_overBy 222 = .ok (.imul, 1) := by decide +kernel
