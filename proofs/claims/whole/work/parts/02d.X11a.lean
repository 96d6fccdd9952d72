theorem dX11_init_0 : decode cX11_init 0 = .ok (.aload_n 0, 1) := by decide +kernel
theorem dX11_init_1 : decode cX11_init 1 = .ok (.invokespecial 3, 3) := by decide +kernel
theorem dX11_init_4 : decode cX11_init 4 = .ok (.aload_n 0, 1) := by decide +kernel
theorem dX11_init_5 : decode cX11_init 5 = .ok (.new 9, 3) := by decide +kernel
theorem dX11_init_8 : decode cX11_init 8 = .ok (.dup, 1) := by decide +kernel
theorem dX11_init_9 : decode cX11_init 9 = .ok (.invokespecial 11, 3) := by decide +kernel
theorem dX11_init_12 : decode cX11_init 12 = .ok (.putfield 12, 3) := by decide +kernel
theorem dX11_init_15 : decode cX11_init 15 = .ok (.aload_n 0, 1) := by decide +kernel
theorem dX11_init_16 : decode cX11_init 16 = .ok (.iconst 3, 1) := by decide +kernel
theorem dX11_init_17 : decode cX11_init 17 = .ok (.anewarray 9, 3) := by decide +kernel
theorem dX11_init_20 : decode cX11_init 20 = .ok (.putfield 16, 3) := by decide +kernel
theorem dX11_init_23 : decode cX11_init 23 = .ok (.aload_n 0, 1) := by decide +kernel
theorem dX11_init_24 : decode cX11_init 24 = .ok (.new 20, 3) := by decide +kernel
theorem dX11_init_27 : decode cX11_init 27 = .ok (.dup, 1) := by decide +kernel
theorem dX11_init_28 : decode cX11_init 28 = .ok (.bipush 64, 2) := by decide +kernel
theorem dX11_init_30 : decode cX11_init 30 = .ok (.invokespecial 22, 3) := by decide +kernel
theorem dX11_init_33 : decode cX11_init 33 = .ok (.putfield 25, 3) := by decide +kernel
theorem dX11_init_36 : decode cX11_init 36 = .ok (.aload_n 0, 1) := by decide +kernel
theorem dX11_init_37 : decode cX11_init 37 = .ok (.new 29, 3) := by decide +kernel
theorem dX11_init_40 : decode cX11_init 40 = .ok (.dup, 1) := by decide +kernel
theorem dX11_init_41 : decode cX11_init 41 = .ok (.invokespecial 31, 3) := by decide +kernel
theorem dX11_init_44 : decode cX11_init 44 = .ok (.putfield 32, 3) := by decide +kernel
theorem dX11_init_47 : decode cX11_init 47 = .ok (.aload_n 0, 1) := by decide +kernel
theorem dX11_init_48 : decode cX11_init 48 = .ok (.new 36, 3) := by decide +kernel
theorem dX11_init_51 : decode cX11_init 51 = .ok (.dup, 1) := by decide +kernel
theorem dX11_init_52 : decode cX11_init 52 = .ok (.aload_n 0, 1) := by decide +kernel
theorem dX11_init_53 : decode cX11_init 53 = .ok (.getfield 32, 3) := by decide +kernel
theorem dX11_init_56 : decode cX11_init 56 = .ok (.invokespecial 38, 3) := by decide +kernel
theorem dX11_init_59 : decode cX11_init 59 = .ok (.putfield 41, 3) := by decide +kernel
theorem dX11_init_62 : decode cX11_init 62 = .ok (.aload_n 0, 1) := by decide +kernel
theorem dX11_init_63 : decode cX11_init 63 = .ok (.new 45, 3) := by decide +kernel
theorem dX11_init_66 : decode cX11_init 66 = .ok (.dup, 1) := by decide +kernel
theorem dX11_init_67 : decode cX11_init 67 = .ok (.invokespecial 47, 3) := by decide +kernel
theorem dX11_init_70 : decode cX11_init 70 = .ok (.putfield 48, 3) := by decide +kernel
theorem dX11_init_73 : decode cX11_init 73 = .ok (.aload_n 0, 1) := by decide +kernel
theorem dX11_init_74 : decode cX11_init 74 = .ok (.new 52, 3) := by decide +kernel
theorem dX11_init_77 : decode cX11_init 77 = .ok (.dup, 1) := by decide +kernel
theorem dX11_init_78 : decode cX11_init 78 = .ok (.aload_n 0, 1) := by decide +kernel
theorem dX11_init_79 : decode cX11_init 79 = .ok (.getfield 41, 3) := by decide +kernel
theorem dX11_init_82 : decode cX11_init 82 = .ok (.aload_n 0, 1) := by decide +kernel
theorem dX11_init_83 : decode cX11_init 83 = .ok (.getfield 48, 3) := by decide +kernel
theorem dX11_init_86 : decode cX11_init 86 = .ok (.invokespecial 54, 3) := by decide +kernel
theorem dX11_init_89 : decode cX11_init 89 = .ok (.putfield 57, 3) := by decide +kernel
theorem dX11_init_92 : decode cX11_init 92 = .ok (.aload_n 0, 1) := by decide +kernel
theorem dX11_init_93 : decode cX11_init 93 = .ok (.new 61, 3) := by decide +kernel
theorem dX11_init_96 : decode cX11_init 96 = .ok (.dup, 1) := by decide +kernel
theorem dX11_init_97 : decode cX11_init 97 = .ok (.invokespecial 63, 3) := by decide +kernel
theorem dX11_init_100 : decode cX11_init 100 = .ok (.putfield 64, 3) := by decide +kernel
theorem dX11_init_103 : decode cX11_init 103 = .ok (.aload_n 0, 1) := by decide +kernel
theorem dX11_init_104 : decode cX11_init 104 = .ok (.new 68, 3) := by decide +kernel
theorem dX11_init_107 : decode cX11_init 107 = .ok (.dup, 1) := by decide +kernel
theorem dX11_init_108 : decode cX11_init 108 = .ok (.aload_n 0, 1) := by decide +kernel
theorem dX11_init_109 : decode cX11_init 109 = .ok (.getfield 41, 3) := by decide +kernel
theorem dX11_init_112 : decode cX11_init 112 = .ok (.invokespecial 70, 3) := by decide +kernel
theorem dX11_init_115 : decode cX11_init 115 = .ok (.putfield 73, 3) := by decide +kernel
theorem dX11_init_118 : decode cX11_init 118 = .ok (.aload_n 0, 1) := by decide +kernel
theorem dX11_init_119 : decode cX11_init 119 = .ok (.new 77, 3) := by decide +kernel
theorem dX11_init_122 : decode cX11_init 122 = .ok (.dup, 1) := by decide +kernel
theorem dX11_init_123 : decode cX11_init 123 = .ok (.aload_n 0, 1) := by decide +kernel
theorem dX11_init_124 : decode cX11_init 124 = .ok (.getfield 12, 3) := by decide +kernel
theorem dX11_init_127 : decode cX11_init 127 = .ok (.getfield 79, 3) := by decide +kernel
theorem dX11_init_130 : decode cX11_init 130 = .ok (.invokespecial 83, 3) := by decide +kernel
theorem dX11_init_133 : decode cX11_init 133 = .ok (.putfield 86, 3) := by decide +kernel
theorem dX11_init_136 : decode cX11_init 136 = .ok (.return_, 1) := by decide +kernel
theorem dX11_feed_0 : decode cX11_feed 0 = .ok (.aload_n 0, 1) := by decide +kernel
theorem dX11_feed_1 : decode cX11_feed 1 = .ok (.getfield 12, 3) := by decide +kernel
theorem dX11_feed_4 : decode cX11_feed 4 = .ok (.getfield 90, 3) := by decide +kernel
theorem dX11_feed_7 : decode cX11_feed 7 = .ok (.bipush 20, 2) := by decide +kernel
theorem dX11_feed_9 : decode cX11_feed 9 = .ok (.iadd, 1) := by decide +kernel
theorem dX11_feed_10 : decode cX11_feed 10 = .ok (.sipush 400, 3) := by decide +kernel
theorem dX11_feed_13 : decode cX11_feed 13 = .ok (.if_icmp .le 5, 3) := by decide +kernel
theorem dX11_feed_16 : decode cX11_feed 16 = .ok (.iconst (-1), 1) := by decide +kernel
theorem dX11_feed_17 : decode cX11_feed 17 = .ok (.ireturn, 1) := by decide +kernel
theorem dX11_feed_18 : decode cX11_feed 18 = .ok (.aload_n 0, 1) := by decide +kernel
theorem dX11_feed_19 : decode cX11_feed 19 = .ok (.getfield 12, 3) := by decide +kernel
theorem dX11_feed_22 : decode cX11_feed 22 = .ok (.iload_n 1, 1) := by decide +kernel
theorem dX11_feed_23 : decode cX11_feed 23 = .ok (.invokevirtual 94, 3) := by decide +kernel
theorem dX11_feed_26 : decode cX11_feed 26 = .ok (.aload_n 0, 1) := by decide +kernel
theorem dX11_feed_27 : decode cX11_feed 27 = .ok (.getfield 12, 3) := by decide +kernel
theorem dX11_feed_30 : decode cX11_feed 30 = .ok (.iload_n 2, 1) := by decide +kernel
theorem dX11_feed_31 : decode cX11_feed 31 = .ok (.invokevirtual 94, 3) := by decide +kernel
theorem dX11_feed_34 : decode cX11_feed 34 = .ok (.aload_n 0, 1) := by decide +kernel
theorem dX11_feed_35 : decode cX11_feed 35 = .ok (.getfield 12, 3) := by decide +kernel
theorem dX11_feed_38 : decode cX11_feed 38 = .ok (.iload_n 3, 1) := by decide +kernel
theorem dX11_feed_39 : decode cX11_feed 39 = .ok (.invokevirtual 94, 3) := by decide +kernel
theorem dX11_feed_42 : decode cX11_feed 42 = .ok (.aload_n 0, 1) := by decide +kernel
theorem dX11_feed_43 : decode cX11_feed 43 = .ok (.getfield 12, 3) := by decide +kernel
theorem dX11_feed_46 : decode cX11_feed 46 = .ok (.iload 4, 2) := by decide +kernel
theorem dX11_feed_48 : decode cX11_feed 48 = .ok (.invokevirtual 94, 3) := by decide +kernel
theorem dX11_feed_51 : decode cX11_feed 51 = .ok (.aload_n 0, 1) := by decide +kernel
theorem dX11_feed_52 : decode cX11_feed 52 = .ok (.getfield 12, 3) := by decide +kernel
theorem dX11_feed_55 : decode cX11_feed 55 = .ok (.iload 5, 2) := by decide +kernel
theorem dX11_feed_57 : decode cX11_feed 57 = .ok (.invokevirtual 94, 3) := by decide +kernel
theorem dX11_feed_60 : decode cX11_feed 60 = .ok (.aload_n 0, 1) := by decide +kernel
theorem dX11_feed_61 : decode cX11_feed 61 = .ok (.getfield 12, 3) := by decide +kernel
theorem dX11_feed_64 : decode cX11_feed 64 = .ok (.getfield 90, 3) := by decide +kernel
theorem dX11_feed_67 : decode cX11_feed 67 = .ok (.ireturn, 1) := by decide +kernel
theorem dX11_end_0 : decode cX11_end 0 = .ok (.iload_n 1, 1) := by decide +kernel
theorem dX11_end_1 : decode cX11_end 1 = .ok (.ifCond .lt 14, 3) := by decide +kernel
theorem dX11_end_4 : decode cX11_end 4 = .ok (.iload_n 1, 1) := by decide +kernel
theorem dX11_end_5 : decode cX11_end 5 = .ok (.aload_n 0, 1) := by decide +kernel
theorem dX11_end_6 : decode cX11_end 6 = .ok (.getfield 12, 3) := by decide +kernel
theorem dX11_end_9 : decode cX11_end 9 = .ok (.getfield 90, 3) := by decide +kernel
theorem dX11_end_12 : decode cX11_end 12 = .ok (.if_icmp .le 5, 3) := by decide +kernel
theorem dX11_end_15 : decode cX11_end 15 = .ok (.iconst (-1), 1) := by decide +kernel
theorem dX11_end_16 : decode cX11_end 16 = .ok (.ireturn, 1) := by decide +kernel
theorem dX11_end_17 : decode cX11_end 17 = .ok (.aload_n 0, 1) := by decide +kernel
theorem dX11_end_18 : decode cX11_end 18 = .ok (.getfield 12, 3) := by decide +kernel
theorem dX11_end_21 : decode cX11_end 21 = .ok (.iload_n 1, 1) := by decide +kernel
theorem dX11_end_22 : decode cX11_end 22 = .ok (.putfield 90, 3) := by decide +kernel
theorem dX11_end_25 : decode cX11_end 25 = .ok (.iload_n 1, 1) := by decide +kernel
theorem dX11_end_26 : decode cX11_end 26 = .ok (.ireturn, 1) := by decide +kernel
theorem dX11_text_0 : decode cX11_text 0 = .ok (.aload_n 0, 1) := by decide +kernel
theorem dX11_text_1 : decode cX11_text 1 = .ok (.getfield 86, 3) := by decide +kernel
theorem dX11_text_4 : decode cX11_text 4 = .ok (.aload_n 0, 1) := by decide +kernel
theorem dX11_text_5 : decode cX11_text 5 = .ok (.getfield 12, 3) := by decide +kernel
theorem dX11_text_8 : decode cX11_text 8 = .ok (.getfield 90, 3) := by decide +kernel
theorem dX11_text_11 : decode cX11_text 11 = .ok (.invokevirtual 97, 3) := by decide +kernel
theorem dX11_text_14 : decode cX11_text 14 = .ok (.ifCond .eq 25, 3) := by decide +kernel
theorem dX11_text_17 : decode cX11_text 17 = .ok (.aload_n 0, 1) := by decide +kernel
theorem dX11_text_18 : decode cX11_text 18 = .ok (.getfield 86, 3) := by decide +kernel
theorem dX11_text_21 : decode cX11_text 21 = .ok (.aload_n 0, 1) := by decide +kernel
theorem dX11_text_22 : decode cX11_text 22 = .ok (.getfield 25, 3) := by decide +kernel
theorem dX11_text_25 : decode cX11_text 25 = .ok (.aload_n 0, 1) := by decide +kernel
theorem dX11_text_26 : decode cX11_text 26 = .ok (.getfield 57, 3) := by decide +kernel
theorem dX11_text_29 : decode cX11_text 29 = .ok (.invokevirtual 101, 3) := by decide +kernel
theorem dX11_text_32 : decode cX11_text 32 = .ok (.ifCond .eq 7, 3) := by decide +kernel
theorem dX11_text_35 : decode cX11_text 35 = .ok (.iconst 1, 1) := by decide +kernel
theorem dX11_text_36 : decode cX11_text 36 = .ok (.goto 4, 3) := by decide +kernel
theorem dX11_text_39 : decode cX11_text 39 = .ok (.iconst 0, 1) := by decide +kernel
theorem dX11_text_40 : decode cX11_text 40 = .ok (.istore_n 1, 1) := by decide +kernel
theorem dX11_text_41 : decode cX11_text 41 = .ok (.aload_n 0, 1) := by decide +kernel
theorem dX11_text_42 : decode cX11_text 42 = .ok (.getfield 12, 3) := by decide +kernel
theorem dX11_text_45 : decode cX11_text 45 = .ok (.iconst 0, 1) := by decide +kernel
theorem dX11_text_46 : decode cX11_text 46 = .ok (.putfield 90, 3) := by decide +kernel
theorem dX11_text_49 : decode cX11_text 49 = .ok (.aload_n 0, 1) := by decide +kernel
theorem dX11_text_50 : decode cX11_text 50 = .ok (.getfield 12, 3) := by decide +kernel
theorem dX11_text_53 : decode cX11_text 53 = .ok (.aload_n 0, 1) := by decide +kernel
theorem dX11_text_54 : decode cX11_text 54 = .ok (.getfield 86, 3) := by decide +kernel
theorem dX11_text_57 : decode cX11_text 57 = .ok (.getfield 105, 3) := by decide +kernel
theorem dX11_text_60 : decode cX11_text 60 = .ok (.putfield 108, 3) := by decide +kernel
theorem dX11_text_63 : decode cX11_text 63 = .ok (.aload_n 0, 1) := by decide +kernel
theorem dX11_text_64 : decode cX11_text 64 = .ok (.getfield 12, 3) := by decide +kernel
theorem dX11_text_67 : decode cX11_text 67 = .ok (.aload_n 0, 1) := by decide +kernel
theorem dX11_text_68 : decode cX11_text 68 = .ok (.getfield 86, 3) := by decide +kernel
theorem dX11_text_71 : decode cX11_text 71 = .ok (.getfield 109, 3) := by decide +kernel
theorem dX11_text_74 : decode cX11_text 74 = .ok (.putfield 112, 3) := by decide +kernel
theorem dX11_text_77 : decode cX11_text 77 = .ok (.iload_n 1, 1) := by decide +kernel
theorem dX11_text_78 : decode cX11_text 78 = .ok (.ifCond .ne 5, 3) := by decide +kernel
theorem dX11_text_81 : decode cX11_text 81 = .ok (.iconst (-1), 1) := by decide +kernel
theorem dX11_text_82 : decode cX11_text 82 = .ok (.ireturn, 1) := by decide +kernel
theorem dX11_text_83 : decode cX11_text 83 = .ok (.aload_n 0, 1) := by decide +kernel
theorem dX11_text_84 : decode cX11_text 84 = .ok (.getfield 12, 3) := by decide +kernel
theorem dX11_text_87 : decode cX11_text 87 = .ok (.getfield 113, 3) := by decide +kernel
theorem dX11_text_90 : decode cX11_text 90 = .ok (.aload_n 0, 1) := by decide +kernel
theorem dX11_text_91 : decode cX11_text 91 = .ok (.getfield 25, 3) := by decide +kernel
theorem dX11_text_94 : decode cX11_text 94 = .ok (.invokevirtual 116, 3) := by decide +kernel
theorem dX11_text_97 : decode cX11_text 97 = .ok (.aload_n 0, 1) := by decide +kernel
theorem dX11_text_98 : decode cX11_text 98 = .ok (.getfield 12, 3) := by decide +kernel
theorem dX11_text_101 : decode cX11_text 101 = .ok (.getfield 113, 3) := by decide +kernel
theorem dX11_text_104 : decode cX11_text 104 = .ok (.invokevirtual 120, 3) := by decide +kernel
theorem dX11_text_107 : decode cX11_text 107 = .ok (.ireturn, 1) := by decide +kernel
theorem dX11_fault_0 : decode cX11_fault 0 = .ok (.iload_n 1, 1) := by decide +kernel
theorem dX11_fault_1 : decode cX11_fault 1 = .ok (.ifCond .ne 11, 3) := by decide +kernel
theorem dX11_fault_4 : decode cX11_fault 4 = .ok (.aload_n 0, 1) := by decide +kernel
theorem dX11_fault_5 : decode cX11_fault 5 = .ok (.getfield 12, 3) := by decide +kernel
theorem dX11_fault_8 : decode cX11_fault 8 = .ok (.getfield 108, 3) := by decide +kernel
theorem dX11_fault_11 : decode cX11_fault 11 = .ok (.ireturn, 1) := by decide +kernel
theorem dX11_fault_12 : decode cX11_fault 12 = .ok (.iload_n 1, 1) := by decide +kernel
theorem dX11_fault_13 : decode cX11_fault 13 = .ok (.iconst 1, 1) := by decide +kernel
theorem dX11_fault_14 : decode cX11_fault 14 = .ok (.if_icmp .ne 13, 3) := by decide +kernel
theorem dX11_fault_17 : decode cX11_fault 17 = .ok (.aload_n 0, 1) := by decide +kernel
theorem dX11_fault_18 : decode cX11_fault 18 = .ok (.getfield 12, 3) := by decide +kernel
theorem dX11_fault_21 : decode cX11_fault 21 = .ok (.getfield 112, 3) := by decide +kernel
theorem dX11_fault_24 : decode cX11_fault 24 = .ok (.goto 4, 3) := by decide +kernel
theorem dX11_fault_27 : decode cX11_fault 27 = .ok (.iconst (-1), 1) := by decide +kernel
theorem dX11_fault_28 : decode cX11_fault 28 = .ok (.ireturn, 1) := by decide +kernel
theorem dX11_put_0 : decode cX11_put 0 = .ok (.iload_n 1, 1) := by decide +kernel
theorem dX11_put_1 : decode cX11_put 1 = .ok (.invokestatic 124, 3) := by decide +kernel
theorem dX11_put_4 : decode cX11_put 4 = .ok (.ifCond .eq 10, 3) := by decide +kernel
theorem dX11_put_7 : decode cX11_put 7 = .ok (.iload_n 2, 1) := by decide +kernel
theorem dX11_put_8 : decode cX11_put 8 = .ok (.invokestatic 124, 3) := by decide +kernel
theorem dX11_put_11 : decode cX11_put 11 = .ok (.ifCond .ne 5, 3) := by decide +kernel
theorem dX11_put_14 : decode cX11_put 14 = .ok (.iconst (-1), 1) := by decide +kernel
theorem dX11_put_15 : decode cX11_put 15 = .ok (.ireturn, 1) := by decide +kernel
theorem dX11_put_16 : decode cX11_put 16 = .ok (.aload_n 0, 1) := by decide +kernel
theorem dX11_put_17 : decode cX11_put 17 = .ok (.getfield 57, 3) := by decide +kernel
theorem dX11_put_20 : decode cX11_put 20 = .ok (.aload_n 0, 1) := by decide +kernel
theorem dX11_put_21 : decode cX11_put 21 = .ok (.getfield 12, 3) := by decide +kernel
theorem dX11_put_24 : decode cX11_put 24 = .ok (.getfield 113, 3) := by decide +kernel
theorem dX11_put_27 : decode cX11_put 27 = .ok (.iload_n 1, 1) := by decide +kernel
theorem dX11_put_28 : decode cX11_put 28 = .ok (.iload_n 2, 1) := by decide +kernel
theorem dX11_put_29 : decode cX11_put 29 = .ok (.invokevirtual 127, 3) := by decide +kernel
theorem dX11_put_32 : decode cX11_put 32 = .ok (.ireturn, 1) := by decide +kernel
theorem dX11_get_0 : decode cX11_get 0 = .ok (.iload_n 1, 1) := by decide +kernel
theorem dX11_get_1 : decode cX11_get 1 = .ok (.invokestatic 124, 3) := by decide +kernel
theorem dX11_get_4 : decode cX11_get 4 = .ok (.ifCond .ne 5, 3) := by decide +kernel
theorem dX11_get_7 : decode cX11_get 7 = .ok (.iconst (-1), 1) := by decide +kernel
theorem dX11_get_8 : decode cX11_get 8 = .ok (.ireturn, 1) := by decide +kernel
theorem dX11_get_9 : decode cX11_get 9 = .ok (.aload_n 0, 1) := by decide +kernel
theorem dX11_get_10 : decode cX11_get 10 = .ok (.getfield 12, 3) := by decide +kernel
theorem dX11_get_13 : decode cX11_get 13 = .ok (.getfield 113, 3) := by decide +kernel
theorem dX11_get_16 : decode cX11_get 16 = .ok (.astore_n 2, 1) := by decide +kernel
theorem dX11_get_17 : decode cX11_get 17 = .ok (.aload_n 2, 1) := by decide +kernel
theorem dX11_get_18 : decode cX11_get 18 = .ok (.iload_n 1, 1) := by decide +kernel
theorem dX11_get_19 : decode cX11_get 19 = .ok (.invokevirtual 131, 3) := by decide +kernel
theorem dX11_get_22 : decode cX11_get 22 = .ok (.istore_n 3, 1) := by decide +kernel
theorem dX11_get_23 : decode cX11_get 23 = .ok (.aload_n 2, 1) := by decide +kernel
theorem dX11_get_24 : decode cX11_get 24 = .ok (.dup, 1) := by decide +kernel
theorem dX11_get_25 : decode cX11_get 25 = .ok (.getfield 135, 3) := by decide +kernel
theorem dX11_get_28 : decode cX11_get 28 = .ok (.aload_n 2, 1) := by decide +kernel
theorem dX11_get_29 : decode cX11_get 29 = .ok (.iload_n 1, 1) := by decide +kernel
theorem dX11_get_30 : decode cX11_get 30 = .ok (.iload_n 3, 1) := by decide +kernel
theorem dX11_get_31 : decode cX11_get 31 = .ok (.invokevirtual 137, 3) := by decide +kernel
theorem dX11_get_34 : decode cX11_get 34 = .ok (.iadd, 1) := by decide +kernel
theorem dX11_get_35 : decode cX11_get 35 = .ok (.putfield 135, 3) := by decide +kernel
theorem dX11_get_38 : decode cX11_get 38 = .ok (.iload_n 3, 1) := by decide +kernel
theorem dX11_get_39 : decode cX11_get 39 = .ok (.ifCond .ge 7, 3) := by decide +kernel
theorem dX11_get_42 : decode cX11_get 42 = .ok (.iconst (-1), 1) := by decide +kernel
theorem dX11_get_43 : decode cX11_get 43 = .ok (.goto 9, 3) := by decide +kernel
theorem dX11_get_46 : decode cX11_get 46 = .ok (.aload_n 2, 1) := by decide +kernel
theorem dX11_get_47 : decode cX11_get 47 = .ok (.getfield 141, 3) := by decide +kernel
theorem dX11_get_50 : decode cX11_get 50 = .ok (.iload_n 3, 1) := by decide +kernel
theorem dX11_get_51 : decode cX11_get 51 = .ok (.iaload, 1) := by decide +kernel
theorem dX11_get_52 : decode cX11_get 52 = .ok (.ireturn, 1) := by decide +kernel
theorem dX11_drop_0 : decode cX11_drop 0 = .ok (.iload_n 1, 1) := by decide +kernel
theorem dX11_drop_1 : decode cX11_drop 1 = .ok (.invokestatic 124, 3) := by decide +kernel
theorem dX11_drop_4 : decode cX11_drop 4 = .ok (.ifCond .eq 21, 3) := by decide +kernel
theorem dX11_drop_7 : decode cX11_drop 7 = .ok (.aload_n 0, 1) := by decide +kernel
theorem dX11_drop_8 : decode cX11_drop 8 = .ok (.getfield 57, 3) := by decide +kernel
theorem dX11_drop_11 : decode cX11_drop 11 = .ok (.aload_n 0, 1) := by decide +kernel
theorem dX11_drop_12 : decode cX11_drop 12 = .ok (.getfield 12, 3) := by decide +kernel
theorem dX11_drop_15 : decode cX11_drop 15 = .ok (.getfield 113, 3) := by decide +kernel
theorem dX11_drop_18 : decode cX11_drop 18 = .ok (.iload_n 1, 1) := by decide +kernel
theorem dX11_drop_19 : decode cX11_drop 19 = .ok (.invokevirtual 145, 3) := by decide +kernel
theorem dX11_drop_22 : decode cX11_drop 22 = .ok (.goto 4, 3) := by decide +kernel
theorem dX11_drop_25 : decode cX11_drop 25 = .ok (.iconst (-1), 1) := by decide +kernel
theorem dX11_drop_26 : decode cX11_drop 26 = .ok (.ireturn, 1) := by decide +kernel
theorem dX11_settle_0 : decode cX11_settle 0 = .ok (.aload_n 0, 1) := by decide +kernel
theorem dX11_settle_1 : decode cX11_settle 1 = .ok (.getfield 41, 3) := by decide +kernel
theorem dX11_settle_4 : decode cX11_settle 4 = .ok (.aload_n 0, 1) := by decide +kernel
theorem dX11_settle_5 : decode cX11_settle 5 = .ok (.getfield 12, 3) := by decide +kernel
theorem dX11_settle_8 : decode cX11_settle 8 = .ok (.getfield 113, 3) := by decide +kernel
theorem dX11_settle_11 : decode cX11_settle 11 = .ok (.iconst 1, 1) := by decide +kernel
theorem dX11_settle_12 : decode cX11_settle 12 = .ok (.invokevirtual 149, 3) := by decide +kernel
theorem dX11_settle_15 : decode cX11_settle 15 = .ok (.ireturn, 1) := by decide +kernel
theorem dX11_rehash_0 : decode cX11_rehash 0 = .ok (.iload_n 1, 1) := by decide +kernel
theorem dX11_rehash_1 : decode cX11_rehash 1 = .ok (.iload_n 2, 1) := by decide +kernel
theorem dX11_rehash_2 : decode cX11_rehash 2 = .ok (.invokestatic 153, 3) := by decide +kernel
theorem dX11_rehash_5 : decode cX11_rehash 5 = .ok (.ifCond .eq 38, 3) := by decide +kernel
theorem dX11_rehash_8 : decode cX11_rehash 8 = .ok (.iload_n 3, 1) := by decide +kernel
theorem dX11_rehash_9 : decode cX11_rehash 9 = .ok (.iload 4, 2) := by decide +kernel
theorem dX11_rehash_11 : decode cX11_rehash 11 = .ok (.invokestatic 153, 3) := by decide +kernel
theorem dX11_rehash_14 : decode cX11_rehash 14 = .ok (.ifCond .eq 29, 3) := by decide +kernel
theorem dX11_rehash_17 : decode cX11_rehash 17 = .ok (.aload_n 0, 1) := by decide +kernel
theorem dX11_rehash_18 : decode cX11_rehash 18 = .ok (.getfield 57, 3) := by decide +kernel
theorem dX11_rehash_21 : decode cX11_rehash 21 = .ok (.aload_n 0, 1) := by decide +kernel
theorem dX11_rehash_22 : decode cX11_rehash 22 = .ok (.getfield 12, 3) := by decide +kernel
theorem dX11_rehash_25 : decode cX11_rehash 25 = .ok (.getfield 113, 3) := by decide +kernel
theorem dX11_rehash_28 : decode cX11_rehash 28 = .ok (.iload_n 1, 1) := by decide +kernel
theorem dX11_rehash_29 : decode cX11_rehash 29 = .ok (.iload_n 2, 1) := by decide +kernel
theorem dX11_rehash_30 : decode cX11_rehash 30 = .ok (.iload_n 3, 1) := by decide +kernel
theorem dX11_rehash_31 : decode cX11_rehash 31 = .ok (.iload 4, 2) := by decide +kernel
theorem dX11_rehash_33 : decode cX11_rehash 33 = .ok (.invokevirtual 157, 3) := by decide +kernel
theorem dX11_rehash_36 : decode cX11_rehash 36 = .ok (.ifCond .eq 7, 3) := by decide +kernel
theorem dX11_rehash_39 : decode cX11_rehash 39 = .ok (.iconst 1, 1) := by decide +kernel
theorem dX11_rehash_40 : decode cX11_rehash 40 = .ok (.goto 4, 3) := by decide +kernel
theorem dX11_rehash_43 : decode cX11_rehash 43 = .ok (.iconst 0, 1) := by decide +kernel
theorem dX11_rehash_44 : decode cX11_rehash 44 = .ok (.ireturn, 1) := by decide +kernel
theorem dX11_batch_0 : decode cX11_batch 0 = .ok (.aload_n 0, 1) := by decide +kernel
theorem dX11_batch_1 : decode cX11_batch 1 = .ok (.getfield 57, 3) := by decide +kernel
theorem dX11_batch_4 : decode cX11_batch 4 = .ok (.aload_n 0, 1) := by decide +kernel
theorem dX11_batch_5 : decode cX11_batch 5 = .ok (.getfield 12, 3) := by decide +kernel
theorem dX11_batch_8 : decode cX11_batch 8 = .ok (.getfield 113, 3) := by decide +kernel
theorem dX11_batch_11 : decode cX11_batch 11 = .ok (.invokevirtual 161, 3) := by decide +kernel
theorem dX11_batch_14 : decode cX11_batch 14 = .ok (.ireturn, 1) := by decide +kernel
theorem dX11_peel_0 : decode cX11_peel 0 = .ok (.aload_n 0, 1) := by decide +kernel
theorem dX11_peel_1 : decode cX11_peel 1 = .ok (.getfield 48, 3) := by decide +kernel
theorem dX11_peel_4 : decode cX11_peel 4 = .ok (.aload_n 0, 1) := by decide +kernel
theorem dX11_peel_5 : decode cX11_peel 5 = .ok (.getfield 12, 3) := by decide +kernel
theorem dX11_peel_8 : decode cX11_peel 8 = .ok (.getfield 113, 3) := by decide +kernel
theorem dX11_peel_11 : decode cX11_peel 11 = .ok (.invokevirtual 165, 3) := by decide +kernel
theorem dX11_peel_14 : decode cX11_peel 14 = .ok (.iload_n 1, 1) := by decide +kernel
theorem dX11_peel_15 : decode cX11_peel 15 = .ok (.iconst (-1), 1) := by decide +kernel
theorem dX11_peel_16 : decode cX11_peel 16 = .ok (.if_icmp .ne 15, 3) := by decide +kernel
theorem dX11_peel_19 : decode cX11_peel 19 = .ok (.iload_n 2, 1) := by decide +kernel
theorem dX11_peel_20 : decode cX11_peel 20 = .ok (.ifCond .ne 11, 3) := by decide +kernel
theorem dX11_peel_23 : decode cX11_peel 23 = .ok (.aload_n 0, 1) := by decide +kernel
theorem dX11_peel_24 : decode cX11_peel 24 = .ok (.getfield 48, 3) := by decide +kernel
theorem dX11_peel_27 : decode cX11_peel 27 = .ok (.getfield 168, 3) := by decide +kernel
theorem dX11_peel_30 : decode cX11_peel 30 = .ok (.ireturn, 1) := by decide +kernel
theorem dX11_peel_31 : decode cX11_peel 31 = .ok (.iload_n 1, 1) := by decide +kernel
theorem dX11_peel_32 : decode cX11_peel 32 = .ok (.ifCond .lt 14, 3) := by decide +kernel
theorem dX11_peel_35 : decode cX11_peel 35 = .ok (.iload_n 1, 1) := by decide +kernel
theorem dX11_peel_36 : decode cX11_peel 36 = .ok (.aload_n 0, 1) := by decide +kernel
theorem dX11_peel_37 : decode cX11_peel 37 = .ok (.getfield 48, 3) := by decide +kernel
theorem dX11_peel_40 : decode cX11_peel 40 = .ok (.getfield 168, 3) := by decide +kernel
theorem dX11_peel_43 : decode cX11_peel 43 = .ok (.if_icmp .lt 6, 3) := by decide +kernel
theorem dX11_peel_46 : decode cX11_peel 46 = .ok (.bipush (-2), 2) := by decide +kernel
theorem dX11_peel_48 : decode cX11_peel 48 = .ok (.ireturn, 1) := by decide +kernel
theorem dX11_peel_49 : decode cX11_peel 49 = .ok (.iload_n 2, 1) := by decide +kernel
theorem dX11_peel_50 : decode cX11_peel 50 = .ok (.ifCond .ne 24, 3) := by decide +kernel
theorem dX11_peel_53 : decode cX11_peel 53 = .ok (.aload_n 0, 1) := by decide +kernel
theorem dX11_peel_54 : decode cX11_peel 54 = .ok (.getfield 12, 3) := by decide +kernel
theorem dX11_peel_57 : decode cX11_peel 57 = .ok (.getfield 113, 3) := by decide +kernel
theorem dX11_peel_60 : decode cX11_peel 60 = .ok (.getfield 171, 3) := by decide +kernel
theorem dX11_peel_63 : decode cX11_peel 63 = .ok (.aload_n 0, 1) := by decide +kernel
theorem dX11_peel_64 : decode cX11_peel 64 = .ok (.getfield 48, 3) := by decide +kernel
theorem dX11_peel_67 : decode cX11_peel 67 = .ok (.getfield 174, 3) := by decide +kernel
theorem dX11_peel_70 : decode cX11_peel 70 = .ok (.iload_n 1, 1) := by decide +kernel
theorem dX11_peel_71 : decode cX11_peel 71 = .ok (.iaload, 1) := by decide +kernel
theorem dX11_peel_72 : decode cX11_peel 72 = .ok (.iaload, 1) := by decide +kernel
theorem dX11_peel_73 : decode cX11_peel 73 = .ok (.ireturn, 1) := by decide +kernel
theorem dX11_peel_74 : decode cX11_peel 74 = .ok (.iload_n 2, 1) := by decide +kernel
theorem dX11_peel_75 : decode cX11_peel 75 = .ok (.iconst 1, 1) := by decide +kernel
theorem dX11_peel_76 : decode cX11_peel 76 = .ok (.if_icmp .ne 15, 3) := by decide +kernel
theorem dX11_peel_79 : decode cX11_peel 79 = .ok (.aload_n 0, 1) := by decide +kernel
theorem dX11_peel_80 : decode cX11_peel 80 = .ok (.getfield 48, 3) := by decide +kernel
theorem dX11_peel_83 : decode cX11_peel 83 = .ok (.getfield 177, 3) := by decide +kernel
theorem dX11_peel_86 : decode cX11_peel 86 = .ok (.iload_n 1, 1) := by decide +kernel
theorem dX11_peel_87 : decode cX11_peel 87 = .ok (.iaload, 1) := by decide +kernel
theorem dX11_peel_88 : decode cX11_peel 88 = .ok (.goto 5, 3) := by decide +kernel
theorem dX11_peel_91 : decode cX11_peel 91 = .ok (.bipush (-2), 2) := by decide +kernel
theorem dX11_peel_93 : decode cX11_peel 93 = .ok (.ireturn, 1) := by decide +kernel
theorem dX11_load_0 : decode cX11_load 0 = .ok (.iload_n 2, 1) := by decide +kernel
theorem dX11_load_1 : decode cX11_load 1 = .ok (.invokestatic 180, 3) := by decide +kernel
theorem dX11_load_4 : decode cX11_load 4 = .ok (.ifCond .eq 22, 3) := by decide +kernel
theorem dX11_load_7 : decode cX11_load 7 = .ok (.aload_n 0, 1) := by decide +kernel
theorem dX11_load_8 : decode cX11_load 8 = .ok (.getfield 57, 3) := by decide +kernel
theorem dX11_load_11 : decode cX11_load 11 = .ok (.aload_n 0, 1) := by decide +kernel
theorem dX11_load_12 : decode cX11_load 12 = .ok (.getfield 12, 3) := by decide +kernel
theorem dX11_load_15 : decode cX11_load 15 = .ok (.getfield 113, 3) := by decide +kernel
theorem dX11_load_18 : decode cX11_load 18 = .ok (.iload_n 1, 1) := by decide +kernel
theorem dX11_load_19 : decode cX11_load 19 = .ok (.iload_n 2, 1) := by decide +kernel
theorem dX11_load_20 : decode cX11_load 20 = .ok (.invokevirtual 183, 3) := by decide +kernel
theorem dX11_load_23 : decode cX11_load 23 = .ok (.goto 4, 3) := by decide +kernel
theorem dX11_load_26 : decode cX11_load 26 = .ok (.iconst (-1), 1) := by decide +kernel
theorem dX11_load_27 : decode cX11_load 27 = .ok (.ireturn, 1) := by decide +kernel
theorem dX11_find_0 : decode cX11_find 0 = .ok (.aload_n 0, 1) := by decide +kernel
theorem dX11_find_1 : decode cX11_find 1 = .ok (.getfield 12, 3) := by decide +kernel
theorem dX11_find_4 : decode cX11_find 4 = .ok (.getfield 113, 3) := by decide +kernel
theorem dX11_find_7 : decode cX11_find 7 = .ok (.astore_n 3, 1) := by decide +kernel
theorem dX11_find_8 : decode cX11_find 8 = .ok (.iload_n 1, 1) := by decide +kernel
theorem dX11_find_9 : decode cX11_find 9 = .ok (.invokestatic 124, 3) := by decide +kernel
theorem dX11_find_12 : decode cX11_find 12 = .ok (.ifCond .eq 11, 3) := by decide +kernel
theorem dX11_find_15 : decode cX11_find 15 = .ok (.aload_n 3, 1) := by decide +kernel
theorem dX11_find_16 : decode cX11_find 16 = .ok (.iload_n 1, 1) := by decide +kernel
theorem dX11_find_17 : decode cX11_find 17 = .ok (.invokevirtual 131, 3) := by decide +kernel
theorem dX11_find_20 : decode cX11_find 20 = .ok (.goto 4, 3) := by decide +kernel
theorem dX11_find_23 : decode cX11_find 23 = .ok (.iconst (-1), 1) := by decide +kernel
theorem dX11_find_24 : decode cX11_find 24 = .ok (.istore 4, 2) := by decide +kernel
theorem dX11_find_26 : decode cX11_find 26 = .ok (.iload 4, 2) := by decide +kernel
theorem dX11_find_28 : decode cX11_find 28 = .ok (.ifCond .ge 5, 3) := by decide +kernel
theorem dX11_find_31 : decode cX11_find 31 = .ok (.iconst (-1), 1) := by decide +kernel
theorem dX11_find_32 : decode cX11_find 32 = .ok (.ireturn, 1) := by decide +kernel
theorem dX11_find_33 : decode cX11_find 33 = .ok (.iload 4, 2) := by decide +kernel
theorem dX11_find_35 : decode cX11_find 35 = .ok (.aload_n 3, 1) := by decide +kernel
theorem dX11_find_36 : decode cX11_find 36 = .ok (.getfield 186, 3) := by decide +kernel
theorem dX11_find_39 : decode cX11_find 39 = .ok (.if_icmp .lt 7, 3) := by decide +kernel
theorem dX11_find_42 : decode cX11_find 42 = .ok (.iconst 1, 1) := by decide +kernel
theorem dX11_find_43 : decode cX11_find 43 = .ok (.goto 4, 3) := by decide +kernel
theorem dX11_find_46 : decode cX11_find 46 = .ok (.iconst 0, 1) := by decide +kernel
theorem dX11_find_47 : decode cX11_find 47 = .ok (.istore 5, 2) := by decide +kernel
theorem dX11_find_49 : decode cX11_find 49 = .ok (.iload_n 2, 1) := by decide +kernel
theorem dX11_find_50 : decode cX11_find 50 = .ok (.tableswitch 115 0 5 #[38, 55, 84, 92, 100, 108], 38) := by decide +kernel
theorem dX11_find_88 : decode cX11_find 88 = .ok (.iload 5, 2) := by decide +kernel
theorem dX11_find_90 : decode cX11_find 90 = .ok (.ifCond .eq 8, 3) := by decide +kernel
theorem dX11_find_93 : decode cX11_find 93 = .ok (.bipush 100, 2) := by decide +kernel
theorem dX11_find_95 : decode cX11_find 95 = .ok (.goto 9, 3) := by decide +kernel
theorem dX11_find_98 : decode cX11_find 98 = .ok (.aload_n 3, 1) := by decide +kernel
theorem dX11_find_99 : decode cX11_find 99 = .ok (.iload 4, 2) := by decide +kernel
theorem dX11_find_101 : decode cX11_find 101 = .ok (.invokevirtual 189, 3) := by decide +kernel
theorem dX11_find_104 : decode cX11_find 104 = .ok (.ireturn, 1) := by decide +kernel
theorem dX11_find_105 : decode cX11_find 105 = .ok (.iload 5, 2) := by decide +kernel
theorem dX11_find_107 : decode cX11_find 107 = .ok (.ifCond .eq 13, 3) := by decide +kernel
theorem dX11_find_110 : decode cX11_find 110 = .ok (.iload 4, 2) := by decide +kernel
theorem dX11_find_112 : decode cX11_find 112 = .ok (.aload_n 3, 1) := by decide +kernel
theorem dX11_find_113 : decode cX11_find 113 = .ok (.getfield 186, 3) := by decide +kernel
theorem dX11_find_116 : decode cX11_find 116 = .ok (.isub, 1) := by decide +kernel
theorem dX11_find_117 : decode cX11_find 117 = .ok (.goto 16, 3) := by decide +kernel
theorem dX11_find_120 : decode cX11_find 120 = .ok (.iload 4, 2) := by decide +kernel
theorem dX11_find_122 : decode cX11_find 122 = .ok (.aload_n 3, 1) := by decide +kernel
theorem dX11_find_123 : decode cX11_find 123 = .ok (.aload_n 3, 1) := by decide +kernel
theorem dX11_find_124 : decode cX11_find 124 = .ok (.iload 4, 2) := by decide +kernel
theorem dX11_find_126 : decode cX11_find 126 = .ok (.invokevirtual 189, 3) := by decide +kernel
theorem dX11_find_129 : decode cX11_find 129 = .ok (.invokevirtual 192, 3) := by decide +kernel
theorem dX11_find_132 : decode cX11_find 132 = .ok (.isub, 1) := by decide +kernel
theorem dX11_find_133 : decode cX11_find 133 = .ok (.ireturn, 1) := by decide +kernel
theorem dX11_find_134 : decode cX11_find 134 = .ok (.aload_n 3, 1) := by decide +kernel
theorem dX11_find_135 : decode cX11_find 135 = .ok (.iload_n 1, 1) := by decide +kernel
theorem dX11_find_136 : decode cX11_find 136 = .ok (.iload 4, 2) := by decide +kernel
theorem dX11_find_138 : decode cX11_find 138 = .ok (.invokevirtual 137, 3) := by decide +kernel
theorem dX11_find_141 : decode cX11_find 141 = .ok (.ireturn, 1) := by decide +kernel
theorem dX11_find_142 : decode cX11_find 142 = .ok (.aload_n 3, 1) := by decide +kernel
theorem dX11_find_143 : decode cX11_find 143 = .ok (.getfield 195, 3) := by decide +kernel
theorem dX11_find_146 : decode cX11_find 146 = .ok (.iload 4, 2) := by decide +kernel
theorem dX11_find_148 : decode cX11_find 148 = .ok (.iaload, 1) := by decide +kernel
theorem dX11_find_149 : decode cX11_find 149 = .ok (.ireturn, 1) := by decide +kernel
theorem dX11_find_150 : decode cX11_find 150 = .ok (.aload_n 3, 1) := by decide +kernel
theorem dX11_find_151 : decode cX11_find 151 = .ok (.getfield 198, 3) := by decide +kernel
theorem dX11_find_154 : decode cX11_find 154 = .ok (.iload 4, 2) := by decide +kernel
theorem dX11_find_156 : decode cX11_find 156 = .ok (.iaload, 1) := by decide +kernel
theorem dX11_find_157 : decode cX11_find 157 = .ok (.ireturn, 1) := by decide +kernel
theorem dX11_find_158 : decode cX11_find 158 = .ok (.aload_n 3, 1) := by decide +kernel
theorem dX11_find_159 : decode cX11_find 159 = .ok (.iload 4, 2) := by decide +kernel
theorem dX11_find_161 : decode cX11_find 161 = .ok (.invokevirtual 201, 3) := by decide +kernel
theorem dX11_find_164 : decode cX11_find 164 = .ok (.ireturn, 1) := by decide +kernel
theorem dX11_find_165 : decode cX11_find 165 = .ok (.iconst (-1), 1) := by decide +kernel
theorem dX11_find_166 : decode cX11_find 166 = .ok (.ireturn, 1) := by decide +kernel
theorem dX11_at_0 : decode cX11_at 0 = .ok (.aload_n 0, 1) := by decide +kernel
theorem dX11_at_1 : decode cX11_at 1 = .ok (.getfield 12, 3) := by decide +kernel
theorem dX11_at_4 : decode cX11_at 4 = .ok (.getfield 113, 3) := by decide +kernel
theorem dX11_at_7 : decode cX11_at 7 = .ok (.astore 4, 2) := by decide +kernel
theorem dX11_at_9 : decode cX11_at 9 = .ok (.aload 4, 2) := by decide +kernel
theorem dX11_at_11 : decode cX11_at 11 = .ok (.iload_n 1, 1) := by decide +kernel
theorem dX11_at_12 : decode cX11_at 12 = .ok (.iload_n 2, 1) := by decide +kernel
theorem dX11_at_13 : decode cX11_at 13 = .ok (.invokevirtual 204, 3) := by decide +kernel
theorem dX11_at_16 : decode cX11_at 16 = .ok (.istore 5, 2) := by decide +kernel
theorem dX11_at_18 : decode cX11_at 18 = .ok (.iload 5, 2) := by decide +kernel
theorem dX11_at_20 : decode cX11_at 20 = .ok (.ifCond .lt 14, 3) := by decide +kernel
theorem dX11_at_23 : decode cX11_at 23 = .ok (.aload 4, 2) := by decide +kernel
theorem dX11_at_25 : decode cX11_at 25 = .ok (.getfield 171, 3) := by decide +kernel
theorem dX11_at_28 : decode cX11_at 28 = .ok (.iload 5, 2) := by decide +kernel
theorem dX11_at_30 : decode cX11_at 30 = .ok (.iaload, 1) := by decide +kernel
theorem dX11_at_31 : decode cX11_at 31 = .ok (.ifCond .ge 5, 3) := by decide +kernel
theorem dX11_at_34 : decode cX11_at 34 = .ok (.iconst (-1), 1) := by decide +kernel
theorem dX11_at_35 : decode cX11_at 35 = .ok (.ireturn, 1) := by decide +kernel
theorem dX11_at_36 : decode cX11_at 36 = .ok (.iload_n 3, 1) := by decide +kernel
theorem dX11_at_37 : decode cX11_at 37 = .ok (.tableswitch 97 0 4 #[35, 44, 53, 62, 71], 35) := by decide +kernel
theorem dX11_at_72 : decode cX11_at 72 = .ok (.aload 4, 2) := by decide +kernel
theorem dX11_at_74 : decode cX11_at 74 = .ok (.getfield 171, 3) := by decide +kernel
theorem dX11_at_77 : decode cX11_at 77 = .ok (.iload 5, 2) := by decide +kernel
theorem dX11_at_79 : decode cX11_at 79 = .ok (.iaload, 1) := by decide +kernel
theorem dX11_at_80 : decode cX11_at 80 = .ok (.ireturn, 1) := by decide +kernel
theorem dX11_at_81 : decode cX11_at 81 = .ok (.aload 4, 2) := by decide +kernel
theorem dX11_at_83 : decode cX11_at 83 = .ok (.getfield 141, 3) := by decide +kernel
theorem dX11_at_86 : decode cX11_at 86 = .ok (.iload 5, 2) := by decide +kernel
theorem dX11_at_88 : decode cX11_at 88 = .ok (.iaload, 1) := by decide +kernel
theorem dX11_at_89 : decode cX11_at 89 = .ok (.ireturn, 1) := by decide +kernel
theorem dX11_at_90 : decode cX11_at 90 = .ok (.aload 4, 2) := by decide +kernel
theorem dX11_at_92 : decode cX11_at 92 = .ok (.getfield 195, 3) := by decide +kernel
theorem dX11_at_95 : decode cX11_at 95 = .ok (.iload 5, 2) := by decide +kernel
theorem dX11_at_97 : decode cX11_at 97 = .ok (.iaload, 1) := by decide +kernel
theorem dX11_at_98 : decode cX11_at 98 = .ok (.ireturn, 1) := by decide +kernel
theorem dX11_at_99 : decode cX11_at 99 = .ok (.aload 4, 2) := by decide +kernel
theorem dX11_at_101 : decode cX11_at 101 = .ok (.getfield 198, 3) := by decide +kernel
theorem dX11_at_104 : decode cX11_at 104 = .ok (.iload 5, 2) := by decide +kernel
theorem dX11_at_106 : decode cX11_at 106 = .ok (.iaload, 1) := by decide +kernel
theorem dX11_at_107 : decode cX11_at 107 = .ok (.ireturn, 1) := by decide +kernel
theorem dX11_at_108 : decode cX11_at 108 = .ok (.aload 4, 2) := by decide +kernel
theorem dX11_at_110 : decode cX11_at 110 = .ok (.iload 5, 2) := by decide +kernel
theorem dX11_at_112 : decode cX11_at 112 = .ok (.iload_n 1, 1) := by decide +kernel
theorem dX11_at_113 : decode cX11_at 113 = .ok (.bipush 100, 2) := by decide +kernel
theorem dX11_at_115 : decode cX11_at 115 = .ok (.if_icmp .ne 14, 3) := by decide +kernel
theorem dX11_at_118 : decode cX11_at 118 = .ok (.aload 4, 2) := by decide +kernel
theorem dX11_at_120 : decode cX11_at 120 = .ok (.getfield 207, 3) := by decide +kernel
theorem dX11_at_123 : decode cX11_at 123 = .ok (.iload 5, 2) := by decide +kernel
theorem dX11_at_125 : decode cX11_at 125 = .ok (.iaload, 1) := by decide +kernel
theorem dX11_at_126 : decode cX11_at 126 = .ok (.goto 4, 3) := by decide +kernel
theorem dX11_at_129 : decode cX11_at 129 = .ok (.iload_n 1, 1) := by decide +kernel
theorem dX11_at_130 : decode cX11_at 130 = .ok (.invokevirtual 210, 3) := by decide +kernel
theorem dX11_at_133 : decode cX11_at 133 = .ok (.ireturn, 1) := by decide +kernel
theorem dX11_at_134 : decode cX11_at 134 = .ok (.iconst (-1), 1) := by decide +kernel
theorem dX11_at_135 : decode cX11_at 135 = .ok (.ireturn, 1) := by decide +kernel
theorem dX11_hash_0 : decode cX11_hash 0 = .ok (.iload_n 1, 1) := by decide +kernel
theorem dX11_hash_1 : decode cX11_hash 1 = .ok (.invokestatic 124, 3) := by decide +kernel
theorem dX11_hash_4 : decode cX11_hash 4 = .ok (.ifCond .ne 5, 3) := by decide +kernel
theorem dX11_hash_7 : decode cX11_hash 7 = .ok (.iconst (-1), 1) := by decide +kernel
theorem dX11_hash_8 : decode cX11_hash 8 = .ok (.ireturn, 1) := by decide +kernel
theorem dX11_hash_9 : decode cX11_hash 9 = .ok (.aload_n 0, 1) := by decide +kernel
theorem dX11_hash_10 : decode cX11_hash 10 = .ok (.getfield 12, 3) := by decide +kernel
theorem dX11_hash_13 : decode cX11_hash 13 = .ok (.getfield 113, 3) := by decide +kernel
theorem dX11_hash_16 : decode cX11_hash 16 = .ok (.getfield 213, 3) := by decide +kernel
theorem dX11_hash_19 : decode cX11_hash 19 = .ok (.astore_n 3, 1) := by decide +kernel
theorem dX11_hash_20 : decode cX11_hash 20 = .ok (.iload_n 2, 1) := by decide +kernel
theorem dX11_hash_21 : decode cX11_hash 21 = .ok (.ifCond .eq 11, 3) := by decide +kernel
theorem dX11_hash_24 : decode cX11_hash 24 = .ok (.aload_n 3, 1) := by decide +kernel
theorem dX11_hash_25 : decode cX11_hash 25 = .ok (.iload_n 1, 1) := by decide +kernel
theorem dX11_hash_26 : decode cX11_hash 26 = .ok (.invokevirtual 217, 3) := by decide +kernel
theorem dX11_hash_29 : decode cX11_hash 29 = .ok (.goto 8, 3) := by decide +kernel
theorem dX11_hash_32 : decode cX11_hash 32 = .ok (.aload_n 3, 1) := by decide +kernel
theorem dX11_hash_33 : decode cX11_hash 33 = .ok (.iload_n 1, 1) := by decide +kernel
theorem dX11_hash_34 : decode cX11_hash 34 = .ok (.invokevirtual 222, 3) := by decide +kernel
theorem dX11_hash_37 : decode cX11_hash 37 = .ok (.ireturn, 1) := by decide +kernel
theorem dX11_chain_0 : decode cX11_chain 0 = .ok (.aload_n 0, 1) := by decide +kernel
theorem dX11_chain_1 : decode cX11_chain 1 = .ok (.getfield 12, 3) := by decide +kernel
theorem dX11_chain_4 : decode cX11_chain 4 = .ok (.getfield 113, 3) := by decide +kernel
theorem dX11_chain_7 : decode cX11_chain 7 = .ok (.astore_n 3, 1) := by decide +kernel
theorem dX11_chain_8 : decode cX11_chain 8 = .ok (.iload_n 1, 1) := by decide +kernel
theorem dX11_chain_9 : decode cX11_chain 9 = .ok (.invokestatic 124, 3) := by decide +kernel
theorem dX11_chain_12 : decode cX11_chain 12 = .ok (.ifCond .eq 30, 3) := by decide +kernel
theorem dX11_chain_15 : decode cX11_chain 15 = .ok (.aload_n 0, 1) := by decide +kernel
theorem dX11_chain_16 : decode cX11_chain 16 = .ok (.getfield 32, 3) := by decide +kernel
theorem dX11_chain_19 : decode cX11_chain 19 = .ok (.aload_n 3, 1) := by decide +kernel
theorem dX11_chain_20 : decode cX11_chain 20 = .ok (.aload_n 3, 1) := by decide +kernel
theorem dX11_chain_21 : decode cX11_chain 21 = .ok (.getfield 213, 3) := by decide +kernel
theorem dX11_chain_24 : decode cX11_chain 24 = .ok (.iload_n 1, 1) := by decide +kernel
theorem dX11_chain_25 : decode cX11_chain 25 = .ok (.invokevirtual 222, 3) := by decide +kernel
theorem dX11_chain_28 : decode cX11_chain 28 = .ok (.aload_n 3, 1) := by decide +kernel
theorem dX11_chain_29 : decode cX11_chain 29 = .ok (.getfield 213, 3) := by decide +kernel
theorem dX11_chain_32 : decode cX11_chain 32 = .ok (.iload_n 1, 1) := by decide +kernel
theorem dX11_chain_33 : decode cX11_chain 33 = .ok (.invokevirtual 217, 3) := by decide +kernel
theorem dX11_chain_36 : decode cX11_chain 36 = .ok (.invokevirtual 225, 3) := by decide +kernel
theorem dX11_chain_39 : decode cX11_chain 39 = .ok (.ifCond .ne 6, 3) := by decide +kernel
theorem dX11_chain_42 : decode cX11_chain 42 = .ok (.bipush (-2), 2) := by decide +kernel
theorem dX11_chain_44 : decode cX11_chain 44 = .ok (.ireturn, 1) := by decide +kernel
theorem dX11_chain_45 : decode cX11_chain 45 = .ok (.iload_n 2, 1) := by decide +kernel
theorem dX11_chain_46 : decode cX11_chain 46 = .ok (.iconst (-1), 1) := by decide +kernel
theorem dX11_chain_47 : decode cX11_chain 47 = .ok (.if_icmp .ne 11, 3) := by decide +kernel
theorem dX11_chain_50 : decode cX11_chain 50 = .ok (.aload_n 0, 1) := by decide +kernel
theorem dX11_chain_51 : decode cX11_chain 51 = .ok (.getfield 32, 3) := by decide +kernel
theorem dX11_chain_54 : decode cX11_chain 54 = .ok (.getfield 229, 3) := by decide +kernel
theorem dX11_chain_57 : decode cX11_chain 57 = .ok (.ireturn, 1) := by decide +kernel
theorem dX11_chain_58 : decode cX11_chain 58 = .ok (.iload_n 2, 1) := by decide +kernel
theorem dX11_chain_59 : decode cX11_chain 59 = .ok (.ifCond .lt 14, 3) := by decide +kernel
theorem dX11_chain_62 : decode cX11_chain 62 = .ok (.iload_n 2, 1) := by decide +kernel
theorem dX11_chain_63 : decode cX11_chain 63 = .ok (.aload_n 0, 1) := by decide +kernel
theorem dX11_chain_64 : decode cX11_chain 64 = .ok (.getfield 32, 3) := by decide +kernel
theorem dX11_chain_67 : decode cX11_chain 67 = .ok (.getfield 229, 3) := by decide +kernel
theorem dX11_chain_70 : decode cX11_chain 70 = .ok (.if_icmp .lt 6, 3) := by decide +kernel
theorem dX11_chain_73 : decode cX11_chain 73 = .ok (.bipush (-2), 2) := by decide +kernel
theorem dX11_chain_75 : decode cX11_chain 75 = .ok (.ireturn, 1) := by decide +kernel
theorem dX11_chain_76 : decode cX11_chain 76 = .ok (.aload_n 0, 1) := by decide +kernel
theorem dX11_chain_77 : decode cX11_chain 77 = .ok (.getfield 32, 3) := by decide +kernel
theorem dX11_chain_80 : decode cX11_chain 80 = .ok (.getfield 230, 3) := by decide +kernel
theorem dX11_chain_83 : decode cX11_chain 83 = .ok (.iload_n 2, 1) := by decide +kernel
theorem dX11_chain_84 : decode cX11_chain 84 = .ok (.iaload, 1) := by decide +kernel
theorem dX11_chain_85 : decode cX11_chain 85 = .ok (.istore 4, 2) := by decide +kernel
theorem dX11_chain_87 : decode cX11_chain 87 = .ok (.aload_n 3, 1) := by decide +kernel
theorem dX11_chain_88 : decode cX11_chain 88 = .ok (.iload 4, 2) := by decide +kernel
theorem dX11_chain_90 : decode cX11_chain 90 = .ok (.invokevirtual 189, 3) := by decide +kernel
theorem dX11_chain_93 : decode cX11_chain 93 = .ok (.istore 5, 2) := by decide +kernel
theorem dX11_chain_95 : decode cX11_chain 95 = .ok (.bipush 10, 2) := by decide +kernel
theorem dX11_chain_97 : decode cX11_chain 97 = .ok (.iload 5, 2) := by decide +kernel
theorem dX11_chain_99 : decode cX11_chain 99 = .ok (.imul, 1) := by decide +kernel
theorem dX11_chain_100 : decode cX11_chain 100 = .ok (.iload 4, 2) := by decide +kernel
theorem dX11_chain_102 : decode cX11_chain 102 = .ok (.iadd, 1) := by decide +kernel
theorem dX11_chain_103 : decode cX11_chain 103 = .ok (.aload_n 3, 1) := by decide +kernel
theorem dX11_chain_104 : decode cX11_chain 104 = .ok (.iload 5, 2) := by decide +kernel
theorem dX11_chain_106 : decode cX11_chain 106 = .ok (.invokevirtual 192, 3) := by decide +kernel
theorem dX11_chain_109 : decode cX11_chain 109 = .ok (.isub, 1) := by decide +kernel
theorem dX11_chain_110 : decode cX11_chain 110 = .ok (.ireturn, 1) := by decide +kernel
theorem dX11_would_0 : decode cX11_would 0 = .ok (.iload_n 1, 1) := by decide +kernel
theorem dX11_would_1 : decode cX11_would 1 = .ok (.invokestatic 124, 3) := by decide +kernel
theorem dX11_would_4 : decode cX11_would 4 = .ok (.ifCond .eq 11, 3) := by decide +kernel
theorem dX11_would_7 : decode cX11_would 7 = .ok (.aload_n 0, 1) := by decide +kernel
theorem dX11_would_8 : decode cX11_would 8 = .ok (.iload_n 1, 1) := by decide +kernel
theorem dX11_would_9 : decode cX11_would 9 = .ok (.invokevirtual 233, 3) := by decide +kernel
theorem dX11_would_12 : decode cX11_would 12 = .ok (.goto 5, 3) := by decide +kernel
theorem dX11_would_15 : decode cX11_would 15 = .ok (.bipush (-2), 2) := by decide +kernel
theorem dX11_would_17 : decode cX11_would 17 = .ok (.ireturn, 1) := by decide +kernel
theorem dX11_part_0 : decode cX11_part 0 = .ok (.aload_n 0, 1) := by decide +kernel
theorem dX11_part_1 : decode cX11_part 1 = .ok (.getfield 12, 3) := by decide +kernel
theorem dX11_part_4 : decode cX11_part 4 = .ok (.getfield 113, 3) := by decide +kernel
theorem dX11_part_7 : decode cX11_part 7 = .ok (.astore_n 3, 1) := by decide +kernel
theorem dX11_part_8 : decode cX11_part 8 = .ok (.iload_n 1, 1) := by decide +kernel
theorem dX11_part_9 : decode cX11_part 9 = .ok (.ifCond .lt 14, 3) := by decide +kernel
theorem dX11_part_12 : decode cX11_part 12 = .ok (.iload_n 1, 1) := by decide +kernel
theorem dX11_part_13 : decode cX11_part 13 = .ok (.aload_n 3, 1) := by decide +kernel
theorem dX11_part_14 : decode cX11_part 14 = .ok (.getfield 213, 3) := by decide +kernel
theorem dX11_part_17 : decode cX11_part 17 = .ok (.getfield 236, 3) := by decide +kernel
theorem dX11_part_20 : decode cX11_part 20 = .ok (.if_icmp .lt 5, 3) := by decide +kernel
theorem dX11_part_23 : decode cX11_part 23 = .ok (.iconst (-1), 1) := by decide +kernel
theorem dX11_part_24 : decode cX11_part 24 = .ok (.ireturn, 1) := by decide +kernel
theorem dX11_part_25 : decode cX11_part 25 = .ok (.aload_n 0, 1) := by decide +kernel
theorem dX11_part_26 : decode cX11_part 26 = .ok (.getfield 64, 3) := by decide +kernel
theorem dX11_part_29 : decode cX11_part 29 = .ok (.aload_n 3, 1) := by decide +kernel
theorem dX11_part_30 : decode cX11_part 30 = .ok (.invokevirtual 239, 3) := by decide +kernel
theorem dX11_part_33 : decode cX11_part 33 = .ok (.pop, 1) := by decide +kernel
theorem dX11_part_34 : decode cX11_part 34 = .ok (.aload_n 0, 1) := by decide +kernel
theorem dX11_part_35 : decode cX11_part 35 = .ok (.getfield 64, 3) := by decide +kernel
theorem dX11_part_38 : decode cX11_part 38 = .ok (.getfield 243, 3) := by decide +kernel
theorem dX11_part_41 : decode cX11_part 41 = .ok (.iload_n 1, 1) := by decide +kernel
theorem dX11_part_42 : decode cX11_part 42 = .ok (.iaload, 1) := by decide +kernel
theorem dX11_part_43 : decode cX11_part 43 = .ok (.istore 4, 2) := by decide +kernel
theorem dX11_part_45 : decode cX11_part 45 = .ok (.iload_n 2, 1) := by decide +kernel
theorem dX11_part_46 : decode cX11_part 46 = .ok (.tableswitch 114 0 4 #[34, 44, 55, 74, 84], 34) := by decide +kernel
theorem dX11_part_80 : decode cX11_part 80 = .ok (.aload_n 0, 1) := by decide +kernel
theorem dX11_part_81 : decode cX11_part 81 = .ok (.getfield 64, 3) := by decide +kernel
theorem dX11_part_84 : decode cX11_part 84 = .ok (.iload 4, 2) := by decide +kernel
theorem dX11_part_86 : decode cX11_part 86 = .ok (.invokevirtual 246, 3) := by decide +kernel
theorem dX11_part_89 : decode cX11_part 89 = .ok (.ireturn, 1) := by decide +kernel
theorem dX11_part_90 : decode cX11_part 90 = .ok (.aload_n 0, 1) := by decide +kernel
theorem dX11_part_91 : decode cX11_part 91 = .ok (.getfield 64, 3) := by decide +kernel
theorem dX11_part_94 : decode cX11_part 94 = .ok (.getfield 249, 3) := by decide +kernel
theorem dX11_part_97 : decode cX11_part 97 = .ok (.iload 4, 2) := by decide +kernel
theorem dX11_part_99 : decode cX11_part 99 = .ok (.iaload, 1) := by decide +kernel
theorem dX11_part_100 : decode cX11_part 100 = .ok (.ireturn, 1) := by decide +kernel
theorem dX11_part_101 : decode cX11_part 101 = .ok (.aload_n 0, 1) := by decide +kernel
theorem dX11_part_102 : decode cX11_part 102 = .ok (.getfield 64, 3) := by decide +kernel
theorem dX11_part_105 : decode cX11_part 105 = .ok (.getfield 252, 3) := by decide +kernel
theorem dX11_part_108 : decode cX11_part 108 = .ok (.iload 4, 2) := by decide +kernel
theorem dX11_part_110 : decode cX11_part 110 = .ok (.iaload, 1) := by decide +kernel
theorem dX11_part_111 : decode cX11_part 111 = .ok (.aload_n 3, 1) := by decide +kernel
theorem dX11_part_112 : decode cX11_part 112 = .ok (.getfield 213, 3) := by decide +kernel
theorem dX11_part_115 : decode cX11_part 115 = .ok (.getfield 255, 3) := by decide +kernel
theorem dX11_part_118 : decode cX11_part 118 = .ok (.imul, 1) := by decide +kernel
theorem dX11_part_119 : decode cX11_part 119 = .ok (.ireturn, 1) := by decide +kernel
theorem dX11_part_120 : decode cX11_part 120 = .ok (.aload_n 0, 1) := by decide +kernel
theorem dX11_part_121 : decode cX11_part 121 = .ok (.getfield 64, 3) := by decide +kernel
theorem dX11_part_124 : decode cX11_part 124 = .ok (.iload 4, 2) := by decide +kernel
theorem dX11_part_126 : decode cX11_part 126 = .ok (.invokevirtual 258, 3) := by decide +kernel
theorem dX11_part_129 : decode cX11_part 129 = .ok (.ireturn, 1) := by decide +kernel
theorem dX11_part_130 : decode cX11_part 130 = .ok (.aload_n 0, 1) := by decide +kernel
theorem dX11_part_131 : decode cX11_part 131 = .ok (.getfield 64, 3) := by decide +kernel
theorem dX11_part_134 : decode cX11_part 134 = .ok (.getfield 252, 3) := by decide +kernel
theorem dX11_part_137 : decode cX11_part 137 = .ok (.iload 4, 2) := by decide +kernel
theorem dX11_part_139 : decode cX11_part 139 = .ok (.iaload, 1) := by decide +kernel
theorem dX11_part_140 : decode cX11_part 140 = .ok (.aload_n 3, 1) := by decide +kernel
theorem dX11_part_141 : decode cX11_part 141 = .ok (.getfield 213, 3) := by decide +kernel
theorem dX11_part_144 : decode cX11_part 144 = .ok (.getfield 255, 3) := by decide +kernel
theorem dX11_part_147 : decode cX11_part 147 = .ok (.imul, 1) := by decide +kernel
theorem dX11_part_148 : decode cX11_part 148 = .ok (.aload_n 0, 1) := by decide +kernel
theorem dX11_part_149 : decode cX11_part 149 = .ok (.getfield 64, 3) := by decide +kernel
theorem dX11_part_152 : decode cX11_part 152 = .ok (.aload_n 3, 1) := by decide +kernel
theorem dX11_part_153 : decode cX11_part 153 = .ok (.iload 4, 2) := by decide +kernel
theorem dX11_part_155 : decode cX11_part 155 = .ok (.invokevirtual 261, 3) := by decide +kernel
theorem dX11_part_158 : decode cX11_part 158 = .ok (.isub, 1) := by decide +kernel
theorem dX11_part_159 : decode cX11_part 159 = .ok (.ireturn, 1) := by decide +kernel
theorem dX11_part_160 : decode cX11_part 160 = .ok (.iconst (-1), 1) := by decide +kernel
theorem dX11_part_161 : decode cX11_part 161 = .ok (.ireturn, 1) := by decide +kernel
theorem dX11_fits_0 : decode cX11_fits 0 = .ok (.iload_n 1, 1) := by decide +kernel
theorem dX11_fits_1 : decode cX11_fits 1 = .ok (.invokestatic 124, 3) := by decide +kernel
theorem dX11_fits_4 : decode cX11_fits 4 = .ok (.ifCond .ne 5, 3) := by decide +kernel
theorem dX11_fits_7 : decode cX11_fits 7 = .ok (.iconst 0, 1) := by decide +kernel
theorem dX11_fits_8 : decode cX11_fits 8 = .ok (.ireturn, 1) := by decide +kernel
theorem dX11_fits_9 : decode cX11_fits 9 = .ok (.aload_n 0, 1) := by decide +kernel
theorem dX11_fits_10 : decode cX11_fits 10 = .ok (.getfield 12, 3) := by decide +kernel
theorem dX11_fits_13 : decode cX11_fits 13 = .ok (.getfield 113, 3) := by decide +kernel
theorem dX11_fits_16 : decode cX11_fits 16 = .ok (.astore_n 2, 1) := by decide +kernel
theorem dX11_fits_17 : decode cX11_fits 17 = .ok (.aload_n 0, 1) := by decide +kernel
theorem dX11_fits_18 : decode cX11_fits 18 = .ok (.getfield 73, 3) := by decide +kernel
theorem dX11_fits_21 : decode cX11_fits 21 = .ok (.aload_n 2, 1) := by decide +kernel
theorem dX11_fits_22 : decode cX11_fits 22 = .ok (.invokevirtual 264, 3) := by decide +kernel
theorem dX11_fits_25 : decode cX11_fits 25 = .ok (.aload_n 0, 1) := by decide +kernel
theorem dX11_fits_26 : decode cX11_fits 26 = .ok (.getfield 73, 3) := by decide +kernel
theorem dX11_fits_29 : decode cX11_fits 29 = .ok (.aload_n 2, 1) := by decide +kernel
theorem dX11_fits_30 : decode cX11_fits 30 = .ok (.aload_n 2, 1) := by decide +kernel
theorem dX11_fits_31 : decode cX11_fits 31 = .ok (.iload_n 1, 1) := by decide +kernel
theorem dX11_fits_32 : decode cX11_fits 32 = .ok (.invokevirtual 131, 3) := by decide +kernel
theorem dX11_fits_35 : decode cX11_fits 35 = .ok (.ifCond .ge 7, 3) := by decide +kernel
theorem dX11_fits_38 : decode cX11_fits 38 = .ok (.iload_n 1, 1) := by decide +kernel
theorem dX11_fits_39 : decode cX11_fits 39 = .ok (.goto 4, 3) := by decide +kernel
theorem dX11_fits_42 : decode cX11_fits 42 = .ok (.iconst (-1), 1) := by decide +kernel
theorem dX11_fits_43 : decode cX11_fits 43 = .ok (.invokevirtual 267, 3) := by decide +kernel
theorem dX11_fits_46 : decode cX11_fits 46 = .ok (.ireturn, 1) := by decide +kernel
theorem dX11_over_0 : decode cX11_over 0 = .ok (.aload_n 0, 1) := by decide +kernel
theorem dX11_over_1 : decode cX11_over 1 = .ok (.getfield 73, 3) := by decide +kernel
theorem dX11_over_4 : decode cX11_over 4 = .ok (.aload_n 0, 1) := by decide +kernel
theorem dX11_over_5 : decode cX11_over 5 = .ok (.getfield 12, 3) := by decide +kernel
theorem dX11_over_8 : decode cX11_over 8 = .ok (.getfield 113, 3) := by decide +kernel
theorem dX11_over_11 : decode cX11_over 11 = .ok (.invokevirtual 264, 3) := by decide +kernel
theorem dX11_over_14 : decode cX11_over 14 = .ok (.aload_n 0, 1) := by decide +kernel
theorem dX11_over_15 : decode cX11_over 15 = .ok (.getfield 73, 3) := by decide +kernel
theorem dX11_over_18 : decode cX11_over 18 = .ok (.aload_n 0, 1) := by decide +kernel
theorem dX11_over_19 : decode cX11_over 19 = .ok (.getfield 12, 3) := by decide +kernel
theorem dX11_over_22 : decode cX11_over 22 = .ok (.getfield 113, 3) := by decide +kernel
theorem dX11_over_25 : decode cX11_over 25 = .ok (.iconst (-1), 1) := by decide +kernel
theorem dX11_over_26 : decode cX11_over 26 = .ok (.bipush 68, 2) := by decide +kernel
theorem dX11_over_28 : decode cX11_over 28 = .ok (.invokevirtual 271, 3) := by decide +kernel
theorem dX11_over_31 : decode cX11_over 31 = .ok (.ireturn, 1) := by decide +kernel
theorem dX11_least_0 : decode cX11_least 0 = .ok (.aload_n 0, 1) := by decide +kernel
theorem dX11_least_1 : decode cX11_least 1 = .ok (.getfield 73, 3) := by decide +kernel
theorem dX11_least_4 : decode cX11_least 4 = .ok (.aload_n 0, 1) := by decide +kernel
theorem dX11_least_5 : decode cX11_least 5 = .ok (.getfield 12, 3) := by decide +kernel
theorem dX11_least_8 : decode cX11_least 8 = .ok (.getfield 113, 3) := by decide +kernel
theorem dX11_least_11 : decode cX11_least 11 = .ok (.iload_n 1, 1) := by decide +kernel
theorem dX11_least_12 : decode cX11_least 12 = .ok (.invokevirtual 274, 3) := by decide +kernel
theorem dX11_least_15 : decode cX11_least 15 = .ok (.ireturn, 1) := by decide +kernel
theorem dX11_key_0 : decode cX11_key 0 = .ok (.aload_n 0, 1) := by decide +kernel
theorem dX11_key_1 : decode cX11_key 1 = .ok (.getfield 48, 3) := by decide +kernel
theorem dX11_key_4 : decode cX11_key 4 = .ok (.aload_n 0, 1) := by decide +kernel
theorem dX11_key_5 : decode cX11_key 5 = .ok (.getfield 12, 3) := by decide +kernel
theorem dX11_key_8 : decode cX11_key 8 = .ok (.getfield 113, 3) := by decide +kernel
theorem dX11_key_11 : decode cX11_key 11 = .ok (.iload_n 2, 1) := by decide +kernel
theorem dX11_key_12 : decode cX11_key 12 = .ok (.invokevirtual 277, 3) := by decide +kernel
theorem dX11_key_15 : decode cX11_key 15 = .ok (.iload_n 1, 1) := by decide +kernel
theorem dX11_key_16 : decode cX11_key 16 = .ok (.ifCond .lt 14, 3) := by decide +kernel
theorem dX11_key_19 : decode cX11_key 19 = .ok (.iload_n 1, 1) := by decide +kernel
theorem dX11_key_20 : decode cX11_key 20 = .ok (.aload_n 0, 1) := by decide +kernel
theorem dX11_key_21 : decode cX11_key 21 = .ok (.getfield 48, 3) := by decide +kernel
theorem dX11_key_24 : decode cX11_key 24 = .ok (.getfield 281, 3) := by decide +kernel
theorem dX11_key_27 : decode cX11_key 27 = .ok (.if_icmp .lt 7, 3) := by decide +kernel
theorem dX11_key_30 : decode cX11_key 30 = .ok (.iconst (-1), 1) := by decide +kernel
theorem dX11_key_31 : decode cX11_key 31 = .ok (.goto 23, 3) := by decide +kernel
theorem dX11_key_34 : decode cX11_key 34 = .ok (.aload_n 0, 1) := by decide +kernel
theorem dX11_key_35 : decode cX11_key 35 = .ok (.getfield 12, 3) := by decide +kernel
theorem dX11_key_38 : decode cX11_key 38 = .ok (.getfield 113, 3) := by decide +kernel
theorem dX11_key_41 : decode cX11_key 41 = .ok (.getfield 171, 3) := by decide +kernel
theorem dX11_key_44 : decode cX11_key 44 = .ok (.aload_n 0, 1) := by decide +kernel
theorem dX11_key_45 : decode cX11_key 45 = .ok (.getfield 48, 3) := by decide +kernel
theorem dX11_key_48 : decode cX11_key 48 = .ok (.getfield 284, 3) := by decide +kernel
theorem dX11_key_51 : decode cX11_key 51 = .ok (.iload_n 1, 1) := by decide +kernel
theorem dX11_key_52 : decode cX11_key 52 = .ok (.iaload, 1) := by decide +kernel
theorem dX11_key_53 : decode cX11_key 53 = .ok (.iaload, 1) := by decide +kernel
theorem dX11_key_54 : decode cX11_key 54 = .ok (.ireturn, 1) := by decide +kernel
theorem dX11_count_0 : decode cX11_count 0 = .ok (.iload_n 1, 1) := by decide +kernel
theorem dX11_count_1 : decode cX11_count 1 = .ok (.bipush 26, 2) := by decide +kernel
theorem dX11_count_3 : decode cX11_count 3 = .ok (.if_icmp .ne 13, 3) := by decide +kernel
theorem dX11_count_6 : decode cX11_count 6 = .ok (.aload_n 0, 1) := by decide +kernel
theorem dX11_count_7 : decode cX11_count 7 = .ok (.getfield 12, 3) := by decide +kernel
theorem dX11_count_10 : decode cX11_count 10 = .ok (.getfield 90, 3) := by decide +kernel
theorem dX11_count_13 : decode cX11_count 13 = .ok (.goto 15, 3) := by decide +kernel
theorem dX11_count_16 : decode cX11_count 16 = .ok (.aload_n 0, 1) := by decide +kernel
theorem dX11_count_17 : decode cX11_count 17 = .ok (.aload_n 0, 1) := by decide +kernel
theorem dX11_count_18 : decode cX11_count 18 = .ok (.getfield 12, 3) := by decide +kernel
theorem dX11_count_21 : decode cX11_count 21 = .ok (.getfield 113, 3) := by decide +kernel
theorem dX11_count_24 : decode cX11_count 24 = .ok (.iload_n 1, 1) := by decide +kernel
theorem dX11_count_25 : decode cX11_count 25 = .ok (.invokevirtual 287, 3) := by decide +kernel
theorem dX11_count_28 : decode cX11_count 28 = .ok (.ireturn, 1) := by decide +kernel
theorem dX11_filled_0 : decode cX11_filled 0 = .ok (.aload_n 0, 1) := by decide +kernel
theorem dX11_filled_1 : decode cX11_filled 1 = .ok (.getfield 12, 3) := by decide +kernel
theorem dX11_filled_4 : decode cX11_filled 4 = .ok (.getfield 113, 3) := by decide +kernel
theorem dX11_filled_7 : decode cX11_filled 7 = .ok (.astore_n 2, 1) := by decide +kernel
theorem dX11_filled_8 : decode cX11_filled 8 = .ok (.iload_n 1, 1) := by decide +kernel
theorem dX11_filled_9 : decode cX11_filled 9 = .ok (.ifCond .lt 8, 3) := by decide +kernel
theorem dX11_filled_12 : decode cX11_filled 12 = .ok (.iload_n 1, 1) := by decide +kernel
theorem dX11_filled_13 : decode cX11_filled 13 = .ok (.iconst 4, 1) := by decide +kernel
theorem dX11_filled_14 : decode cX11_filled 14 = .ok (.if_icmp .le 5, 3) := by decide +kernel
theorem dX11_filled_17 : decode cX11_filled 17 = .ok (.iconst (-1), 1) := by decide +kernel
theorem dX11_filled_18 : decode cX11_filled 18 = .ok (.ireturn, 1) := by decide +kernel
theorem dX11_filled_19 : decode cX11_filled 19 = .ok (.iconst 0, 1) := by decide +kernel
theorem dX11_filled_20 : decode cX11_filled 20 = .ok (.istore_n 3, 1) := by decide +kernel
theorem dX11_filled_21 : decode cX11_filled 21 = .ok (.iconst 0, 1) := by decide +kernel
theorem dX11_filled_22 : decode cX11_filled 22 = .ok (.istore 4, 2) := by decide +kernel
theorem dX11_filled_24 : decode cX11_filled 24 = .ok (.iload 4, 2) := by decide +kernel
theorem dX11_filled_26 : decode cX11_filled 26 = .ok (.aload_n 2, 1) := by decide +kernel
theorem dX11_filled_27 : decode cX11_filled 27 = .ok (.getfield 213, 3) := by decide +kernel
theorem dX11_filled_30 : decode cX11_filled 30 = .ok (.getfield 236, 3) := by decide +kernel
theorem dX11_filled_33 : decode cX11_filled 33 = .ok (.if_icmp .ge 23, 3) := by decide +kernel
theorem dX11_filled_36 : decode cX11_filled 36 = .ok (.aload_n 2, 1) := by decide +kernel
theorem dX11_filled_37 : decode cX11_filled 37 = .ok (.getfield 290, 3) := by decide +kernel
theorem dX11_filled_40 : decode cX11_filled 40 = .ok (.iload 4, 2) := by decide +kernel
theorem dX11_filled_42 : decode cX11_filled 42 = .ok (.iaload, 1) := by decide +kernel
theorem dX11_filled_43 : decode cX11_filled 43 = .ok (.iload_n 1, 1) := by decide +kernel
theorem dX11_filled_44 : decode cX11_filled 44 = .ok (.if_icmp .ne 6, 3) := by decide +kernel
theorem dX11_filled_47 : decode cX11_filled 47 = .ok (.iinc 3 1, 3) := by decide +kernel
theorem dX11_filled_50 : decode cX11_filled 50 = .ok (.iinc 4 1, 3) := by decide +kernel
theorem dX11_filled_53 : decode cX11_filled 53 = .ok (.goto (-29), 3) := by decide +kernel
theorem dX11_filled_56 : decode cX11_filled 56 = .ok (.iload_n 3, 1) := by decide +kernel
theorem dX11_filled_57 : decode cX11_filled 57 = .ok (.ireturn, 1) := by decide +kernel
theorem dX11_restless_0 : decode cX11_restless 0 = .ok (.aload_n 0, 1) := by decide +kernel
theorem dX11_restless_1 : decode cX11_restless 1 = .ok (.getfield 12, 3) := by decide +kernel
theorem dX11_restless_4 : decode cX11_restless 4 = .ok (.getfield 113, 3) := by decide +kernel
theorem dX11_restless_7 : decode cX11_restless 7 = .ok (.astore_n 1, 1) := by decide +kernel
theorem dX11_restless_8 : decode cX11_restless 8 = .ok (.aload_n 0, 1) := by decide +kernel
theorem dX11_restless_9 : decode cX11_restless 9 = .ok (.getfield 48, 3) := by decide +kernel
theorem dX11_restless_12 : decode cX11_restless 12 = .ok (.aload_n 1, 1) := by decide +kernel
theorem dX11_restless_13 : decode cX11_restless 13 = .ok (.iconst 0, 1) := by decide +kernel
theorem dX11_restless_14 : decode cX11_restless 14 = .ok (.invokevirtual 277, 3) := by decide +kernel
theorem dX11_restless_17 : decode cX11_restless 17 = .ok (.iconst (-1), 1) := by decide +kernel
theorem dX11_restless_18 : decode cX11_restless 18 = .ok (.istore_n 2, 1) := by decide +kernel
theorem dX11_restless_19 : decode cX11_restless 19 = .ok (.iconst 0, 1) := by decide +kernel
theorem dX11_restless_20 : decode cX11_restless 20 = .ok (.istore_n 3, 1) := by decide +kernel
theorem dX11_restless_21 : decode cX11_restless 21 = .ok (.iload_n 3, 1) := by decide +kernel
theorem dX11_restless_22 : decode cX11_restless 22 = .ok (.aload_n 0, 1) := by decide +kernel
theorem dX11_restless_23 : decode cX11_restless 23 = .ok (.getfield 48, 3) := by decide +kernel
theorem dX11_restless_26 : decode cX11_restless 26 = .ok (.getfield 281, 3) := by decide +kernel
theorem dX11_restless_29 : decode cX11_restless 29 = .ok (.if_icmp .ge 43, 3) := by decide +kernel
theorem dX11_restless_32 : decode cX11_restless 32 = .ok (.aload_n 0, 1) := by decide +kernel
theorem dX11_restless_33 : decode cX11_restless 33 = .ok (.getfield 48, 3) := by decide +kernel
theorem dX11_restless_36 : decode cX11_restless 36 = .ok (.getfield 284, 3) := by decide +kernel
theorem dX11_restless_39 : decode cX11_restless 39 = .ok (.iload_n 3, 1) := by decide +kernel
theorem dX11_restless_40 : decode cX11_restless 40 = .ok (.iaload, 1) := by decide +kernel
theorem dX11_restless_41 : decode cX11_restless 41 = .ok (.istore 4, 2) := by decide +kernel
theorem dX11_restless_43 : decode cX11_restless 43 = .ok (.iload_n 2, 1) := by decide +kernel
theorem dX11_restless_44 : decode cX11_restless 44 = .ok (.ifCond .lt 19, 3) := by decide +kernel
theorem dX11_restless_47 : decode cX11_restless 47 = .ok (.aload_n 1, 1) := by decide +kernel
theorem dX11_restless_48 : decode cX11_restless 48 = .ok (.getfield 198, 3) := by decide +kernel
theorem dX11_restless_51 : decode cX11_restless 51 = .ok (.iload 4, 2) := by decide +kernel
theorem dX11_restless_53 : decode cX11_restless 53 = .ok (.iaload, 1) := by decide +kernel
theorem dX11_restless_54 : decode cX11_restless 54 = .ok (.aload_n 1, 1) := by decide +kernel
theorem dX11_restless_55 : decode cX11_restless 55 = .ok (.getfield 198, 3) := by decide +kernel
theorem dX11_restless_58 : decode cX11_restless 58 = .ok (.iload_n 2, 1) := by decide +kernel
theorem dX11_restless_59 : decode cX11_restless 59 = .ok (.iaload, 1) := by decide +kernel
theorem dX11_restless_60 : decode cX11_restless 60 = .ok (.if_icmp .le 6, 3) := by decide +kernel
theorem dX11_restless_63 : decode cX11_restless 63 = .ok (.iload 4, 2) := by decide +kernel
theorem dX11_restless_65 : decode cX11_restless 65 = .ok (.istore_n 2, 1) := by decide +kernel
theorem dX11_restless_66 : decode cX11_restless 66 = .ok (.iinc 3 1, 3) := by decide +kernel
theorem dX11_restless_69 : decode cX11_restless 69 = .ok (.goto (-48), 3) := by decide +kernel
theorem dX11_restless_72 : decode cX11_restless 72 = .ok (.iload_n 2, 1) := by decide +kernel
theorem dX11_restless_73 : decode cX11_restless 73 = .ok (.ifCond .ge 7, 3) := by decide +kernel
theorem dX11_restless_76 : decode cX11_restless 76 = .ok (.iconst (-1), 1) := by decide +kernel
theorem dX11_restless_77 : decode cX11_restless 77 = .ok (.goto 9, 3) := by decide +kernel
theorem dX11_restless_80 : decode cX11_restless 80 = .ok (.aload_n 1, 1) := by decide +kernel
theorem dX11_restless_81 : decode cX11_restless 81 = .ok (.getfield 171, 3) := by decide +kernel
theorem dX11_restless_84 : decode cX11_restless 84 = .ok (.iload_n 2, 1) := by decide +kernel
theorem dX11_restless_85 : decode cX11_restless 85 = .ok (.iaload, 1) := by decide +kernel
theorem dX11_restless_86 : decode cX11_restless 86 = .ok (.ireturn, 1) := by decide +kernel
theorem dX11_which_0 : decode cX11_which 0 = .ok (.iload_n 1, 1) := by decide +kernel
theorem dX11_which_1 : decode cX11_which 1 = .ok (.iconst (-1), 1) := by decide +kernel
theorem dX11_which_2 : decode cX11_which 2 = .ok (.if_icmp .eq 15, 3) := by decide +kernel
theorem dX11_which_5 : decode cX11_which 5 = .ok (.iload_n 1, 1) := by decide +kernel
theorem dX11_which_6 : decode cX11_which 6 = .ok (.iconst 1, 1) := by decide +kernel
theorem dX11_which_7 : decode cX11_which 7 = .ok (.if_icmp .lt 8, 3) := by decide +kernel
theorem dX11_which_10 : decode cX11_which 10 = .ok (.iload_n 1, 1) := by decide +kernel
theorem dX11_which_11 : decode cX11_which 11 = .ok (.iconst 5, 1) := by decide +kernel
theorem dX11_which_12 : decode cX11_which 12 = .ok (.if_icmp .le 5, 3) := by decide +kernel
theorem dX11_which_15 : decode cX11_which 15 = .ok (.iconst (-1), 1) := by decide +kernel
theorem dX11_which_16 : decode cX11_which 16 = .ok (.ireturn, 1) := by decide +kernel
theorem dX11_which_17 : decode cX11_which 17 = .ok (.iconst 0, 1) := by decide +kernel
theorem dX11_which_18 : decode cX11_which 18 = .ok (.istore_n 2, 1) := by decide +kernel
theorem dX11_which_19 : decode cX11_which 19 = .ok (.iload_n 2, 1) := by decide +kernel
theorem dX11_which_20 : decode cX11_which 20 = .ok (.bipush 100, 2) := by decide +kernel
theorem dX11_which_22 : decode cX11_which 22 = .ok (.if_icmp .ge 20, 3) := by decide +kernel
theorem dX11_which_25 : decode cX11_which 25 = .ok (.aload_n 0, 1) := by decide +kernel
theorem dX11_which_26 : decode cX11_which 26 = .ok (.iload_n 2, 1) := by decide +kernel
theorem dX11_which_27 : decode cX11_which 27 = .ok (.invokevirtual 233, 3) := by decide +kernel
theorem dX11_which_30 : decode cX11_which 30 = .ok (.iload_n 1, 1) := by decide +kernel
theorem dX11_which_31 : decode cX11_which 31 = .ok (.if_icmp .ne 5, 3) := by decide +kernel
theorem dX11_which_34 : decode cX11_which 34 = .ok (.iload_n 2, 1) := by decide +kernel
theorem dX11_which_35 : decode cX11_which 35 = .ok (.ireturn, 1) := by decide +kernel
theorem dX11_which_36 : decode cX11_which 36 = .ok (.iinc 2 1, 3) := by decide +kernel
theorem dX11_which_39 : decode cX11_which 39 = .ok (.goto (-20), 3) := by decide +kernel
theorem dX11_which_42 : decode cX11_which 42 = .ok (.iconst (-1), 1) := by decide +kernel
theorem dX11_which_43 : decode cX11_which 43 = .ok (.ireturn, 1) := by decide +kernel
theorem dX11_tried_0 : decode cX11_tried 0 = .ok (.iload_n 2, 1) := by decide +kernel
theorem dX11_tried_1 : decode cX11_tried 1 = .ok (.invokestatic 180, 3) := by decide +kernel
theorem dX11_tried_4 : decode cX11_tried 4 = .ok (.ifCond .ne 5, 3) := by decide +kernel
theorem dX11_tried_7 : decode cX11_tried 7 = .ok (.iconst (-1), 1) := by decide +kernel
theorem dX11_tried_8 : decode cX11_tried 8 = .ok (.ireturn, 1) := by decide +kernel
theorem dX11_tried_9 : decode cX11_tried 9 = .ok (.aload_n 0, 1) := by decide +kernel
theorem dX11_tried_10 : decode cX11_tried 10 = .ok (.getfield 25, 3) := by decide +kernel
theorem dX11_tried_13 : decode cX11_tried 13 = .ok (.aload_n 0, 1) := by decide +kernel
theorem dX11_tried_14 : decode cX11_tried 14 = .ok (.getfield 12, 3) := by decide +kernel
theorem dX11_tried_17 : decode cX11_tried 17 = .ok (.getfield 113, 3) := by decide +kernel
theorem dX11_tried_20 : decode cX11_tried 20 = .ok (.invokevirtual 116, 3) := by decide +kernel
theorem dX11_tried_23 : decode cX11_tried 23 = .ok (.aload_n 0, 1) := by decide +kernel
theorem dX11_tried_24 : decode cX11_tried 24 = .ok (.getfield 57, 3) := by decide +kernel
theorem dX11_tried_27 : decode cX11_tried 27 = .ok (.aload_n 0, 1) := by decide +kernel
theorem dX11_tried_28 : decode cX11_tried 28 = .ok (.getfield 25, 3) := by decide +kernel
theorem dX11_tried_31 : decode cX11_tried 31 = .ok (.iload_n 1, 1) := by decide +kernel
theorem dX11_tried_32 : decode cX11_tried 32 = .ok (.iload_n 2, 1) := by decide +kernel
theorem dX11_tried_33 : decode cX11_tried 33 = .ok (.invokevirtual 183, 3) := by decide +kernel
theorem dX11_tried_36 : decode cX11_tried 36 = .ok (.pop, 1) := by decide +kernel
theorem dX11_tried_37 : decode cX11_tried 37 = .ok (.aload_n 0, 1) := by decide +kernel
theorem dX11_tried_38 : decode cX11_tried 38 = .ok (.aload_n 0, 1) := by decide +kernel
theorem dX11_tried_39 : decode cX11_tried 39 = .ok (.getfield 25, 3) := by decide +kernel
theorem dX11_tried_42 : decode cX11_tried 42 = .ok (.iload_n 3, 1) := by decide +kernel
theorem dX11_tried_43 : decode cX11_tried 43 = .ok (.invokevirtual 287, 3) := by decide +kernel
theorem dX11_tried_46 : decode cX11_tried 46 = .ok (.ireturn, 1) := by decide +kernel
theorem dX11_lost_0 : decode cX11_lost 0 = .ok (.aload_n 0, 1) := by decide +kernel
theorem dX11_lost_1 : decode cX11_lost 1 = .ok (.iload_n 1, 1) := by decide +kernel
theorem dX11_lost_2 : decode cX11_lost 2 = .ok (.invokevirtual 293, 3) := by decide +kernel
theorem dX11_lost_5 : decode cX11_lost 5 = .ok (.astore_n 2, 1) := by decide +kernel
theorem dX11_lost_6 : decode cX11_lost 6 = .ok (.aload_n 2, 1) := by decide +kernel
theorem dX11_lost_7 : decode cX11_lost 7 = .ok (.ifnonnull 5, 3) := by decide +kernel
theorem dX11_lost_10 : decode cX11_lost 10 = .ok (.iconst (-1), 1) := by decide +kernel
theorem dX11_lost_11 : decode cX11_lost 11 = .ok (.ireturn, 1) := by decide +kernel
theorem dX11_lost_12 : decode cX11_lost 12 = .ok (.aload_n 2, 1) := by decide +kernel
theorem dX11_lost_13 : decode cX11_lost 13 = .ok (.getfield 113, 3) := by decide +kernel
theorem dX11_lost_16 : decode cX11_lost 16 = .ok (.astore_n 3, 1) := by decide +kernel
theorem dX11_lost_17 : decode cX11_lost 17 = .ok (.aload_n 0, 1) := by decide +kernel
theorem dX11_lost_18 : decode cX11_lost 18 = .ok (.getfield 12, 3) := by decide +kernel
theorem dX11_lost_21 : decode cX11_lost 21 = .ok (.getfield 113, 3) := by decide +kernel
theorem dX11_lost_24 : decode cX11_lost 24 = .ok (.astore 4, 2) := by decide +kernel
theorem dX11_lost_26 : decode cX11_lost 26 = .ok (.iconst 0, 1) := by decide +kernel
theorem dX11_lost_27 : decode cX11_lost 27 = .ok (.istore 5, 2) := by decide +kernel
theorem dX11_lost_29 : decode cX11_lost 29 = .ok (.iconst 0, 1) := by decide +kernel
theorem dX11_lost_30 : decode cX11_lost 30 = .ok (.istore 6, 2) := by decide +kernel
theorem dX11_lost_32 : decode cX11_lost 32 = .ok (.iload 6, 2) := by decide +kernel
theorem dX11_lost_34 : decode cX11_lost 34 = .ok (.aload_n 3, 1) := by decide +kernel
theorem dX11_lost_35 : decode cX11_lost 35 = .ok (.getfield 297, 3) := by decide +kernel
theorem dX11_lost_38 : decode cX11_lost 38 = .ok (.if_icmp .ge 65, 3) := by decide +kernel
theorem dX11_lost_41 : decode cX11_lost 41 = .ok (.aload_n 3, 1) := by decide +kernel
theorem dX11_lost_42 : decode cX11_lost 42 = .ok (.getfield 171, 3) := by decide +kernel
theorem dX11_lost_45 : decode cX11_lost 45 = .ok (.iload 6, 2) := by decide +kernel
theorem dX11_lost_47 : decode cX11_lost 47 = .ok (.iaload, 1) := by decide +kernel
theorem dX11_lost_48 : decode cX11_lost 48 = .ok (.istore 7, 2) := by decide +kernel
theorem dX11_lost_50 : decode cX11_lost 50 = .ok (.iload 7, 2) := by decide +kernel
theorem dX11_lost_52 : decode cX11_lost 52 = .ok (.ifCond .lt 45, 3) := by decide +kernel
theorem dX11_lost_55 : decode cX11_lost 55 = .ok (.aload 4, 2) := by decide +kernel
theorem dX11_lost_57 : decode cX11_lost 57 = .ok (.iload 7, 2) := by decide +kernel
theorem dX11_lost_59 : decode cX11_lost 59 = .ok (.invokevirtual 131, 3) := by decide +kernel
theorem dX11_lost_62 : decode cX11_lost 62 = .ok (.istore 8, 2) := by decide +kernel
theorem dX11_lost_64 : decode cX11_lost 64 = .ok (.iload 5, 2) := by decide +kernel
theorem dX11_lost_66 : decode cX11_lost 66 = .ok (.iload 8, 2) := by decide +kernel
theorem dX11_lost_68 : decode cX11_lost 68 = .ok (.ifCond .lt 25, 3) := by decide +kernel
theorem dX11_lost_71 : decode cX11_lost 71 = .ok (.aload 4, 2) := by decide +kernel
theorem dX11_lost_73 : decode cX11_lost 73 = .ok (.getfield 141, 3) := by decide +kernel
theorem dX11_lost_76 : decode cX11_lost 76 = .ok (.iload 8, 2) := by decide +kernel
theorem dX11_lost_78 : decode cX11_lost 78 = .ok (.iaload, 1) := by decide +kernel
theorem dX11_lost_79 : decode cX11_lost 79 = .ok (.aload_n 3, 1) := by decide +kernel
theorem dX11_lost_80 : decode cX11_lost 80 = .ok (.getfield 141, 3) := by decide +kernel
theorem dX11_lost_83 : decode cX11_lost 83 = .ok (.iload 6, 2) := by decide +kernel
theorem dX11_lost_85 : decode cX11_lost 85 = .ok (.iaload, 1) := by decide +kernel
theorem dX11_lost_86 : decode cX11_lost 86 = .ok (.if_icmp .ne 7, 3) := by decide +kernel
theorem dX11_lost_89 : decode cX11_lost 89 = .ok (.iconst 0, 1) := by decide +kernel
theorem dX11_lost_90 : decode cX11_lost 90 = .ok (.goto 4, 3) := by decide +kernel
theorem dX11_lost_93 : decode cX11_lost 93 = .ok (.iconst 1, 1) := by decide +kernel
theorem dX11_lost_94 : decode cX11_lost 94 = .ok (.iadd, 1) := by decide +kernel
theorem dX11_lost_95 : decode cX11_lost 95 = .ok (.istore 5, 2) := by decide +kernel
theorem dX11_lost_97 : decode cX11_lost 97 = .ok (.iinc 6 1, 3) := by decide +kernel
theorem dX11_lost_100 : decode cX11_lost 100 = .ok (.goto (-68), 3) := by decide +kernel
theorem dX11_lost_103 : decode cX11_lost 103 = .ok (.iload 5, 2) := by decide +kernel
theorem dX11_lost_105 : decode cX11_lost 105 = .ok (.ireturn, 1) := by decide +kernel
theorem dX11_image_0 : decode cX11_image 0 = .ok (.iload_n 1, 1) := by decide +kernel
theorem dX11_image_1 : decode cX11_image 1 = .ok (.ifCond .lt 8, 3) := by decide +kernel
theorem dX11_image_4 : decode cX11_image 4 = .ok (.iload_n 1, 1) := by decide +kernel
theorem dX11_image_5 : decode cX11_image 5 = .ok (.iconst 3, 1) := by decide +kernel
theorem dX11_image_6 : decode cX11_image 6 = .ok (.if_icmp .lt 5, 3) := by decide +kernel
theorem dX11_image_9 : decode cX11_image 9 = .ok (.iconst 0, 1) := by decide +kernel
theorem dX11_image_10 : decode cX11_image 10 = .ok (.ireturn, 1) := by decide +kernel
theorem dX11_image_11 : decode cX11_image 11 = .ok (.aload_n 0, 1) := by decide +kernel
theorem dX11_image_12 : decode cX11_image 12 = .ok (.getfield 16, 3) := by decide +kernel
theorem dX11_image_15 : decode cX11_image 15 = .ok (.iload_n 1, 1) := by decide +kernel
theorem dX11_image_16 : decode cX11_image 16 = .ok (.aaload, 1) := by decide +kernel
theorem dX11_image_17 : decode cX11_image 17 = .ok (.ifnonnull 16, 3) := by decide +kernel
theorem dX11_image_20 : decode cX11_image 20 = .ok (.aload_n 0, 1) := by decide +kernel
theorem dX11_image_21 : decode cX11_image 21 = .ok (.getfield 16, 3) := by decide +kernel
theorem dX11_image_24 : decode cX11_image 24 = .ok (.iload_n 1, 1) := by decide +kernel
theorem dX11_image_25 : decode cX11_image 25 = .ok (.new 9, 3) := by decide +kernel
theorem dX11_image_28 : decode cX11_image 28 = .ok (.dup, 1) := by decide +kernel
theorem dX11_image_29 : decode cX11_image 29 = .ok (.invokespecial 11, 3) := by decide +kernel
theorem dX11_image_32 : decode cX11_image 32 = .ok (.aastore, 1) := by decide +kernel
theorem dX11_image_33 : decode cX11_image 33 = .ok (.aload_n 0, 1) := by decide +kernel
theorem dX11_image_34 : decode cX11_image 34 = .ok (.getfield 16, 3) := by decide +kernel
theorem dX11_image_37 : decode cX11_image 37 = .ok (.iload_n 1, 1) := by decide +kernel
theorem dX11_image_38 : decode cX11_image 38 = .ok (.aaload, 1) := by decide +kernel
theorem dX11_image_39 : decode cX11_image 39 = .ok (.aload_n 0, 1) := by decide +kernel
theorem dX11_image_40 : decode cX11_image 40 = .ok (.getfield 12, 3) := by decide +kernel
theorem dX11_image_43 : decode cX11_image 43 = .ok (.invokevirtual 300, 3) := by decide +kernel
theorem dX11_image_46 : decode cX11_image 46 = .ok (.iconst 1, 1) := by decide +kernel
theorem dX11_image_47 : decode cX11_image 47 = .ok (.ireturn, 1) := by decide +kernel
theorem dX11_again_0 : decode cX11_again 0 = .ok (.aload_n 0, 1) := by decide +kernel
theorem dX11_again_1 : decode cX11_again 1 = .ok (.iload_n 1, 1) := by decide +kernel
theorem dX11_again_2 : decode cX11_again 2 = .ok (.invokevirtual 293, 3) := by decide +kernel
theorem dX11_again_5 : decode cX11_again 5 = .ok (.astore_n 2, 1) := by decide +kernel
theorem dX11_again_6 : decode cX11_again 6 = .ok (.aload_n 2, 1) := by decide +kernel
theorem dX11_again_7 : decode cX11_again 7 = .ok (.ifnonnull 5, 3) := by decide +kernel
theorem dX11_again_10 : decode cX11_again 10 = .ok (.iconst 0, 1) := by decide +kernel
theorem dX11_again_11 : decode cX11_again 11 = .ok (.ireturn, 1) := by decide +kernel
theorem dX11_again_12 : decode cX11_again 12 = .ok (.aload_n 0, 1) := by decide +kernel
theorem dX11_again_13 : decode cX11_again 13 = .ok (.getfield 12, 3) := by decide +kernel
theorem dX11_again_16 : decode cX11_again 16 = .ok (.aload_n 2, 1) := by decide +kernel
theorem dX11_again_17 : decode cX11_again 17 = .ok (.invokevirtual 300, 3) := by decide +kernel
theorem dX11_again_20 : decode cX11_again 20 = .ok (.iconst 1, 1) := by decide +kernel
theorem dX11_again_21 : decode cX11_again 21 = .ok (.ireturn, 1) := by decide +kernel
theorem dX11_imageOf_0 : decode cX11_imageOf 0 = .ok (.iload_n 1, 1) := by decide +kernel
theorem dX11_imageOf_1 : decode cX11_imageOf 1 = .ok (.ifCond .lt 8, 3) := by decide +kernel
theorem dX11_imageOf_4 : decode cX11_imageOf 4 = .ok (.iload_n 1, 1) := by decide +kernel
theorem dX11_imageOf_5 : decode cX11_imageOf 5 = .ok (.iconst 3, 1) := by decide +kernel
theorem dX11_imageOf_6 : decode cX11_imageOf 6 = .ok (.if_icmp .lt 7, 3) := by decide +kernel
theorem dX11_imageOf_9 : decode cX11_imageOf 9 = .ok (.aconst_null, 1) := by decide +kernel
theorem dX11_imageOf_10 : decode cX11_imageOf 10 = .ok (.goto 9, 3) := by decide +kernel
theorem dX11_imageOf_13 : decode cX11_imageOf 13 = .ok (.aload_n 0, 1) := by decide +kernel
theorem dX11_imageOf_14 : decode cX11_imageOf 14 = .ok (.getfield 16, 3) := by decide +kernel
theorem dX11_imageOf_17 : decode cX11_imageOf 17 = .ok (.iload_n 1, 1) := by decide +kernel
theorem dX11_imageOf_18 : decode cX11_imageOf 18 = .ok (.aaload, 1) := by decide +kernel
theorem dX11_imageOf_19 : decode cX11_imageOf 19 = .ok (.areturn, 1) := by decide +kernel
theorem dX11_isNumber_0 : decode cX11_isNumber 0 = .ok (.iload_n 0, 1) := by decide +kernel
theorem dX11_isNumber_1 : decode cX11_isNumber 1 = .ok (.ifCond .lt 14, 3) := by decide +kernel
theorem dX11_isNumber_4 : decode cX11_isNumber 4 = .ok (.iload_n 0, 1) := by decide +kernel
theorem dX11_isNumber_5 : decode cX11_isNumber 5 = .ok (.sipush 1000, 3) := by decide +kernel
theorem dX11_isNumber_8 : decode cX11_isNumber 8 = .ok (.if_icmp .ge 7, 3) := by decide +kernel
theorem dX11_isNumber_11 : decode cX11_isNumber 11 = .ok (.iconst 1, 1) := by decide +kernel
theorem dX11_isNumber_12 : decode cX11_isNumber 12 = .ok (.goto 4, 3) := by decide +kernel
theorem dX11_isNumber_15 : decode cX11_isNumber 15 = .ok (.iconst 0, 1) := by decide +kernel
theorem dX11_isNumber_16 : decode cX11_isNumber 16 = .ok (.ireturn, 1) := by decide +kernel
theorem dX11_isLoad_0 : decode cX11_isLoad 0 = .ok (.iload_n 0, 1) := by decide +kernel
theorem dX11_isLoad_1 : decode cX11_isLoad 1 = .ok (.iconst 1, 1) := by decide +kernel
theorem dX11_isLoad_2 : decode cX11_isLoad 2 = .ok (.if_icmp .lt 13, 3) := by decide +kernel
theorem dX11_isLoad_5 : decode cX11_isLoad 5 = .ok (.iload_n 0, 1) := by decide +kernel
theorem dX11_isLoad_6 : decode cX11_isLoad 6 = .ok (.bipush 12, 2) := by decide +kernel
theorem dX11_isLoad_8 : decode cX11_isLoad 8 = .ok (.if_icmp .gt 7, 3) := by decide +kernel
theorem dX11_isLoad_11 : decode cX11_isLoad 11 = .ok (.iconst 1, 1) := by decide +kernel
theorem dX11_isLoad_12 : decode cX11_isLoad 12 = .ok (.goto 4, 3) := by decide +kernel
theorem dX11_isLoad_15 : decode cX11_isLoad 15 = .ok (.iconst 0, 1) := by decide +kernel
theorem dX11_isLoad_16 : decode cX11_isLoad 16 = .ok (.ireturn, 1) := by decide +kernel
theorem dX11_areHashes_0 : decode cX11_areHashes 0 = .ok (.iload_n 0, 1) := by decide +kernel
theorem dX11_areHashes_1 : decode cX11_areHashes 1 = .ok (.iconst 1, 1) := by decide +kernel
theorem dX11_areHashes_2 : decode cX11_areHashes 2 = .ok (.if_icmp .lt 25, 3) := by decide +kernel
theorem dX11_areHashes_5 : decode cX11_areHashes 5 = .ok (.iload_n 0, 1) := by decide +kernel
theorem dX11_areHashes_6 : decode cX11_areHashes 6 = .ok (.sipush 1009, 3) := by decide +kernel
theorem dX11_areHashes_9 : decode cX11_areHashes 9 = .ok (.if_icmp .ge 18, 3) := by decide +kernel
theorem dX11_areHashes_12 : decode cX11_areHashes 12 = .ok (.iload_n 1, 1) := by decide +kernel
theorem dX11_areHashes_13 : decode cX11_areHashes 13 = .ok (.ifCond .lt 14, 3) := by decide +kernel
theorem dX11_areHashes_16 : decode cX11_areHashes 16 = .ok (.iload_n 1, 1) := by decide +kernel
theorem dX11_areHashes_17 : decode cX11_areHashes 17 = .ok (.sipush 1009, 3) := by decide +kernel
theorem dX11_areHashes_20 : decode cX11_areHashes 20 = .ok (.if_icmp .ge 7, 3) := by decide +kernel
theorem dX11_areHashes_23 : decode cX11_areHashes 23 = .ok (.iconst 1, 1) := by decide +kernel
theorem dX11_areHashes_24 : decode cX11_areHashes 24 = .ok (.goto 4, 3) := by decide +kernel
theorem dX11_areHashes_27 : decode cX11_areHashes 27 = .ok (.iconst 0, 1) := by decide +kernel
theorem dX11_areHashes_28 : decode cX11_areHashes 28 = .ok (.ireturn, 1) := by decide +kernel
theorem dX11_answerFor_0 : decode cX11_answerFor 0 = .ok (.aload_n 0, 1) := by decide +kernel
theorem dX11_answerFor_1 : decode cX11_answerFor 1 = .ok (.getfield 25, 3) := by decide +kernel
theorem dX11_answerFor_4 : decode cX11_answerFor 4 = .ok (.aload_n 0, 1) := by decide +kernel
theorem dX11_answerFor_5 : decode cX11_answerFor 5 = .ok (.getfield 12, 3) := by decide +kernel
theorem dX11_answerFor_8 : decode cX11_answerFor 8 = .ok (.getfield 113, 3) := by decide +kernel
theorem dX11_answerFor_11 : decode cX11_answerFor 11 = .ok (.invokevirtual 116, 3) := by decide +kernel
theorem dX11_answerFor_14 : decode cX11_answerFor 14 = .ok (.aload_n 0, 1) := by decide +kernel
theorem dX11_answerFor_15 : decode cX11_answerFor 15 = .ok (.getfield 57, 3) := by decide +kernel
theorem dX11_answerFor_18 : decode cX11_answerFor 18 = .ok (.aload_n 0, 1) := by decide +kernel
theorem dX11_answerFor_19 : decode cX11_answerFor 19 = .ok (.getfield 25, 3) := by decide +kernel
theorem dX11_answerFor_22 : decode cX11_answerFor 22 = .ok (.iload_n 1, 1) := by decide +kernel
theorem dX11_answerFor_23 : decode cX11_answerFor 23 = .ok (.iconst 0, 1) := by decide +kernel
theorem dX11_answerFor_24 : decode cX11_answerFor 24 = .ok (.invokevirtual 127, 3) := by decide +kernel
theorem dX11_answerFor_27 : decode cX11_answerFor 27 = .ok (.ireturn, 1) := by decide +kernel
theorem dX11_tell_0 : decode cX11_tell 0 = .ok (.iload_n 2, 1) := by decide +kernel
theorem dX11_tell_1 : decode cX11_tell 1 = .ok (.iconst 1, 1) := by decide +kernel
theorem dX11_tell_2 : decode cX11_tell 2 = .ok (.if_icmp .lt 15, 3) := by decide +kernel
theorem dX11_tell_5 : decode cX11_tell 5 = .ok (.iload_n 2, 1) := by decide +kernel
theorem dX11_tell_6 : decode cX11_tell 6 = .ok (.bipush 13, 2) := by decide +kernel
theorem dX11_tell_8 : decode cX11_tell 8 = .ok (.if_icmp .gt 9, 3) := by decide +kernel
theorem dX11_tell_11 : decode cX11_tell 11 = .ok (.aload_n 1, 1) := by decide +kernel
theorem dX11_tell_12 : decode cX11_tell 12 = .ok (.iload_n 2, 1) := by decide +kernel
theorem dX11_tell_13 : decode cX11_tell 13 = .ok (.invokestatic 303, 3) := by decide +kernel
theorem dX11_tell_16 : decode cX11_tell 16 = .ok (.ireturn, 1) := by decide +kernel
theorem dX11_tell_17 : decode cX11_tell 17 = .ok (.iload_n 2, 1) := by decide +kernel
theorem dX11_tell_18 : decode cX11_tell 18 = .ok (.tableswitch 212 0 25 #[118, 212, 212, 212, 212, 212, 212, 212, 212, 212, 212, 212, 212, 212, 123, 128, 133, 138, 143, 148, 153, 158, 163, 168, 177, 201], 118) := by decide +kernel
theorem dX11_tell_136 : decode cX11_tell 136 = .ok (.aload_n 1, 1) := by decide +kernel
theorem dX11_tell_137 : decode cX11_tell 137 = .ok (.invokevirtual 120, 3) := by decide +kernel
theorem dX11_tell_140 : decode cX11_tell 140 = .ok (.ireturn, 1) := by decide +kernel
theorem dX11_tell_141 : decode cX11_tell 141 = .ok (.aload_n 1, 1) := by decide +kernel
theorem dX11_tell_142 : decode cX11_tell 142 = .ok (.getfield 306, 3) := by decide +kernel
theorem dX11_tell_145 : decode cX11_tell 145 = .ok (.ireturn, 1) := by decide +kernel
theorem dX11_tell_146 : decode cX11_tell 146 = .ok (.aload_n 1, 1) := by decide +kernel
theorem dX11_tell_147 : decode cX11_tell 147 = .ok (.getfield 309, 3) := by decide +kernel
theorem dX11_tell_150 : decode cX11_tell 150 = .ok (.ireturn, 1) := by decide +kernel
theorem dX11_tell_151 : decode cX11_tell 151 = .ok (.aload_n 1, 1) := by decide +kernel
theorem dX11_tell_152 : decode cX11_tell 152 = .ok (.getfield 312, 3) := by decide +kernel
theorem dX11_tell_155 : decode cX11_tell 155 = .ok (.ireturn, 1) := by decide +kernel
theorem dX11_tell_156 : decode cX11_tell 156 = .ok (.aload_n 1, 1) := by decide +kernel
theorem dX11_tell_157 : decode cX11_tell 157 = .ok (.getfield 315, 3) := by decide +kernel
theorem dX11_tell_160 : decode cX11_tell 160 = .ok (.ireturn, 1) := by decide +kernel
theorem dX11_tell_161 : decode cX11_tell 161 = .ok (.aload_n 1, 1) := by decide +kernel
theorem dX11_tell_162 : decode cX11_tell 162 = .ok (.invokevirtual 318, 3) := by decide +kernel
theorem dX11_tell_165 : decode cX11_tell 165 = .ok (.ireturn, 1) := by decide +kernel
theorem dX11_tell_166 : decode cX11_tell 166 = .ok (.aload_n 1, 1) := by decide +kernel
theorem dX11_tell_167 : decode cX11_tell 167 = .ok (.invokevirtual 321, 3) := by decide +kernel
theorem dX11_tell_170 : decode cX11_tell 170 = .ok (.ireturn, 1) := by decide +kernel
theorem dX11_tell_171 : decode cX11_tell 171 = .ok (.aload_n 1, 1) := by decide +kernel
theorem dX11_tell_172 : decode cX11_tell 172 = .ok (.getfield 135, 3) := by decide +kernel
theorem dX11_tell_175 : decode cX11_tell 175 = .ok (.ireturn, 1) := by decide +kernel
theorem dX11_tell_176 : decode cX11_tell 176 = .ok (.aload_n 1, 1) := by decide +kernel
theorem dX11_tell_177 : decode cX11_tell 177 = .ok (.invokevirtual 324, 3) := by decide +kernel
theorem dX11_tell_180 : decode cX11_tell 180 = .ok (.ireturn, 1) := by decide +kernel
theorem dX11_tell_181 : decode cX11_tell 181 = .ok (.aload_n 1, 1) := by decide +kernel
theorem dX11_tell_182 : decode cX11_tell 182 = .ok (.getfield 327, 3) := by decide +kernel
theorem dX11_tell_185 : decode cX11_tell 185 = .ok (.ireturn, 1) := by decide +kernel
theorem dX11_tell_186 : decode cX11_tell 186 = .ok (.aload_n 0, 1) := by decide +kernel
theorem dX11_tell_187 : decode cX11_tell 187 = .ok (.getfield 64, 3) := by decide +kernel
theorem dX11_tell_190 : decode cX11_tell 190 = .ok (.aload_n 1, 1) := by decide +kernel
theorem dX11_tell_191 : decode cX11_tell 191 = .ok (.invokevirtual 239, 3) := by decide +kernel
theorem dX11_tell_194 : decode cX11_tell 194 = .ok (.ireturn, 1) := by decide +kernel
theorem dX11_tell_195 : decode cX11_tell 195 = .ok (.aload_n 0, 1) := by decide +kernel
theorem dX11_tell_196 : decode cX11_tell 196 = .ok (.getfield 64, 3) := by decide +kernel
theorem dX11_tell_199 : decode cX11_tell 199 = .ok (.aload_n 1, 1) := by decide +kernel
theorem dX11_tell_200 : decode cX11_tell 200 = .ok (.invokevirtual 239, 3) := by decide +kernel
theorem dX11_tell_203 : decode cX11_tell 203 = .ok (.pop, 1) := by decide +kernel
theorem dX11_tell_204 : decode cX11_tell 204 = .ok (.aload_n 0, 1) := by decide +kernel
theorem dX11_tell_205 : decode cX11_tell 205 = .ok (.getfield 64, 3) := by decide +kernel
theorem dX11_tell_208 : decode cX11_tell 208 = .ok (.aload_n 1, 1) := by decide +kernel
theorem dX11_tell_209 : decode cX11_tell 209 = .ok (.getfield 213, 3) := by decide +kernel
theorem dX11_tell_212 : decode cX11_tell 212 = .ok (.getfield 236, 3) := by decide +kernel
theorem dX11_tell_215 : decode cX11_tell 215 = .ok (.invokevirtual 330, 3) := by decide +kernel
theorem dX11_tell_218 : decode cX11_tell 218 = .ok (.ireturn, 1) := by decide +kernel
theorem dX11_tell_219 : decode cX11_tell 219 = .ok (.aload_n 1, 1) := by decide +kernel
theorem dX11_tell_220 : decode cX11_tell 220 = .ok (.getfield 213, 3) := by decide +kernel
theorem dX11_tell_223 : decode cX11_tell 223 = .ok (.getfield 333, 3) := by decide +kernel
theorem dX11_tell_226 : decode cX11_tell 226 = .ok (.getfield 337, 3) := by decide +kernel
theorem dX11_tell_229 : decode cX11_tell 229 = .ok (.ireturn, 1) := by decide +kernel
theorem dX11_tell_230 : decode cX11_tell 230 = .ok (.iconst (-1), 1) := by decide +kernel
theorem dX11_tell_231 : decode cX11_tell 231 = .ok (.ireturn, 1) := by decide +kernel
theorem dX11_tellOfSettings_0 : decode cX11_tellOfSettings 0 = .ok (.aload_n 0, 1) := by decide +kernel
theorem dX11_tellOfSettings_1 : decode cX11_tellOfSettings 1 = .ok (.getfield 213, 3) := by decide +kernel
theorem dX11_tellOfSettings_4 : decode cX11_tellOfSettings 4 = .ok (.astore_n 2, 1) := by decide +kernel
theorem dX11_tellOfSettings_5 : decode cX11_tellOfSettings 5 = .ok (.iload_n 1, 1) := by decide +kernel
theorem dX11_tellOfSettings_6 : decode cX11_tellOfSettings 6 = .ok (.tableswitch 146 1 13 #[66, 71, 76, 81, 86, 106, 111, 116, 121, 126, 131, 136, 141], 66) := by decide +kernel
theorem dX11_tellOfSettings_72 : decode cX11_tellOfSettings 72 = .ok (.aload_n 2, 1) := by decide +kernel
theorem dX11_tellOfSettings_73 : decode cX11_tellOfSettings 73 = .ok (.getfield 236, 3) := by decide +kernel
theorem dX11_tellOfSettings_76 : decode cX11_tellOfSettings 76 = .ok (.ireturn, 1) := by decide +kernel
theorem dX11_tellOfSettings_77 : decode cX11_tellOfSettings 77 = .ok (.aload_n 2, 1) := by decide +kernel
theorem dX11_tellOfSettings_78 : decode cX11_tellOfSettings 78 = .ok (.getfield 255, 3) := by decide +kernel
theorem dX11_tellOfSettings_81 : decode cX11_tellOfSettings 81 = .ok (.ireturn, 1) := by decide +kernel
theorem dX11_tellOfSettings_82 : decode cX11_tellOfSettings 82 = .ok (.aload_n 2, 1) := by decide +kernel
theorem dX11_tellOfSettings_83 : decode cX11_tellOfSettings 83 = .ok (.getfield 342, 3) := by decide +kernel
theorem dX11_tellOfSettings_86 : decode cX11_tellOfSettings 86 = .ok (.ireturn, 1) := by decide +kernel
theorem dX11_tellOfSettings_87 : decode cX11_tellOfSettings 87 = .ok (.aload_n 0, 1) := by decide +kernel
theorem dX11_tellOfSettings_88 : decode cX11_tellOfSettings 88 = .ok (.getfield 345, 3) := by decide +kernel
theorem dX11_tellOfSettings_91 : decode cX11_tellOfSettings 91 = .ok (.ireturn, 1) := by decide +kernel
theorem dX11_tellOfSettings_92 : decode cX11_tellOfSettings 92 = .ok (.aload_n 2, 1) := by decide +kernel
theorem dX11_tellOfSettings_93 : decode cX11_tellOfSettings 93 = .ok (.getfield 236, 3) := by decide +kernel
theorem dX11_tellOfSettings_96 : decode cX11_tellOfSettings 96 = .ok (.aload_n 2, 1) := by decide +kernel
theorem dX11_tellOfSettings_97 : decode cX11_tellOfSettings 97 = .ok (.getfield 255, 3) := by decide +kernel
theorem dX11_tellOfSettings_100 : decode cX11_tellOfSettings 100 = .ok (.imul, 1) := by decide +kernel
theorem dX11_tellOfSettings_101 : decode cX11_tellOfSettings 101 = .ok (.aload_n 0, 1) := by decide +kernel
theorem dX11_tellOfSettings_102 : decode cX11_tellOfSettings 102 = .ok (.invokevirtual 120, 3) := by decide +kernel
theorem dX11_tellOfSettings_105 : decode cX11_tellOfSettings 105 = .ok (.aload_n 0, 1) := by decide +kernel
theorem dX11_tellOfSettings_106 : decode cX11_tellOfSettings 106 = .ok (.getfield 345, 3) := by decide +kernel
theorem dX11_tellOfSettings_109 : decode cX11_tellOfSettings 109 = .ok (.isub, 1) := by decide +kernel
theorem dX11_tellOfSettings_110 : decode cX11_tellOfSettings 110 = .ok (.isub, 1) := by decide +kernel
theorem dX11_tellOfSettings_111 : decode cX11_tellOfSettings 111 = .ok (.ireturn, 1) := by decide +kernel
theorem dX11_tellOfSettings_112 : decode cX11_tellOfSettings 112 = .ok (.aload_n 2, 1) := by decide +kernel
theorem dX11_tellOfSettings_113 : decode cX11_tellOfSettings 113 = .ok (.getfield 348, 3) := by decide +kernel
theorem dX11_tellOfSettings_116 : decode cX11_tellOfSettings 116 = .ok (.ireturn, 1) := by decide +kernel
theorem dX11_tellOfSettings_117 : decode cX11_tellOfSettings 117 = .ok (.aload_n 2, 1) := by decide +kernel
theorem dX11_tellOfSettings_118 : decode cX11_tellOfSettings 118 = .ok (.getfield 351, 3) := by decide +kernel
theorem dX11_tellOfSettings_121 : decode cX11_tellOfSettings 121 = .ok (.ireturn, 1) := by decide +kernel
theorem dX11_tellOfSettings_122 : decode cX11_tellOfSettings 122 = .ok (.aload_n 2, 1) := by decide +kernel
theorem dX11_tellOfSettings_123 : decode cX11_tellOfSettings 123 = .ok (.getfield 354, 3) := by decide +kernel
theorem dX11_tellOfSettings_126 : decode cX11_tellOfSettings 126 = .ok (.ireturn, 1) := by decide +kernel
theorem dX11_tellOfSettings_127 : decode cX11_tellOfSettings 127 = .ok (.aload_n 2, 1) := by decide +kernel
theorem dX11_tellOfSettings_128 : decode cX11_tellOfSettings 128 = .ok (.getfield 357, 3) := by decide +kernel
theorem dX11_tellOfSettings_131 : decode cX11_tellOfSettings 131 = .ok (.ireturn, 1) := by decide +kernel
theorem dX11_tellOfSettings_132 : decode cX11_tellOfSettings 132 = .ok (.aload_n 2, 1) := by decide +kernel
theorem dX11_tellOfSettings_133 : decode cX11_tellOfSettings 133 = .ok (.getfield 360, 3) := by decide +kernel
theorem dX11_tellOfSettings_136 : decode cX11_tellOfSettings 136 = .ok (.ireturn, 1) := by decide +kernel
theorem dX11_tellOfSettings_137 : decode cX11_tellOfSettings 137 = .ok (.aload_n 2, 1) := by decide +kernel
theorem dX11_tellOfSettings_138 : decode cX11_tellOfSettings 138 = .ok (.getfield 363, 3) := by decide +kernel
theorem dX11_tellOfSettings_141 : decode cX11_tellOfSettings 141 = .ok (.ireturn, 1) := by decide +kernel
theorem dX11_tellOfSettings_142 : decode cX11_tellOfSettings 142 = .ok (.aload_n 2, 1) := by decide +kernel
theorem dX11_tellOfSettings_143 : decode cX11_tellOfSettings 143 = .ok (.getfield 366, 3) := by decide +kernel
theorem dX11_tellOfSettings_146 : decode cX11_tellOfSettings 146 = .ok (.ireturn, 1) := by decide +kernel
theorem dX11_tellOfSettings_147 : decode cX11_tellOfSettings 147 = .ok (.aload_n 2, 1) := by decide +kernel
theorem dX11_tellOfSettings_148 : decode cX11_tellOfSettings 148 = .ok (.getfield 369, 3) := by decide +kernel
theorem dX11_tellOfSettings_151 : decode cX11_tellOfSettings 151 = .ok (.ireturn, 1) := by decide +kernel
theorem dX11_tellOfSettings_152 : decode cX11_tellOfSettings 152 = .ok (.iconst (-1), 1) := by decide +kernel
theorem dX11_tellOfSettings_153 : decode cX11_tellOfSettings 153 = .ok (.ireturn, 1) := by decide +kernel
