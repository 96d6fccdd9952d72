theorem dX8_init_0 : decode cX8_init 0 = .ok (.aload_n 0, 1) := by decide +kernel
theorem dX8_init_1 : decode cX8_init 1 = .ok (.invokespecial 3, 3) := by decide +kernel
theorem dX8_init_4 : decode cX8_init 4 = .ok (.aload_n 0, 1) := by decide +kernel
theorem dX8_init_5 : decode cX8_init 5 = .ok (.new 9, 3) := by decide +kernel
theorem dX8_init_8 : decode cX8_init 8 = .ok (.dup, 1) := by decide +kernel
theorem dX8_init_9 : decode cX8_init 9 = .ok (.invokespecial 11, 3) := by decide +kernel
theorem dX8_init_12 : decode cX8_init 12 = .ok (.putfield 12, 3) := by decide +kernel
theorem dX8_init_15 : decode cX8_init 15 = .ok (.aload_n 0, 1) := by decide +kernel
theorem dX8_init_16 : decode cX8_init 16 = .ok (.invokevirtual 18, 3) := by decide +kernel
theorem dX8_init_19 : decode cX8_init 19 = .ok (.return_, 1) := by decide +kernel
theorem dX8_begin_0 : decode cX8_begin 0 = .ok (.aload_n 0, 1) := by decide +kernel
theorem dX8_begin_1 : decode cX8_begin 1 = .ok (.iconst 4, 1) := by decide +kernel
theorem dX8_begin_2 : decode cX8_begin 2 = .ok (.putfield 21, 3) := by decide +kernel
theorem dX8_begin_5 : decode cX8_begin 5 = .ok (.aload_n 0, 1) := by decide +kernel
theorem dX8_begin_6 : decode cX8_begin 6 = .ok (.iconst 2, 1) := by decide +kernel
theorem dX8_begin_7 : decode cX8_begin 7 = .ok (.putfield 25, 3) := by decide +kernel
theorem dX8_begin_10 : decode cX8_begin 10 = .ok (.aload_n 0, 1) := by decide +kernel
theorem dX8_begin_11 : decode cX8_begin 11 = .ok (.iconst 2, 1) := by decide +kernel
theorem dX8_begin_12 : decode cX8_begin 12 = .ok (.putfield 28, 3) := by decide +kernel
theorem dX8_begin_15 : decode cX8_begin 15 = .ok (.aload_n 0, 1) := by decide +kernel
theorem dX8_begin_16 : decode cX8_begin 16 = .ok (.bipush 6, 2) := by decide +kernel
theorem dX8_begin_18 : decode cX8_begin 18 = .ok (.putfield 31, 3) := by decide +kernel
theorem dX8_begin_21 : decode cX8_begin 21 = .ok (.aload_n 0, 1) := by decide +kernel
theorem dX8_begin_22 : decode cX8_begin 22 = .ok (.iconst 2, 1) := by decide +kernel
theorem dX8_begin_23 : decode cX8_begin 23 = .ok (.putfield 34, 3) := by decide +kernel
theorem dX8_begin_26 : decode cX8_begin 26 = .ok (.aload_n 0, 1) := by decide +kernel
theorem dX8_begin_27 : decode cX8_begin 27 = .ok (.iconst 2, 1) := by decide +kernel
theorem dX8_begin_28 : decode cX8_begin 28 = .ok (.putfield 37, 3) := by decide +kernel
theorem dX8_begin_31 : decode cX8_begin 31 = .ok (.aload_n 0, 1) := by decide +kernel
theorem dX8_begin_32 : decode cX8_begin 32 = .ok (.iconst 0, 1) := by decide +kernel
theorem dX8_begin_33 : decode cX8_begin 33 = .ok (.putfield 40, 3) := by decide +kernel
theorem dX8_begin_36 : decode cX8_begin 36 = .ok (.aload_n 0, 1) := by decide +kernel
theorem dX8_begin_37 : decode cX8_begin 37 = .ok (.iconst 3, 1) := by decide +kernel
theorem dX8_begin_38 : decode cX8_begin 38 = .ok (.iconst 1, 1) := by decide +kernel
theorem dX8_begin_39 : decode cX8_begin 39 = .ok (.iconst 5, 1) := by decide +kernel
theorem dX8_begin_40 : decode cX8_begin 40 = .ok (.iconst 2, 1) := by decide +kernel
theorem dX8_begin_41 : decode cX8_begin 41 = .ok (.invokevirtual 43, 3) := by decide +kernel
theorem dX8_begin_44 : decode cX8_begin 44 = .ok (.aload_n 0, 1) := by decide +kernel
theorem dX8_begin_45 : decode cX8_begin 45 = .ok (.getfield 12, 3) := by decide +kernel
theorem dX8_begin_48 : decode cX8_begin 48 = .ok (.iconst 0, 1) := by decide +kernel
theorem dX8_begin_49 : decode cX8_begin 49 = .ok (.putfield 47, 3) := by decide +kernel
theorem dX8_begin_52 : decode cX8_begin 52 = .ok (.return_, 1) := by decide +kernel
theorem dX8_copyFrom_0 : decode cX8_copyFrom 0 = .ok (.aload_n 0, 1) := by decide +kernel
theorem dX8_copyFrom_1 : decode cX8_copyFrom 1 = .ok (.aload_n 1, 1) := by decide +kernel
theorem dX8_copyFrom_2 : decode cX8_copyFrom 2 = .ok (.getfield 21, 3) := by decide +kernel
theorem dX8_copyFrom_5 : decode cX8_copyFrom 5 = .ok (.putfield 21, 3) := by decide +kernel
theorem dX8_copyFrom_8 : decode cX8_copyFrom 8 = .ok (.aload_n 0, 1) := by decide +kernel
theorem dX8_copyFrom_9 : decode cX8_copyFrom 9 = .ok (.aload_n 1, 1) := by decide +kernel
theorem dX8_copyFrom_10 : decode cX8_copyFrom 10 = .ok (.getfield 25, 3) := by decide +kernel
theorem dX8_copyFrom_13 : decode cX8_copyFrom 13 = .ok (.putfield 25, 3) := by decide +kernel
theorem dX8_copyFrom_16 : decode cX8_copyFrom 16 = .ok (.aload_n 0, 1) := by decide +kernel
theorem dX8_copyFrom_17 : decode cX8_copyFrom 17 = .ok (.aload_n 1, 1) := by decide +kernel
theorem dX8_copyFrom_18 : decode cX8_copyFrom 18 = .ok (.getfield 28, 3) := by decide +kernel
theorem dX8_copyFrom_21 : decode cX8_copyFrom 21 = .ok (.putfield 28, 3) := by decide +kernel
theorem dX8_copyFrom_24 : decode cX8_copyFrom 24 = .ok (.aload_n 0, 1) := by decide +kernel
theorem dX8_copyFrom_25 : decode cX8_copyFrom 25 = .ok (.aload_n 1, 1) := by decide +kernel
theorem dX8_copyFrom_26 : decode cX8_copyFrom 26 = .ok (.getfield 31, 3) := by decide +kernel
theorem dX8_copyFrom_29 : decode cX8_copyFrom 29 = .ok (.putfield 31, 3) := by decide +kernel
theorem dX8_copyFrom_32 : decode cX8_copyFrom 32 = .ok (.aload_n 0, 1) := by decide +kernel
theorem dX8_copyFrom_33 : decode cX8_copyFrom 33 = .ok (.aload_n 1, 1) := by decide +kernel
theorem dX8_copyFrom_34 : decode cX8_copyFrom 34 = .ok (.getfield 34, 3) := by decide +kernel
theorem dX8_copyFrom_37 : decode cX8_copyFrom 37 = .ok (.putfield 34, 3) := by decide +kernel
theorem dX8_copyFrom_40 : decode cX8_copyFrom 40 = .ok (.aload_n 0, 1) := by decide +kernel
theorem dX8_copyFrom_41 : decode cX8_copyFrom 41 = .ok (.aload_n 1, 1) := by decide +kernel
theorem dX8_copyFrom_42 : decode cX8_copyFrom 42 = .ok (.getfield 37, 3) := by decide +kernel
theorem dX8_copyFrom_45 : decode cX8_copyFrom 45 = .ok (.putfield 37, 3) := by decide +kernel
theorem dX8_copyFrom_48 : decode cX8_copyFrom 48 = .ok (.aload_n 0, 1) := by decide +kernel
theorem dX8_copyFrom_49 : decode cX8_copyFrom 49 = .ok (.aload_n 1, 1) := by decide +kernel
theorem dX8_copyFrom_50 : decode cX8_copyFrom 50 = .ok (.getfield 40, 3) := by decide +kernel
theorem dX8_copyFrom_53 : decode cX8_copyFrom 53 = .ok (.putfield 40, 3) := by decide +kernel
theorem dX8_copyFrom_56 : decode cX8_copyFrom 56 = .ok (.aload_n 0, 1) := by decide +kernel
theorem dX8_copyFrom_57 : decode cX8_copyFrom 57 = .ok (.aload_n 1, 1) := by decide +kernel
theorem dX8_copyFrom_58 : decode cX8_copyFrom 58 = .ok (.getfield 50, 3) := by decide +kernel
theorem dX8_copyFrom_61 : decode cX8_copyFrom 61 = .ok (.aload_n 1, 1) := by decide +kernel
theorem dX8_copyFrom_62 : decode cX8_copyFrom 62 = .ok (.getfield 53, 3) := by decide +kernel
theorem dX8_copyFrom_65 : decode cX8_copyFrom 65 = .ok (.aload_n 1, 1) := by decide +kernel
theorem dX8_copyFrom_66 : decode cX8_copyFrom 66 = .ok (.getfield 56, 3) := by decide +kernel
theorem dX8_copyFrom_69 : decode cX8_copyFrom 69 = .ok (.aload_n 1, 1) := by decide +kernel
theorem dX8_copyFrom_70 : decode cX8_copyFrom 70 = .ok (.getfield 59, 3) := by decide +kernel
theorem dX8_copyFrom_73 : decode cX8_copyFrom 73 = .ok (.invokevirtual 43, 3) := by decide +kernel
theorem dX8_copyFrom_76 : decode cX8_copyFrom 76 = .ok (.aload_n 0, 1) := by decide +kernel
theorem dX8_copyFrom_77 : decode cX8_copyFrom 77 = .ok (.getfield 12, 3) := by decide +kernel
theorem dX8_copyFrom_80 : decode cX8_copyFrom 80 = .ok (.aload_n 1, 1) := by decide +kernel
theorem dX8_copyFrom_81 : decode cX8_copyFrom 81 = .ok (.getfield 12, 3) := by decide +kernel
theorem dX8_copyFrom_84 : decode cX8_copyFrom 84 = .ok (.getfield 47, 3) := by decide +kernel
theorem dX8_copyFrom_87 : decode cX8_copyFrom 87 = .ok (.putfield 47, 3) := by decide +kernel
theorem dX8_copyFrom_90 : decode cX8_copyFrom 90 = .ok (.return_, 1) := by decide +kernel
theorem dX8_takeHashes_0 : decode cX8_takeHashes 0 = .ok (.aload_n 0, 1) := by decide +kernel
theorem dX8_takeHashes_1 : decode cX8_takeHashes 1 = .ok (.iload_n 1, 1) := by decide +kernel
theorem dX8_takeHashes_2 : decode cX8_takeHashes 2 = .ok (.putfield 50, 3) := by decide +kernel
theorem dX8_takeHashes_5 : decode cX8_takeHashes 5 = .ok (.aload_n 0, 1) := by decide +kernel
theorem dX8_takeHashes_6 : decode cX8_takeHashes 6 = .ok (.iload_n 2, 1) := by decide +kernel
theorem dX8_takeHashes_7 : decode cX8_takeHashes 7 = .ok (.putfield 53, 3) := by decide +kernel
theorem dX8_takeHashes_10 : decode cX8_takeHashes 10 = .ok (.aload_n 0, 1) := by decide +kernel
theorem dX8_takeHashes_11 : decode cX8_takeHashes 11 = .ok (.iload_n 3, 1) := by decide +kernel
theorem dX8_takeHashes_12 : decode cX8_takeHashes 12 = .ok (.putfield 56, 3) := by decide +kernel
theorem dX8_takeHashes_15 : decode cX8_takeHashes 15 = .ok (.aload_n 0, 1) := by decide +kernel
theorem dX8_takeHashes_16 : decode cX8_takeHashes 16 = .ok (.iload 4, 2) := by decide +kernel
theorem dX8_takeHashes_18 : decode cX8_takeHashes 18 = .ok (.putfield 59, 3) := by decide +kernel
theorem dX8_takeHashes_21 : decode cX8_takeHashes 21 = .ok (.return_, 1) := by decide +kernel
theorem dX8_drawHashes_0 : decode cX8_drawHashes 0 = .ok (.aload_n 0, 1) := by decide +kernel
theorem dX8_drawHashes_1 : decode cX8_drawHashes 1 = .ok (.iconst 1, 1) := by decide +kernel
theorem dX8_drawHashes_2 : decode cX8_drawHashes 2 = .ok (.aload_n 0, 1) := by decide +kernel
theorem dX8_drawHashes_3 : decode cX8_drawHashes 3 = .ok (.getfield 12, 3) := by decide +kernel
theorem dX8_drawHashes_6 : decode cX8_drawHashes 6 = .ok (.sipush 1008, 3) := by decide +kernel
theorem dX8_drawHashes_9 : decode cX8_drawHashes 9 = .ok (.invokevirtual 62, 3) := by decide +kernel
theorem dX8_drawHashes_12 : decode cX8_drawHashes 12 = .ok (.iadd, 1) := by decide +kernel
theorem dX8_drawHashes_13 : decode cX8_drawHashes 13 = .ok (.putfield 50, 3) := by decide +kernel
theorem dX8_drawHashes_16 : decode cX8_drawHashes 16 = .ok (.aload_n 0, 1) := by decide +kernel
theorem dX8_drawHashes_17 : decode cX8_drawHashes 17 = .ok (.aload_n 0, 1) := by decide +kernel
theorem dX8_drawHashes_18 : decode cX8_drawHashes 18 = .ok (.getfield 12, 3) := by decide +kernel
theorem dX8_drawHashes_21 : decode cX8_drawHashes 21 = .ok (.sipush 1009, 3) := by decide +kernel
theorem dX8_drawHashes_24 : decode cX8_drawHashes 24 = .ok (.invokevirtual 62, 3) := by decide +kernel
theorem dX8_drawHashes_27 : decode cX8_drawHashes 27 = .ok (.putfield 53, 3) := by decide +kernel
theorem dX8_drawHashes_30 : decode cX8_drawHashes 30 = .ok (.aload_n 0, 1) := by decide +kernel
theorem dX8_drawHashes_31 : decode cX8_drawHashes 31 = .ok (.iconst 1, 1) := by decide +kernel
theorem dX8_drawHashes_32 : decode cX8_drawHashes 32 = .ok (.aload_n 0, 1) := by decide +kernel
theorem dX8_drawHashes_33 : decode cX8_drawHashes 33 = .ok (.getfield 12, 3) := by decide +kernel
theorem dX8_drawHashes_36 : decode cX8_drawHashes 36 = .ok (.sipush 1008, 3) := by decide +kernel
theorem dX8_drawHashes_39 : decode cX8_drawHashes 39 = .ok (.invokevirtual 62, 3) := by decide +kernel
theorem dX8_drawHashes_42 : decode cX8_drawHashes 42 = .ok (.iadd, 1) := by decide +kernel
theorem dX8_drawHashes_43 : decode cX8_drawHashes 43 = .ok (.putfield 56, 3) := by decide +kernel
theorem dX8_drawHashes_46 : decode cX8_drawHashes 46 = .ok (.aload_n 0, 1) := by decide +kernel
theorem dX8_drawHashes_47 : decode cX8_drawHashes 47 = .ok (.aload_n 0, 1) := by decide +kernel
theorem dX8_drawHashes_48 : decode cX8_drawHashes 48 = .ok (.getfield 12, 3) := by decide +kernel
theorem dX8_drawHashes_51 : decode cX8_drawHashes 51 = .ok (.sipush 1009, 3) := by decide +kernel
theorem dX8_drawHashes_54 : decode cX8_drawHashes 54 = .ok (.invokevirtual 62, 3) := by decide +kernel
theorem dX8_drawHashes_57 : decode cX8_drawHashes 57 = .ok (.putfield 59, 3) := by decide +kernel
theorem dX8_drawHashes_60 : decode cX8_drawHashes 60 = .ok (.return_, 1) := by decide +kernel
theorem dX8_firstOf_0 : decode cX8_firstOf 0 = .ok (.aload_n 0, 1) := by decide +kernel
theorem dX8_firstOf_1 : decode cX8_firstOf 1 = .ok (.getfield 21, 3) := by decide +kernel
theorem dX8_firstOf_4 : decode cX8_firstOf 4 = .ok (.iconst 1, 1) := by decide +kernel
theorem dX8_firstOf_5 : decode cX8_firstOf 5 = .ok (.if_icmp .ge 7, 3) := by decide +kernel
theorem dX8_firstOf_8 : decode cX8_firstOf 8 = .ok (.iconst 0, 1) := by decide +kernel
theorem dX8_firstOf_9 : decode cX8_firstOf 9 = .ok (.goto 23, 3) := by decide +kernel
theorem dX8_firstOf_12 : decode cX8_firstOf 12 = .ok (.aload_n 0, 1) := by decide +kernel
theorem dX8_firstOf_13 : decode cX8_firstOf 13 = .ok (.getfield 50, 3) := by decide +kernel
theorem dX8_firstOf_16 : decode cX8_firstOf 16 = .ok (.iload_n 1, 1) := by decide +kernel
theorem dX8_firstOf_17 : decode cX8_firstOf 17 = .ok (.imul, 1) := by decide +kernel
theorem dX8_firstOf_18 : decode cX8_firstOf 18 = .ok (.aload_n 0, 1) := by decide +kernel
theorem dX8_firstOf_19 : decode cX8_firstOf 19 = .ok (.getfield 53, 3) := by decide +kernel
theorem dX8_firstOf_22 : decode cX8_firstOf 22 = .ok (.iadd, 1) := by decide +kernel
theorem dX8_firstOf_23 : decode cX8_firstOf 23 = .ok (.sipush 1009, 3) := by decide +kernel
theorem dX8_firstOf_26 : decode cX8_firstOf 26 = .ok (.irem, 1) := by decide +kernel
theorem dX8_firstOf_27 : decode cX8_firstOf 27 = .ok (.aload_n 0, 1) := by decide +kernel
theorem dX8_firstOf_28 : decode cX8_firstOf 28 = .ok (.getfield 21, 3) := by decide +kernel
theorem dX8_firstOf_31 : decode cX8_firstOf 31 = .ok (.irem, 1) := by decide +kernel
theorem dX8_firstOf_32 : decode cX8_firstOf 32 = .ok (.ireturn, 1) := by decide +kernel
theorem dX8_secondOf_0 : decode cX8_secondOf 0 = .ok (.aload_n 0, 1) := by decide +kernel
theorem dX8_secondOf_1 : decode cX8_secondOf 1 = .ok (.getfield 21, 3) := by decide +kernel
theorem dX8_secondOf_4 : decode cX8_secondOf 4 = .ok (.iconst 1, 1) := by decide +kernel
theorem dX8_secondOf_5 : decode cX8_secondOf 5 = .ok (.if_icmp .ge 7, 3) := by decide +kernel
theorem dX8_secondOf_8 : decode cX8_secondOf 8 = .ok (.iconst 0, 1) := by decide +kernel
theorem dX8_secondOf_9 : decode cX8_secondOf 9 = .ok (.goto 23, 3) := by decide +kernel
theorem dX8_secondOf_12 : decode cX8_secondOf 12 = .ok (.aload_n 0, 1) := by decide +kernel
theorem dX8_secondOf_13 : decode cX8_secondOf 13 = .ok (.getfield 56, 3) := by decide +kernel
theorem dX8_secondOf_16 : decode cX8_secondOf 16 = .ok (.iload_n 1, 1) := by decide +kernel
theorem dX8_secondOf_17 : decode cX8_secondOf 17 = .ok (.imul, 1) := by decide +kernel
theorem dX8_secondOf_18 : decode cX8_secondOf 18 = .ok (.aload_n 0, 1) := by decide +kernel
theorem dX8_secondOf_19 : decode cX8_secondOf 19 = .ok (.getfield 59, 3) := by decide +kernel
theorem dX8_secondOf_22 : decode cX8_secondOf 22 = .ok (.iadd, 1) := by decide +kernel
theorem dX8_secondOf_23 : decode cX8_secondOf 23 = .ok (.sipush 1009, 3) := by decide +kernel
theorem dX8_secondOf_26 : decode cX8_secondOf 26 = .ok (.irem, 1) := by decide +kernel
theorem dX8_secondOf_27 : decode cX8_secondOf 27 = .ok (.aload_n 0, 1) := by decide +kernel
theorem dX8_secondOf_28 : decode cX8_secondOf 28 = .ok (.getfield 21, 3) := by decide +kernel
theorem dX8_secondOf_31 : decode cX8_secondOf 31 = .ok (.irem, 1) := by decide +kernel
theorem dX8_secondOf_32 : decode cX8_secondOf 32 = .ok (.ireturn, 1) := by decide +kernel
