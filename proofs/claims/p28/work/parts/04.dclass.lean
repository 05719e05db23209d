theorem dX0_init_0 : decode cX0_init 0 = .ok (.aload_n 0, 1) := by decide +kernel
theorem dX0_init_1 : decode cX0_init 1 = .ok (.invokespecial 3, 3) := by decide +kernel
theorem dX0_init_4 : decode cX0_init 4 = .ok (.aload_n 0, 1) := by decide +kernel
theorem dX0_init_5 : decode cX0_init 5 = .ok (.iconst (-1), 1) := by decide +kernel
theorem dX0_init_6 : decode cX0_init 6 = .ok (.putfield 9, 3) := by decide +kernel
theorem dX0_init_9 : decode cX0_init 9 = .ok (.aload_n 0, 1) := by decide +kernel
theorem dX0_init_10 : decode cX0_init 10 = .ok (.iconst 0, 1) := by decide +kernel
theorem dX0_init_11 : decode cX0_init 11 = .ok (.putfield 15, 3) := by decide +kernel
theorem dX0_init_14 : decode cX0_init 14 = .ok (.aload_n 0, 1) := by decide +kernel
theorem dX0_init_15 : decode cX0_init 15 = .ok (.iconst 0, 1) := by decide +kernel
theorem dX0_init_16 : decode cX0_init 16 = .ok (.putfield 18, 3) := by decide +kernel
theorem dX0_init_19 : decode cX0_init 19 = .ok (.aload_n 0, 1) := by decide +kernel
theorem dX0_init_20 : decode cX0_init 20 = .ok (.iconst 0, 1) := by decide +kernel
theorem dX0_init_21 : decode cX0_init 21 = .ok (.putfield 21, 3) := by decide +kernel
theorem dX0_init_24 : decode cX0_init 24 = .ok (.aload_n 0, 1) := by decide +kernel
theorem dX0_init_25 : decode cX0_init 25 = .ok (.iconst 0, 1) := by decide +kernel
theorem dX0_init_26 : decode cX0_init 26 = .ok (.putfield 24, 3) := by decide +kernel
theorem dX0_init_29 : decode cX0_init 29 = .ok (.aload_n 0, 1) := by decide +kernel
theorem dX0_init_30 : decode cX0_init 30 = .ok (.dconst 0, 1) := by decide +kernel
theorem dX0_init_31 : decode cX0_init 31 = .ok (.putfield 27, 3) := by decide +kernel
theorem dX0_init_34 : decode cX0_init 34 = .ok (.aload_n 0, 1) := by decide +kernel
theorem dX0_init_35 : decode cX0_init 35 = .ok (.dconst 0, 1) := by decide +kernel
theorem dX0_init_36 : decode cX0_init 36 = .ok (.putfield 31, 3) := by decide +kernel
theorem dX0_init_39 : decode cX0_init 39 = .ok (.aload_n 0, 1) := by decide +kernel
theorem dX0_init_40 : decode cX0_init 40 = .ok (.dconst 0, 1) := by decide +kernel
theorem dX0_init_41 : decode cX0_init 41 = .ok (.putfield 34, 3) := by decide +kernel
theorem dX0_init_44 : decode cX0_init 44 = .ok (.aload_n 0, 1) := by decide +kernel
theorem dX0_init_45 : decode cX0_init 45 = .ok (.dconst 0, 1) := by decide +kernel
theorem dX0_init_46 : decode cX0_init 46 = .ok (.putfield 37, 3) := by decide +kernel
theorem dX0_init_49 : decode cX0_init 49 = .ok (.aload_n 0, 1) := by decide +kernel
theorem dX0_init_50 : decode cX0_init 50 = .ok (.iconst 0, 1) := by decide +kernel
theorem dX0_init_51 : decode cX0_init 51 = .ok (.putfield 40, 3) := by decide +kernel
theorem dX0_init_54 : decode cX0_init 54 = .ok (.return_, 1) := by decide +kernel
theorem dX0_copyFrom_0 : decode cX0_copyFrom 0 = .ok (.aload_n 0, 1) := by decide +kernel
theorem dX0_copyFrom_1 : decode cX0_copyFrom 1 = .ok (.aload_n 1, 1) := by decide +kernel
theorem dX0_copyFrom_2 : decode cX0_copyFrom 2 = .ok (.getfield 9, 3) := by decide +kernel
theorem dX0_copyFrom_5 : decode cX0_copyFrom 5 = .ok (.putfield 9, 3) := by decide +kernel
theorem dX0_copyFrom_8 : decode cX0_copyFrom 8 = .ok (.aload_n 0, 1) := by decide +kernel
theorem dX0_copyFrom_9 : decode cX0_copyFrom 9 = .ok (.aload_n 1, 1) := by decide +kernel
theorem dX0_copyFrom_10 : decode cX0_copyFrom 10 = .ok (.getfield 15, 3) := by decide +kernel
theorem dX0_copyFrom_13 : decode cX0_copyFrom 13 = .ok (.putfield 15, 3) := by decide +kernel
theorem dX0_copyFrom_16 : decode cX0_copyFrom 16 = .ok (.aload_n 0, 1) := by decide +kernel
theorem dX0_copyFrom_17 : decode cX0_copyFrom 17 = .ok (.aload_n 1, 1) := by decide +kernel
theorem dX0_copyFrom_18 : decode cX0_copyFrom 18 = .ok (.getfield 18, 3) := by decide +kernel
theorem dX0_copyFrom_21 : decode cX0_copyFrom 21 = .ok (.putfield 18, 3) := by decide +kernel
theorem dX0_copyFrom_24 : decode cX0_copyFrom 24 = .ok (.aload_n 0, 1) := by decide +kernel
theorem dX0_copyFrom_25 : decode cX0_copyFrom 25 = .ok (.aload_n 1, 1) := by decide +kernel
theorem dX0_copyFrom_26 : decode cX0_copyFrom 26 = .ok (.getfield 21, 3) := by decide +kernel
theorem dX0_copyFrom_29 : decode cX0_copyFrom 29 = .ok (.putfield 21, 3) := by decide +kernel
theorem dX0_copyFrom_32 : decode cX0_copyFrom 32 = .ok (.aload_n 0, 1) := by decide +kernel
theorem dX0_copyFrom_33 : decode cX0_copyFrom 33 = .ok (.aload_n 1, 1) := by decide +kernel
theorem dX0_copyFrom_34 : decode cX0_copyFrom 34 = .ok (.getfield 24, 3) := by decide +kernel
theorem dX0_copyFrom_37 : decode cX0_copyFrom 37 = .ok (.putfield 24, 3) := by decide +kernel
theorem dX0_copyFrom_40 : decode cX0_copyFrom 40 = .ok (.aload_n 0, 1) := by decide +kernel
theorem dX0_copyFrom_41 : decode cX0_copyFrom 41 = .ok (.aload_n 1, 1) := by decide +kernel
theorem dX0_copyFrom_42 : decode cX0_copyFrom 42 = .ok (.getfield 27, 3) := by decide +kernel
theorem dX0_copyFrom_45 : decode cX0_copyFrom 45 = .ok (.putfield 27, 3) := by decide +kernel
theorem dX0_copyFrom_48 : decode cX0_copyFrom 48 = .ok (.aload_n 0, 1) := by decide +kernel
theorem dX0_copyFrom_49 : decode cX0_copyFrom 49 = .ok (.aload_n 1, 1) := by decide +kernel
theorem dX0_copyFrom_50 : decode cX0_copyFrom 50 = .ok (.getfield 31, 3) := by decide +kernel
theorem dX0_copyFrom_53 : decode cX0_copyFrom 53 = .ok (.putfield 31, 3) := by decide +kernel
theorem dX0_copyFrom_56 : decode cX0_copyFrom 56 = .ok (.aload_n 0, 1) := by decide +kernel
theorem dX0_copyFrom_57 : decode cX0_copyFrom 57 = .ok (.aload_n 1, 1) := by decide +kernel
theorem dX0_copyFrom_58 : decode cX0_copyFrom 58 = .ok (.getfield 34, 3) := by decide +kernel
theorem dX0_copyFrom_61 : decode cX0_copyFrom 61 = .ok (.putfield 34, 3) := by decide +kernel
theorem dX0_copyFrom_64 : decode cX0_copyFrom 64 = .ok (.aload_n 0, 1) := by decide +kernel
theorem dX0_copyFrom_65 : decode cX0_copyFrom 65 = .ok (.aload_n 1, 1) := by decide +kernel
theorem dX0_copyFrom_66 : decode cX0_copyFrom 66 = .ok (.getfield 37, 3) := by decide +kernel
theorem dX0_copyFrom_69 : decode cX0_copyFrom 69 = .ok (.putfield 37, 3) := by decide +kernel
theorem dX0_copyFrom_72 : decode cX0_copyFrom 72 = .ok (.aload_n 0, 1) := by decide +kernel
theorem dX0_copyFrom_73 : decode cX0_copyFrom 73 = .ok (.aload_n 1, 1) := by decide +kernel
theorem dX0_copyFrom_74 : decode cX0_copyFrom 74 = .ok (.getfield 40, 3) := by decide +kernel
theorem dX0_copyFrom_77 : decode cX0_copyFrom 77 = .ok (.putfield 40, 3) := by decide +kernel
theorem dX0_copyFrom_80 : decode cX0_copyFrom 80 = .ok (.return_, 1) := by decide +kernel
theorem dX0_size_0 : decode cX0_size 0 = .ok (.aload_n 0, 1) := by decide +kernel
theorem dX0_size_1 : decode cX0_size 1 = .ok (.getfield 34, 3) := by decide +kernel
theorem dX0_size_4 : decode cX0_size 4 = .ok (.invokestatic 44, 3) := by decide +kernel
theorem dX0_size_7 : decode cX0_size 7 = .ok (.dstore_n 1, 1) := by decide +kernel
theorem dX0_size_8 : decode cX0_size 8 = .ok (.aload_n 0, 1) := by decide +kernel
theorem dX0_size_9 : decode cX0_size 9 = .ok (.getfield 37, 3) := by decide +kernel
theorem dX0_size_12 : decode cX0_size 12 = .ok (.invokestatic 44, 3) := by decide +kernel
theorem dX0_size_15 : decode cX0_size 15 = .ok (.dstore_n 3, 1) := by decide +kernel
theorem dX0_size_16 : decode cX0_size 16 = .ok (.dload_n 1, 1) := by decide +kernel
theorem dX0_size_17 : decode cX0_size 17 = .ok (.dload_n 3, 1) := by decide +kernel
theorem dX0_size_18 : decode cX0_size 18 = .ok (.dcmp .l, 1) := by decide +kernel
theorem dX0_size_19 : decode cX0_size 19 = .ok (.ifCond .lt 7, 3) := by decide +kernel
theorem dX0_size_22 : decode cX0_size 22 = .ok (.dload_n 1, 1) := by decide +kernel
theorem dX0_size_23 : decode cX0_size 23 = .ok (.goto 4, 3) := by decide +kernel
theorem dX0_size_26 : decode cX0_size 26 = .ok (.dload_n 3, 1) := by decide +kernel
theorem dX0_size_27 : decode cX0_size 27 = .ok (.dreturn, 1) := by decide +kernel
theorem dX0_missNumber_0 : decode cX0_missNumber 0 = .ok (.iload_n 1, 1) := by decide +kernel
theorem dX0_missNumber_1 : decode cX0_missNumber 1 = .ok (.ifCond .ne 8, 3) := by decide +kernel
theorem dX0_missNumber_4 : decode cX0_missNumber 4 = .ok (.aload_n 0, 1) := by decide +kernel
theorem dX0_missNumber_5 : decode cX0_missNumber 5 = .ok (.getfield 34, 3) := by decide +kernel
theorem dX0_missNumber_8 : decode cX0_missNumber 8 = .ok (.dreturn, 1) := by decide +kernel
theorem dX0_missNumber_9 : decode cX0_missNumber 9 = .ok (.iload_n 1, 1) := by decide +kernel
theorem dX0_missNumber_10 : decode cX0_missNumber 10 = .ok (.iconst 1, 1) := by decide +kernel
theorem dX0_missNumber_11 : decode cX0_missNumber 11 = .ok (.if_icmp .ne 10, 3) := by decide +kernel
theorem dX0_missNumber_14 : decode cX0_missNumber 14 = .ok (.aload_n 0, 1) := by decide +kernel
theorem dX0_missNumber_15 : decode cX0_missNumber 15 = .ok (.getfield 37, 3) := by decide +kernel
theorem dX0_missNumber_18 : decode cX0_missNumber 18 = .ok (.goto 7, 3) := by decide +kernel
theorem dX0_missNumber_21 : decode cX0_missNumber 21 = .ok (.aload_n 0, 1) := by decide +kernel
theorem dX0_missNumber_22 : decode cX0_missNumber 22 = .ok (.invokevirtual 48, 3) := by decide +kernel
theorem dX0_missNumber_25 : decode cX0_missNumber 25 = .ok (.dreturn, 1) := by decide +kernel
theorem dX1_init_0 : decode cX1_init 0 = .ok (.aload_n 0, 1) := by decide +kernel
theorem dX1_init_1 : decode cX1_init 1 = .ok (.invokespecial 3, 3) := by decide +kernel
theorem dX1_init_4 : decode cX1_init 4 = .ok (.aload_n 0, 1) := by decide +kernel
theorem dX1_init_5 : decode cX1_init 5 = .ok (.iconst 0, 1) := by decide +kernel
theorem dX1_init_6 : decode cX1_init 6 = .ok (.putfield 9, 3) := by decide +kernel
theorem dX1_init_9 : decode cX1_init 9 = .ok (.aload_n 0, 1) := by decide +kernel
theorem dX1_init_10 : decode cX1_init 10 = .ok (.sipush 2700, 3) := by decide +kernel
theorem dX1_init_13 : decode cX1_init 13 = .ok (.putfield 15, 3) := by decide +kernel
theorem dX1_init_16 : decode cX1_init 16 = .ok (.aload_n 0, 1) := by decide +kernel
theorem dX1_init_17 : decode cX1_init 17 = .ok (.iconst 0, 1) := by decide +kernel
theorem dX1_init_18 : decode cX1_init 18 = .ok (.putfield 18, 3) := by decide +kernel
theorem dX1_init_21 : decode cX1_init 21 = .ok (.return_, 1) := by decide +kernel
theorem dX1_copyFrom_0 : decode cX1_copyFrom 0 = .ok (.aload_n 0, 1) := by decide +kernel
theorem dX1_copyFrom_1 : decode cX1_copyFrom 1 = .ok (.aload_n 1, 1) := by decide +kernel
theorem dX1_copyFrom_2 : decode cX1_copyFrom 2 = .ok (.getfield 9, 3) := by decide +kernel
theorem dX1_copyFrom_5 : decode cX1_copyFrom 5 = .ok (.putfield 9, 3) := by decide +kernel
theorem dX1_copyFrom_8 : decode cX1_copyFrom 8 = .ok (.aload_n 0, 1) := by decide +kernel
theorem dX1_copyFrom_9 : decode cX1_copyFrom 9 = .ok (.aload_n 1, 1) := by decide +kernel
theorem dX1_copyFrom_10 : decode cX1_copyFrom 10 = .ok (.getfield 15, 3) := by decide +kernel
theorem dX1_copyFrom_13 : decode cX1_copyFrom 13 = .ok (.putfield 15, 3) := by decide +kernel
theorem dX1_copyFrom_16 : decode cX1_copyFrom 16 = .ok (.aload_n 0, 1) := by decide +kernel
theorem dX1_copyFrom_17 : decode cX1_copyFrom 17 = .ok (.aload_n 1, 1) := by decide +kernel
theorem dX1_copyFrom_18 : decode cX1_copyFrom 18 = .ok (.getfield 18, 3) := by decide +kernel
theorem dX1_copyFrom_21 : decode cX1_copyFrom 21 = .ok (.putfield 18, 3) := by decide +kernel
theorem dX1_copyFrom_24 : decode cX1_copyFrom 24 = .ok (.return_, 1) := by decide +kernel
theorem dX1_timeTo_0 : decode cX1_timeTo 0 = .ok (.aload_n 0, 1) := by decide +kernel
theorem dX1_timeTo_1 : decode cX1_timeTo 1 = .ok (.getfield 9, 3) := by decide +kernel
theorem dX1_timeTo_4 : decode cX1_timeTo 4 = .ok (.aload_n 1, 1) := by decide +kernel
theorem dX1_timeTo_5 : decode cX1_timeTo 5 = .ok (.getfield 21, 3) := by decide +kernel
theorem dX1_timeTo_8 : decode cX1_timeTo 8 = .ok (.invokestatic 26, 3) := by decide +kernel
theorem dX1_timeTo_11 : decode cX1_timeTo 11 = .ok (.aload_n 0, 1) := by decide +kernel
theorem dX1_timeTo_12 : decode cX1_timeTo 12 = .ok (.getfield 9, 3) := by decide +kernel
theorem dX1_timeTo_15 : decode cX1_timeTo 15 = .ok (.isub, 1) := by decide +kernel
theorem dX1_timeTo_16 : decode cX1_timeTo 16 = .ok (.invokestatic 30, 3) := by decide +kernel
theorem dX1_timeTo_19 : decode cX1_timeTo 19 = .ok (.istore_n 3, 1) := by decide +kernel
theorem dX1_timeTo_20 : decode cX1_timeTo 20 = .ok (.aload_n 1, 1) := by decide +kernel
theorem dX1_timeTo_21 : decode cX1_timeTo 21 = .ok (.getfield 36, 3) := by decide +kernel
theorem dX1_timeTo_24 : decode cX1_timeTo 24 = .ok (.aload_n 0, 1) := by decide +kernel
theorem dX1_timeTo_25 : decode cX1_timeTo 25 = .ok (.getfield 15, 3) := by decide +kernel
theorem dX1_timeTo_28 : decode cX1_timeTo 28 = .ok (.isub, 1) := by decide +kernel
theorem dX1_timeTo_29 : decode cX1_timeTo 29 = .ok (.invokestatic 30, 3) := by decide +kernel
theorem dX1_timeTo_32 : decode cX1_timeTo 32 = .ok (.istore 4, 2) := by decide +kernel
theorem dX1_timeTo_34 : decode cX1_timeTo 34 = .ok (.iload_n 3, 1) := by decide +kernel
theorem dX1_timeTo_35 : decode cX1_timeTo 35 = .ok (.iload 4, 2) := by decide +kernel
theorem dX1_timeTo_37 : decode cX1_timeTo 37 = .ok (.invokestatic 37, 3) := by decide +kernel
theorem dX1_timeTo_40 : decode cX1_timeTo 40 = .ok (.iload_n 2, 1) := by decide +kernel
theorem dX1_timeTo_41 : decode cX1_timeTo 41 = .ok (.invokestatic 40, 3) := by decide +kernel
theorem dX1_timeTo_44 : decode cX1_timeTo 44 = .ok (.istore 5, 2) := by decide +kernel
theorem dX1_timeTo_46 : decode cX1_timeTo 46 = .ok (.aload_n 1, 1) := by decide +kernel
theorem dX1_timeTo_47 : decode cX1_timeTo 47 = .ok (.getfield 43, 3) := by decide +kernel
theorem dX1_timeTo_50 : decode cX1_timeTo 50 = .ok (.aload_n 0, 1) := by decide +kernel
theorem dX1_timeTo_51 : decode cX1_timeTo 51 = .ok (.getfield 18, 3) := by decide +kernel
theorem dX1_timeTo_54 : decode cX1_timeTo 54 = .ok (.if_icmp .ne 8, 3) := by decide +kernel
theorem dX1_timeTo_57 : decode cX1_timeTo 57 = .ok (.iload 5, 2) := by decide +kernel
theorem dX1_timeTo_59 : decode cX1_timeTo 59 = .ok (.goto 8, 3) := by decide +kernel
theorem dX1_timeTo_62 : decode cX1_timeTo 62 = .ok (.iload 5, 2) := by decide +kernel
theorem dX1_timeTo_64 : decode cX1_timeTo 64 = .ok (.bipush 60, 2) := by decide +kernel
theorem dX1_timeTo_66 : decode cX1_timeTo 66 = .ok (.iadd, 1) := by decide +kernel
theorem dX1_timeTo_67 : decode cX1_timeTo 67 = .ok (.ireturn, 1) := by decide +kernel
theorem dX1_moveTo_0 : decode cX1_moveTo 0 = .ok (.aload_n 0, 1) := by decide +kernel
theorem dX1_moveTo_1 : decode cX1_moveTo 1 = .ok (.aload_n 0, 1) := by decide +kernel
theorem dX1_moveTo_2 : decode cX1_moveTo 2 = .ok (.getfield 9, 3) := by decide +kernel
theorem dX1_moveTo_5 : decode cX1_moveTo 5 = .ok (.aload_n 1, 1) := by decide +kernel
theorem dX1_moveTo_6 : decode cX1_moveTo 6 = .ok (.getfield 21, 3) := by decide +kernel
theorem dX1_moveTo_9 : decode cX1_moveTo 9 = .ok (.invokestatic 26, 3) := by decide +kernel
theorem dX1_moveTo_12 : decode cX1_moveTo 12 = .ok (.putfield 9, 3) := by decide +kernel
theorem dX1_moveTo_15 : decode cX1_moveTo 15 = .ok (.aload_n 0, 1) := by decide +kernel
theorem dX1_moveTo_16 : decode cX1_moveTo 16 = .ok (.aload_n 1, 1) := by decide +kernel
theorem dX1_moveTo_17 : decode cX1_moveTo 17 = .ok (.getfield 36, 3) := by decide +kernel
theorem dX1_moveTo_20 : decode cX1_moveTo 20 = .ok (.putfield 15, 3) := by decide +kernel
theorem dX1_moveTo_23 : decode cX1_moveTo 23 = .ok (.aload_n 0, 1) := by decide +kernel
theorem dX1_moveTo_24 : decode cX1_moveTo 24 = .ok (.aload_n 1, 1) := by decide +kernel
theorem dX1_moveTo_25 : decode cX1_moveTo 25 = .ok (.getfield 43, 3) := by decide +kernel
theorem dX1_moveTo_28 : decode cX1_moveTo 28 = .ok (.putfield 18, 3) := by decide +kernel
theorem dX1_moveTo_31 : decode cX1_moveTo 31 = .ok (.return_, 1) := by decide +kernel
theorem dX2_init_0 : decode cX2_init 0 = .ok (.aload_n 0, 1) := by decide +kernel
theorem dX2_init_1 : decode cX2_init 1 = .ok (.invokespecial 3, 3) := by decide +kernel
theorem dX2_init_4 : decode cX2_init 4 = .ok (.aload_n 0, 1) := by decide +kernel
theorem dX2_init_5 : decode cX2_init 5 = .ok (.bipush 100, 2) := by decide +kernel
theorem dX2_init_7 : decode cX2_init 7 = .ok (.newarray .int, 2) := by decide +kernel
theorem dX2_init_9 : decode cX2_init 9 = .ok (.putfield 9, 3) := by decide +kernel
theorem dX2_init_12 : decode cX2_init 12 = .ok (.aload_n 0, 1) := by decide +kernel
theorem dX2_init_13 : decode cX2_init 13 = .ok (.iconst 0, 1) := by decide +kernel
theorem dX2_init_14 : decode cX2_init 14 = .ok (.putfield 15, 3) := by decide +kernel
theorem dX2_init_17 : decode cX2_init 17 = .ok (.aload_n 0, 1) := by decide +kernel
theorem dX2_init_18 : decode cX2_init 18 = .ok (.iconst 0, 1) := by decide +kernel
theorem dX2_init_19 : decode cX2_init 19 = .ok (.putfield 19, 3) := by decide +kernel
theorem dX2_init_22 : decode cX2_init 22 = .ok (.aload_n 0, 1) := by decide +kernel
theorem dX2_init_23 : decode cX2_init 23 = .ok (.iconst (-1), 1) := by decide +kernel
theorem dX2_init_24 : decode cX2_init 24 = .ok (.putfield 22, 3) := by decide +kernel
theorem dX2_init_27 : decode cX2_init 27 = .ok (.aload_n 0, 1) := by decide +kernel
theorem dX2_init_28 : decode cX2_init 28 = .ok (.iconst 0, 1) := by decide +kernel
theorem dX2_init_29 : decode cX2_init 29 = .ok (.putfield 25, 3) := by decide +kernel
theorem dX2_init_32 : decode cX2_init 32 = .ok (.aload_n 0, 1) := by decide +kernel
theorem dX2_init_33 : decode cX2_init 33 = .ok (.iconst 0, 1) := by decide +kernel
theorem dX2_init_34 : decode cX2_init 34 = .ok (.putfield 28, 3) := by decide +kernel
theorem dX2_init_37 : decode cX2_init 37 = .ok (.aload_n 0, 1) := by decide +kernel
theorem dX2_init_38 : decode cX2_init 38 = .ok (.iconst 0, 1) := by decide +kernel
theorem dX2_init_39 : decode cX2_init 39 = .ok (.putfield 31, 3) := by decide +kernel
theorem dX2_init_42 : decode cX2_init 42 = .ok (.aload_n 0, 1) := by decide +kernel
theorem dX2_init_43 : decode cX2_init 43 = .ok (.iconst 0, 1) := by decide +kernel
theorem dX2_init_44 : decode cX2_init 44 = .ok (.putfield 34, 3) := by decide +kernel
theorem dX2_init_47 : decode cX2_init 47 = .ok (.return_, 1) := by decide +kernel
theorem dX3_init_0 : decode cX3_init 0 = .ok (.aload_n 0, 1) := by decide +kernel
theorem dX3_init_1 : decode cX3_init 1 = .ok (.invokespecial 3, 3) := by decide +kernel
theorem dX3_init_4 : decode cX3_init 4 = .ok (.aload_n 0, 1) := by decide +kernel
theorem dX3_init_5 : decode cX3_init 5 = .ok (.bipush 24, 2) := by decide +kernel
theorem dX3_init_7 : decode cX3_init 7 = .ok (.newarray .int, 2) := by decide +kernel
theorem dX3_init_9 : decode cX3_init 9 = .ok (.putfield 9, 3) := by decide +kernel
theorem dX3_init_12 : decode cX3_init 12 = .ok (.aload_n 0, 1) := by decide +kernel
theorem dX3_init_13 : decode cX3_init 13 = .ok (.bipush 24, 2) := by decide +kernel
theorem dX3_init_15 : decode cX3_init 15 = .ok (.newarray .double, 2) := by decide +kernel
theorem dX3_init_17 : decode cX3_init 17 = .ok (.putfield 15, 3) := by decide +kernel
theorem dX3_init_20 : decode cX3_init 20 = .ok (.aload_n 0, 1) := by decide +kernel
theorem dX3_init_21 : decode cX3_init 21 = .ok (.bipush 24, 2) := by decide +kernel
theorem dX3_init_23 : decode cX3_init 23 = .ok (.newarray .double, 2) := by decide +kernel
theorem dX3_init_25 : decode cX3_init 25 = .ok (.putfield 19, 3) := by decide +kernel
theorem dX3_init_28 : decode cX3_init 28 = .ok (.return_, 1) := by decide +kernel
theorem dX3_copyFrom_0 : decode cX3_copyFrom 0 = .ok (.aload_n 1, 1) := by decide +kernel
theorem dX3_copyFrom_1 : decode cX3_copyFrom 1 = .ok (.getfield 9, 3) := by decide +kernel
theorem dX3_copyFrom_4 : decode cX3_copyFrom 4 = .ok (.iconst 0, 1) := by decide +kernel
theorem dX3_copyFrom_5 : decode cX3_copyFrom 5 = .ok (.aload_n 0, 1) := by decide +kernel
theorem dX3_copyFrom_6 : decode cX3_copyFrom 6 = .ok (.getfield 9, 3) := by decide +kernel
theorem dX3_copyFrom_9 : decode cX3_copyFrom 9 = .ok (.iconst 0, 1) := by decide +kernel
theorem dX3_copyFrom_10 : decode cX3_copyFrom 10 = .ok (.bipush 24, 2) := by decide +kernel
theorem dX3_copyFrom_12 : decode cX3_copyFrom 12 = .ok (.invokestatic 22, 3) := by decide +kernel
theorem dX3_copyFrom_15 : decode cX3_copyFrom 15 = .ok (.aload_n 1, 1) := by decide +kernel
theorem dX3_copyFrom_16 : decode cX3_copyFrom 16 = .ok (.getfield 15, 3) := by decide +kernel
theorem dX3_copyFrom_19 : decode cX3_copyFrom 19 = .ok (.iconst 0, 1) := by decide +kernel
theorem dX3_copyFrom_20 : decode cX3_copyFrom 20 = .ok (.aload_n 0, 1) := by decide +kernel
theorem dX3_copyFrom_21 : decode cX3_copyFrom 21 = .ok (.getfield 15, 3) := by decide +kernel
theorem dX3_copyFrom_24 : decode cX3_copyFrom 24 = .ok (.iconst 0, 1) := by decide +kernel
theorem dX3_copyFrom_25 : decode cX3_copyFrom 25 = .ok (.bipush 24, 2) := by decide +kernel
theorem dX3_copyFrom_27 : decode cX3_copyFrom 27 = .ok (.invokestatic 22, 3) := by decide +kernel
theorem dX3_copyFrom_30 : decode cX3_copyFrom 30 = .ok (.aload_n 1, 1) := by decide +kernel
theorem dX3_copyFrom_31 : decode cX3_copyFrom 31 = .ok (.getfield 19, 3) := by decide +kernel
theorem dX3_copyFrom_34 : decode cX3_copyFrom 34 = .ok (.iconst 0, 1) := by decide +kernel
theorem dX3_copyFrom_35 : decode cX3_copyFrom 35 = .ok (.aload_n 0, 1) := by decide +kernel
theorem dX3_copyFrom_36 : decode cX3_copyFrom 36 = .ok (.getfield 19, 3) := by decide +kernel
theorem dX3_copyFrom_39 : decode cX3_copyFrom 39 = .ok (.iconst 0, 1) := by decide +kernel
theorem dX3_copyFrom_40 : decode cX3_copyFrom 40 = .ok (.bipush 24, 2) := by decide +kernel
theorem dX3_copyFrom_42 : decode cX3_copyFrom 42 = .ok (.invokestatic 22, 3) := by decide +kernel
theorem dX3_copyFrom_45 : decode cX3_copyFrom 45 = .ok (.return_, 1) := by decide +kernel
theorem dX3_clear_0 : decode cX3_clear 0 = .ok (.aload_n 0, 1) := by decide +kernel
theorem dX3_clear_1 : decode cX3_clear 1 = .ok (.getfield 9, 3) := by decide +kernel
theorem dX3_clear_4 : decode cX3_clear 4 = .ok (.iload_n 1, 1) := by decide +kernel
theorem dX3_clear_5 : decode cX3_clear 5 = .ok (.iaload, 1) := by decide +kernel
theorem dX3_clear_6 : decode cX3_clear 6 = .ok (.istore_n 2, 1) := by decide +kernel
theorem dX3_clear_7 : decode cX3_clear 7 = .ok (.aload_n 0, 1) := by decide +kernel
theorem dX3_clear_8 : decode cX3_clear 8 = .ok (.getfield 9, 3) := by decide +kernel
theorem dX3_clear_11 : decode cX3_clear 11 = .ok (.iload_n 1, 1) := by decide +kernel
theorem dX3_clear_12 : decode cX3_clear 12 = .ok (.iconst 0, 1) := by decide +kernel
theorem dX3_clear_13 : decode cX3_clear 13 = .ok (.iastore, 1) := by decide +kernel
theorem dX3_clear_14 : decode cX3_clear 14 = .ok (.aload_n 0, 1) := by decide +kernel
theorem dX3_clear_15 : decode cX3_clear 15 = .ok (.getfield 15, 3) := by decide +kernel
theorem dX3_clear_18 : decode cX3_clear 18 = .ok (.iload_n 1, 1) := by decide +kernel
theorem dX3_clear_19 : decode cX3_clear 19 = .ok (.dconst 0, 1) := by decide +kernel
theorem dX3_clear_20 : decode cX3_clear 20 = .ok (.dastore, 1) := by decide +kernel
theorem dX3_clear_21 : decode cX3_clear 21 = .ok (.aload_n 0, 1) := by decide +kernel
theorem dX3_clear_22 : decode cX3_clear 22 = .ok (.getfield 19, 3) := by decide +kernel
theorem dX3_clear_25 : decode cX3_clear 25 = .ok (.iload_n 1, 1) := by decide +kernel
theorem dX3_clear_26 : decode cX3_clear 26 = .ok (.dconst 0, 1) := by decide +kernel
theorem dX3_clear_27 : decode cX3_clear 27 = .ok (.dastore, 1) := by decide +kernel
theorem dX3_clear_28 : decode cX3_clear 28 = .ok (.iload_n 2, 1) := by decide +kernel
theorem dX3_clear_29 : decode cX3_clear 29 = .ok (.ireturn, 1) := by decide +kernel
theorem dX3_sourceOf_0 : decode cX3_sourceOf 0 = .ok (.iconst (-1), 1) := by decide +kernel
theorem dX3_sourceOf_1 : decode cX3_sourceOf 1 = .ok (.istore_n 2, 1) := by decide +kernel
theorem dX3_sourceOf_2 : decode cX3_sourceOf 2 = .ok (.iconst 0, 1) := by decide +kernel
theorem dX3_sourceOf_3 : decode cX3_sourceOf 3 = .ok (.istore_n 3, 1) := by decide +kernel
theorem dX3_sourceOf_4 : decode cX3_sourceOf 4 = .ok (.iconst 0, 1) := by decide +kernel
theorem dX3_sourceOf_5 : decode cX3_sourceOf 5 = .ok (.istore 4, 2) := by decide +kernel
theorem dX3_sourceOf_7 : decode cX3_sourceOf 7 = .ok (.iload 4, 2) := by decide +kernel
theorem dX3_sourceOf_9 : decode cX3_sourceOf 9 = .ok (.bipush 24, 2) := by decide +kernel
theorem dX3_sourceOf_11 : decode cX3_sourceOf 11 = .ok (.if_icmp .ge 44, 3) := by decide +kernel
theorem dX3_sourceOf_14 : decode cX3_sourceOf 14 = .ok (.aload_n 0, 1) := by decide +kernel
theorem dX3_sourceOf_15 : decode cX3_sourceOf 15 = .ok (.getfield 9, 3) := by decide +kernel
theorem dX3_sourceOf_18 : decode cX3_sourceOf 18 = .ok (.iload 4, 2) := by decide +kernel
theorem dX3_sourceOf_20 : decode cX3_sourceOf 20 = .ok (.iaload, 1) := by decide +kernel
theorem dX3_sourceOf_21 : decode cX3_sourceOf 21 = .ok (.ifCond .le 28, 3) := by decide +kernel
theorem dX3_sourceOf_24 : decode cX3_sourceOf 24 = .ok (.iload_n 1, 1) := by decide +kernel
theorem dX3_sourceOf_25 : decode cX3_sourceOf 25 = .ok (.iload 4, 2) := by decide +kernel
theorem dX3_sourceOf_27 : decode cX3_sourceOf 27 = .ok (.invokestatic 28, 3) := by decide +kernel
theorem dX3_sourceOf_30 : decode cX3_sourceOf 30 = .ok (.istore 5, 2) := by decide +kernel
theorem dX3_sourceOf_32 : decode cX3_sourceOf 32 = .ok (.iload_n 2, 1) := by decide +kernel
theorem dX3_sourceOf_33 : decode cX3_sourceOf 33 = .ok (.iconst (-1), 1) := by decide +kernel
theorem dX3_sourceOf_34 : decode cX3_sourceOf 34 = .ok (.if_icmp .eq 9, 3) := by decide +kernel
theorem dX3_sourceOf_37 : decode cX3_sourceOf 37 = .ok (.iload 5, 2) := by decide +kernel
theorem dX3_sourceOf_39 : decode cX3_sourceOf 39 = .ok (.iload_n 3, 1) := by decide +kernel
theorem dX3_sourceOf_40 : decode cX3_sourceOf 40 = .ok (.if_icmp .ge 9, 3) := by decide +kernel
theorem dX3_sourceOf_43 : decode cX3_sourceOf 43 = .ok (.iload 4, 2) := by decide +kernel
theorem dX3_sourceOf_45 : decode cX3_sourceOf 45 = .ok (.istore_n 2, 1) := by decide +kernel
theorem dX3_sourceOf_46 : decode cX3_sourceOf 46 = .ok (.iload 5, 2) := by decide +kernel
theorem dX3_sourceOf_48 : decode cX3_sourceOf 48 = .ok (.istore_n 3, 1) := by decide +kernel
theorem dX3_sourceOf_49 : decode cX3_sourceOf 49 = .ok (.iinc 4 1, 3) := by decide +kernel
theorem dX3_sourceOf_52 : decode cX3_sourceOf 52 = .ok (.goto (-45), 3) := by decide +kernel
theorem dX3_sourceOf_55 : decode cX3_sourceOf 55 = .ok (.iload_n 2, 1) := by decide +kernel
theorem dX3_sourceOf_56 : decode cX3_sourceOf 56 = .ok (.ireturn, 1) := by decide +kernel
theorem dX3_distance_0 : decode cX3_distance 0 = .ok (.iload_n 0, 1) := by decide +kernel
theorem dX3_distance_1 : decode cX3_distance 1 = .ok (.iconst 3, 1) := by decide +kernel
theorem dX3_distance_2 : decode cX3_distance 2 = .ok (.idiv, 1) := by decide +kernel
theorem dX3_distance_3 : decode cX3_distance 3 = .ok (.iload_n 1, 1) := by decide +kernel
theorem dX3_distance_4 : decode cX3_distance 4 = .ok (.iconst 3, 1) := by decide +kernel
theorem dX3_distance_5 : decode cX3_distance 5 = .ok (.idiv, 1) := by decide +kernel
theorem dX3_distance_6 : decode cX3_distance 6 = .ok (.isub, 1) := by decide +kernel
theorem dX3_distance_7 : decode cX3_distance 7 = .ok (.invokestatic 32, 3) := by decide +kernel
theorem dX3_distance_10 : decode cX3_distance 10 = .ok (.istore_n 2, 1) := by decide +kernel
theorem dX3_distance_11 : decode cX3_distance 11 = .ok (.iload_n 2, 1) := by decide +kernel
theorem dX3_distance_12 : decode cX3_distance 12 = .ok (.bipush 8, 2) := by decide +kernel
theorem dX3_distance_14 : decode cX3_distance 14 = .ok (.iload_n 2, 1) := by decide +kernel
theorem dX3_distance_15 : decode cX3_distance 15 = .ok (.isub, 1) := by decide +kernel
theorem dX3_distance_16 : decode cX3_distance 16 = .ok (.invokestatic 38, 3) := by decide +kernel
theorem dX3_distance_19 : decode cX3_distance 19 = .ok (.iload_n 0, 1) := by decide +kernel
theorem dX3_distance_20 : decode cX3_distance 20 = .ok (.iconst 3, 1) := by decide +kernel
theorem dX3_distance_21 : decode cX3_distance 21 = .ok (.irem, 1) := by decide +kernel
theorem dX3_distance_22 : decode cX3_distance 22 = .ok (.iload_n 1, 1) := by decide +kernel
theorem dX3_distance_23 : decode cX3_distance 23 = .ok (.iconst 3, 1) := by decide +kernel
theorem dX3_distance_24 : decode cX3_distance 24 = .ok (.irem, 1) := by decide +kernel
theorem dX3_distance_25 : decode cX3_distance 25 = .ok (.isub, 1) := by decide +kernel
theorem dX3_distance_26 : decode cX3_distance 26 = .ok (.invokestatic 32, 3) := by decide +kernel
theorem dX3_distance_29 : decode cX3_distance 29 = .ok (.iadd, 1) := by decide +kernel
theorem dX3_distance_30 : decode cX3_distance 30 = .ok (.ireturn, 1) := by decide +kernel
theorem dX3_holding_0 : decode cX3_holding 0 = .ok (.aload_n 0, 1) := by decide +kernel
theorem dX3_holding_1 : decode cX3_holding 1 = .ok (.iload_n 1, 1) := by decide +kernel
theorem dX3_holding_2 : decode cX3_holding 2 = .ok (.invokevirtual 41, 3) := by decide +kernel
theorem dX3_holding_5 : decode cX3_holding 5 = .ok (.istore_n 3, 1) := by decide +kernel
theorem dX3_holding_6 : decode cX3_holding 6 = .ok (.iload_n 3, 1) := by decide +kernel
theorem dX3_holding_7 : decode cX3_holding 7 = .ok (.iconst (-1), 1) := by decide +kernel
theorem dX3_holding_8 : decode cX3_holding 8 = .ok (.if_icmp .ne 5, 3) := by decide +kernel
theorem dX3_holding_11 : decode cX3_holding 11 = .ok (.dconst 0, 1) := by decide +kernel
theorem dX3_holding_12 : decode cX3_holding 12 = .ok (.dreturn, 1) := by decide +kernel
theorem dX3_holding_13 : decode cX3_holding 13 = .ok (.iload_n 2, 1) := by decide +kernel
theorem dX3_holding_14 : decode cX3_holding 14 = .ok (.ifCond .eq 12, 3) := by decide +kernel
theorem dX3_holding_17 : decode cX3_holding 17 = .ok (.aload_n 0, 1) := by decide +kernel
theorem dX3_holding_18 : decode cX3_holding 18 = .ok (.getfield 19, 3) := by decide +kernel
theorem dX3_holding_21 : decode cX3_holding 21 = .ok (.iload_n 3, 1) := by decide +kernel
theorem dX3_holding_22 : decode cX3_holding 22 = .ok (.daload, 1) := by decide +kernel
theorem dX3_holding_23 : decode cX3_holding 23 = .ok (.goto 9, 3) := by decide +kernel
theorem dX3_holding_26 : decode cX3_holding 26 = .ok (.aload_n 0, 1) := by decide +kernel
theorem dX3_holding_27 : decode cX3_holding 27 = .ok (.getfield 15, 3) := by decide +kernel
theorem dX3_holding_30 : decode cX3_holding 30 = .ok (.iload_n 3, 1) := by decide +kernel
theorem dX3_holding_31 : decode cX3_holding 31 = .ok (.daload, 1) := by decide +kernel
theorem dX3_holding_32 : decode cX3_holding 32 = .ok (.dreturn, 1) := by decide +kernel
theorem dX3_teach_0 : decode cX3_teach 0 = .ok (.aload_n 1, 1) := by decide +kernel
theorem dX3_teach_1 : decode cX3_teach 1 = .ok (.getfield 44, 3) := by decide +kernel
theorem dX3_teach_4 : decode cX3_teach 4 = .ok (.istore_n 3, 1) := by decide +kernel
theorem dX3_teach_5 : decode cX3_teach 5 = .ok (.aload_n 0, 1) := by decide +kernel
theorem dX3_teach_6 : decode cX3_teach 6 = .ok (.getfield 9, 3) := by decide +kernel
theorem dX3_teach_9 : decode cX3_teach 9 = .ok (.iload_n 3, 1) := by decide +kernel
theorem dX3_teach_10 : decode cX3_teach 10 = .ok (.iaload, 1) := by decide +kernel
theorem dX3_teach_11 : decode cX3_teach 11 = .ok (.ifCond .ne 23, 3) := by decide +kernel
theorem dX3_teach_14 : decode cX3_teach 14 = .ok (.aload_n 0, 1) := by decide +kernel
theorem dX3_teach_15 : decode cX3_teach 15 = .ok (.getfield 15, 3) := by decide +kernel
theorem dX3_teach_18 : decode cX3_teach 18 = .ok (.iload_n 3, 1) := by decide +kernel
theorem dX3_teach_19 : decode cX3_teach 19 = .ok (.aload_n 1, 1) := by decide +kernel
theorem dX3_teach_20 : decode cX3_teach 20 = .ok (.getfield 50, 3) := by decide +kernel
theorem dX3_teach_23 : decode cX3_teach 23 = .ok (.dastore, 1) := by decide +kernel
theorem dX3_teach_24 : decode cX3_teach 24 = .ok (.aload_n 0, 1) := by decide +kernel
theorem dX3_teach_25 : decode cX3_teach 25 = .ok (.getfield 19, 3) := by decide +kernel
theorem dX3_teach_28 : decode cX3_teach 28 = .ok (.iload_n 3, 1) := by decide +kernel
theorem dX3_teach_29 : decode cX3_teach 29 = .ok (.aload_n 1, 1) := by decide +kernel
theorem dX3_teach_30 : decode cX3_teach 30 = .ok (.getfield 54, 3) := by decide +kernel
theorem dX3_teach_33 : decode cX3_teach 33 = .ok (.dastore, 1) := by decide +kernel
theorem dX3_teach_34 : decode cX3_teach 34 = .ok (.aload_n 0, 1) := by decide +kernel
theorem dX3_teach_35 : decode cX3_teach 35 = .ok (.getfield 15, 3) := by decide +kernel
theorem dX3_teach_38 : decode cX3_teach 38 = .ok (.iload_n 3, 1) := by decide +kernel
theorem dX3_teach_39 : decode cX3_teach 39 = .ok (.aload_n 0, 1) := by decide +kernel
theorem dX3_teach_40 : decode cX3_teach 40 = .ok (.getfield 15, 3) := by decide +kernel
theorem dX3_teach_43 : decode cX3_teach 43 = .ok (.iload_n 3, 1) := by decide +kernel
theorem dX3_teach_44 : decode cX3_teach 44 = .ok (.daload, 1) := by decide +kernel
theorem dX3_teach_45 : decode cX3_teach 45 = .ok (.aload_n 1, 1) := by decide +kernel
theorem dX3_teach_46 : decode cX3_teach 46 = .ok (.getfield 57, 3) := by decide +kernel
theorem dX3_teach_49 : decode cX3_teach 49 = .ok (.iload_n 2, 1) := by decide +kernel
theorem dX3_teach_50 : decode cX3_teach 50 = .ok (.i2d, 1) := by decide +kernel
theorem dX3_teach_51 : decode cX3_teach 51 = .ok (.dmul, 1) := by decide +kernel
theorem dX3_teach_52 : decode cX3_teach 52 = .ok (.ldc2_w 60, 3) := by decide +kernel
theorem dX3_teach_55 : decode cX3_teach 55 = .ok (.ddiv, 1) := by decide +kernel
theorem dX3_teach_56 : decode cX3_teach 56 = .ok (.dadd, 1) := by decide +kernel
theorem dX3_teach_57 : decode cX3_teach 57 = .ok (.dastore, 1) := by decide +kernel
theorem dX3_teach_58 : decode cX3_teach 58 = .ok (.aload_n 0, 1) := by decide +kernel
theorem dX3_teach_59 : decode cX3_teach 59 = .ok (.getfield 19, 3) := by decide +kernel
theorem dX3_teach_62 : decode cX3_teach 62 = .ok (.iload_n 3, 1) := by decide +kernel
theorem dX3_teach_63 : decode cX3_teach 63 = .ok (.aload_n 0, 1) := by decide +kernel
theorem dX3_teach_64 : decode cX3_teach 64 = .ok (.getfield 19, 3) := by decide +kernel
theorem dX3_teach_67 : decode cX3_teach 67 = .ok (.iload_n 3, 1) := by decide +kernel
theorem dX3_teach_68 : decode cX3_teach 68 = .ok (.daload, 1) := by decide +kernel
theorem dX3_teach_69 : decode cX3_teach 69 = .ok (.aload_n 1, 1) := by decide +kernel
theorem dX3_teach_70 : decode cX3_teach 70 = .ok (.getfield 62, 3) := by decide +kernel
theorem dX3_teach_73 : decode cX3_teach 73 = .ok (.iload_n 2, 1) := by decide +kernel
theorem dX3_teach_74 : decode cX3_teach 74 = .ok (.i2d, 1) := by decide +kernel
theorem dX3_teach_75 : decode cX3_teach 75 = .ok (.dmul, 1) := by decide +kernel
theorem dX3_teach_76 : decode cX3_teach 76 = .ok (.ldc2_w 60, 3) := by decide +kernel
theorem dX3_teach_79 : decode cX3_teach 79 = .ok (.ddiv, 1) := by decide +kernel
theorem dX3_teach_80 : decode cX3_teach 80 = .ok (.dadd, 1) := by decide +kernel
theorem dX3_teach_81 : decode cX3_teach 81 = .ok (.dastore, 1) := by decide +kernel
theorem dX3_teach_82 : decode cX3_teach 82 = .ok (.aload_n 0, 1) := by decide +kernel
theorem dX3_teach_83 : decode cX3_teach 83 = .ok (.getfield 9, 3) := by decide +kernel
theorem dX3_teach_86 : decode cX3_teach 86 = .ok (.iload_n 3, 1) := by decide +kernel
theorem dX3_teach_87 : decode cX3_teach 87 = .ok (.dup2, 1) := by decide +kernel
theorem dX3_teach_88 : decode cX3_teach 88 = .ok (.iaload, 1) := by decide +kernel
theorem dX3_teach_89 : decode cX3_teach 89 = .ok (.iconst 1, 1) := by decide +kernel
theorem dX3_teach_90 : decode cX3_teach 90 = .ok (.iadd, 1) := by decide +kernel
theorem dX3_teach_91 : decode cX3_teach 91 = .ok (.iastore, 1) := by decide +kernel
theorem dX3_teach_92 : decode cX3_teach 92 = .ok (.aload_n 0, 1) := by decide +kernel
theorem dX3_teach_93 : decode cX3_teach 93 = .ok (.getfield 9, 3) := by decide +kernel
theorem dX3_teach_96 : decode cX3_teach 96 = .ok (.iload_n 3, 1) := by decide +kernel
theorem dX3_teach_97 : decode cX3_teach 97 = .ok (.iaload, 1) := by decide +kernel
theorem dX3_teach_98 : decode cX3_teach 98 = .ok (.ireturn, 1) := by decide +kernel
theorem dX3_allLessons_0 : decode cX3_allLessons 0 = .ok (.iconst 0, 1) := by decide +kernel
theorem dX3_allLessons_1 : decode cX3_allLessons 1 = .ok (.istore_n 1, 1) := by decide +kernel
theorem dX3_allLessons_2 : decode cX3_allLessons 2 = .ok (.iconst 0, 1) := by decide +kernel
theorem dX3_allLessons_3 : decode cX3_allLessons 3 = .ok (.istore_n 2, 1) := by decide +kernel
theorem dX3_allLessons_4 : decode cX3_allLessons 4 = .ok (.iload_n 2, 1) := by decide +kernel
theorem dX3_allLessons_5 : decode cX3_allLessons 5 = .ok (.bipush 24, 2) := by decide +kernel
theorem dX3_allLessons_7 : decode cX3_allLessons 7 = .ok (.if_icmp .ge 18, 3) := by decide +kernel
theorem dX3_allLessons_10 : decode cX3_allLessons 10 = .ok (.iload_n 1, 1) := by decide +kernel
theorem dX3_allLessons_11 : decode cX3_allLessons 11 = .ok (.aload_n 0, 1) := by decide +kernel
theorem dX3_allLessons_12 : decode cX3_allLessons 12 = .ok (.getfield 9, 3) := by decide +kernel
theorem dX3_allLessons_15 : decode cX3_allLessons 15 = .ok (.iload_n 2, 1) := by decide +kernel
theorem dX3_allLessons_16 : decode cX3_allLessons 16 = .ok (.iaload, 1) := by decide +kernel
theorem dX3_allLessons_17 : decode cX3_allLessons 17 = .ok (.iadd, 1) := by decide +kernel
theorem dX3_allLessons_18 : decode cX3_allLessons 18 = .ok (.istore_n 1, 1) := by decide +kernel
theorem dX3_allLessons_19 : decode cX3_allLessons 19 = .ok (.iinc 2 1, 3) := by decide +kernel
theorem dX3_allLessons_22 : decode cX3_allLessons 22 = .ok (.goto (-18), 3) := by decide +kernel
theorem dX3_allLessons_25 : decode cX3_allLessons 25 = .ok (.iload_n 1, 1) := by decide +kernel
theorem dX3_allLessons_26 : decode cX3_allLessons 26 = .ok (.ireturn, 1) := by decide +kernel
theorem dX3_taught_0 : decode cX3_taught 0 = .ok (.iconst 0, 1) := by decide +kernel
theorem dX3_taught_1 : decode cX3_taught 1 = .ok (.istore_n 1, 1) := by decide +kernel
theorem dX3_taught_2 : decode cX3_taught 2 = .ok (.iconst 0, 1) := by decide +kernel
theorem dX3_taught_3 : decode cX3_taught 3 = .ok (.istore_n 2, 1) := by decide +kernel
theorem dX3_taught_4 : decode cX3_taught 4 = .ok (.iload_n 2, 1) := by decide +kernel
theorem dX3_taught_5 : decode cX3_taught 5 = .ok (.bipush 24, 2) := by decide +kernel
theorem dX3_taught_7 : decode cX3_taught 7 = .ok (.if_icmp .ge 21, 3) := by decide +kernel
theorem dX3_taught_10 : decode cX3_taught 10 = .ok (.aload_n 0, 1) := by decide +kernel
theorem dX3_taught_11 : decode cX3_taught 11 = .ok (.getfield 9, 3) := by decide +kernel
theorem dX3_taught_14 : decode cX3_taught 14 = .ok (.iload_n 2, 1) := by decide +kernel
theorem dX3_taught_15 : decode cX3_taught 15 = .ok (.iaload, 1) := by decide +kernel
theorem dX3_taught_16 : decode cX3_taught 16 = .ok (.ifCond .le 6, 3) := by decide +kernel
theorem dX3_taught_19 : decode cX3_taught 19 = .ok (.iinc 1 1, 3) := by decide +kernel
theorem dX3_taught_22 : decode cX3_taught 22 = .ok (.iinc 2 1, 3) := by decide +kernel
theorem dX3_taught_25 : decode cX3_taught 25 = .ok (.goto (-21), 3) := by decide +kernel
theorem dX3_taught_28 : decode cX3_taught 28 = .ok (.iload_n 1, 1) := by decide +kernel
theorem dX3_taught_29 : decode cX3_taught 29 = .ok (.ireturn, 1) := by decide +kernel
theorem dX4_init_0 : decode cX4_init 0 = .ok (.aload_n 0, 1) := by decide +kernel
theorem dX4_init_1 : decode cX4_init 1 = .ok (.invokespecial 3, 3) := by decide +kernel
theorem dX4_init_4 : decode cX4_init 4 = .ok (.aload_n 0, 1) := by decide +kernel
theorem dX4_init_5 : decode cX4_init 5 = .ok (.iconst 0, 1) := by decide +kernel
theorem dX4_init_6 : decode cX4_init 6 = .ok (.putfield 9, 3) := by decide +kernel
theorem dX4_init_9 : decode cX4_init 9 = .ok (.aload_n 0, 1) := by decide +kernel
theorem dX4_init_10 : decode cX4_init 10 = .ok (.bipush 20, 2) := by decide +kernel
theorem dX4_init_12 : decode cX4_init 12 = .ok (.newarray .int, 2) := by decide +kernel
theorem dX4_init_14 : decode cX4_init 14 = .ok (.putfield 15, 3) := by decide +kernel
theorem dX4_init_17 : decode cX4_init 17 = .ok (.aload_n 0, 1) := by decide +kernel
theorem dX4_init_18 : decode cX4_init 18 = .ok (.bipush 20, 2) := by decide +kernel
theorem dX4_init_20 : decode cX4_init 20 = .ok (.newarray .int, 2) := by decide +kernel
theorem dX4_init_22 : decode cX4_init 22 = .ok (.putfield 19, 3) := by decide +kernel
theorem dX4_init_25 : decode cX4_init 25 = .ok (.aload_n 0, 1) := by decide +kernel
theorem dX4_init_26 : decode cX4_init 26 = .ok (.bipush 20, 2) := by decide +kernel
theorem dX4_init_28 : decode cX4_init 28 = .ok (.newarray .int, 2) := by decide +kernel
theorem dX4_init_30 : decode cX4_init 30 = .ok (.putfield 22, 3) := by decide +kernel
theorem dX4_init_33 : decode cX4_init 33 = .ok (.aload_n 0, 1) := by decide +kernel
theorem dX4_init_34 : decode cX4_init 34 = .ok (.bipush 20, 2) := by decide +kernel
theorem dX4_init_36 : decode cX4_init 36 = .ok (.newarray .int, 2) := by decide +kernel
theorem dX4_init_38 : decode cX4_init 38 = .ok (.putfield 25, 3) := by decide +kernel
theorem dX4_init_41 : decode cX4_init 41 = .ok (.return_, 1) := by decide +kernel
theorem dX4_copyFrom_0 : decode cX4_copyFrom 0 = .ok (.aload_n 0, 1) := by decide +kernel
theorem dX4_copyFrom_1 : decode cX4_copyFrom 1 = .ok (.aload_n 1, 1) := by decide +kernel
theorem dX4_copyFrom_2 : decode cX4_copyFrom 2 = .ok (.getfield 9, 3) := by decide +kernel
theorem dX4_copyFrom_5 : decode cX4_copyFrom 5 = .ok (.putfield 9, 3) := by decide +kernel
theorem dX4_copyFrom_8 : decode cX4_copyFrom 8 = .ok (.aload_n 1, 1) := by decide +kernel
theorem dX4_copyFrom_9 : decode cX4_copyFrom 9 = .ok (.getfield 15, 3) := by decide +kernel
theorem dX4_copyFrom_12 : decode cX4_copyFrom 12 = .ok (.iconst 0, 1) := by decide +kernel
theorem dX4_copyFrom_13 : decode cX4_copyFrom 13 = .ok (.aload_n 0, 1) := by decide +kernel
theorem dX4_copyFrom_14 : decode cX4_copyFrom 14 = .ok (.getfield 15, 3) := by decide +kernel
theorem dX4_copyFrom_17 : decode cX4_copyFrom 17 = .ok (.iconst 0, 1) := by decide +kernel
theorem dX4_copyFrom_18 : decode cX4_copyFrom 18 = .ok (.bipush 20, 2) := by decide +kernel
theorem dX4_copyFrom_20 : decode cX4_copyFrom 20 = .ok (.invokestatic 28, 3) := by decide +kernel
theorem dX4_copyFrom_23 : decode cX4_copyFrom 23 = .ok (.aload_n 1, 1) := by decide +kernel
theorem dX4_copyFrom_24 : decode cX4_copyFrom 24 = .ok (.getfield 19, 3) := by decide +kernel
theorem dX4_copyFrom_27 : decode cX4_copyFrom 27 = .ok (.iconst 0, 1) := by decide +kernel
theorem dX4_copyFrom_28 : decode cX4_copyFrom 28 = .ok (.aload_n 0, 1) := by decide +kernel
theorem dX4_copyFrom_29 : decode cX4_copyFrom 29 = .ok (.getfield 19, 3) := by decide +kernel
theorem dX4_copyFrom_32 : decode cX4_copyFrom 32 = .ok (.iconst 0, 1) := by decide +kernel
theorem dX4_copyFrom_33 : decode cX4_copyFrom 33 = .ok (.bipush 20, 2) := by decide +kernel
theorem dX4_copyFrom_35 : decode cX4_copyFrom 35 = .ok (.invokestatic 28, 3) := by decide +kernel
theorem dX4_copyFrom_38 : decode cX4_copyFrom 38 = .ok (.aload_n 1, 1) := by decide +kernel
theorem dX4_copyFrom_39 : decode cX4_copyFrom 39 = .ok (.getfield 22, 3) := by decide +kernel
theorem dX4_copyFrom_42 : decode cX4_copyFrom 42 = .ok (.iconst 0, 1) := by decide +kernel
theorem dX4_copyFrom_43 : decode cX4_copyFrom 43 = .ok (.aload_n 0, 1) := by decide +kernel
theorem dX4_copyFrom_44 : decode cX4_copyFrom 44 = .ok (.getfield 22, 3) := by decide +kernel
theorem dX4_copyFrom_47 : decode cX4_copyFrom 47 = .ok (.iconst 0, 1) := by decide +kernel
theorem dX4_copyFrom_48 : decode cX4_copyFrom 48 = .ok (.bipush 20, 2) := by decide +kernel
theorem dX4_copyFrom_50 : decode cX4_copyFrom 50 = .ok (.invokestatic 28, 3) := by decide +kernel
theorem dX4_copyFrom_53 : decode cX4_copyFrom 53 = .ok (.aload_n 1, 1) := by decide +kernel
theorem dX4_copyFrom_54 : decode cX4_copyFrom 54 = .ok (.getfield 25, 3) := by decide +kernel
theorem dX4_copyFrom_57 : decode cX4_copyFrom 57 = .ok (.iconst 0, 1) := by decide +kernel
theorem dX4_copyFrom_58 : decode cX4_copyFrom 58 = .ok (.aload_n 0, 1) := by decide +kernel
theorem dX4_copyFrom_59 : decode cX4_copyFrom 59 = .ok (.getfield 25, 3) := by decide +kernel
theorem dX4_copyFrom_62 : decode cX4_copyFrom 62 = .ok (.iconst 0, 1) := by decide +kernel
theorem dX4_copyFrom_63 : decode cX4_copyFrom 63 = .ok (.bipush 20, 2) := by decide +kernel
theorem dX4_copyFrom_65 : decode cX4_copyFrom 65 = .ok (.invokestatic 28, 3) := by decide +kernel
theorem dX4_copyFrom_68 : decode cX4_copyFrom 68 = .ok (.return_, 1) := by decide +kernel
theorem dX4_put_0 : decode cX4_put 0 = .ok (.aload_n 0, 1) := by decide +kernel
theorem dX4_put_1 : decode cX4_put 1 = .ok (.getfield 9, 3) := by decide +kernel
theorem dX4_put_4 : decode cX4_put 4 = .ok (.istore_n 3, 1) := by decide +kernel
theorem dX4_put_5 : decode cX4_put 5 = .ok (.aload_n 0, 1) := by decide +kernel
theorem dX4_put_6 : decode cX4_put 6 = .ok (.getfield 15, 3) := by decide +kernel
theorem dX4_put_9 : decode cX4_put 9 = .ok (.iload_n 3, 1) := by decide +kernel
theorem dX4_put_10 : decode cX4_put 10 = .ok (.iload_n 1, 1) := by decide +kernel
theorem dX4_put_11 : decode cX4_put 11 = .ok (.iastore, 1) := by decide +kernel
theorem dX4_put_12 : decode cX4_put 12 = .ok (.aload_n 0, 1) := by decide +kernel
theorem dX4_put_13 : decode cX4_put 13 = .ok (.getfield 19, 3) := by decide +kernel
theorem dX4_put_16 : decode cX4_put 16 = .ok (.iload_n 3, 1) := by decide +kernel
theorem dX4_put_17 : decode cX4_put 17 = .ok (.iload_n 2, 1) := by decide +kernel
theorem dX4_put_18 : decode cX4_put 18 = .ok (.iastore, 1) := by decide +kernel
theorem dX4_put_19 : decode cX4_put 19 = .ok (.aload_n 0, 1) := by decide +kernel
theorem dX4_put_20 : decode cX4_put 20 = .ok (.dup, 1) := by decide +kernel
theorem dX4_put_21 : decode cX4_put 21 = .ok (.getfield 9, 3) := by decide +kernel
theorem dX4_put_24 : decode cX4_put 24 = .ok (.iconst 1, 1) := by decide +kernel
theorem dX4_put_25 : decode cX4_put 25 = .ok (.iadd, 1) := by decide +kernel
theorem dX4_put_26 : decode cX4_put 26 = .ok (.putfield 9, 3) := by decide +kernel
theorem dX4_put_29 : decode cX4_put 29 = .ok (.iload_n 3, 1) := by decide +kernel
theorem dX4_put_30 : decode cX4_put 30 = .ok (.ireturn, 1) := by decide +kernel
theorem dX4_sideOf_0 : decode cX4_sideOf 0 = .ok (.aload_n 0, 1) := by decide +kernel
theorem dX4_sideOf_1 : decode cX4_sideOf 1 = .ok (.getfield 15, 3) := by decide +kernel
theorem dX4_sideOf_4 : decode cX4_sideOf 4 = .ok (.iload_n 1, 1) := by decide +kernel
theorem dX4_sideOf_5 : decode cX4_sideOf 5 = .ok (.iaload, 1) := by decide +kernel
theorem dX4_sideOf_6 : decode cX4_sideOf 6 = .ok (.sipush 10800, 3) := by decide +kernel
theorem dX4_sideOf_9 : decode cX4_sideOf 9 = .ok (.if_icmp .ge 7, 3) := by decide +kernel
theorem dX4_sideOf_12 : decode cX4_sideOf 12 = .ok (.iconst 0, 1) := by decide +kernel
theorem dX4_sideOf_13 : decode cX4_sideOf 13 = .ok (.goto 4, 3) := by decide +kernel
theorem dX4_sideOf_16 : decode cX4_sideOf 16 = .ok (.iconst 1, 1) := by decide +kernel
theorem dX4_sideOf_17 : decode cX4_sideOf 17 = .ok (.ireturn, 1) := by decide +kernel
theorem dX4_regionOf_0 : decode cX4_regionOf 0 = .ok (.iconst 3, 1) := by decide +kernel
theorem dX4_regionOf_1 : decode cX4_regionOf 1 = .ok (.aload_n 0, 1) := by decide +kernel
theorem dX4_regionOf_2 : decode cX4_regionOf 2 = .ok (.getfield 15, 3) := by decide +kernel
theorem dX4_regionOf_5 : decode cX4_regionOf 5 = .ok (.iload_n 1, 1) := by decide +kernel
theorem dX4_regionOf_6 : decode cX4_regionOf 6 = .ok (.iaload, 1) := by decide +kernel
theorem dX4_regionOf_7 : decode cX4_regionOf 7 = .ok (.sipush 2700, 3) := by decide +kernel
theorem dX4_regionOf_10 : decode cX4_regionOf 10 = .ok (.idiv, 1) := by decide +kernel
theorem dX4_regionOf_11 : decode cX4_regionOf 11 = .ok (.imul, 1) := by decide +kernel
theorem dX4_regionOf_12 : decode cX4_regionOf 12 = .ok (.aload_n 0, 1) := by decide +kernel
theorem dX4_regionOf_13 : decode cX4_regionOf 13 = .ok (.getfield 19, 3) := by decide +kernel
theorem dX4_regionOf_16 : decode cX4_regionOf 16 = .ok (.iload_n 1, 1) := by decide +kernel
theorem dX4_regionOf_17 : decode cX4_regionOf 17 = .ok (.iaload, 1) := by decide +kernel
theorem dX4_regionOf_18 : decode cX4_regionOf 18 = .ok (.sipush 1801, 3) := by decide +kernel
theorem dX4_regionOf_21 : decode cX4_regionOf 21 = .ok (.idiv, 1) := by decide +kernel
theorem dX4_regionOf_22 : decode cX4_regionOf 22 = .ok (.iadd, 1) := by decide +kernel
theorem dX4_regionOf_23 : decode cX4_regionOf 23 = .ok (.ireturn, 1) := by decide +kernel
theorem dX4_countAim_0 : decode cX4_countAim 0 = .ok (.aload_n 0, 1) := by decide +kernel
theorem dX4_countAim_1 : decode cX4_countAim 1 = .ok (.getfield 22, 3) := by decide +kernel
theorem dX4_countAim_4 : decode cX4_countAim 4 = .ok (.iload_n 1, 1) := by decide +kernel
theorem dX4_countAim_5 : decode cX4_countAim 5 = .ok (.dup2, 1) := by decide +kernel
theorem dX4_countAim_6 : decode cX4_countAim 6 = .ok (.iaload, 1) := by decide +kernel
theorem dX4_countAim_7 : decode cX4_countAim 7 = .ok (.iconst 1, 1) := by decide +kernel
theorem dX4_countAim_8 : decode cX4_countAim 8 = .ok (.iadd, 1) := by decide +kernel
theorem dX4_countAim_9 : decode cX4_countAim 9 = .ok (.iastore, 1) := by decide +kernel
theorem dX4_countAim_10 : decode cX4_countAim 10 = .ok (.iload_n 2, 1) := by decide +kernel
theorem dX4_countAim_11 : decode cX4_countAim 11 = .ok (.ifCond .eq 13, 3) := by decide +kernel
theorem dX4_countAim_14 : decode cX4_countAim 14 = .ok (.aload_n 0, 1) := by decide +kernel
theorem dX4_countAim_15 : decode cX4_countAim 15 = .ok (.getfield 25, 3) := by decide +kernel
theorem dX4_countAim_18 : decode cX4_countAim 18 = .ok (.iload_n 1, 1) := by decide +kernel
theorem dX4_countAim_19 : decode cX4_countAim 19 = .ok (.dup2, 1) := by decide +kernel
theorem dX4_countAim_20 : decode cX4_countAim 20 = .ok (.iaload, 1) := by decide +kernel
theorem dX4_countAim_21 : decode cX4_countAim 21 = .ok (.iconst 1, 1) := by decide +kernel
theorem dX4_countAim_22 : decode cX4_countAim 22 = .ok (.iadd, 1) := by decide +kernel
theorem dX4_countAim_23 : decode cX4_countAim 23 = .ok (.iastore, 1) := by decide +kernel
theorem dX4_countAim_24 : decode cX4_countAim 24 = .ok (.return_, 1) := by decide +kernel
theorem dX4_allAims_0 : decode cX4_allAims 0 = .ok (.iconst 0, 1) := by decide +kernel
theorem dX4_allAims_1 : decode cX4_allAims 1 = .ok (.istore_n 1, 1) := by decide +kernel
theorem dX4_allAims_2 : decode cX4_allAims 2 = .ok (.iconst 0, 1) := by decide +kernel
theorem dX4_allAims_3 : decode cX4_allAims 3 = .ok (.istore_n 2, 1) := by decide +kernel
theorem dX4_allAims_4 : decode cX4_allAims 4 = .ok (.iload_n 2, 1) := by decide +kernel
theorem dX4_allAims_5 : decode cX4_allAims 5 = .ok (.aload_n 0, 1) := by decide +kernel
theorem dX4_allAims_6 : decode cX4_allAims 6 = .ok (.getfield 9, 3) := by decide +kernel
theorem dX4_allAims_9 : decode cX4_allAims 9 = .ok (.if_icmp .ge 18, 3) := by decide +kernel
theorem dX4_allAims_12 : decode cX4_allAims 12 = .ok (.iload_n 1, 1) := by decide +kernel
theorem dX4_allAims_13 : decode cX4_allAims 13 = .ok (.aload_n 0, 1) := by decide +kernel
theorem dX4_allAims_14 : decode cX4_allAims 14 = .ok (.getfield 22, 3) := by decide +kernel
theorem dX4_allAims_17 : decode cX4_allAims 17 = .ok (.iload_n 2, 1) := by decide +kernel
theorem dX4_allAims_18 : decode cX4_allAims 18 = .ok (.iaload, 1) := by decide +kernel
theorem dX4_allAims_19 : decode cX4_allAims 19 = .ok (.iadd, 1) := by decide +kernel
theorem dX4_allAims_20 : decode cX4_allAims 20 = .ok (.istore_n 1, 1) := by decide +kernel
theorem dX4_allAims_21 : decode cX4_allAims 21 = .ok (.iinc 2 1, 3) := by decide +kernel
theorem dX4_allAims_24 : decode cX4_allAims 24 = .ok (.goto (-20), 3) := by decide +kernel
theorem dX4_allAims_27 : decode cX4_allAims 27 = .ok (.iload_n 1, 1) := by decide +kernel
theorem dX4_allAims_28 : decode cX4_allAims 28 = .ok (.ireturn, 1) := by decide +kernel
theorem dX4_allFinds_0 : decode cX4_allFinds 0 = .ok (.iconst 0, 1) := by decide +kernel
theorem dX4_allFinds_1 : decode cX4_allFinds 1 = .ok (.istore_n 1, 1) := by decide +kernel
theorem dX4_allFinds_2 : decode cX4_allFinds 2 = .ok (.iconst 0, 1) := by decide +kernel
theorem dX4_allFinds_3 : decode cX4_allFinds 3 = .ok (.istore_n 2, 1) := by decide +kernel
theorem dX4_allFinds_4 : decode cX4_allFinds 4 = .ok (.iload_n 2, 1) := by decide +kernel
theorem dX4_allFinds_5 : decode cX4_allFinds 5 = .ok (.aload_n 0, 1) := by decide +kernel
theorem dX4_allFinds_6 : decode cX4_allFinds 6 = .ok (.getfield 9, 3) := by decide +kernel
theorem dX4_allFinds_9 : decode cX4_allFinds 9 = .ok (.if_icmp .ge 18, 3) := by decide +kernel
theorem dX4_allFinds_12 : decode cX4_allFinds 12 = .ok (.iload_n 1, 1) := by decide +kernel
theorem dX4_allFinds_13 : decode cX4_allFinds 13 = .ok (.aload_n 0, 1) := by decide +kernel
theorem dX4_allFinds_14 : decode cX4_allFinds 14 = .ok (.getfield 25, 3) := by decide +kernel
theorem dX4_allFinds_17 : decode cX4_allFinds 17 = .ok (.iload_n 2, 1) := by decide +kernel
theorem dX4_allFinds_18 : decode cX4_allFinds 18 = .ok (.iaload, 1) := by decide +kernel
theorem dX4_allFinds_19 : decode cX4_allFinds 19 = .ok (.iadd, 1) := by decide +kernel
theorem dX4_allFinds_20 : decode cX4_allFinds 20 = .ok (.istore_n 1, 1) := by decide +kernel
theorem dX4_allFinds_21 : decode cX4_allFinds 21 = .ok (.iinc 2 1, 3) := by decide +kernel
theorem dX4_allFinds_24 : decode cX4_allFinds 24 = .ok (.goto (-20), 3) := by decide +kernel
theorem dX4_allFinds_27 : decode cX4_allFinds 27 = .ok (.iload_n 1, 1) := by decide +kernel
theorem dX4_allFinds_28 : decode cX4_allFinds 28 = .ok (.ireturn, 1) := by decide +kernel
theorem dX5_init_0 : decode cX5_init 0 = .ok (.aload_n 0, 1) := by decide +kernel
theorem dX5_init_1 : decode cX5_init 1 = .ok (.invokespecial 3, 3) := by decide +kernel
theorem dX5_init_4 : decode cX5_init 4 = .ok (.aload_n 0, 1) := by decide +kernel
theorem dX5_init_5 : decode cX5_init 5 = .ok (.iconst 5, 1) := by decide +kernel
theorem dX5_init_6 : decode cX5_init 6 = .ok (.newarray .int, 2) := by decide +kernel
theorem dX5_init_8 : decode cX5_init 8 = .ok (.putfield 9, 3) := by decide +kernel
theorem dX5_init_11 : decode cX5_init 11 = .ok (.aload_n 0, 1) := by decide +kernel
theorem dX5_init_12 : decode cX5_init 12 = .ok (.bipush 8, 2) := by decide +kernel
theorem dX5_init_14 : decode cX5_init 14 = .ok (.newarray .int, 2) := by decide +kernel
theorem dX5_init_16 : decode cX5_init 16 = .ok (.putfield 15, 3) := by decide +kernel
theorem dX5_init_19 : decode cX5_init 19 = .ok (.aload_n 0, 1) := by decide +kernel
theorem dX5_init_20 : decode cX5_init 20 = .ok (.new 18, 3) := by decide +kernel
theorem dX5_init_23 : decode cX5_init 23 = .ok (.dup, 1) := by decide +kernel
theorem dX5_init_24 : decode cX5_init 24 = .ok (.invokespecial 20, 3) := by decide +kernel
theorem dX5_init_27 : decode cX5_init 27 = .ok (.putfield 21, 3) := by decide +kernel
theorem dX5_init_30 : decode cX5_init 30 = .ok (.aload_n 0, 1) := by decide +kernel
theorem dX5_init_31 : decode cX5_init 31 = .ok (.new 25, 3) := by decide +kernel
theorem dX5_init_34 : decode cX5_init 34 = .ok (.dup, 1) := by decide +kernel
theorem dX5_init_35 : decode cX5_init 35 = .ok (.invokespecial 27, 3) := by decide +kernel
theorem dX5_init_38 : decode cX5_init 38 = .ok (.putfield 28, 3) := by decide +kernel
theorem dX5_init_41 : decode cX5_init 41 = .ok (.aload_n 0, 1) := by decide +kernel
theorem dX5_init_42 : decode cX5_init 42 = .ok (.new 32, 3) := by decide +kernel
theorem dX5_init_45 : decode cX5_init 45 = .ok (.dup, 1) := by decide +kernel
theorem dX5_init_46 : decode cX5_init 46 = .ok (.invokespecial 34, 3) := by decide +kernel
theorem dX5_init_49 : decode cX5_init 49 = .ok (.putfield 35, 3) := by decide +kernel
theorem dX5_init_52 : decode cX5_init 52 = .ok (.aload_n 0, 1) := by decide +kernel
theorem dX5_init_53 : decode cX5_init 53 = .ok (.new 39, 3) := by decide +kernel
theorem dX5_init_56 : decode cX5_init 56 = .ok (.dup, 1) := by decide +kernel
theorem dX5_init_57 : decode cX5_init 57 = .ok (.invokespecial 41, 3) := by decide +kernel
theorem dX5_init_60 : decode cX5_init 60 = .ok (.putfield 42, 3) := by decide +kernel
theorem dX5_init_63 : decode cX5_init 63 = .ok (.aload_n 0, 1) := by decide +kernel
theorem dX5_init_64 : decode cX5_init 64 = .ok (.iconst 0, 1) := by decide +kernel
theorem dX5_init_65 : decode cX5_init 65 = .ok (.putfield 46, 3) := by decide +kernel
theorem dX5_init_68 : decode cX5_init 68 = .ok (.aload_n 0, 1) := by decide +kernel
theorem dX5_init_69 : decode cX5_init 69 = .ok (.iconst 0, 1) := by decide +kernel
theorem dX5_init_70 : decode cX5_init 70 = .ok (.putfield 50, 3) := by decide +kernel
theorem dX5_init_73 : decode cX5_init 73 = .ok (.aload_n 0, 1) := by decide +kernel
theorem dX5_init_74 : decode cX5_init 74 = .ok (.new 39, 3) := by decide +kernel
theorem dX5_init_77 : decode cX5_init 77 = .ok (.dup, 1) := by decide +kernel
theorem dX5_init_78 : decode cX5_init 78 = .ok (.invokespecial 41, 3) := by decide +kernel
theorem dX5_init_81 : decode cX5_init 81 = .ok (.putfield 53, 3) := by decide +kernel
theorem dX5_init_84 : decode cX5_init 84 = .ok (.getstatic 56, 3) := by decide +kernel
theorem dX5_init_87 : decode cX5_init 87 = .ok (.iconst 0, 1) := by decide +kernel
theorem dX5_init_88 : decode cX5_init 88 = .ok (.aload_n 0, 1) := by decide +kernel
theorem dX5_init_89 : decode cX5_init 89 = .ok (.getfield 9, 3) := by decide +kernel
theorem dX5_init_92 : decode cX5_init 92 = .ok (.iconst 0, 1) := by decide +kernel
theorem dX5_init_93 : decode cX5_init 93 = .ok (.iconst 5, 1) := by decide +kernel
theorem dX5_init_94 : decode cX5_init 94 = .ok (.invokestatic 59, 3) := by decide +kernel
theorem dX5_init_97 : decode cX5_init 97 = .ok (.return_, 1) := by decide +kernel
theorem dX5_copyFrom_0 : decode cX5_copyFrom 0 = .ok (.aload_n 1, 1) := by decide +kernel
theorem dX5_copyFrom_1 : decode cX5_copyFrom 1 = .ok (.getfield 9, 3) := by decide +kernel
theorem dX5_copyFrom_4 : decode cX5_copyFrom 4 = .ok (.iconst 0, 1) := by decide +kernel
theorem dX5_copyFrom_5 : decode cX5_copyFrom 5 = .ok (.aload_n 0, 1) := by decide +kernel
theorem dX5_copyFrom_6 : decode cX5_copyFrom 6 = .ok (.getfield 9, 3) := by decide +kernel
theorem dX5_copyFrom_9 : decode cX5_copyFrom 9 = .ok (.iconst 0, 1) := by decide +kernel
theorem dX5_copyFrom_10 : decode cX5_copyFrom 10 = .ok (.iconst 5, 1) := by decide +kernel
theorem dX5_copyFrom_11 : decode cX5_copyFrom 11 = .ok (.invokestatic 59, 3) := by decide +kernel
theorem dX5_copyFrom_14 : decode cX5_copyFrom 14 = .ok (.aload_n 1, 1) := by decide +kernel
theorem dX5_copyFrom_15 : decode cX5_copyFrom 15 = .ok (.getfield 15, 3) := by decide +kernel
theorem dX5_copyFrom_18 : decode cX5_copyFrom 18 = .ok (.iconst 0, 1) := by decide +kernel
theorem dX5_copyFrom_19 : decode cX5_copyFrom 19 = .ok (.aload_n 0, 1) := by decide +kernel
theorem dX5_copyFrom_20 : decode cX5_copyFrom 20 = .ok (.getfield 15, 3) := by decide +kernel
theorem dX5_copyFrom_23 : decode cX5_copyFrom 23 = .ok (.iconst 0, 1) := by decide +kernel
theorem dX5_copyFrom_24 : decode cX5_copyFrom 24 = .ok (.bipush 8, 2) := by decide +kernel
theorem dX5_copyFrom_26 : decode cX5_copyFrom 26 = .ok (.invokestatic 59, 3) := by decide +kernel
theorem dX5_copyFrom_29 : decode cX5_copyFrom 29 = .ok (.aload_n 0, 1) := by decide +kernel
theorem dX5_copyFrom_30 : decode cX5_copyFrom 30 = .ok (.getfield 21, 3) := by decide +kernel
theorem dX5_copyFrom_33 : decode cX5_copyFrom 33 = .ok (.aload_n 1, 1) := by decide +kernel
theorem dX5_copyFrom_34 : decode cX5_copyFrom 34 = .ok (.getfield 21, 3) := by decide +kernel
theorem dX5_copyFrom_37 : decode cX5_copyFrom 37 = .ok (.invokevirtual 65, 3) := by decide +kernel
theorem dX5_copyFrom_40 : decode cX5_copyFrom 40 = .ok (.aload_n 0, 1) := by decide +kernel
theorem dX5_copyFrom_41 : decode cX5_copyFrom 41 = .ok (.getfield 28, 3) := by decide +kernel
theorem dX5_copyFrom_44 : decode cX5_copyFrom 44 = .ok (.aload_n 1, 1) := by decide +kernel
theorem dX5_copyFrom_45 : decode cX5_copyFrom 45 = .ok (.getfield 28, 3) := by decide +kernel
theorem dX5_copyFrom_48 : decode cX5_copyFrom 48 = .ok (.invokevirtual 69, 3) := by decide +kernel
theorem dX5_copyFrom_51 : decode cX5_copyFrom 51 = .ok (.aload_n 0, 1) := by decide +kernel
theorem dX5_copyFrom_52 : decode cX5_copyFrom 52 = .ok (.getfield 35, 3) := by decide +kernel
theorem dX5_copyFrom_55 : decode cX5_copyFrom 55 = .ok (.aload_n 1, 1) := by decide +kernel
theorem dX5_copyFrom_56 : decode cX5_copyFrom 56 = .ok (.getfield 35, 3) := by decide +kernel
theorem dX5_copyFrom_59 : decode cX5_copyFrom 59 = .ok (.invokevirtual 72, 3) := by decide +kernel
theorem dX5_copyFrom_62 : decode cX5_copyFrom 62 = .ok (.aload_n 0, 1) := by decide +kernel
theorem dX5_copyFrom_63 : decode cX5_copyFrom 63 = .ok (.getfield 42, 3) := by decide +kernel
theorem dX5_copyFrom_66 : decode cX5_copyFrom 66 = .ok (.aload_n 1, 1) := by decide +kernel
theorem dX5_copyFrom_67 : decode cX5_copyFrom 67 = .ok (.getfield 42, 3) := by decide +kernel
theorem dX5_copyFrom_70 : decode cX5_copyFrom 70 = .ok (.invokevirtual 75, 3) := by decide +kernel
theorem dX5_copyFrom_73 : decode cX5_copyFrom 73 = .ok (.aload_n 0, 1) := by decide +kernel
theorem dX5_copyFrom_74 : decode cX5_copyFrom 74 = .ok (.aload_n 1, 1) := by decide +kernel
theorem dX5_copyFrom_75 : decode cX5_copyFrom 75 = .ok (.getfield 46, 3) := by decide +kernel
theorem dX5_copyFrom_78 : decode cX5_copyFrom 78 = .ok (.putfield 46, 3) := by decide +kernel
theorem dX5_copyFrom_81 : decode cX5_copyFrom 81 = .ok (.aload_n 0, 1) := by decide +kernel
theorem dX5_copyFrom_82 : decode cX5_copyFrom 82 = .ok (.aload_n 1, 1) := by decide +kernel
theorem dX5_copyFrom_83 : decode cX5_copyFrom 83 = .ok (.getfield 50, 3) := by decide +kernel
theorem dX5_copyFrom_86 : decode cX5_copyFrom 86 = .ok (.putfield 50, 3) := by decide +kernel
theorem dX5_copyFrom_89 : decode cX5_copyFrom 89 = .ok (.return_, 1) := by decide +kernel
theorem dX5_isWithinLimits_0 : decode cX5_isWithinLimits 0 = .ok (.aload_n 0, 1) := by decide +kernel
theorem dX5_isWithinLimits_1 : decode cX5_isWithinLimits 1 = .ok (.getfield 21, 3) := by decide +kernel
theorem dX5_isWithinLimits_4 : decode cX5_isWithinLimits 4 = .ok (.getfield 78, 3) := by decide +kernel
theorem dX5_isWithinLimits_7 : decode cX5_isWithinLimits 7 = .ok (.iload_n 1, 1) := by decide +kernel
theorem dX5_isWithinLimits_8 : decode cX5_isWithinLimits 8 = .ok (.iaload, 1) := by decide +kernel
theorem dX5_isWithinLimits_9 : decode cX5_isWithinLimits 9 = .ok (.istore_n 2, 1) := by decide +kernel
theorem dX5_isWithinLimits_10 : decode cX5_isWithinLimits 10 = .ok (.iload_n 2, 1) := by decide +kernel
theorem dX5_isWithinLimits_11 : decode cX5_isWithinLimits 11 = .ok (.aload_n 0, 1) := by decide +kernel
theorem dX5_isWithinLimits_12 : decode cX5_isWithinLimits 12 = .ok (.getfield 9, 3) := by decide +kernel
theorem dX5_isWithinLimits_15 : decode cX5_isWithinLimits 15 = .ok (.iconst 3, 1) := by decide +kernel
theorem dX5_isWithinLimits_16 : decode cX5_isWithinLimits 16 = .ok (.iaload, 1) := by decide +kernel
theorem dX5_isWithinLimits_17 : decode cX5_isWithinLimits 17 = .ok (.if_icmp .lt 17, 3) := by decide +kernel
theorem dX5_isWithinLimits_20 : decode cX5_isWithinLimits 20 = .ok (.iload_n 2, 1) := by decide +kernel
theorem dX5_isWithinLimits_21 : decode cX5_isWithinLimits 21 = .ok (.aload_n 0, 1) := by decide +kernel
theorem dX5_isWithinLimits_22 : decode cX5_isWithinLimits 22 = .ok (.getfield 9, 3) := by decide +kernel
theorem dX5_isWithinLimits_25 : decode cX5_isWithinLimits 25 = .ok (.iconst 4, 1) := by decide +kernel
theorem dX5_isWithinLimits_26 : decode cX5_isWithinLimits 26 = .ok (.iaload, 1) := by decide +kernel
theorem dX5_isWithinLimits_27 : decode cX5_isWithinLimits 27 = .ok (.if_icmp .gt 7, 3) := by decide +kernel
theorem dX5_isWithinLimits_30 : decode cX5_isWithinLimits 30 = .ok (.iconst 1, 1) := by decide +kernel
theorem dX5_isWithinLimits_31 : decode cX5_isWithinLimits 31 = .ok (.goto 4, 3) := by decide +kernel
theorem dX5_isWithinLimits_34 : decode cX5_isWithinLimits 34 = .ok (.iconst 0, 1) := by decide +kernel
theorem dX5_isWithinLimits_35 : decode cX5_isWithinLimits 35 = .ok (.ireturn, 1) := by decide +kernel
theorem dX5_finds_0 : decode cX5_finds 0 = .ok (.aload_n 1, 1) := by decide +kernel
theorem dX5_finds_1 : decode cX5_finds 1 = .ok (.invokevirtual 81, 3) := by decide +kernel
theorem dX5_finds_4 : decode cX5_finds 4 = .ok (.aload_n 0, 1) := by decide +kernel
theorem dX5_finds_5 : decode cX5_finds 5 = .ok (.getfield 9, 3) := by decide +kernel
theorem dX5_finds_8 : decode cX5_finds 8 = .ok (.iconst 2, 1) := by decide +kernel
theorem dX5_finds_9 : decode cX5_finds 9 = .ok (.iaload, 1) := by decide +kernel
theorem dX5_finds_10 : decode cX5_finds 10 = .ok (.i2d, 1) := by decide +kernel
theorem dX5_finds_11 : decode cX5_finds 11 = .ok (.dcmp .g, 1) := by decide +kernel
theorem dX5_finds_12 : decode cX5_finds 12 = .ok (.ifCond .gt 7, 3) := by decide +kernel
theorem dX5_finds_15 : decode cX5_finds 15 = .ok (.iconst 1, 1) := by decide +kernel
theorem dX5_finds_16 : decode cX5_finds 16 = .ok (.goto 4, 3) := by decide +kernel
theorem dX5_finds_19 : decode cX5_finds 19 = .ok (.iconst 0, 1) := by decide +kernel
theorem dX5_finds_20 : decode cX5_finds 20 = .ok (.ireturn, 1) := by decide +kernel
theorem dX5_bendAt_0 : decode cX5_bendAt 0 = .ok (.iload_n 1, 1) := by decide +kernel
theorem dX5_bendAt_1 : decode cX5_bendAt 1 = .ok (.iload_n 2, 1) := by decide +kernel
theorem dX5_bendAt_2 : decode cX5_bendAt 2 = .ok (.invokestatic 85, 3) := by decide +kernel
theorem dX5_bendAt_5 : decode cX5_bendAt 5 = .ok (.istore 4, 2) := by decide +kernel
theorem dX5_bendAt_7 : decode cX5_bendAt 7 = .ok (.aload_n 0, 1) := by decide +kernel
theorem dX5_bendAt_8 : decode cX5_bendAt 8 = .ok (.getfield 15, 3) := by decide +kernel
theorem dX5_bendAt_11 : decode cX5_bendAt 11 = .ok (.iload 4, 2) := by decide +kernel
theorem dX5_bendAt_13 : decode cX5_bendAt 13 = .ok (.iaload, 1) := by decide +kernel
theorem dX5_bendAt_14 : decode cX5_bendAt 14 = .ok (.i2d, 1) := by decide +kernel
theorem dX5_bendAt_15 : decode cX5_bendAt 15 = .ok (.aload_n 0, 1) := by decide +kernel
theorem dX5_bendAt_16 : decode cX5_bendAt 16 = .ok (.getfield 15, 3) := by decide +kernel
theorem dX5_bendAt_19 : decode cX5_bendAt 19 = .ok (.iload 4, 2) := by decide +kernel
theorem dX5_bendAt_21 : decode cX5_bendAt 21 = .ok (.iconst 1, 1) := by decide +kernel
theorem dX5_bendAt_22 : decode cX5_bendAt 22 = .ok (.iadd, 1) := by decide +kernel
theorem dX5_bendAt_23 : decode cX5_bendAt 23 = .ok (.iaload, 1) := by decide +kernel
theorem dX5_bendAt_24 : decode cX5_bendAt 24 = .ok (.i2d, 1) := by decide +kernel
theorem dX5_bendAt_25 : decode cX5_bendAt 25 = .ok (.iload_n 3, 1) := by decide +kernel
theorem dX5_bendAt_26 : decode cX5_bendAt 26 = .ok (.i2d, 1) := by decide +kernel
theorem dX5_bendAt_27 : decode cX5_bendAt 27 = .ok (.dmul, 1) := by decide +kernel
theorem dX5_bendAt_28 : decode cX5_bendAt 28 = .ok (.ldc2_w 89, 3) := by decide +kernel
theorem dX5_bendAt_31 : decode cX5_bendAt 31 = .ok (.ddiv, 1) := by decide +kernel
theorem dX5_bendAt_32 : decode cX5_bendAt 32 = .ok (.dadd, 1) := by decide +kernel
theorem dX5_bendAt_33 : decode cX5_bendAt 33 = .ok (.dreturn, 1) := by decide +kernel
theorem dX5_planAim_0 : decode cX5_planAim 0 = .ok (.aload_n 0, 1) := by decide +kernel
theorem dX5_planAim_1 : decode cX5_planAim 1 = .ok (.getfield 21, 3) := by decide +kernel
theorem dX5_planAim_4 : decode cX5_planAim 4 = .ok (.getfield 78, 3) := by decide +kernel
theorem dX5_planAim_7 : decode cX5_planAim 7 = .ok (.iload_n 1, 1) := by decide +kernel
theorem dX5_planAim_8 : decode cX5_planAim 8 = .ok (.iaload, 1) := by decide +kernel
theorem dX5_planAim_9 : decode cX5_planAim 9 = .ok (.istore_n 3, 1) := by decide +kernel
theorem dX5_planAim_10 : decode cX5_planAim 10 = .ok (.aload_n 2, 1) := by decide +kernel
theorem dX5_planAim_11 : decode cX5_planAim 11 = .ok (.iload_n 1, 1) := by decide +kernel
theorem dX5_planAim_12 : decode cX5_planAim 12 = .ok (.putfield 91, 3) := by decide +kernel
theorem dX5_planAim_15 : decode cX5_planAim 15 = .ok (.aload_n 2, 1) := by decide +kernel
theorem dX5_planAim_16 : decode cX5_planAim 16 = .ok (.aload_n 0, 1) := by decide +kernel
theorem dX5_planAim_17 : decode cX5_planAim 17 = .ok (.getfield 21, 3) := by decide +kernel
theorem dX5_planAim_20 : decode cX5_planAim 20 = .ok (.iload_n 1, 1) := by decide +kernel
theorem dX5_planAim_21 : decode cX5_planAim 21 = .ok (.invokevirtual 94, 3) := by decide +kernel
theorem dX5_planAim_24 : decode cX5_planAim 24 = .ok (.putfield 98, 3) := by decide +kernel
theorem dX5_planAim_27 : decode cX5_planAim 27 = .ok (.aload_n 2, 1) := by decide +kernel
theorem dX5_planAim_28 : decode cX5_planAim 28 = .ok (.aload_n 0, 1) := by decide +kernel
theorem dX5_planAim_29 : decode cX5_planAim 29 = .ok (.getfield 21, 3) := by decide +kernel
theorem dX5_planAim_32 : decode cX5_planAim 32 = .ok (.iload_n 1, 1) := by decide +kernel
theorem dX5_planAim_33 : decode cX5_planAim 33 = .ok (.invokevirtual 101, 3) := by decide +kernel
theorem dX5_planAim_36 : decode cX5_planAim 36 = .ok (.putfield 104, 3) := by decide +kernel
theorem dX5_planAim_39 : decode cX5_planAim 39 = .ok (.aload_n 2, 1) := by decide +kernel
theorem dX5_planAim_40 : decode cX5_planAim 40 = .ok (.aload_n 0, 1) := by decide +kernel
theorem dX5_planAim_41 : decode cX5_planAim 41 = .ok (.getfield 28, 3) := by decide +kernel
theorem dX5_planAim_44 : decode cX5_planAim 44 = .ok (.aload_n 2, 1) := by decide +kernel
theorem dX5_planAim_45 : decode cX5_planAim 45 = .ok (.getfield 104, 3) := by decide +kernel
theorem dX5_planAim_48 : decode cX5_planAim 48 = .ok (.iconst 0, 1) := by decide +kernel
theorem dX5_planAim_49 : decode cX5_planAim 49 = .ok (.invokevirtual 107, 3) := by decide +kernel
theorem dX5_planAim_52 : decode cX5_planAim 52 = .ok (.putfield 111, 3) := by decide +kernel
theorem dX5_planAim_55 : decode cX5_planAim 55 = .ok (.aload_n 2, 1) := by decide +kernel
theorem dX5_planAim_56 : decode cX5_planAim 56 = .ok (.aload_n 0, 1) := by decide +kernel
theorem dX5_planAim_57 : decode cX5_planAim 57 = .ok (.getfield 28, 3) := by decide +kernel
theorem dX5_planAim_60 : decode cX5_planAim 60 = .ok (.aload_n 2, 1) := by decide +kernel
theorem dX5_planAim_61 : decode cX5_planAim 61 = .ok (.getfield 104, 3) := by decide +kernel
theorem dX5_planAim_64 : decode cX5_planAim 64 = .ok (.iconst 1, 1) := by decide +kernel
theorem dX5_planAim_65 : decode cX5_planAim 65 = .ok (.invokevirtual 107, 3) := by decide +kernel
theorem dX5_planAim_68 : decode cX5_planAim 68 = .ok (.putfield 115, 3) := by decide +kernel
theorem dX5_planAim_71 : decode cX5_planAim 71 = .ok (.aload_n 2, 1) := by decide +kernel
theorem dX5_planAim_72 : decode cX5_planAim 72 = .ok (.getfield 111, 3) := by decide +kernel
theorem dX5_planAim_75 : decode cX5_planAim 75 = .ok (.invokestatic 118, 3) := by decide +kernel
theorem dX5_planAim_78 : decode cX5_planAim 78 = .ok (.istore 4, 2) := by decide +kernel
theorem dX5_planAim_80 : decode cX5_planAim 80 = .ok (.aload_n 2, 1) := by decide +kernel
theorem dX5_planAim_81 : decode cX5_planAim 81 = .ok (.getfield 115, 3) := by decide +kernel
theorem dX5_planAim_84 : decode cX5_planAim 84 = .ok (.invokestatic 118, 3) := by decide +kernel
theorem dX5_planAim_87 : decode cX5_planAim 87 = .ok (.istore 5, 2) := by decide +kernel
theorem dX5_planAim_89 : decode cX5_planAim 89 = .ok (.aload_n 2, 1) := by decide +kernel
theorem dX5_planAim_90 : decode cX5_planAim 90 = .ok (.aload_n 0, 1) := by decide +kernel
theorem dX5_planAim_91 : decode cX5_planAim 91 = .ok (.getfield 21, 3) := by decide +kernel
theorem dX5_planAim_94 : decode cX5_planAim 94 = .ok (.getfield 122, 3) := by decide +kernel
theorem dX5_planAim_97 : decode cX5_planAim 97 = .ok (.iload_n 1, 1) := by decide +kernel
theorem dX5_planAim_98 : decode cX5_planAim 98 = .ok (.iaload, 1) := by decide +kernel
theorem dX5_planAim_99 : decode cX5_planAim 99 = .ok (.iload 4, 2) := by decide +kernel
theorem dX5_planAim_101 : decode cX5_planAim 101 = .ok (.isub, 1) := by decide +kernel
theorem dX5_planAim_102 : decode cX5_planAim 102 = .ok (.sipush 21600, 3) := by decide +kernel
theorem dX5_planAim_105 : decode cX5_planAim 105 = .ok (.invokestatic 125, 3) := by decide +kernel
theorem dX5_planAim_108 : decode cX5_planAim 108 = .ok (.putfield 130, 3) := by decide +kernel
theorem dX5_planAim_111 : decode cX5_planAim 111 = .ok (.aload_n 2, 1) := by decide +kernel
theorem dX5_planAim_112 : decode cX5_planAim 112 = .ok (.iconst 0, 1) := by decide +kernel
theorem dX5_planAim_113 : decode cX5_planAim 113 = .ok (.sipush 5400, 3) := by decide +kernel
theorem dX5_planAim_116 : decode cX5_planAim 116 = .ok (.iload_n 3, 1) := by decide +kernel
theorem dX5_planAim_117 : decode cX5_planAim 117 = .ok (.iload 5, 2) := by decide +kernel
theorem dX5_planAim_119 : decode cX5_planAim 119 = .ok (.isub, 1) := by decide +kernel
theorem dX5_planAim_120 : decode cX5_planAim 120 = .ok (.invokestatic 133, 3) := by decide +kernel
theorem dX5_planAim_123 : decode cX5_planAim 123 = .ok (.invokestatic 136, 3) := by decide +kernel
theorem dX5_planAim_126 : decode cX5_planAim 126 = .ok (.putfield 139, 3) := by decide +kernel
theorem dX5_planAim_129 : decode cX5_planAim 129 = .ok (.aload_n 2, 1) := by decide +kernel
theorem dX5_planAim_130 : decode cX5_planAim 130 = .ok (.iload 4, 2) := by decide +kernel
theorem dX5_planAim_132 : decode cX5_planAim 132 = .ok (.ineg, 1) := by decide +kernel
theorem dX5_planAim_133 : decode cX5_planAim 133 = .ok (.i2d, 1) := by decide +kernel
theorem dX5_planAim_134 : decode cX5_planAim 134 = .ok (.aload_n 0, 1) := by decide +kernel
theorem dX5_planAim_135 : decode cX5_planAim 135 = .ok (.aload_n 2, 1) := by decide +kernel
theorem dX5_planAim_136 : decode cX5_planAim 136 = .ok (.getfield 98, 3) := by decide +kernel
theorem dX5_planAim_139 : decode cX5_planAim 139 = .ok (.iconst 0, 1) := by decide +kernel
theorem dX5_planAim_140 : decode cX5_planAim 140 = .ok (.aload_n 2, 1) := by decide +kernel
theorem dX5_planAim_141 : decode cX5_planAim 141 = .ok (.getfield 139, 3) := by decide +kernel
theorem dX5_planAim_144 : decode cX5_planAim 144 = .ok (.invokevirtual 142, 3) := by decide +kernel
theorem dX5_planAim_147 : decode cX5_planAim 147 = .ok (.dadd, 1) := by decide +kernel
theorem dX5_planAim_148 : decode cX5_planAim 148 = .ok (.putfield 146, 3) := by decide +kernel
theorem dX5_planAim_151 : decode cX5_planAim 151 = .ok (.aload_n 2, 1) := by decide +kernel
theorem dX5_planAim_152 : decode cX5_planAim 152 = .ok (.aload_n 2, 1) := by decide +kernel
theorem dX5_planAim_153 : decode cX5_planAim 153 = .ok (.getfield 139, 3) := by decide +kernel
theorem dX5_planAim_156 : decode cX5_planAim 156 = .ok (.iload_n 3, 1) := by decide +kernel
theorem dX5_planAim_157 : decode cX5_planAim 157 = .ok (.isub, 1) := by decide +kernel
theorem dX5_planAim_158 : decode cX5_planAim 158 = .ok (.i2d, 1) := by decide +kernel
theorem dX5_planAim_159 : decode cX5_planAim 159 = .ok (.aload_n 0, 1) := by decide +kernel
theorem dX5_planAim_160 : decode cX5_planAim 160 = .ok (.aload_n 2, 1) := by decide +kernel
theorem dX5_planAim_161 : decode cX5_planAim 161 = .ok (.getfield 98, 3) := by decide +kernel
theorem dX5_planAim_164 : decode cX5_planAim 164 = .ok (.iconst 2, 1) := by decide +kernel
theorem dX5_planAim_165 : decode cX5_planAim 165 = .ok (.aload_n 2, 1) := by decide +kernel
theorem dX5_planAim_166 : decode cX5_planAim 166 = .ok (.getfield 139, 3) := by decide +kernel
theorem dX5_planAim_169 : decode cX5_planAim 169 = .ok (.invokevirtual 142, 3) := by decide +kernel
theorem dX5_planAim_172 : decode cX5_planAim 172 = .ok (.dadd, 1) := by decide +kernel
theorem dX5_planAim_173 : decode cX5_planAim 173 = .ok (.putfield 149, 3) := by decide +kernel
theorem dX5_planAim_176 : decode cX5_planAim 176 = .ok (.aload_n 2, 1) := by decide +kernel
theorem dX5_planAim_177 : decode cX5_planAim 177 = .ok (.iconst 1, 1) := by decide +kernel
theorem dX5_planAim_178 : decode cX5_planAim 178 = .ok (.putfield 152, 3) := by decide +kernel
theorem dX5_planAim_181 : decode cX5_planAim 181 = .ok (.return_, 1) := by decide +kernel
theorem dX5_canPointAt_0 : decode cX5_canPointAt 0 = .ok (.aload_n 0, 1) := by decide +kernel
theorem dX5_canPointAt_1 : decode cX5_canPointAt 1 = .ok (.iload_n 1, 1) := by decide +kernel
theorem dX5_canPointAt_2 : decode cX5_canPointAt 2 = .ok (.invokevirtual 156, 3) := by decide +kernel
theorem dX5_canPointAt_5 : decode cX5_canPointAt 5 = .ok (.ifCond .ne 5, 3) := by decide +kernel
theorem dX5_canPointAt_8 : decode cX5_canPointAt 8 = .ok (.iconst 0, 1) := by decide +kernel
theorem dX5_canPointAt_9 : decode cX5_canPointAt 9 = .ok (.ireturn, 1) := by decide +kernel
theorem dX5_canPointAt_10 : decode cX5_canPointAt 10 = .ok (.aload_n 0, 1) := by decide +kernel
theorem dX5_canPointAt_11 : decode cX5_canPointAt 11 = .ok (.iload_n 1, 1) := by decide +kernel
theorem dX5_canPointAt_12 : decode cX5_canPointAt 12 = .ok (.aload_n 0, 1) := by decide +kernel
theorem dX5_canPointAt_13 : decode cX5_canPointAt 13 = .ok (.getfield 53, 3) := by decide +kernel
theorem dX5_canPointAt_16 : decode cX5_canPointAt 16 = .ok (.invokevirtual 160, 3) := by decide +kernel
theorem dX5_canPointAt_19 : decode cX5_canPointAt 19 = .ok (.aload_n 0, 1) := by decide +kernel
theorem dX5_canPointAt_20 : decode cX5_canPointAt 20 = .ok (.getfield 46, 3) := by decide +kernel
theorem dX5_canPointAt_23 : decode cX5_canPointAt 23 = .ok (.aload_n 0, 1) := by decide +kernel
theorem dX5_canPointAt_24 : decode cX5_canPointAt 24 = .ok (.getfield 35, 3) := by decide +kernel
theorem dX5_canPointAt_27 : decode cX5_canPointAt 27 = .ok (.aload_n 0, 1) := by decide +kernel
theorem dX5_canPointAt_28 : decode cX5_canPointAt 28 = .ok (.getfield 53, 3) := by decide +kernel
theorem dX5_canPointAt_31 : decode cX5_canPointAt 31 = .ok (.aload_n 0, 1) := by decide +kernel
theorem dX5_canPointAt_32 : decode cX5_canPointAt 32 = .ok (.getfield 9, 3) := by decide +kernel
theorem dX5_canPointAt_35 : decode cX5_canPointAt 35 = .ok (.iconst 0, 1) := by decide +kernel
theorem dX5_canPointAt_36 : decode cX5_canPointAt 36 = .ok (.iaload, 1) := by decide +kernel
theorem dX5_canPointAt_37 : decode cX5_canPointAt 37 = .ok (.invokevirtual 164, 3) := by decide +kernel
theorem dX5_canPointAt_40 : decode cX5_canPointAt 40 = .ok (.iadd, 1) := by decide +kernel
theorem dX5_canPointAt_41 : decode cX5_canPointAt 41 = .ok (.ldc 168, 2) := by decide +kernel
theorem dX5_canPointAt_43 : decode cX5_canPointAt 43 = .ok (.if_icmp .gt 7, 3) := by decide +kernel
theorem dX5_canPointAt_46 : decode cX5_canPointAt 46 = .ok (.iconst 1, 1) := by decide +kernel
theorem dX5_canPointAt_47 : decode cX5_canPointAt 47 = .ok (.goto 4, 3) := by decide +kernel
theorem dX5_canPointAt_50 : decode cX5_canPointAt 50 = .ok (.iconst 0, 1) := by decide +kernel
theorem dX5_canPointAt_51 : decode cX5_canPointAt 51 = .ok (.ireturn, 1) := by decide +kernel
theorem dX5_pointAt_0 : decode cX5_pointAt 0 = .ok (.aload_n 0, 1) := by decide +kernel
theorem dX5_pointAt_1 : decode cX5_pointAt 1 = .ok (.iload_n 1, 1) := by decide +kernel
theorem dX5_pointAt_2 : decode cX5_pointAt 2 = .ok (.aload_n 0, 1) := by decide +kernel
theorem dX5_pointAt_3 : decode cX5_pointAt 3 = .ok (.getfield 53, 3) := by decide +kernel
theorem dX5_pointAt_6 : decode cX5_pointAt 6 = .ok (.invokevirtual 160, 3) := by decide +kernel
theorem dX5_pointAt_9 : decode cX5_pointAt 9 = .ok (.aload_n 0, 1) := by decide +kernel
theorem dX5_pointAt_10 : decode cX5_pointAt 10 = .ok (.getfield 35, 3) := by decide +kernel
theorem dX5_pointAt_13 : decode cX5_pointAt 13 = .ok (.aload_n 0, 1) := by decide +kernel
theorem dX5_pointAt_14 : decode cX5_pointAt 14 = .ok (.getfield 53, 3) := by decide +kernel
theorem dX5_pointAt_17 : decode cX5_pointAt 17 = .ok (.aload_n 0, 1) := by decide +kernel
theorem dX5_pointAt_18 : decode cX5_pointAt 18 = .ok (.getfield 9, 3) := by decide +kernel
theorem dX5_pointAt_21 : decode cX5_pointAt 21 = .ok (.iconst 0, 1) := by decide +kernel
theorem dX5_pointAt_22 : decode cX5_pointAt 22 = .ok (.iaload, 1) := by decide +kernel
theorem dX5_pointAt_23 : decode cX5_pointAt 23 = .ok (.invokevirtual 164, 3) := by decide +kernel
theorem dX5_pointAt_26 : decode cX5_pointAt 26 = .ok (.istore_n 2, 1) := by decide +kernel
theorem dX5_pointAt_27 : decode cX5_pointAt 27 = .ok (.aload_n 0, 1) := by decide +kernel
theorem dX5_pointAt_28 : decode cX5_pointAt 28 = .ok (.dup, 1) := by decide +kernel
theorem dX5_pointAt_29 : decode cX5_pointAt 29 = .ok (.getfield 46, 3) := by decide +kernel
theorem dX5_pointAt_32 : decode cX5_pointAt 32 = .ok (.iload_n 2, 1) := by decide +kernel
theorem dX5_pointAt_33 : decode cX5_pointAt 33 = .ok (.iadd, 1) := by decide +kernel
theorem dX5_pointAt_34 : decode cX5_pointAt 34 = .ok (.putfield 46, 3) := by decide +kernel
theorem dX5_pointAt_37 : decode cX5_pointAt 37 = .ok (.aload_n 0, 1) := by decide +kernel
theorem dX5_pointAt_38 : decode cX5_pointAt 38 = .ok (.getfield 53, 3) := by decide +kernel
theorem dX5_pointAt_41 : decode cX5_pointAt 41 = .ok (.getfield 98, 3) := by decide +kernel
theorem dX5_pointAt_44 : decode cX5_pointAt 44 = .ok (.aload_n 0, 1) := by decide +kernel
theorem dX5_pointAt_45 : decode cX5_pointAt 45 = .ok (.getfield 35, 3) := by decide +kernel
theorem dX5_pointAt_48 : decode cX5_pointAt 48 = .ok (.getfield 169, 3) := by decide +kernel
theorem dX5_pointAt_51 : decode cX5_pointAt 51 = .ok (.if_icmp .eq 13, 3) := by decide +kernel
theorem dX5_pointAt_54 : decode cX5_pointAt 54 = .ok (.aload_n 0, 1) := by decide +kernel
theorem dX5_pointAt_55 : decode cX5_pointAt 55 = .ok (.dup, 1) := by decide +kernel
theorem dX5_pointAt_56 : decode cX5_pointAt 56 = .ok (.getfield 50, 3) := by decide +kernel
theorem dX5_pointAt_59 : decode cX5_pointAt 59 = .ok (.iconst 1, 1) := by decide +kernel
theorem dX5_pointAt_60 : decode cX5_pointAt 60 = .ok (.iadd, 1) := by decide +kernel
theorem dX5_pointAt_61 : decode cX5_pointAt 61 = .ok (.putfield 50, 3) := by decide +kernel
theorem dX5_pointAt_64 : decode cX5_pointAt 64 = .ok (.aload_n 0, 1) := by decide +kernel
theorem dX5_pointAt_65 : decode cX5_pointAt 65 = .ok (.getfield 35, 3) := by decide +kernel
theorem dX5_pointAt_68 : decode cX5_pointAt 68 = .ok (.aload_n 0, 1) := by decide +kernel
theorem dX5_pointAt_69 : decode cX5_pointAt 69 = .ok (.getfield 53, 3) := by decide +kernel
theorem dX5_pointAt_72 : decode cX5_pointAt 72 = .ok (.invokevirtual 170, 3) := by decide +kernel
theorem dX5_pointAt_75 : decode cX5_pointAt 75 = .ok (.aload_n 0, 1) := by decide +kernel
theorem dX5_pointAt_76 : decode cX5_pointAt 76 = .ok (.getfield 42, 3) := by decide +kernel
theorem dX5_pointAt_79 : decode cX5_pointAt 79 = .ok (.aload_n 0, 1) := by decide +kernel
theorem dX5_pointAt_80 : decode cX5_pointAt 80 = .ok (.getfield 53, 3) := by decide +kernel
theorem dX5_pointAt_83 : decode cX5_pointAt 83 = .ok (.invokevirtual 75, 3) := by decide +kernel
theorem dX5_pointAt_86 : decode cX5_pointAt 86 = .ok (.aload_n 0, 1) := by decide +kernel
theorem dX5_pointAt_87 : decode cX5_pointAt 87 = .ok (.getfield 21, 3) := by decide +kernel
theorem dX5_pointAt_90 : decode cX5_pointAt 90 = .ok (.iload_n 1, 1) := by decide +kernel
theorem dX5_pointAt_91 : decode cX5_pointAt 91 = .ok (.aload_n 0, 1) := by decide +kernel
theorem dX5_pointAt_92 : decode cX5_pointAt 92 = .ok (.aload_n 0, 1) := by decide +kernel
theorem dX5_pointAt_93 : decode cX5_pointAt 93 = .ok (.getfield 42, 3) := by decide +kernel
theorem dX5_pointAt_96 : decode cX5_pointAt 96 = .ok (.invokevirtual 173, 3) := by decide +kernel
theorem dX5_pointAt_99 : decode cX5_pointAt 99 = .ok (.invokevirtual 177, 3) := by decide +kernel
theorem dX5_pointAt_102 : decode cX5_pointAt 102 = .ok (.iload_n 2, 1) := by decide +kernel
theorem dX5_pointAt_103 : decode cX5_pointAt 103 = .ok (.ireturn, 1) := by decide +kernel
theorem dX5_takeLesson_0 : decode cX5_takeLesson 0 = .ok (.aload_n 0, 1) := by decide +kernel
theorem dX5_takeLesson_1 : decode cX5_takeLesson 1 = .ok (.getfield 42, 3) := by decide +kernel
theorem dX5_takeLesson_4 : decode cX5_takeLesson 4 = .ok (.iconst 0, 1) := by decide +kernel
theorem dX5_takeLesson_5 : decode cX5_takeLesson 5 = .ok (.putfield 152, 3) := by decide +kernel
theorem dX5_takeLesson_8 : decode cX5_takeLesson 8 = .ok (.aload_n 0, 1) := by decide +kernel
theorem dX5_takeLesson_9 : decode cX5_takeLesson 9 = .ok (.getfield 28, 3) := by decide +kernel
theorem dX5_takeLesson_12 : decode cX5_takeLesson 12 = .ok (.aload_n 0, 1) := by decide +kernel
theorem dX5_takeLesson_13 : decode cX5_takeLesson 13 = .ok (.getfield 42, 3) := by decide +kernel
theorem dX5_takeLesson_16 : decode cX5_takeLesson 16 = .ok (.aload_n 0, 1) := by decide +kernel
theorem dX5_takeLesson_17 : decode cX5_takeLesson 17 = .ok (.getfield 9, 3) := by decide +kernel
theorem dX5_takeLesson_20 : decode cX5_takeLesson 20 = .ok (.iconst 1, 1) := by decide +kernel
theorem dX5_takeLesson_21 : decode cX5_takeLesson 21 = .ok (.iaload, 1) := by decide +kernel
theorem dX5_takeLesson_22 : decode cX5_takeLesson 22 = .ok (.invokevirtual 181, 3) := by decide +kernel
theorem dX5_takeLesson_25 : decode cX5_takeLesson 25 = .ok (.ireturn, 1) := by decide +kernel
theorem dX5_takeAllLessons_0 : decode cX5_takeAllLessons 0 = .ok (.iconst 0, 1) := by decide +kernel
theorem dX5_takeAllLessons_1 : decode cX5_takeAllLessons 1 = .ok (.istore_n 1, 1) := by decide +kernel
theorem dX5_takeAllLessons_2 : decode cX5_takeAllLessons 2 = .ok (.iconst 0, 1) := by decide +kernel
theorem dX5_takeAllLessons_3 : decode cX5_takeAllLessons 3 = .ok (.istore_n 2, 1) := by decide +kernel
theorem dX5_takeAllLessons_4 : decode cX5_takeAllLessons 4 = .ok (.iload_n 2, 1) := by decide +kernel
theorem dX5_takeAllLessons_5 : decode cX5_takeAllLessons 5 = .ok (.aload_n 0, 1) := by decide +kernel
theorem dX5_takeAllLessons_6 : decode cX5_takeAllLessons 6 = .ok (.getfield 21, 3) := by decide +kernel
theorem dX5_takeAllLessons_9 : decode cX5_takeAllLessons 9 = .ok (.getfield 184, 3) := by decide +kernel
theorem dX5_takeAllLessons_12 : decode cX5_takeAllLessons 12 = .ok (.if_icmp .ge 55, 3) := by decide +kernel
theorem dX5_takeAllLessons_15 : decode cX5_takeAllLessons 15 = .ok (.aload_n 0, 1) := by decide +kernel
theorem dX5_takeAllLessons_16 : decode cX5_takeAllLessons 16 = .ok (.iload_n 2, 1) := by decide +kernel
theorem dX5_takeAllLessons_17 : decode cX5_takeAllLessons 17 = .ok (.invokevirtual 156, 3) := by decide +kernel
theorem dX5_takeAllLessons_20 : decode cX5_takeAllLessons 20 = .ok (.ifCond .ne 6, 3) := by decide +kernel
theorem dX5_takeAllLessons_23 : decode cX5_takeAllLessons 23 = .ok (.goto 38, 3) := by decide +kernel
theorem dX5_takeAllLessons_26 : decode cX5_takeAllLessons 26 = .ok (.aload_n 0, 1) := by decide +kernel
theorem dX5_takeAllLessons_27 : decode cX5_takeAllLessons 27 = .ok (.iload_n 2, 1) := by decide +kernel
theorem dX5_takeAllLessons_28 : decode cX5_takeAllLessons 28 = .ok (.invokevirtual 187, 3) := by decide +kernel
theorem dX5_takeAllLessons_31 : decode cX5_takeAllLessons 31 = .ok (.ifCond .ne 5, 3) := by decide +kernel
theorem dX5_takeAllLessons_34 : decode cX5_takeAllLessons 34 = .ok (.iconst (-1), 1) := by decide +kernel
theorem dX5_takeAllLessons_35 : decode cX5_takeAllLessons 35 = .ok (.ireturn, 1) := by decide +kernel
theorem dX5_takeAllLessons_36 : decode cX5_takeAllLessons 36 = .ok (.aload_n 0, 1) := by decide +kernel
theorem dX5_takeAllLessons_37 : decode cX5_takeAllLessons 37 = .ok (.iload_n 2, 1) := by decide +kernel
theorem dX5_takeAllLessons_38 : decode cX5_takeAllLessons 38 = .ok (.invokevirtual 190, 3) := by decide +kernel
theorem dX5_takeAllLessons_41 : decode cX5_takeAllLessons 41 = .ok (.pop, 1) := by decide +kernel
theorem dX5_takeAllLessons_42 : decode cX5_takeAllLessons 42 = .ok (.aload_n 0, 1) := by decide +kernel
theorem dX5_takeAllLessons_43 : decode cX5_takeAllLessons 43 = .ok (.aload_n 0, 1) := by decide +kernel
theorem dX5_takeAllLessons_44 : decode cX5_takeAllLessons 44 = .ok (.getfield 42, 3) := by decide +kernel
theorem dX5_takeAllLessons_47 : decode cX5_takeAllLessons 47 = .ok (.invokevirtual 173, 3) := by decide +kernel
theorem dX5_takeAllLessons_50 : decode cX5_takeAllLessons 50 = .ok (.ifCond .eq 6, 3) := by decide +kernel
theorem dX5_takeAllLessons_53 : decode cX5_takeAllLessons 53 = .ok (.iinc 1 1, 3) := by decide +kernel
theorem dX5_takeAllLessons_56 : decode cX5_takeAllLessons 56 = .ok (.aload_n 0, 1) := by decide +kernel
theorem dX5_takeAllLessons_57 : decode cX5_takeAllLessons 57 = .ok (.invokevirtual 193, 3) := by decide +kernel
theorem dX5_takeAllLessons_60 : decode cX5_takeAllLessons 60 = .ok (.pop, 1) := by decide +kernel
theorem dX5_takeAllLessons_61 : decode cX5_takeAllLessons 61 = .ok (.iinc 2 1, 3) := by decide +kernel
theorem dX5_takeAllLessons_64 : decode cX5_takeAllLessons 64 = .ok (.goto (-60), 3) := by decide +kernel
theorem dX5_takeAllLessons_67 : decode cX5_takeAllLessons 67 = .ok (.iload_n 1, 1) := by decide +kernel
theorem dX5_takeAllLessons_68 : decode cX5_takeAllLessons 68 = .ok (.ireturn, 1) := by decide +kernel
theorem dX5_starFact_0 : decode cX5_starFact 0 = .ok (.iload_n 2, 1) := by decide +kernel
theorem dX5_starFact_1 : decode cX5_starFact 1 = .ok (.tableswitch 101 0 5 #[39, 49, 59, 68, 77, 91], 39) := by decide +kernel
theorem dX5_starFact_40 : decode cX5_starFact 40 = .ok (.aload_n 0, 1) := by decide +kernel
theorem dX5_starFact_41 : decode cX5_starFact 41 = .ok (.getfield 21, 3) := by decide +kernel
theorem dX5_starFact_44 : decode cX5_starFact 44 = .ok (.getfield 122, 3) := by decide +kernel
theorem dX5_starFact_47 : decode cX5_starFact 47 = .ok (.iload_n 1, 1) := by decide +kernel
theorem dX5_starFact_48 : decode cX5_starFact 48 = .ok (.iaload, 1) := by decide +kernel
theorem dX5_starFact_49 : decode cX5_starFact 49 = .ok (.ireturn, 1) := by decide +kernel
theorem dX5_starFact_50 : decode cX5_starFact 50 = .ok (.aload_n 0, 1) := by decide +kernel
theorem dX5_starFact_51 : decode cX5_starFact 51 = .ok (.getfield 21, 3) := by decide +kernel
theorem dX5_starFact_54 : decode cX5_starFact 54 = .ok (.getfield 78, 3) := by decide +kernel
theorem dX5_starFact_57 : decode cX5_starFact 57 = .ok (.iload_n 1, 1) := by decide +kernel
theorem dX5_starFact_58 : decode cX5_starFact 58 = .ok (.iaload, 1) := by decide +kernel
theorem dX5_starFact_59 : decode cX5_starFact 59 = .ok (.ireturn, 1) := by decide +kernel
theorem dX5_starFact_60 : decode cX5_starFact 60 = .ok (.aload_n 0, 1) := by decide +kernel
theorem dX5_starFact_61 : decode cX5_starFact 61 = .ok (.getfield 21, 3) := by decide +kernel
theorem dX5_starFact_64 : decode cX5_starFact 64 = .ok (.iload_n 1, 1) := by decide +kernel
theorem dX5_starFact_65 : decode cX5_starFact 65 = .ok (.invokevirtual 94, 3) := by decide +kernel
theorem dX5_starFact_68 : decode cX5_starFact 68 = .ok (.ireturn, 1) := by decide +kernel
theorem dX5_starFact_69 : decode cX5_starFact 69 = .ok (.aload_n 0, 1) := by decide +kernel
theorem dX5_starFact_70 : decode cX5_starFact 70 = .ok (.getfield 21, 3) := by decide +kernel
theorem dX5_starFact_73 : decode cX5_starFact 73 = .ok (.iload_n 1, 1) := by decide +kernel
theorem dX5_starFact_74 : decode cX5_starFact 74 = .ok (.invokevirtual 101, 3) := by decide +kernel
theorem dX5_starFact_77 : decode cX5_starFact 77 = .ok (.ireturn, 1) := by decide +kernel
theorem dX5_starFact_78 : decode cX5_starFact 78 = .ok (.aload_n 0, 1) := by decide +kernel
theorem dX5_starFact_79 : decode cX5_starFact 79 = .ok (.iload_n 1, 1) := by decide +kernel
theorem dX5_starFact_80 : decode cX5_starFact 80 = .ok (.invokevirtual 156, 3) := by decide +kernel
theorem dX5_starFact_83 : decode cX5_starFact 83 = .ok (.ifCond .eq 7, 3) := by decide +kernel
theorem dX5_starFact_86 : decode cX5_starFact 86 = .ok (.iconst 1, 1) := by decide +kernel
theorem dX5_starFact_87 : decode cX5_starFact 87 = .ok (.goto 4, 3) := by decide +kernel
theorem dX5_starFact_90 : decode cX5_starFact 90 = .ok (.iconst 0, 1) := by decide +kernel
theorem dX5_starFact_91 : decode cX5_starFact 91 = .ok (.ireturn, 1) := by decide +kernel
theorem dX5_starFact_92 : decode cX5_starFact 92 = .ok (.aload_n 0, 1) := by decide +kernel
theorem dX5_starFact_93 : decode cX5_starFact 93 = .ok (.getfield 21, 3) := by decide +kernel
theorem dX5_starFact_96 : decode cX5_starFact 96 = .ok (.getfield 214, 3) := by decide +kernel
theorem dX5_starFact_99 : decode cX5_starFact 99 = .ok (.iload_n 1, 1) := by decide +kernel
theorem dX5_starFact_100 : decode cX5_starFact 100 = .ok (.iaload, 1) := by decide +kernel
theorem dX5_starFact_101 : decode cX5_starFact 101 = .ok (.ireturn, 1) := by decide +kernel
theorem dX5_starFact_102 : decode cX5_starFact 102 = .ok (.aload_n 0, 1) := by decide +kernel
theorem dX5_starFact_103 : decode cX5_starFact 103 = .ok (.getfield 21, 3) := by decide +kernel
theorem dX5_starFact_106 : decode cX5_starFact 106 = .ok (.getfield 217, 3) := by decide +kernel
theorem dX5_starFact_109 : decode cX5_starFact 109 = .ok (.iload_n 1, 1) := by decide +kernel
theorem dX5_starFact_110 : decode cX5_starFact 110 = .ok (.iaload, 1) := by decide +kernel
theorem dX5_starFact_111 : decode cX5_starFact 111 = .ok (.ireturn, 1) := by decide +kernel
theorem dX5_number_0 : decode cX5_number 0 = .ok (.iload_n 1, 1) := by decide +kernel
theorem dX5_number_1 : decode cX5_number 1 = .ok (.tableswitch 141 0 10 #[59, 67, 75, 83, 91, 96, 104, 112, 117, 125, 133], 59) := by decide +kernel
theorem dX5_number_60 : decode cX5_number 60 = .ok (.aload_n 0, 1) := by decide +kernel
theorem dX5_number_61 : decode cX5_number 61 = .ok (.getfield 21, 3) := by decide +kernel
theorem dX5_number_64 : decode cX5_number 64 = .ok (.getfield 184, 3) := by decide +kernel
theorem dX5_number_67 : decode cX5_number 67 = .ok (.ireturn, 1) := by decide +kernel
theorem dX5_number_68 : decode cX5_number 68 = .ok (.aload_n 0, 1) := by decide +kernel
theorem dX5_number_69 : decode cX5_number 69 = .ok (.getfield 35, 3) := by decide +kernel
theorem dX5_number_72 : decode cX5_number 72 = .ok (.getfield 219, 3) := by decide +kernel
theorem dX5_number_75 : decode cX5_number 75 = .ok (.ireturn, 1) := by decide +kernel
theorem dX5_number_76 : decode cX5_number 76 = .ok (.aload_n 0, 1) := by decide +kernel
theorem dX5_number_77 : decode cX5_number 77 = .ok (.getfield 35, 3) := by decide +kernel
theorem dX5_number_80 : decode cX5_number 80 = .ok (.getfield 222, 3) := by decide +kernel
theorem dX5_number_83 : decode cX5_number 83 = .ok (.ireturn, 1) := by decide +kernel
theorem dX5_number_84 : decode cX5_number 84 = .ok (.aload_n 0, 1) := by decide +kernel
theorem dX5_number_85 : decode cX5_number 85 = .ok (.getfield 35, 3) := by decide +kernel
theorem dX5_number_88 : decode cX5_number 88 = .ok (.getfield 169, 3) := by decide +kernel
theorem dX5_number_91 : decode cX5_number 91 = .ok (.ireturn, 1) := by decide +kernel
theorem dX5_number_92 : decode cX5_number 92 = .ok (.aload_n 0, 1) := by decide +kernel
theorem dX5_number_93 : decode cX5_number 93 = .ok (.getfield 46, 3) := by decide +kernel
theorem dX5_number_96 : decode cX5_number 96 = .ok (.ireturn, 1) := by decide +kernel
theorem dX5_number_97 : decode cX5_number 97 = .ok (.aload_n 0, 1) := by decide +kernel
theorem dX5_number_98 : decode cX5_number 98 = .ok (.getfield 21, 3) := by decide +kernel
theorem dX5_number_101 : decode cX5_number 101 = .ok (.invokevirtual 223, 3) := by decide +kernel
theorem dX5_number_104 : decode cX5_number 104 = .ok (.ireturn, 1) := by decide +kernel
theorem dX5_number_105 : decode cX5_number 105 = .ok (.aload_n 0, 1) := by decide +kernel
theorem dX5_number_106 : decode cX5_number 106 = .ok (.getfield 21, 3) := by decide +kernel
theorem dX5_number_109 : decode cX5_number 109 = .ok (.invokevirtual 226, 3) := by decide +kernel
theorem dX5_number_112 : decode cX5_number 112 = .ok (.ireturn, 1) := by decide +kernel
theorem dX5_number_113 : decode cX5_number 113 = .ok (.aload_n 0, 1) := by decide +kernel
theorem dX5_number_114 : decode cX5_number 114 = .ok (.getfield 50, 3) := by decide +kernel
theorem dX5_number_117 : decode cX5_number 117 = .ok (.ireturn, 1) := by decide +kernel
theorem dX5_number_118 : decode cX5_number 118 = .ok (.aload_n 0, 1) := by decide +kernel
theorem dX5_number_119 : decode cX5_number 119 = .ok (.getfield 28, 3) := by decide +kernel
theorem dX5_number_122 : decode cX5_number 122 = .ok (.invokevirtual 229, 3) := by decide +kernel
theorem dX5_number_125 : decode cX5_number 125 = .ok (.ireturn, 1) := by decide +kernel
theorem dX5_number_126 : decode cX5_number 126 = .ok (.aload_n 0, 1) := by decide +kernel
theorem dX5_number_127 : decode cX5_number 127 = .ok (.getfield 28, 3) := by decide +kernel
theorem dX5_number_130 : decode cX5_number 130 = .ok (.invokevirtual 232, 3) := by decide +kernel
theorem dX5_number_133 : decode cX5_number 133 = .ok (.ireturn, 1) := by decide +kernel
theorem dX5_number_134 : decode cX5_number 134 = .ok (.aload_n 0, 1) := by decide +kernel
theorem dX5_number_135 : decode cX5_number 135 = .ok (.getfield 42, 3) := by decide +kernel
theorem dX5_number_138 : decode cX5_number 138 = .ok (.getfield 91, 3) := by decide +kernel
theorem dX5_number_141 : decode cX5_number 141 = .ok (.ireturn, 1) := by decide +kernel
theorem dX5_number_142 : decode cX5_number 142 = .ok (.aload_n 0, 1) := by decide +kernel
theorem dX5_number_143 : decode cX5_number 143 = .ok (.getfield 42, 3) := by decide +kernel
theorem dX5_number_146 : decode cX5_number 146 = .ok (.getfield 152, 3) := by decide +kernel
theorem dX5_number_149 : decode cX5_number 149 = .ok (.ifCond .eq 7, 3) := by decide +kernel
theorem dX5_number_152 : decode cX5_number 152 = .ok (.iconst 1, 1) := by decide +kernel
theorem dX5_number_153 : decode cX5_number 153 = .ok (.goto 4, 3) := by decide +kernel
theorem dX5_number_156 : decode cX5_number 156 = .ok (.iconst 0, 1) := by decide +kernel
theorem dX5_number_157 : decode cX5_number 157 = .ok (.ireturn, 1) := by decide +kernel
theorem dX6_init_0 : decode cX6_init 0 = .ok (.aload_n 0, 1) := by decide +kernel
theorem dX6_init_1 : decode cX6_init 1 = .ok (.invokespecial 3, 3) := by decide +kernel
theorem dX6_init_4 : decode cX6_init 4 = .ok (.aload_n 0, 1) := by decide +kernel
theorem dX6_init_5 : decode cX6_init 5 = .ok (.iconst 5, 1) := by decide +kernel
theorem dX6_init_6 : decode cX6_init 6 = .ok (.anewarray 9, 3) := by decide +kernel
theorem dX6_init_9 : decode cX6_init 9 = .ok (.putfield 11, 3) := by decide +kernel
theorem dX6_init_12 : decode cX6_init 12 = .ok (.aload_n 0, 1) := by decide +kernel
theorem dX6_init_13 : decode cX6_init 13 = .ok (.iconst 5, 1) := by decide +kernel
theorem dX6_init_14 : decode cX6_init 14 = .ok (.newarray .int, 2) := by decide +kernel
theorem dX6_init_16 : decode cX6_init 16 = .ok (.putfield 17, 3) := by decide +kernel
theorem dX6_init_19 : decode cX6_init 19 = .ok (.aload_n 0, 1) := by decide +kernel
theorem dX6_init_20 : decode cX6_init 20 = .ok (.iconst 5, 1) := by decide +kernel
theorem dX6_init_21 : decode cX6_init 21 = .ok (.newarray .int, 2) := by decide +kernel
theorem dX6_init_23 : decode cX6_init 23 = .ok (.putfield 21, 3) := by decide +kernel
theorem dX6_init_26 : decode cX6_init 26 = .ok (.aload_n 0, 1) := by decide +kernel
theorem dX6_init_27 : decode cX6_init 27 = .ok (.new 24, 3) := by decide +kernel
theorem dX6_init_30 : decode cX6_init 30 = .ok (.dup, 1) := by decide +kernel
theorem dX6_init_31 : decode cX6_init 31 = .ok (.invokespecial 26, 3) := by decide +kernel
theorem dX6_init_34 : decode cX6_init 34 = .ok (.putfield 27, 3) := by decide +kernel
theorem dX6_init_37 : decode cX6_init 37 = .ok (.aload_n 0, 1) := by decide +kernel
theorem dX6_init_38 : decode cX6_init 38 = .ok (.iconst 0, 1) := by decide +kernel
theorem dX6_init_39 : decode cX6_init 39 = .ok (.putfield 31, 3) := by decide +kernel
theorem dX6_init_42 : decode cX6_init 42 = .ok (.aload_n 0, 1) := by decide +kernel
theorem dX6_init_43 : decode cX6_init 43 = .ok (.iconst (-1), 1) := by decide +kernel
theorem dX6_init_44 : decode cX6_init 44 = .ok (.putfield 35, 3) := by decide +kernel
theorem dX6_init_47 : decode cX6_init 47 = .ok (.iconst 0, 1) := by decide +kernel
theorem dX6_init_48 : decode cX6_init 48 = .ok (.istore_n 1, 1) := by decide +kernel
theorem dX6_init_49 : decode cX6_init 49 = .ok (.iload_n 1, 1) := by decide +kernel
theorem dX6_init_50 : decode cX6_init 50 = .ok (.iconst 5, 1) := by decide +kernel
theorem dX6_init_51 : decode cX6_init 51 = .ok (.if_icmp .ge 22, 3) := by decide +kernel
theorem dX6_init_54 : decode cX6_init 54 = .ok (.aload_n 0, 1) := by decide +kernel
theorem dX6_init_55 : decode cX6_init 55 = .ok (.getfield 11, 3) := by decide +kernel
theorem dX6_init_58 : decode cX6_init 58 = .ok (.iload_n 1, 1) := by decide +kernel
theorem dX6_init_59 : decode cX6_init 59 = .ok (.new 9, 3) := by decide +kernel
theorem dX6_init_62 : decode cX6_init 62 = .ok (.dup, 1) := by decide +kernel
theorem dX6_init_63 : decode cX6_init 63 = .ok (.invokespecial 38, 3) := by decide +kernel
theorem dX6_init_66 : decode cX6_init 66 = .ok (.aastore, 1) := by decide +kernel
theorem dX6_init_67 : decode cX6_init 67 = .ok (.iinc 1 1, 3) := by decide +kernel
theorem dX6_init_70 : decode cX6_init 70 = .ok (.goto (-21), 3) := by decide +kernel
theorem dX6_init_73 : decode cX6_init 73 = .ok (.return_, 1) := by decide +kernel
theorem dX6_starAt_0 : decode cX6_starAt 0 = .ok (.aload_n 0, 1) := by decide +kernel
theorem dX6_starAt_1 : decode cX6_starAt 1 = .ok (.getfield 11, 3) := by decide +kernel
theorem dX6_starAt_4 : decode cX6_starAt 4 = .ok (.aload_n 0, 1) := by decide +kernel
theorem dX6_starAt_5 : decode cX6_starAt 5 = .ok (.getfield 21, 3) := by decide +kernel
theorem dX6_starAt_8 : decode cX6_starAt 8 = .ok (.iload_n 1, 1) := by decide +kernel
theorem dX6_starAt_9 : decode cX6_starAt 9 = .ok (.iaload, 1) := by decide +kernel
theorem dX6_starAt_10 : decode cX6_starAt 10 = .ok (.aaload, 1) := by decide +kernel
theorem dX6_starAt_11 : decode cX6_starAt 11 = .ok (.getfield 39, 3) := by decide +kernel
theorem dX6_starAt_14 : decode cX6_starAt 14 = .ok (.ireturn, 1) := by decide +kernel
theorem dX6_search_0 : decode cX6_search 0 = .ok (.aload_n 0, 1) := by decide +kernel
theorem dX6_search_1 : decode cX6_search 1 = .ok (.aload_n 1, 1) := by decide +kernel
theorem dX6_search_2 : decode cX6_search 2 = .ok (.iload_n 2, 1) := by decide +kernel
theorem dX6_search_3 : decode cX6_search 3 = .ok (.invokevirtual 42, 3) := by decide +kernel
theorem dX6_search_6 : decode cX6_search 6 = .ok (.aload_n 0, 1) := by decide +kernel
theorem dX6_search_7 : decode cX6_search 7 = .ok (.iconst (-1), 1) := by decide +kernel
theorem dX6_search_8 : decode cX6_search 8 = .ok (.putfield 35, 3) := by decide +kernel
theorem dX6_search_11 : decode cX6_search 11 = .ok (.iconst 1, 1) := by decide +kernel
theorem dX6_search_12 : decode cX6_search 12 = .ok (.istore_n 3, 1) := by decide +kernel
theorem dX6_search_13 : decode cX6_search 13 = .ok (.iconst 0, 1) := by decide +kernel
theorem dX6_search_14 : decode cX6_search 14 = .ok (.istore 4, 2) := by decide +kernel
theorem dX6_search_16 : decode cX6_search 16 = .ok (.iload_n 3, 1) := by decide +kernel
theorem dX6_search_17 : decode cX6_search 17 = .ok (.ifCond .eq 65, 3) := by decide +kernel
theorem dX6_search_20 : decode cX6_search 20 = .ok (.iload 4, 2) := by decide +kernel
theorem dX6_search_22 : decode cX6_search 22 = .ok (.bipush 120, 2) := by decide +kernel
theorem dX6_search_24 : decode cX6_search 24 = .ok (.if_icmp .ge 58, 3) := by decide +kernel
theorem dX6_search_27 : decode cX6_search 27 = .ok (.aload_n 0, 1) := by decide +kernel
theorem dX6_search_28 : decode cX6_search 28 = .ok (.aload_n 1, 1) := by decide +kernel
theorem dX6_search_29 : decode cX6_search 29 = .ok (.invokevirtual 46, 3) := by decide +kernel
theorem dX6_search_32 : decode cX6_search 32 = .ok (.istore 5, 2) := by decide +kernel
theorem dX6_search_34 : decode cX6_search 34 = .ok (.aload_n 0, 1) := by decide +kernel
theorem dX6_search_35 : decode cX6_search 35 = .ok (.getfield 35, 3) := by decide +kernel
theorem dX6_search_38 : decode cX6_search 38 = .ok (.iconst (-1), 1) := by decide +kernel
theorem dX6_search_39 : decode cX6_search 39 = .ok (.if_icmp .eq 12, 3) := by decide +kernel
theorem dX6_search_42 : decode cX6_search 42 = .ok (.iload 5, 2) := by decide +kernel
theorem dX6_search_44 : decode cX6_search 44 = .ok (.aload_n 0, 1) := by decide +kernel
theorem dX6_search_45 : decode cX6_search 45 = .ok (.getfield 35, 3) := by decide +kernel
theorem dX6_search_48 : decode cX6_search 48 = .ok (.if_icmp .ge 23, 3) := by decide +kernel
theorem dX6_search_51 : decode cX6_search 51 = .ok (.aload_n 0, 1) := by decide +kernel
theorem dX6_search_52 : decode cX6_search 52 = .ok (.iload 5, 2) := by decide +kernel
theorem dX6_search_54 : decode cX6_search 54 = .ok (.putfield 35, 3) := by decide +kernel
theorem dX6_search_57 : decode cX6_search 57 = .ok (.aload_n 0, 1) := by decide +kernel
theorem dX6_search_58 : decode cX6_search 58 = .ok (.getfield 17, 3) := by decide +kernel
theorem dX6_search_61 : decode cX6_search 61 = .ok (.iconst 0, 1) := by decide +kernel
theorem dX6_search_62 : decode cX6_search 62 = .ok (.aload_n 0, 1) := by decide +kernel
theorem dX6_search_63 : decode cX6_search 63 = .ok (.getfield 21, 3) := by decide +kernel
theorem dX6_search_66 : decode cX6_search 66 = .ok (.iconst 0, 1) := by decide +kernel
theorem dX6_search_67 : decode cX6_search 67 = .ok (.iconst 5, 1) := by decide +kernel
theorem dX6_search_68 : decode cX6_search 68 = .ok (.invokestatic 50, 3) := by decide +kernel
theorem dX6_search_71 : decode cX6_search 71 = .ok (.aload_n 0, 1) := by decide +kernel
theorem dX6_search_72 : decode cX6_search 72 = .ok (.invokevirtual 56, 3) := by decide +kernel
theorem dX6_search_75 : decode cX6_search 75 = .ok (.istore_n 3, 1) := by decide +kernel
theorem dX6_search_76 : decode cX6_search 76 = .ok (.iinc 4 1, 3) := by decide +kernel
theorem dX6_search_79 : decode cX6_search 79 = .ok (.goto (-63), 3) := by decide +kernel
theorem dX6_search_82 : decode cX6_search 82 = .ok (.return_, 1) := by decide +kernel
theorem dX6_collect_0 : decode cX6_collect 0 = .ok (.aload_n 0, 1) := by decide +kernel
theorem dX6_collect_1 : decode cX6_collect 1 = .ok (.iconst 0, 1) := by decide +kernel
theorem dX6_collect_2 : decode cX6_collect 2 = .ok (.putfield 31, 3) := by decide +kernel
theorem dX6_collect_5 : decode cX6_collect 5 = .ok (.iconst 0, 1) := by decide +kernel
theorem dX6_collect_6 : decode cX6_collect 6 = .ok (.istore_n 3, 1) := by decide +kernel
theorem dX6_collect_7 : decode cX6_collect 7 = .ok (.iload_n 3, 1) := by decide +kernel
theorem dX6_collect_8 : decode cX6_collect 8 = .ok (.aload_n 1, 1) := by decide +kernel
theorem dX6_collect_9 : decode cX6_collect 9 = .ok (.getfield 60, 3) := by decide +kernel
theorem dX6_collect_12 : decode cX6_collect 12 = .ok (.getfield 66, 3) := by decide +kernel
theorem dX6_collect_15 : decode cX6_collect 15 = .ok (.if_icmp .ge 63, 3) := by decide +kernel
theorem dX6_collect_18 : decode cX6_collect 18 = .ok (.aload_n 0, 1) := by decide +kernel
theorem dX6_collect_19 : decode cX6_collect 19 = .ok (.getfield 31, 3) := by decide +kernel
theorem dX6_collect_22 : decode cX6_collect 22 = .ok (.iconst 5, 1) := by decide +kernel
theorem dX6_collect_23 : decode cX6_collect 23 = .ok (.if_icmp .ge 55, 3) := by decide +kernel
theorem dX6_collect_26 : decode cX6_collect 26 = .ok (.iload_n 2, 1) := by decide +kernel
theorem dX6_collect_27 : decode cX6_collect 27 = .ok (.iload_n 3, 1) := by decide +kernel
theorem dX6_collect_28 : decode cX6_collect 28 = .ok (.ishr, 1) := by decide +kernel
theorem dX6_collect_29 : decode cX6_collect 29 = .ok (.iconst 1, 1) := by decide +kernel
theorem dX6_collect_30 : decode cX6_collect 30 = .ok (.iand, 1) := by decide +kernel
theorem dX6_collect_31 : decode cX6_collect 31 = .ok (.iconst 1, 1) := by decide +kernel
theorem dX6_collect_32 : decode cX6_collect 32 = .ok (.if_icmp .ne 40, 3) := by decide +kernel
theorem dX6_collect_35 : decode cX6_collect 35 = .ok (.aload_n 1, 1) := by decide +kernel
theorem dX6_collect_36 : decode cX6_collect 36 = .ok (.iload_n 3, 1) := by decide +kernel
theorem dX6_collect_37 : decode cX6_collect 37 = .ok (.aload_n 0, 1) := by decide +kernel
theorem dX6_collect_38 : decode cX6_collect 38 = .ok (.getfield 11, 3) := by decide +kernel
theorem dX6_collect_41 : decode cX6_collect 41 = .ok (.aload_n 0, 1) := by decide +kernel
theorem dX6_collect_42 : decode cX6_collect 42 = .ok (.getfield 31, 3) := by decide +kernel
theorem dX6_collect_45 : decode cX6_collect 45 = .ok (.aaload, 1) := by decide +kernel
theorem dX6_collect_46 : decode cX6_collect 46 = .ok (.invokevirtual 71, 3) := by decide +kernel
theorem dX6_collect_49 : decode cX6_collect 49 = .ok (.aload_n 0, 1) := by decide +kernel
theorem dX6_collect_50 : decode cX6_collect 50 = .ok (.getfield 17, 3) := by decide +kernel
theorem dX6_collect_53 : decode cX6_collect 53 = .ok (.aload_n 0, 1) := by decide +kernel
theorem dX6_collect_54 : decode cX6_collect 54 = .ok (.getfield 31, 3) := by decide +kernel
theorem dX6_collect_57 : decode cX6_collect 57 = .ok (.aload_n 0, 1) := by decide +kernel
theorem dX6_collect_58 : decode cX6_collect 58 = .ok (.getfield 31, 3) := by decide +kernel
theorem dX6_collect_61 : decode cX6_collect 61 = .ok (.iastore, 1) := by decide +kernel
theorem dX6_collect_62 : decode cX6_collect 62 = .ok (.aload_n 0, 1) := by decide +kernel
theorem dX6_collect_63 : decode cX6_collect 63 = .ok (.dup, 1) := by decide +kernel
theorem dX6_collect_64 : decode cX6_collect 64 = .ok (.getfield 31, 3) := by decide +kernel
theorem dX6_collect_67 : decode cX6_collect 67 = .ok (.iconst 1, 1) := by decide +kernel
theorem dX6_collect_68 : decode cX6_collect 68 = .ok (.iadd, 1) := by decide +kernel
theorem dX6_collect_69 : decode cX6_collect 69 = .ok (.putfield 31, 3) := by decide +kernel
theorem dX6_collect_72 : decode cX6_collect 72 = .ok (.iinc 3 1, 3) := by decide +kernel
theorem dX6_collect_75 : decode cX6_collect 75 = .ok (.goto (-68), 3) := by decide +kernel
theorem dX6_collect_78 : decode cX6_collect 78 = .ok (.return_, 1) := by decide +kernel
theorem dX6_timeOfOrder_0 : decode cX6_timeOfOrder 0 = .ok (.iconst 0, 1) := by decide +kernel
theorem dX6_timeOfOrder_1 : decode cX6_timeOfOrder 1 = .ok (.istore_n 2, 1) := by decide +kernel
theorem dX6_timeOfOrder_2 : decode cX6_timeOfOrder 2 = .ok (.aload_n 0, 1) := by decide +kernel
theorem dX6_timeOfOrder_3 : decode cX6_timeOfOrder 3 = .ok (.getfield 27, 3) := by decide +kernel
theorem dX6_timeOfOrder_6 : decode cX6_timeOfOrder 6 = .ok (.aload_n 1, 1) := by decide +kernel
theorem dX6_timeOfOrder_7 : decode cX6_timeOfOrder 7 = .ok (.getfield 75, 3) := by decide +kernel
theorem dX6_timeOfOrder_10 : decode cX6_timeOfOrder 10 = .ok (.invokevirtual 76, 3) := by decide +kernel
theorem dX6_timeOfOrder_13 : decode cX6_timeOfOrder 13 = .ok (.iconst 0, 1) := by decide +kernel
theorem dX6_timeOfOrder_14 : decode cX6_timeOfOrder 14 = .ok (.istore_n 3, 1) := by decide +kernel
theorem dX6_timeOfOrder_15 : decode cX6_timeOfOrder 15 = .ok (.iload_n 3, 1) := by decide +kernel
theorem dX6_timeOfOrder_16 : decode cX6_timeOfOrder 16 = .ok (.aload_n 0, 1) := by decide +kernel
theorem dX6_timeOfOrder_17 : decode cX6_timeOfOrder 17 = .ok (.getfield 31, 3) := by decide +kernel
theorem dX6_timeOfOrder_20 : decode cX6_timeOfOrder 20 = .ok (.if_icmp .ge 49, 3) := by decide +kernel
theorem dX6_timeOfOrder_23 : decode cX6_timeOfOrder 23 = .ok (.aload_n 0, 1) := by decide +kernel
theorem dX6_timeOfOrder_24 : decode cX6_timeOfOrder 24 = .ok (.getfield 11, 3) := by decide +kernel
theorem dX6_timeOfOrder_27 : decode cX6_timeOfOrder 27 = .ok (.aload_n 0, 1) := by decide +kernel
theorem dX6_timeOfOrder_28 : decode cX6_timeOfOrder 28 = .ok (.getfield 17, 3) := by decide +kernel
theorem dX6_timeOfOrder_31 : decode cX6_timeOfOrder 31 = .ok (.iload_n 3, 1) := by decide +kernel
theorem dX6_timeOfOrder_32 : decode cX6_timeOfOrder 32 = .ok (.iaload, 1) := by decide +kernel
theorem dX6_timeOfOrder_33 : decode cX6_timeOfOrder 33 = .ok (.aaload, 1) := by decide +kernel
theorem dX6_timeOfOrder_34 : decode cX6_timeOfOrder 34 = .ok (.astore 4, 2) := by decide +kernel
theorem dX6_timeOfOrder_36 : decode cX6_timeOfOrder 36 = .ok (.iload_n 2, 1) := by decide +kernel
theorem dX6_timeOfOrder_37 : decode cX6_timeOfOrder 37 = .ok (.aload_n 0, 1) := by decide +kernel
theorem dX6_timeOfOrder_38 : decode cX6_timeOfOrder 38 = .ok (.getfield 27, 3) := by decide +kernel
theorem dX6_timeOfOrder_41 : decode cX6_timeOfOrder 41 = .ok (.aload 4, 2) := by decide +kernel
theorem dX6_timeOfOrder_43 : decode cX6_timeOfOrder 43 = .ok (.aload_n 1, 1) := by decide +kernel
theorem dX6_timeOfOrder_44 : decode cX6_timeOfOrder 44 = .ok (.getfield 80, 3) := by decide +kernel
theorem dX6_timeOfOrder_47 : decode cX6_timeOfOrder 47 = .ok (.iconst 0, 1) := by decide +kernel
theorem dX6_timeOfOrder_48 : decode cX6_timeOfOrder 48 = .ok (.iaload, 1) := by decide +kernel
theorem dX6_timeOfOrder_49 : decode cX6_timeOfOrder 49 = .ok (.invokevirtual 83, 3) := by decide +kernel
theorem dX6_timeOfOrder_52 : decode cX6_timeOfOrder 52 = .ok (.iadd, 1) := by decide +kernel
theorem dX6_timeOfOrder_53 : decode cX6_timeOfOrder 53 = .ok (.istore_n 2, 1) := by decide +kernel
theorem dX6_timeOfOrder_54 : decode cX6_timeOfOrder 54 = .ok (.aload_n 0, 1) := by decide +kernel
theorem dX6_timeOfOrder_55 : decode cX6_timeOfOrder 55 = .ok (.getfield 27, 3) := by decide +kernel
theorem dX6_timeOfOrder_58 : decode cX6_timeOfOrder 58 = .ok (.aload 4, 2) := by decide +kernel
theorem dX6_timeOfOrder_60 : decode cX6_timeOfOrder 60 = .ok (.invokevirtual 87, 3) := by decide +kernel
theorem dX6_timeOfOrder_63 : decode cX6_timeOfOrder 63 = .ok (.iinc 3 1, 3) := by decide +kernel
theorem dX6_timeOfOrder_66 : decode cX6_timeOfOrder 66 = .ok (.goto (-51), 3) := by decide +kernel
theorem dX6_timeOfOrder_69 : decode cX6_timeOfOrder 69 = .ok (.iload_n 2, 1) := by decide +kernel
theorem dX6_timeOfOrder_70 : decode cX6_timeOfOrder 70 = .ok (.ireturn, 1) := by decide +kernel
theorem dX6_stepToNextOrder_0 : decode cX6_stepToNextOrder 0 = .ok (.aload_n 0, 1) := by decide +kernel
theorem dX6_stepToNextOrder_1 : decode cX6_stepToNextOrder 1 = .ok (.getfield 31, 3) := by decide +kernel
theorem dX6_stepToNextOrder_4 : decode cX6_stepToNextOrder 4 = .ok (.iconst 2, 1) := by decide +kernel
theorem dX6_stepToNextOrder_5 : decode cX6_stepToNextOrder 5 = .ok (.isub, 1) := by decide +kernel
theorem dX6_stepToNextOrder_6 : decode cX6_stepToNextOrder 6 = .ok (.istore_n 1, 1) := by decide +kernel
theorem dX6_stepToNextOrder_7 : decode cX6_stepToNextOrder 7 = .ok (.iload_n 1, 1) := by decide +kernel
theorem dX6_stepToNextOrder_8 : decode cX6_stepToNextOrder 8 = .ok (.ifCond .lt 26, 3) := by decide +kernel
theorem dX6_stepToNextOrder_11 : decode cX6_stepToNextOrder 11 = .ok (.aload_n 0, 1) := by decide +kernel
theorem dX6_stepToNextOrder_12 : decode cX6_stepToNextOrder 12 = .ok (.getfield 17, 3) := by decide +kernel
theorem dX6_stepToNextOrder_15 : decode cX6_stepToNextOrder 15 = .ok (.iload_n 1, 1) := by decide +kernel
theorem dX6_stepToNextOrder_16 : decode cX6_stepToNextOrder 16 = .ok (.iaload, 1) := by decide +kernel
theorem dX6_stepToNextOrder_17 : decode cX6_stepToNextOrder 17 = .ok (.aload_n 0, 1) := by decide +kernel
theorem dX6_stepToNextOrder_18 : decode cX6_stepToNextOrder 18 = .ok (.getfield 17, 3) := by decide +kernel
theorem dX6_stepToNextOrder_21 : decode cX6_stepToNextOrder 21 = .ok (.iload_n 1, 1) := by decide +kernel
theorem dX6_stepToNextOrder_22 : decode cX6_stepToNextOrder 22 = .ok (.iconst 1, 1) := by decide +kernel
theorem dX6_stepToNextOrder_23 : decode cX6_stepToNextOrder 23 = .ok (.iadd, 1) := by decide +kernel
theorem dX6_stepToNextOrder_24 : decode cX6_stepToNextOrder 24 = .ok (.iaload, 1) := by decide +kernel
theorem dX6_stepToNextOrder_25 : decode cX6_stepToNextOrder 25 = .ok (.if_icmp .le 9, 3) := by decide +kernel
theorem dX6_stepToNextOrder_28 : decode cX6_stepToNextOrder 28 = .ok (.iinc 1 (-1), 3) := by decide +kernel
theorem dX6_stepToNextOrder_31 : decode cX6_stepToNextOrder 31 = .ok (.goto (-24), 3) := by decide +kernel
theorem dX6_stepToNextOrder_34 : decode cX6_stepToNextOrder 34 = .ok (.iload_n 1, 1) := by decide +kernel
theorem dX6_stepToNextOrder_35 : decode cX6_stepToNextOrder 35 = .ok (.ifCond .ge 5, 3) := by decide +kernel
theorem dX6_stepToNextOrder_38 : decode cX6_stepToNextOrder 38 = .ok (.iconst 0, 1) := by decide +kernel
theorem dX6_stepToNextOrder_39 : decode cX6_stepToNextOrder 39 = .ok (.ireturn, 1) := by decide +kernel
theorem dX6_stepToNextOrder_40 : decode cX6_stepToNextOrder 40 = .ok (.aload_n 0, 1) := by decide +kernel
theorem dX6_stepToNextOrder_41 : decode cX6_stepToNextOrder 41 = .ok (.getfield 31, 3) := by decide +kernel
theorem dX6_stepToNextOrder_44 : decode cX6_stepToNextOrder 44 = .ok (.iconst 1, 1) := by decide +kernel
theorem dX6_stepToNextOrder_45 : decode cX6_stepToNextOrder 45 = .ok (.isub, 1) := by decide +kernel
theorem dX6_stepToNextOrder_46 : decode cX6_stepToNextOrder 46 = .ok (.istore_n 2, 1) := by decide +kernel
theorem dX6_stepToNextOrder_47 : decode cX6_stepToNextOrder 47 = .ok (.iload_n 2, 1) := by decide +kernel
theorem dX6_stepToNextOrder_48 : decode cX6_stepToNextOrder 48 = .ok (.iload_n 1, 1) := by decide +kernel
theorem dX6_stepToNextOrder_49 : decode cX6_stepToNextOrder 49 = .ok (.iconst 1, 1) := by decide +kernel
theorem dX6_stepToNextOrder_50 : decode cX6_stepToNextOrder 50 = .ok (.iadd, 1) := by decide +kernel
theorem dX6_stepToNextOrder_51 : decode cX6_stepToNextOrder 51 = .ok (.if_icmp .le 24, 3) := by decide +kernel
theorem dX6_stepToNextOrder_54 : decode cX6_stepToNextOrder 54 = .ok (.aload_n 0, 1) := by decide +kernel
theorem dX6_stepToNextOrder_55 : decode cX6_stepToNextOrder 55 = .ok (.getfield 17, 3) := by decide +kernel
theorem dX6_stepToNextOrder_58 : decode cX6_stepToNextOrder 58 = .ok (.iload_n 2, 1) := by decide +kernel
theorem dX6_stepToNextOrder_59 : decode cX6_stepToNextOrder 59 = .ok (.iaload, 1) := by decide +kernel
theorem dX6_stepToNextOrder_60 : decode cX6_stepToNextOrder 60 = .ok (.aload_n 0, 1) := by decide +kernel
theorem dX6_stepToNextOrder_61 : decode cX6_stepToNextOrder 61 = .ok (.getfield 17, 3) := by decide +kernel
theorem dX6_stepToNextOrder_64 : decode cX6_stepToNextOrder 64 = .ok (.iload_n 1, 1) := by decide +kernel
theorem dX6_stepToNextOrder_65 : decode cX6_stepToNextOrder 65 = .ok (.iaload, 1) := by decide +kernel
theorem dX6_stepToNextOrder_66 : decode cX6_stepToNextOrder 66 = .ok (.if_icmp .ge 9, 3) := by decide +kernel
theorem dX6_stepToNextOrder_69 : decode cX6_stepToNextOrder 69 = .ok (.iinc 2 (-1), 3) := by decide +kernel
theorem dX6_stepToNextOrder_72 : decode cX6_stepToNextOrder 72 = .ok (.goto (-25), 3) := by decide +kernel
theorem dX6_stepToNextOrder_75 : decode cX6_stepToNextOrder 75 = .ok (.aload_n 0, 1) := by decide +kernel
theorem dX6_stepToNextOrder_76 : decode cX6_stepToNextOrder 76 = .ok (.iload_n 1, 1) := by decide +kernel
theorem dX6_stepToNextOrder_77 : decode cX6_stepToNextOrder 77 = .ok (.iload_n 2, 1) := by decide +kernel
theorem dX6_stepToNextOrder_78 : decode cX6_stepToNextOrder 78 = .ok (.invokevirtual 91, 3) := by decide +kernel
theorem dX6_stepToNextOrder_81 : decode cX6_stepToNextOrder 81 = .ok (.aload_n 0, 1) := by decide +kernel
theorem dX6_stepToNextOrder_82 : decode cX6_stepToNextOrder 82 = .ok (.getfield 31, 3) := by decide +kernel
theorem dX6_stepToNextOrder_85 : decode cX6_stepToNextOrder 85 = .ok (.iconst 1, 1) := by decide +kernel
theorem dX6_stepToNextOrder_86 : decode cX6_stepToNextOrder 86 = .ok (.isub, 1) := by decide +kernel
theorem dX6_stepToNextOrder_87 : decode cX6_stepToNextOrder 87 = .ok (.istore_n 3, 1) := by decide +kernel
theorem dX6_stepToNextOrder_88 : decode cX6_stepToNextOrder 88 = .ok (.iload_n 1, 1) := by decide +kernel
theorem dX6_stepToNextOrder_89 : decode cX6_stepToNextOrder 89 = .ok (.iconst 1, 1) := by decide +kernel
theorem dX6_stepToNextOrder_90 : decode cX6_stepToNextOrder 90 = .ok (.iadd, 1) := by decide +kernel
theorem dX6_stepToNextOrder_91 : decode cX6_stepToNextOrder 91 = .ok (.istore 4, 2) := by decide +kernel
theorem dX6_stepToNextOrder_93 : decode cX6_stepToNextOrder 93 = .ok (.iload 4, 2) := by decide +kernel
theorem dX6_stepToNextOrder_95 : decode cX6_stepToNextOrder 95 = .ok (.iload_n 3, 1) := by decide +kernel
theorem dX6_stepToNextOrder_96 : decode cX6_stepToNextOrder 96 = .ok (.if_icmp .ge 19, 3) := by decide +kernel
theorem dX6_stepToNextOrder_99 : decode cX6_stepToNextOrder 99 = .ok (.aload_n 0, 1) := by decide +kernel
theorem dX6_stepToNextOrder_100 : decode cX6_stepToNextOrder 100 = .ok (.iload 4, 2) := by decide +kernel
theorem dX6_stepToNextOrder_102 : decode cX6_stepToNextOrder 102 = .ok (.iload_n 3, 1) := by decide +kernel
theorem dX6_stepToNextOrder_103 : decode cX6_stepToNextOrder 103 = .ok (.invokevirtual 91, 3) := by decide +kernel
theorem dX6_stepToNextOrder_106 : decode cX6_stepToNextOrder 106 = .ok (.iinc 3 (-1), 3) := by decide +kernel
theorem dX6_stepToNextOrder_109 : decode cX6_stepToNextOrder 109 = .ok (.iinc 4 1, 3) := by decide +kernel
theorem dX6_stepToNextOrder_112 : decode cX6_stepToNextOrder 112 = .ok (.goto (-19), 3) := by decide +kernel
theorem dX6_stepToNextOrder_115 : decode cX6_stepToNextOrder 115 = .ok (.iconst 1, 1) := by decide +kernel
theorem dX6_stepToNextOrder_116 : decode cX6_stepToNextOrder 116 = .ok (.ireturn, 1) := by decide +kernel
theorem dX6_swap_0 : decode cX6_swap 0 = .ok (.aload_n 0, 1) := by decide +kernel
theorem dX6_swap_1 : decode cX6_swap 1 = .ok (.getfield 17, 3) := by decide +kernel
theorem dX6_swap_4 : decode cX6_swap 4 = .ok (.iload_n 1, 1) := by decide +kernel
theorem dX6_swap_5 : decode cX6_swap 5 = .ok (.iaload, 1) := by decide +kernel
theorem dX6_swap_6 : decode cX6_swap 6 = .ok (.istore_n 3, 1) := by decide +kernel
theorem dX6_swap_7 : decode cX6_swap 7 = .ok (.aload_n 0, 1) := by decide +kernel
theorem dX6_swap_8 : decode cX6_swap 8 = .ok (.getfield 17, 3) := by decide +kernel
theorem dX6_swap_11 : decode cX6_swap 11 = .ok (.iload_n 1, 1) := by decide +kernel
theorem dX6_swap_12 : decode cX6_swap 12 = .ok (.aload_n 0, 1) := by decide +kernel
theorem dX6_swap_13 : decode cX6_swap 13 = .ok (.getfield 17, 3) := by decide +kernel
theorem dX6_swap_16 : decode cX6_swap 16 = .ok (.iload_n 2, 1) := by decide +kernel
theorem dX6_swap_17 : decode cX6_swap 17 = .ok (.iaload, 1) := by decide +kernel
theorem dX6_swap_18 : decode cX6_swap 18 = .ok (.iastore, 1) := by decide +kernel
theorem dX6_swap_19 : decode cX6_swap 19 = .ok (.aload_n 0, 1) := by decide +kernel
theorem dX6_swap_20 : decode cX6_swap 20 = .ok (.getfield 17, 3) := by decide +kernel
theorem dX6_swap_23 : decode cX6_swap 23 = .ok (.iload_n 2, 1) := by decide +kernel
theorem dX6_swap_24 : decode cX6_swap 24 = .ok (.iload_n 3, 1) := by decide +kernel
theorem dX6_swap_25 : decode cX6_swap 25 = .ok (.iastore, 1) := by decide +kernel
theorem dX6_swap_26 : decode cX6_swap 26 = .ok (.return_, 1) := by decide +kernel
theorem dX7_init_0 : decode cX7_init 0 = .ok (.aload_n 0, 1) := by decide +kernel
theorem dX7_init_1 : decode cX7_init 1 = .ok (.invokespecial 1, 3) := by decide +kernel
theorem dX7_init_4 : decode cX7_init 4 = .ok (.aload_n 0, 1) := by decide +kernel
theorem dX7_init_5 : decode cX7_init 5 = .ok (.new 7, 3) := by decide +kernel
theorem dX7_init_8 : decode cX7_init 8 = .ok (.dup, 1) := by decide +kernel
theorem dX7_init_9 : decode cX7_init 9 = .ok (.invokespecial 9, 3) := by decide +kernel
theorem dX7_init_12 : decode cX7_init 12 = .ok (.putfield 10, 3) := by decide +kernel
theorem dX7_init_15 : decode cX7_init 15 = .ok (.aload_n 0, 1) := by decide +kernel
theorem dX7_init_16 : decode cX7_init 16 = .ok (.new 7, 3) := by decide +kernel
theorem dX7_init_19 : decode cX7_init 19 = .ok (.dup, 1) := by decide +kernel
theorem dX7_init_20 : decode cX7_init 20 = .ok (.invokespecial 9, 3) := by decide +kernel
theorem dX7_init_23 : decode cX7_init 23 = .ok (.putfield 16, 3) := by decide +kernel
theorem dX7_init_26 : decode cX7_init 26 = .ok (.aload_n 0, 1) := by decide +kernel
theorem dX7_init_27 : decode cX7_init 27 = .ok (.iconst 4, 1) := by decide +kernel
theorem dX7_init_28 : decode cX7_init 28 = .ok (.anewarray 7, 3) := by decide +kernel
theorem dX7_init_31 : decode cX7_init 31 = .ok (.putfield 19, 3) := by decide +kernel
theorem dX7_init_34 : decode cX7_init 34 = .ok (.aload_n 0, 1) := by decide +kernel
theorem dX7_init_35 : decode cX7_init 35 = .ok (.iconst 0, 1) := by decide +kernel
theorem dX7_init_36 : decode cX7_init 36 = .ok (.putfield 23, 3) := by decide +kernel
theorem dX7_init_39 : decode cX7_init 39 = .ok (.aload_n 0, 1) := by decide +kernel
theorem dX7_init_40 : decode cX7_init 40 = .ok (.new 27, 3) := by decide +kernel
theorem dX7_init_43 : decode cX7_init 43 = .ok (.dup, 1) := by decide +kernel
theorem dX7_init_44 : decode cX7_init 44 = .ok (.invokespecial 29, 3) := by decide +kernel
theorem dX7_init_47 : decode cX7_init 47 = .ok (.putfield 30, 3) := by decide +kernel
theorem dX7_init_50 : decode cX7_init 50 = .ok (.aload_n 0, 1) := by decide +kernel
theorem dX7_init_51 : decode cX7_init 51 = .ok (.new 34, 3) := by decide +kernel
theorem dX7_init_54 : decode cX7_init 54 = .ok (.dup, 1) := by decide +kernel
theorem dX7_init_55 : decode cX7_init 55 = .ok (.invokespecial 36, 3) := by decide +kernel
theorem dX7_init_58 : decode cX7_init 58 = .ok (.putfield 37, 3) := by decide +kernel
theorem dX7_init_61 : decode cX7_init 61 = .ok (.aload_n 0, 1) := by decide +kernel
theorem dX7_init_62 : decode cX7_init 62 = .ok (.new 41, 3) := by decide +kernel
theorem dX7_init_65 : decode cX7_init 65 = .ok (.dup, 1) := by decide +kernel
theorem dX7_init_66 : decode cX7_init 66 = .ok (.invokespecial 43, 3) := by decide +kernel
theorem dX7_init_69 : decode cX7_init 69 = .ok (.putfield 44, 3) := by decide +kernel
theorem dX7_init_72 : decode cX7_init 72 = .ok (.iconst 0, 1) := by decide +kernel
theorem dX7_init_73 : decode cX7_init 73 = .ok (.istore_n 1, 1) := by decide +kernel
theorem dX7_init_74 : decode cX7_init 74 = .ok (.iload_n 1, 1) := by decide +kernel
theorem dX7_init_75 : decode cX7_init 75 = .ok (.iconst 4, 1) := by decide +kernel
theorem dX7_init_76 : decode cX7_init 76 = .ok (.if_icmp .ge 22, 3) := by decide +kernel
theorem dX7_init_79 : decode cX7_init 79 = .ok (.aload_n 0, 1) := by decide +kernel
theorem dX7_init_80 : decode cX7_init 80 = .ok (.getfield 19, 3) := by decide +kernel
theorem dX7_init_83 : decode cX7_init 83 = .ok (.iload_n 1, 1) := by decide +kernel
theorem dX7_init_84 : decode cX7_init 84 = .ok (.new 7, 3) := by decide +kernel
theorem dX7_init_87 : decode cX7_init 87 = .ok (.dup, 1) := by decide +kernel
theorem dX7_init_88 : decode cX7_init 88 = .ok (.invokespecial 9, 3) := by decide +kernel
theorem dX7_init_91 : decode cX7_init 91 = .ok (.aastore, 1) := by decide +kernel
theorem dX7_init_92 : decode cX7_init 92 = .ok (.iinc 1 1, 3) := by decide +kernel
theorem dX7_init_95 : decode cX7_init 95 = .ok (.goto (-21), 3) := by decide +kernel
theorem dX7_init_98 : decode cX7_init 98 = .ok (.return_, 1) := by decide +kernel
theorem dX7_set_0 : decode cX7_set 0 = .ok (.iload_n 1, 1) := by decide +kernel
theorem dX7_set_1 : decode cX7_set 1 = .ok (.invokestatic 48, 3) := by decide +kernel
theorem dX7_set_4 : decode cX7_set 4 = .ok (.ifCond .eq 21, 3) := by decide +kernel
theorem dX7_set_7 : decode cX7_set 7 = .ok (.iload_n 2, 1) := by decide +kernel
theorem dX7_set_8 : decode cX7_set 8 = .ok (.getstatic 52, 3) := by decide +kernel
theorem dX7_set_11 : decode cX7_set 11 = .ok (.iload_n 1, 1) := by decide +kernel
theorem dX7_set_12 : decode cX7_set 12 = .ok (.iaload, 1) := by decide +kernel
theorem dX7_set_13 : decode cX7_set 13 = .ok (.if_icmp .lt 12, 3) := by decide +kernel
theorem dX7_set_16 : decode cX7_set 16 = .ok (.iload_n 2, 1) := by decide +kernel
theorem dX7_set_17 : decode cX7_set 17 = .ok (.getstatic 56, 3) := by decide +kernel
theorem dX7_set_20 : decode cX7_set 20 = .ok (.iload_n 1, 1) := by decide +kernel
theorem dX7_set_21 : decode cX7_set 21 = .ok (.iaload, 1) := by decide +kernel
theorem dX7_set_22 : decode cX7_set 22 = .ok (.if_icmp .le 13, 3) := by decide +kernel
theorem dX7_set_25 : decode cX7_set 25 = .ok (.new 59, 3) := by decide +kernel
theorem dX7_set_28 : decode cX7_set 28 = .ok (.dup, 1) := by decide +kernel
theorem dX7_set_29 : decode cX7_set 29 = .ok (.ldc 61, 2) := by decide +kernel
theorem dX7_set_31 : decode cX7_set 31 = .ok (.invokespecial 63, 3) := by decide +kernel
theorem dX7_set_34 : decode cX7_set 34 = .ok (.athrow, 1) := by decide +kernel
theorem dX7_set_35 : decode cX7_set 35 = .ok (.aload_n 0, 1) := by decide +kernel
theorem dX7_set_36 : decode cX7_set 36 = .ok (.iload_n 1, 1) := by decide +kernel
theorem dX7_set_37 : decode cX7_set 37 = .ok (.iload_n 2, 1) := by decide +kernel
theorem dX7_set_38 : decode cX7_set 38 = .ok (.invokevirtual 66, 3) := by decide +kernel
theorem dX7_set_41 : decode cX7_set 41 = .ok (.ifCond .eq 13, 3) := by decide +kernel
theorem dX7_set_44 : decode cX7_set 44 = .ok (.new 70, 3) := by decide +kernel
theorem dX7_set_47 : decode cX7_set 47 = .ok (.dup, 1) := by decide +kernel
theorem dX7_set_48 : decode cX7_set 48 = .ok (.ldc 72, 2) := by decide +kernel
theorem dX7_set_50 : decode cX7_set 50 = .ok (.invokespecial 74, 3) := by decide +kernel
theorem dX7_set_53 : decode cX7_set 53 = .ok (.athrow, 1) := by decide +kernel
theorem dX7_set_54 : decode cX7_set 54 = .ok (.aload_n 0, 1) := by decide +kernel
theorem dX7_set_55 : decode cX7_set 55 = .ok (.invokevirtual 75, 3) := by decide +kernel
theorem dX7_set_58 : decode cX7_set 58 = .ok (.aload_n 0, 1) := by decide +kernel
theorem dX7_set_59 : decode cX7_set 59 = .ok (.getfield 10, 3) := by decide +kernel
theorem dX7_set_62 : decode cX7_set 62 = .ok (.getfield 78, 3) := by decide +kernel
theorem dX7_set_65 : decode cX7_set 65 = .ok (.iload_n 1, 1) := by decide +kernel
theorem dX7_set_66 : decode cX7_set 66 = .ok (.iaload, 1) := by decide +kernel
theorem dX7_set_67 : decode cX7_set 67 = .ok (.istore_n 3, 1) := by decide +kernel
theorem dX7_set_68 : decode cX7_set 68 = .ok (.aload_n 0, 1) := by decide +kernel
theorem dX7_set_69 : decode cX7_set 69 = .ok (.getfield 10, 3) := by decide +kernel
theorem dX7_set_72 : decode cX7_set 72 = .ok (.getfield 78, 3) := by decide +kernel
theorem dX7_set_75 : decode cX7_set 75 = .ok (.iload_n 1, 1) := by decide +kernel
theorem dX7_set_76 : decode cX7_set 76 = .ok (.iload_n 2, 1) := by decide +kernel
theorem dX7_set_77 : decode cX7_set 77 = .ok (.iastore, 1) := by decide +kernel
theorem dX7_set_78 : decode cX7_set 78 = .ok (.iload_n 3, 1) := by decide +kernel
theorem dX7_set_79 : decode cX7_set 79 = .ok (.ireturn, 1) := by decide +kernel
theorem dX7_setBend_0 : decode cX7_setBend 0 = .ok (.iload_n 1, 1) := by decide +kernel
theorem dX7_setBend_1 : decode cX7_setBend 1 = .ok (.iload_n 2, 1) := by decide +kernel
theorem dX7_setBend_2 : decode cX7_setBend 2 = .ok (.invokestatic 81, 3) := by decide +kernel
theorem dX7_setBend_5 : decode cX7_setBend 5 = .ok (.ifCond .eq 15, 3) := by decide +kernel
theorem dX7_setBend_8 : decode cX7_setBend 8 = .ok (.iload_n 3, 1) := by decide +kernel
theorem dX7_setBend_9 : decode cX7_setBend 9 = .ok (.bipush (-120), 2) := by decide +kernel
theorem dX7_setBend_11 : decode cX7_setBend 11 = .ok (.if_icmp .lt 9, 3) := by decide +kernel
theorem dX7_setBend_14 : decode cX7_setBend 14 = .ok (.iload_n 3, 1) := by decide +kernel
theorem dX7_setBend_15 : decode cX7_setBend 15 = .ok (.bipush 120, 2) := by decide +kernel
theorem dX7_setBend_17 : decode cX7_setBend 17 = .ok (.if_icmp .le 13, 3) := by decide +kernel
theorem dX7_setBend_20 : decode cX7_setBend 20 = .ok (.new 59, 3) := by decide +kernel
theorem dX7_setBend_23 : decode cX7_setBend 23 = .ok (.dup, 1) := by decide +kernel
theorem dX7_setBend_24 : decode cX7_setBend 24 = .ok (.ldc 84, 2) := by decide +kernel
theorem dX7_setBend_26 : decode cX7_setBend 26 = .ok (.invokespecial 63, 3) := by decide +kernel
theorem dX7_setBend_29 : decode cX7_setBend 29 = .ok (.athrow, 1) := by decide +kernel
theorem dX7_setBend_30 : decode cX7_setBend 30 = .ok (.aload_n 0, 1) := by decide +kernel
theorem dX7_setBend_31 : decode cX7_setBend 31 = .ok (.invokevirtual 75, 3) := by decide +kernel
theorem dX7_setBend_34 : decode cX7_setBend 34 = .ok (.iload_n 1, 1) := by decide +kernel
theorem dX7_setBend_35 : decode cX7_setBend 35 = .ok (.iload_n 2, 1) := by decide +kernel
theorem dX7_setBend_36 : decode cX7_setBend 36 = .ok (.invokestatic 86, 3) := by decide +kernel
theorem dX7_setBend_39 : decode cX7_setBend 39 = .ok (.istore 4, 2) := by decide +kernel
theorem dX7_setBend_41 : decode cX7_setBend 41 = .ok (.aload_n 0, 1) := by decide +kernel
theorem dX7_setBend_42 : decode cX7_setBend 42 = .ok (.getfield 10, 3) := by decide +kernel
theorem dX7_setBend_45 : decode cX7_setBend 45 = .ok (.getfield 90, 3) := by decide +kernel
theorem dX7_setBend_48 : decode cX7_setBend 48 = .ok (.iload 4, 2) := by decide +kernel
theorem dX7_setBend_50 : decode cX7_setBend 50 = .ok (.iaload, 1) := by decide +kernel
theorem dX7_setBend_51 : decode cX7_setBend 51 = .ok (.istore 5, 2) := by decide +kernel
theorem dX7_setBend_53 : decode cX7_setBend 53 = .ok (.aload_n 0, 1) := by decide +kernel
theorem dX7_setBend_54 : decode cX7_setBend 54 = .ok (.getfield 10, 3) := by decide +kernel
theorem dX7_setBend_57 : decode cX7_setBend 57 = .ok (.getfield 90, 3) := by decide +kernel
theorem dX7_setBend_60 : decode cX7_setBend 60 = .ok (.iload 4, 2) := by decide +kernel
theorem dX7_setBend_62 : decode cX7_setBend 62 = .ok (.iload_n 3, 1) := by decide +kernel
theorem dX7_setBend_63 : decode cX7_setBend 63 = .ok (.iastore, 1) := by decide +kernel
theorem dX7_setBend_64 : decode cX7_setBend 64 = .ok (.iload 5, 2) := by decide +kernel
theorem dX7_setBend_66 : decode cX7_setBend 66 = .ok (.ireturn, 1) := by decide +kernel
theorem dX7_addStar_0 : decode cX7_addStar 0 = .ok (.iload_n 1, 1) := by decide +kernel
theorem dX7_addStar_1 : decode cX7_addStar 1 = .ok (.ifCond .lt 21, 3) := by decide +kernel
theorem dX7_addStar_4 : decode cX7_addStar 4 = .ok (.iload_n 1, 1) := by decide +kernel
theorem dX7_addStar_5 : decode cX7_addStar 5 = .ok (.sipush 21600, 3) := by decide +kernel
theorem dX7_addStar_8 : decode cX7_addStar 8 = .ok (.if_icmp .ge 14, 3) := by decide +kernel
theorem dX7_addStar_11 : decode cX7_addStar 11 = .ok (.iload_n 2, 1) := by decide +kernel
theorem dX7_addStar_12 : decode cX7_addStar 12 = .ok (.ifCond .lt 10, 3) := by decide +kernel
theorem dX7_addStar_15 : decode cX7_addStar 15 = .ok (.iload_n 2, 1) := by decide +kernel
theorem dX7_addStar_16 : decode cX7_addStar 16 = .ok (.sipush 5400, 3) := by decide +kernel
theorem dX7_addStar_19 : decode cX7_addStar 19 = .ok (.if_icmp .le 13, 3) := by decide +kernel
theorem dX7_addStar_22 : decode cX7_addStar 22 = .ok (.new 59, 3) := by decide +kernel
theorem dX7_addStar_25 : decode cX7_addStar 25 = .ok (.dup, 1) := by decide +kernel
theorem dX7_addStar_26 : decode cX7_addStar 26 = .ok (.ldc 93, 2) := by decide +kernel
theorem dX7_addStar_28 : decode cX7_addStar 28 = .ok (.invokespecial 63, 3) := by decide +kernel
theorem dX7_addStar_31 : decode cX7_addStar 31 = .ok (.athrow, 1) := by decide +kernel
theorem dX7_addStar_32 : decode cX7_addStar 32 = .ok (.aload_n 0, 1) := by decide +kernel
theorem dX7_addStar_33 : decode cX7_addStar 33 = .ok (.getfield 10, 3) := by decide +kernel
theorem dX7_addStar_36 : decode cX7_addStar 36 = .ok (.getfield 95, 3) := by decide +kernel
theorem dX7_addStar_39 : decode cX7_addStar 39 = .ok (.getfield 99, 3) := by decide +kernel
theorem dX7_addStar_42 : decode cX7_addStar 42 = .ok (.bipush 20, 2) := by decide +kernel
theorem dX7_addStar_44 : decode cX7_addStar 44 = .ok (.if_icmp .lt 13, 3) := by decide +kernel
theorem dX7_addStar_47 : decode cX7_addStar 47 = .ok (.new 70, 3) := by decide +kernel
theorem dX7_addStar_50 : decode cX7_addStar 50 = .ok (.dup, 1) := by decide +kernel
theorem dX7_addStar_51 : decode cX7_addStar 51 = .ok (.ldc 104, 2) := by decide +kernel
theorem dX7_addStar_53 : decode cX7_addStar 53 = .ok (.invokespecial 74, 3) := by decide +kernel
theorem dX7_addStar_56 : decode cX7_addStar 56 = .ok (.athrow, 1) := by decide +kernel
theorem dX7_addStar_57 : decode cX7_addStar 57 = .ok (.aload_n 0, 1) := by decide +kernel
theorem dX7_addStar_58 : decode cX7_addStar 58 = .ok (.invokevirtual 75, 3) := by decide +kernel
theorem dX7_addStar_61 : decode cX7_addStar 61 = .ok (.aload_n 0, 1) := by decide +kernel
theorem dX7_addStar_62 : decode cX7_addStar 62 = .ok (.getfield 10, 3) := by decide +kernel
theorem dX7_addStar_65 : decode cX7_addStar 65 = .ok (.getfield 95, 3) := by decide +kernel
theorem dX7_addStar_68 : decode cX7_addStar 68 = .ok (.iload_n 1, 1) := by decide +kernel
theorem dX7_addStar_69 : decode cX7_addStar 69 = .ok (.iload_n 2, 1) := by decide +kernel
theorem dX7_addStar_70 : decode cX7_addStar 70 = .ok (.invokevirtual 106, 3) := by decide +kernel
theorem dX7_addStar_73 : decode cX7_addStar 73 = .ok (.ireturn, 1) := by decide +kernel
theorem dX7_aim_0 : decode cX7_aim 0 = .ok (.aload_n 0, 1) := by decide +kernel
theorem dX7_aim_1 : decode cX7_aim 1 = .ok (.iload_n 1, 1) := by decide +kernel
theorem dX7_aim_2 : decode cX7_aim 2 = .ok (.invokevirtual 109, 3) := by decide +kernel
theorem dX7_aim_5 : decode cX7_aim 5 = .ok (.ifCond .ne 13, 3) := by decide +kernel
theorem dX7_aim_8 : decode cX7_aim 8 = .ok (.new 112, 3) := by decide +kernel
theorem dX7_aim_11 : decode cX7_aim 11 = .ok (.dup, 1) := by decide +kernel
theorem dX7_aim_12 : decode cX7_aim 12 = .ok (.ldc 114, 2) := by decide +kernel
theorem dX7_aim_14 : decode cX7_aim 14 = .ok (.invokespecial 116, 3) := by decide +kernel
theorem dX7_aim_17 : decode cX7_aim 17 = .ok (.athrow, 1) := by decide +kernel
theorem dX7_aim_18 : decode cX7_aim 18 = .ok (.aload_n 0, 1) := by decide +kernel
theorem dX7_aim_19 : decode cX7_aim 19 = .ok (.getfield 10, 3) := by decide +kernel
theorem dX7_aim_22 : decode cX7_aim 22 = .ok (.iload_n 1, 1) := by decide +kernel
theorem dX7_aim_23 : decode cX7_aim 23 = .ok (.invokevirtual 117, 3) := by decide +kernel
theorem dX7_aim_26 : decode cX7_aim 26 = .ok (.ifCond .ne 13, 3) := by decide +kernel
theorem dX7_aim_29 : decode cX7_aim 29 = .ok (.new 70, 3) := by decide +kernel
theorem dX7_aim_32 : decode cX7_aim 32 = .ok (.dup, 1) := by decide +kernel
theorem dX7_aim_33 : decode cX7_aim 33 = .ok (.ldc 120, 2) := by decide +kernel
theorem dX7_aim_35 : decode cX7_aim 35 = .ok (.invokespecial 74, 3) := by decide +kernel
theorem dX7_aim_38 : decode cX7_aim 38 = .ok (.athrow, 1) := by decide +kernel
theorem dX7_aim_39 : decode cX7_aim 39 = .ok (.aload_n 0, 1) := by decide +kernel
theorem dX7_aim_40 : decode cX7_aim 40 = .ok (.invokevirtual 75, 3) := by decide +kernel
theorem dX7_aim_43 : decode cX7_aim 43 = .ok (.aload_n 0, 1) := by decide +kernel
theorem dX7_aim_44 : decode cX7_aim 44 = .ok (.getfield 10, 3) := by decide +kernel
theorem dX7_aim_47 : decode cX7_aim 47 = .ok (.iload_n 1, 1) := by decide +kernel
theorem dX7_aim_48 : decode cX7_aim 48 = .ok (.invokevirtual 122, 3) := by decide +kernel
theorem dX7_aim_51 : decode cX7_aim 51 = .ok (.ireturn, 1) := by decide +kernel
theorem dX7_learn_0 : decode cX7_learn 0 = .ok (.aload_n 0, 1) := by decide +kernel
theorem dX7_learn_1 : decode cX7_learn 1 = .ok (.getfield 10, 3) := by decide +kernel
theorem dX7_learn_4 : decode cX7_learn 4 = .ok (.getfield 126, 3) := by decide +kernel
theorem dX7_learn_7 : decode cX7_learn 7 = .ok (.getfield 129, 3) := by decide +kernel
theorem dX7_learn_10 : decode cX7_learn 10 = .ok (.ifCond .ne 13, 3) := by decide +kernel
theorem dX7_learn_13 : decode cX7_learn 13 = .ok (.new 70, 3) := by decide +kernel
theorem dX7_learn_16 : decode cX7_learn 16 = .ok (.dup, 1) := by decide +kernel
theorem dX7_learn_17 : decode cX7_learn 17 = .ok (.ldc 133, 2) := by decide +kernel
theorem dX7_learn_19 : decode cX7_learn 19 = .ok (.invokespecial 74, 3) := by decide +kernel
theorem dX7_learn_22 : decode cX7_learn 22 = .ok (.athrow, 1) := by decide +kernel
theorem dX7_learn_23 : decode cX7_learn 23 = .ok (.aload_n 0, 1) := by decide +kernel
theorem dX7_learn_24 : decode cX7_learn 24 = .ok (.invokevirtual 75, 3) := by decide +kernel
theorem dX7_learn_27 : decode cX7_learn 27 = .ok (.aload_n 0, 1) := by decide +kernel
theorem dX7_learn_28 : decode cX7_learn 28 = .ok (.getfield 10, 3) := by decide +kernel
theorem dX7_learn_31 : decode cX7_learn 31 = .ok (.invokevirtual 135, 3) := by decide +kernel
theorem dX7_learn_34 : decode cX7_learn 34 = .ok (.ireturn, 1) := by decide +kernel
theorem dX7_learnAll_0 : decode cX7_learnAll 0 = .ok (.aload_n 0, 1) := by decide +kernel
theorem dX7_learnAll_1 : decode cX7_learnAll 1 = .ok (.getfield 16, 3) := by decide +kernel
theorem dX7_learnAll_4 : decode cX7_learnAll 4 = .ok (.aload_n 0, 1) := by decide +kernel
theorem dX7_learnAll_5 : decode cX7_learnAll 5 = .ok (.getfield 10, 3) := by decide +kernel
theorem dX7_learnAll_8 : decode cX7_learnAll 8 = .ok (.invokevirtual 139, 3) := by decide +kernel
theorem dX7_learnAll_11 : decode cX7_learnAll 11 = .ok (.aload_n 0, 1) := by decide +kernel
theorem dX7_learnAll_12 : decode cX7_learnAll 12 = .ok (.getfield 16, 3) := by decide +kernel
theorem dX7_learnAll_15 : decode cX7_learnAll 15 = .ok (.invokevirtual 143, 3) := by decide +kernel
theorem dX7_learnAll_18 : decode cX7_learnAll 18 = .ok (.istore_n 1, 1) := by decide +kernel
theorem dX7_learnAll_19 : decode cX7_learnAll 19 = .ok (.iload_n 1, 1) := by decide +kernel
theorem dX7_learnAll_20 : decode cX7_learnAll 20 = .ok (.iconst (-1), 1) := by decide +kernel
theorem dX7_learnAll_21 : decode cX7_learnAll 21 = .ok (.if_icmp .ne 13, 3) := by decide +kernel
theorem dX7_learnAll_24 : decode cX7_learnAll 24 = .ok (.new 70, 3) := by decide +kernel
theorem dX7_learnAll_27 : decode cX7_learnAll 27 = .ok (.dup, 1) := by decide +kernel
theorem dX7_learnAll_28 : decode cX7_learnAll 28 = .ok (.ldc 146, 2) := by decide +kernel
theorem dX7_learnAll_30 : decode cX7_learnAll 30 = .ok (.invokespecial 74, 3) := by decide +kernel
theorem dX7_learnAll_33 : decode cX7_learnAll 33 = .ok (.athrow, 1) := by decide +kernel
theorem dX7_learnAll_34 : decode cX7_learnAll 34 = .ok (.aload_n 0, 1) := by decide +kernel
theorem dX7_learnAll_35 : decode cX7_learnAll 35 = .ok (.invokevirtual 75, 3) := by decide +kernel
theorem dX7_learnAll_38 : decode cX7_learnAll 38 = .ok (.aload_n 0, 1) := by decide +kernel
theorem dX7_learnAll_39 : decode cX7_learnAll 39 = .ok (.getfield 10, 3) := by decide +kernel
theorem dX7_learnAll_42 : decode cX7_learnAll 42 = .ok (.aload_n 0, 1) := by decide +kernel
theorem dX7_learnAll_43 : decode cX7_learnAll 43 = .ok (.getfield 16, 3) := by decide +kernel
theorem dX7_learnAll_46 : decode cX7_learnAll 46 = .ok (.invokevirtual 139, 3) := by decide +kernel
theorem dX7_learnAll_49 : decode cX7_learnAll 49 = .ok (.iload_n 1, 1) := by decide +kernel
theorem dX7_learnAll_50 : decode cX7_learnAll 50 = .ok (.ireturn, 1) := by decide +kernel
theorem dX7_forget_0 : decode cX7_forget 0 = .ok (.iload_n 1, 1) := by decide +kernel
theorem dX7_forget_1 : decode cX7_forget 1 = .ok (.invokestatic 148, 3) := by decide +kernel
theorem dX7_forget_4 : decode cX7_forget 4 = .ok (.ifCond .ne 13, 3) := by decide +kernel
theorem dX7_forget_7 : decode cX7_forget 7 = .ok (.new 112, 3) := by decide +kernel
theorem dX7_forget_10 : decode cX7_forget 10 = .ok (.dup, 1) := by decide +kernel
theorem dX7_forget_11 : decode cX7_forget 11 = .ok (.ldc 151, 2) := by decide +kernel
theorem dX7_forget_13 : decode cX7_forget 13 = .ok (.invokespecial 116, 3) := by decide +kernel
theorem dX7_forget_16 : decode cX7_forget 16 = .ok (.athrow, 1) := by decide +kernel
theorem dX7_forget_17 : decode cX7_forget 17 = .ok (.aload_n 0, 1) := by decide +kernel
theorem dX7_forget_18 : decode cX7_forget 18 = .ok (.invokevirtual 75, 3) := by decide +kernel
theorem dX7_forget_21 : decode cX7_forget 21 = .ok (.aload_n 0, 1) := by decide +kernel
theorem dX7_forget_22 : decode cX7_forget 22 = .ok (.getfield 10, 3) := by decide +kernel
theorem dX7_forget_25 : decode cX7_forget 25 = .ok (.getfield 153, 3) := by decide +kernel
theorem dX7_forget_28 : decode cX7_forget 28 = .ok (.iload_n 1, 1) := by decide +kernel
theorem dX7_forget_29 : decode cX7_forget 29 = .ok (.invokevirtual 157, 3) := by decide +kernel
theorem dX7_forget_32 : decode cX7_forget 32 = .ok (.ireturn, 1) := by decide +kernel
theorem dX7_star_0 : decode cX7_star 0 = .ok (.aload_n 0, 1) := by decide +kernel
theorem dX7_star_1 : decode cX7_star 1 = .ok (.iload_n 1, 1) := by decide +kernel
theorem dX7_star_2 : decode cX7_star 2 = .ok (.invokevirtual 109, 3) := by decide +kernel
theorem dX7_star_5 : decode cX7_star 5 = .ok (.ifCond .ne 13, 3) := by decide +kernel
theorem dX7_star_8 : decode cX7_star 8 = .ok (.new 112, 3) := by decide +kernel
theorem dX7_star_11 : decode cX7_star 11 = .ok (.dup, 1) := by decide +kernel
theorem dX7_star_12 : decode cX7_star 12 = .ok (.ldc 114, 2) := by decide +kernel
theorem dX7_star_14 : decode cX7_star 14 = .ok (.invokespecial 116, 3) := by decide +kernel
theorem dX7_star_17 : decode cX7_star 17 = .ok (.athrow, 1) := by decide +kernel
theorem dX7_star_18 : decode cX7_star 18 = .ok (.iload_n 2, 1) := by decide +kernel
theorem dX7_star_19 : decode cX7_star 19 = .ok (.ifCond .lt 9, 3) := by decide +kernel
theorem dX7_star_22 : decode cX7_star 22 = .ok (.iload_n 2, 1) := by decide +kernel
theorem dX7_star_23 : decode cX7_star 23 = .ok (.bipush 7, 2) := by decide +kernel
theorem dX7_star_25 : decode cX7_star 25 = .ok (.if_icmp .lt 13, 3) := by decide +kernel
theorem dX7_star_28 : decode cX7_star 28 = .ok (.new 59, 3) := by decide +kernel
theorem dX7_star_31 : decode cX7_star 31 = .ok (.dup, 1) := by decide +kernel
theorem dX7_star_32 : decode cX7_star 32 = .ok (.ldc 162, 2) := by decide +kernel
theorem dX7_star_34 : decode cX7_star 34 = .ok (.invokespecial 63, 3) := by decide +kernel
theorem dX7_star_37 : decode cX7_star 37 = .ok (.athrow, 1) := by decide +kernel
theorem dX7_star_38 : decode cX7_star 38 = .ok (.aload_n 0, 1) := by decide +kernel
theorem dX7_star_39 : decode cX7_star 39 = .ok (.getfield 10, 3) := by decide +kernel
theorem dX7_star_42 : decode cX7_star 42 = .ok (.iload_n 1, 1) := by decide +kernel
theorem dX7_star_43 : decode cX7_star 43 = .ok (.iload_n 2, 1) := by decide +kernel
theorem dX7_star_44 : decode cX7_star 44 = .ok (.invokevirtual 164, 3) := by decide +kernel
theorem dX7_star_47 : decode cX7_star 47 = .ok (.ireturn, 1) := by decide +kernel
theorem dX7_correction_0 : decode cX7_correction 0 = .ok (.iload_n 1, 1) := by decide +kernel
theorem dX7_correction_1 : decode cX7_correction 1 = .ok (.invokestatic 148, 3) := by decide +kernel
theorem dX7_correction_4 : decode cX7_correction 4 = .ok (.ifCond .ne 13, 3) := by decide +kernel
theorem dX7_correction_7 : decode cX7_correction 7 = .ok (.new 112, 3) := by decide +kernel
theorem dX7_correction_10 : decode cX7_correction 10 = .ok (.dup, 1) := by decide +kernel
theorem dX7_correction_11 : decode cX7_correction 11 = .ok (.ldc 151, 2) := by decide +kernel
theorem dX7_correction_13 : decode cX7_correction 13 = .ok (.invokespecial 116, 3) := by decide +kernel
theorem dX7_correction_16 : decode cX7_correction 16 = .ok (.athrow, 1) := by decide +kernel
theorem dX7_correction_17 : decode cX7_correction 17 = .ok (.aload_n 0, 1) := by decide +kernel
theorem dX7_correction_18 : decode cX7_correction 18 = .ok (.getfield 10, 3) := by decide +kernel
theorem dX7_correction_21 : decode cX7_correction 21 = .ok (.getfield 153, 3) := by decide +kernel
theorem dX7_correction_24 : decode cX7_correction 24 = .ok (.iload_n 1, 1) := by decide +kernel
theorem dX7_correction_25 : decode cX7_correction 25 = .ok (.iload_n 2, 1) := by decide +kernel
theorem dX7_correction_26 : decode cX7_correction 26 = .ok (.invokevirtual 167, 3) := by decide +kernel
theorem dX7_correction_29 : decode cX7_correction 29 = .ok (.dreturn, 1) := by decide +kernel
theorem dX7_source_0 : decode cX7_source 0 = .ok (.iload_n 1, 1) := by decide +kernel
theorem dX7_source_1 : decode cX7_source 1 = .ok (.invokestatic 148, 3) := by decide +kernel
theorem dX7_source_4 : decode cX7_source 4 = .ok (.ifCond .ne 13, 3) := by decide +kernel
theorem dX7_source_7 : decode cX7_source 7 = .ok (.new 112, 3) := by decide +kernel
theorem dX7_source_10 : decode cX7_source 10 = .ok (.dup, 1) := by decide +kernel
theorem dX7_source_11 : decode cX7_source 11 = .ok (.ldc 151, 2) := by decide +kernel
theorem dX7_source_13 : decode cX7_source 13 = .ok (.invokespecial 116, 3) := by decide +kernel
theorem dX7_source_16 : decode cX7_source 16 = .ok (.athrow, 1) := by decide +kernel
theorem dX7_source_17 : decode cX7_source 17 = .ok (.aload_n 0, 1) := by decide +kernel
theorem dX7_source_18 : decode cX7_source 18 = .ok (.getfield 10, 3) := by decide +kernel
theorem dX7_source_21 : decode cX7_source 21 = .ok (.getfield 153, 3) := by decide +kernel
theorem dX7_source_24 : decode cX7_source 24 = .ok (.iload_n 1, 1) := by decide +kernel
theorem dX7_source_25 : decode cX7_source 25 = .ok (.invokevirtual 171, 3) := by decide +kernel
theorem dX7_source_28 : decode cX7_source 28 = .ok (.ireturn, 1) := by decide +kernel
theorem dX7_lessons_0 : decode cX7_lessons 0 = .ok (.iload_n 1, 1) := by decide +kernel
theorem dX7_lessons_1 : decode cX7_lessons 1 = .ok (.invokestatic 148, 3) := by decide +kernel
theorem dX7_lessons_4 : decode cX7_lessons 4 = .ok (.ifCond .ne 13, 3) := by decide +kernel
theorem dX7_lessons_7 : decode cX7_lessons 7 = .ok (.new 112, 3) := by decide +kernel
theorem dX7_lessons_10 : decode cX7_lessons 10 = .ok (.dup, 1) := by decide +kernel
theorem dX7_lessons_11 : decode cX7_lessons 11 = .ok (.ldc 151, 2) := by decide +kernel
theorem dX7_lessons_13 : decode cX7_lessons 13 = .ok (.invokespecial 116, 3) := by decide +kernel
theorem dX7_lessons_16 : decode cX7_lessons 16 = .ok (.athrow, 1) := by decide +kernel
theorem dX7_lessons_17 : decode cX7_lessons 17 = .ok (.aload_n 0, 1) := by decide +kernel
theorem dX7_lessons_18 : decode cX7_lessons 18 = .ok (.getfield 10, 3) := by decide +kernel
theorem dX7_lessons_21 : decode cX7_lessons 21 = .ok (.getfield 153, 3) := by decide +kernel
theorem dX7_lessons_24 : decode cX7_lessons 24 = .ok (.getfield 174, 3) := by decide +kernel
theorem dX7_lessons_27 : decode cX7_lessons 27 = .ok (.iload_n 1, 1) := by decide +kernel
theorem dX7_lessons_28 : decode cX7_lessons 28 = .ok (.iaload, 1) := by decide +kernel
theorem dX7_lessons_29 : decode cX7_lessons 29 = .ok (.ireturn, 1) := by decide +kernel
theorem dX7_miss_0 : decode cX7_miss 0 = .ok (.iload_n 1, 1) := by decide +kernel
theorem dX7_miss_1 : decode cX7_miss 1 = .ok (.ifCond .lt 8, 3) := by decide +kernel
theorem dX7_miss_4 : decode cX7_miss 4 = .ok (.iload_n 1, 1) := by decide +kernel
theorem dX7_miss_5 : decode cX7_miss 5 = .ok (.iconst 3, 1) := by decide +kernel
theorem dX7_miss_6 : decode cX7_miss 6 = .ok (.if_icmp .lt 13, 3) := by decide +kernel
theorem dX7_miss_9 : decode cX7_miss 9 = .ok (.new 59, 3) := by decide +kernel
theorem dX7_miss_12 : decode cX7_miss 12 = .ok (.dup, 1) := by decide +kernel
theorem dX7_miss_13 : decode cX7_miss 13 = .ok (.ldc 177, 2) := by decide +kernel
theorem dX7_miss_15 : decode cX7_miss 15 = .ok (.invokespecial 63, 3) := by decide +kernel
theorem dX7_miss_18 : decode cX7_miss 18 = .ok (.athrow, 1) := by decide +kernel
theorem dX7_miss_19 : decode cX7_miss 19 = .ok (.aload_n 0, 1) := by decide +kernel
theorem dX7_miss_20 : decode cX7_miss 20 = .ok (.getfield 10, 3) := by decide +kernel
theorem dX7_miss_23 : decode cX7_miss 23 = .ok (.getfield 126, 3) := by decide +kernel
theorem dX7_miss_26 : decode cX7_miss 26 = .ok (.getfield 179, 3) := by decide +kernel
theorem dX7_miss_29 : decode cX7_miss 29 = .ok (.iconst (-1), 1) := by decide +kernel
theorem dX7_miss_30 : decode cX7_miss 30 = .ok (.if_icmp .ne 13, 3) := by decide +kernel
theorem dX7_miss_33 : decode cX7_miss 33 = .ok (.new 70, 3) := by decide +kernel
theorem dX7_miss_36 : decode cX7_miss 36 = .ok (.dup, 1) := by decide +kernel
theorem dX7_miss_37 : decode cX7_miss 37 = .ok (.ldc 182, 2) := by decide +kernel
theorem dX7_miss_39 : decode cX7_miss 39 = .ok (.invokespecial 74, 3) := by decide +kernel
theorem dX7_miss_42 : decode cX7_miss 42 = .ok (.athrow, 1) := by decide +kernel
theorem dX7_miss_43 : decode cX7_miss 43 = .ok (.aload_n 0, 1) := by decide +kernel
theorem dX7_miss_44 : decode cX7_miss 44 = .ok (.getfield 10, 3) := by decide +kernel
theorem dX7_miss_47 : decode cX7_miss 47 = .ok (.getfield 126, 3) := by decide +kernel
theorem dX7_miss_50 : decode cX7_miss 50 = .ok (.iload_n 1, 1) := by decide +kernel
theorem dX7_miss_51 : decode cX7_miss 51 = .ok (.invokevirtual 184, 3) := by decide +kernel
theorem dX7_miss_54 : decode cX7_miss 54 = .ok (.dreturn, 1) := by decide +kernel
theorem dX7_value_0 : decode cX7_value 0 = .ok (.iload_n 1, 1) := by decide +kernel
theorem dX7_value_1 : decode cX7_value 1 = .ok (.ifCond .lt 9, 3) := by decide +kernel
theorem dX7_value_4 : decode cX7_value 4 = .ok (.iload_n 1, 1) := by decide +kernel
theorem dX7_value_5 : decode cX7_value 5 = .ok (.bipush 12, 2) := by decide +kernel
theorem dX7_value_7 : decode cX7_value 7 = .ok (.if_icmp .lt 13, 3) := by decide +kernel
theorem dX7_value_10 : decode cX7_value 10 = .ok (.new 59, 3) := by decide +kernel
theorem dX7_value_13 : decode cX7_value 13 = .ok (.dup, 1) := by decide +kernel
theorem dX7_value_14 : decode cX7_value 14 = .ok (.ldc 188, 2) := by decide +kernel
theorem dX7_value_16 : decode cX7_value 16 = .ok (.invokespecial 63, 3) := by decide +kernel
theorem dX7_value_19 : decode cX7_value 19 = .ok (.athrow, 1) := by decide +kernel
theorem dX7_value_20 : decode cX7_value 20 = .ok (.aload_n 0, 1) := by decide +kernel
theorem dX7_value_21 : decode cX7_value 21 = .ok (.getfield 10, 3) := by decide +kernel
theorem dX7_value_24 : decode cX7_value 24 = .ok (.iload_n 1, 1) := by decide +kernel
theorem dX7_value_25 : decode cX7_value 25 = .ok (.invokevirtual 190, 3) := by decide +kernel
theorem dX7_value_28 : decode cX7_value 28 = .ok (.ireturn, 1) := by decide +kernel
theorem dX7_setting_0 : decode cX7_setting 0 = .ok (.iload_n 1, 1) := by decide +kernel
theorem dX7_setting_1 : decode cX7_setting 1 = .ok (.invokestatic 48, 3) := by decide +kernel
theorem dX7_setting_4 : decode cX7_setting 4 = .ok (.ifCond .ne 13, 3) := by decide +kernel
theorem dX7_setting_7 : decode cX7_setting 7 = .ok (.new 59, 3) := by decide +kernel
theorem dX7_setting_10 : decode cX7_setting 10 = .ok (.dup, 1) := by decide +kernel
theorem dX7_setting_11 : decode cX7_setting 11 = .ok (.ldc 193, 2) := by decide +kernel
theorem dX7_setting_13 : decode cX7_setting 13 = .ok (.invokespecial 63, 3) := by decide +kernel
theorem dX7_setting_16 : decode cX7_setting 16 = .ok (.athrow, 1) := by decide +kernel
theorem dX7_setting_17 : decode cX7_setting 17 = .ok (.aload_n 0, 1) := by decide +kernel
theorem dX7_setting_18 : decode cX7_setting 18 = .ok (.getfield 10, 3) := by decide +kernel
theorem dX7_setting_21 : decode cX7_setting 21 = .ok (.getfield 78, 3) := by decide +kernel
theorem dX7_setting_24 : decode cX7_setting 24 = .ok (.iload_n 1, 1) := by decide +kernel
theorem dX7_setting_25 : decode cX7_setting 25 = .ok (.iaload, 1) := by decide +kernel
theorem dX7_setting_26 : decode cX7_setting 26 = .ok (.ireturn, 1) := by decide +kernel
theorem dX7_bend_0 : decode cX7_bend 0 = .ok (.iload_n 1, 1) := by decide +kernel
theorem dX7_bend_1 : decode cX7_bend 1 = .ok (.iload_n 2, 1) := by decide +kernel
theorem dX7_bend_2 : decode cX7_bend 2 = .ok (.invokestatic 81, 3) := by decide +kernel
theorem dX7_bend_5 : decode cX7_bend 5 = .ok (.ifCond .ne 13, 3) := by decide +kernel
theorem dX7_bend_8 : decode cX7_bend 8 = .ok (.new 59, 3) := by decide +kernel
theorem dX7_bend_11 : decode cX7_bend 11 = .ok (.dup, 1) := by decide +kernel
theorem dX7_bend_12 : decode cX7_bend 12 = .ok (.ldc 195, 2) := by decide +kernel
theorem dX7_bend_14 : decode cX7_bend 14 = .ok (.invokespecial 63, 3) := by decide +kernel
theorem dX7_bend_17 : decode cX7_bend 17 = .ok (.athrow, 1) := by decide +kernel
theorem dX7_bend_18 : decode cX7_bend 18 = .ok (.aload_n 0, 1) := by decide +kernel
theorem dX7_bend_19 : decode cX7_bend 19 = .ok (.getfield 10, 3) := by decide +kernel
theorem dX7_bend_22 : decode cX7_bend 22 = .ok (.getfield 90, 3) := by decide +kernel
theorem dX7_bend_25 : decode cX7_bend 25 = .ok (.iload_n 1, 1) := by decide +kernel
theorem dX7_bend_26 : decode cX7_bend 26 = .ok (.iload_n 2, 1) := by decide +kernel
theorem dX7_bend_27 : decode cX7_bend 27 = .ok (.invokestatic 86, 3) := by decide +kernel
theorem dX7_bend_30 : decode cX7_bend 30 = .ok (.iaload, 1) := by decide +kernel
theorem dX7_bend_31 : decode cX7_bend 31 = .ok (.ireturn, 1) := by decide +kernel
theorem dX7_missOf_0 : decode cX7_missOf 0 = .ok (.aload_n 0, 1) := by decide +kernel
theorem dX7_missOf_1 : decode cX7_missOf 1 = .ok (.iload_n 1, 1) := by decide +kernel
theorem dX7_missOf_2 : decode cX7_missOf 2 = .ok (.invokevirtual 109, 3) := by decide +kernel
theorem dX7_missOf_5 : decode cX7_missOf 5 = .ok (.ifCond .ne 13, 3) := by decide +kernel
theorem dX7_missOf_8 : decode cX7_missOf 8 = .ok (.new 112, 3) := by decide +kernel
theorem dX7_missOf_11 : decode cX7_missOf 11 = .ok (.dup, 1) := by decide +kernel
theorem dX7_missOf_12 : decode cX7_missOf 12 = .ok (.ldc 114, 2) := by decide +kernel
theorem dX7_missOf_14 : decode cX7_missOf 14 = .ok (.invokespecial 116, 3) := by decide +kernel
theorem dX7_missOf_17 : decode cX7_missOf 17 = .ok (.athrow, 1) := by decide +kernel
theorem dX7_missOf_18 : decode cX7_missOf 18 = .ok (.aload_n 0, 1) := by decide +kernel
theorem dX7_missOf_19 : decode cX7_missOf 19 = .ok (.getfield 10, 3) := by decide +kernel
theorem dX7_missOf_22 : decode cX7_missOf 22 = .ok (.iload_n 1, 1) := by decide +kernel
theorem dX7_missOf_23 : decode cX7_missOf 23 = .ok (.aload_n 0, 1) := by decide +kernel
theorem dX7_missOf_24 : decode cX7_missOf 24 = .ok (.getfield 37, 3) := by decide +kernel
theorem dX7_missOf_27 : decode cX7_missOf 27 = .ok (.invokevirtual 197, 3) := by decide +kernel
theorem dX7_missOf_30 : decode cX7_missOf 30 = .ok (.aload_n 0, 1) := by decide +kernel
theorem dX7_missOf_31 : decode cX7_missOf 31 = .ok (.getfield 37, 3) := by decide +kernel
theorem dX7_missOf_34 : decode cX7_missOf 34 = .ok (.invokevirtual 201, 3) := by decide +kernel
theorem dX7_missOf_37 : decode cX7_missOf 37 = .ok (.dreturn, 1) := by decide +kernel
theorem dX7_slewTo_0 : decode cX7_slewTo 0 = .ok (.aload_n 0, 1) := by decide +kernel
theorem dX7_slewTo_1 : decode cX7_slewTo 1 = .ok (.iload_n 1, 1) := by decide +kernel
theorem dX7_slewTo_2 : decode cX7_slewTo 2 = .ok (.invokevirtual 109, 3) := by decide +kernel
theorem dX7_slewTo_5 : decode cX7_slewTo 5 = .ok (.ifCond .ne 13, 3) := by decide +kernel
theorem dX7_slewTo_8 : decode cX7_slewTo 8 = .ok (.new 112, 3) := by decide +kernel
theorem dX7_slewTo_11 : decode cX7_slewTo 11 = .ok (.dup, 1) := by decide +kernel
theorem dX7_slewTo_12 : decode cX7_slewTo 12 = .ok (.ldc 114, 2) := by decide +kernel
theorem dX7_slewTo_14 : decode cX7_slewTo 14 = .ok (.invokespecial 116, 3) := by decide +kernel
theorem dX7_slewTo_17 : decode cX7_slewTo 17 = .ok (.athrow, 1) := by decide +kernel
theorem dX7_slewTo_18 : decode cX7_slewTo 18 = .ok (.aload_n 0, 1) := by decide +kernel
theorem dX7_slewTo_19 : decode cX7_slewTo 19 = .ok (.iload_n 1, 1) := by decide +kernel
theorem dX7_slewTo_20 : decode cX7_slewTo 20 = .ok (.invokevirtual 205, 3) := by decide +kernel
theorem dX7_slewTo_23 : decode cX7_slewTo 23 = .ok (.ireturn, 1) := by decide +kernel
theorem dX7_found_0 : decode cX7_found 0 = .ok (.iconst 0, 1) := by decide +kernel
theorem dX7_found_1 : decode cX7_found 1 = .ok (.istore_n 1, 1) := by decide +kernel
theorem dX7_found_2 : decode cX7_found 2 = .ok (.iconst 0, 1) := by decide +kernel
theorem dX7_found_3 : decode cX7_found 3 = .ok (.istore_n 2, 1) := by decide +kernel
theorem dX7_found_4 : decode cX7_found 4 = .ok (.iload_n 2, 1) := by decide +kernel
theorem dX7_found_5 : decode cX7_found 5 = .ok (.aload_n 0, 1) := by decide +kernel
theorem dX7_found_6 : decode cX7_found 6 = .ok (.getfield 10, 3) := by decide +kernel
theorem dX7_found_9 : decode cX7_found 9 = .ok (.getfield 95, 3) := by decide +kernel
theorem dX7_found_12 : decode cX7_found 12 = .ok (.getfield 99, 3) := by decide +kernel
theorem dX7_found_15 : decode cX7_found 15 = .ok (.if_icmp .ge 41, 3) := by decide +kernel
theorem dX7_found_18 : decode cX7_found 18 = .ok (.aload_n 0, 1) := by decide +kernel
theorem dX7_found_19 : decode cX7_found 19 = .ok (.getfield 10, 3) := by decide +kernel
theorem dX7_found_22 : decode cX7_found 22 = .ok (.iload_n 2, 1) := by decide +kernel
theorem dX7_found_23 : decode cX7_found 23 = .ok (.aload_n 0, 1) := by decide +kernel
theorem dX7_found_24 : decode cX7_found 24 = .ok (.getfield 37, 3) := by decide +kernel
theorem dX7_found_27 : decode cX7_found 27 = .ok (.invokevirtual 197, 3) := by decide +kernel
theorem dX7_found_30 : decode cX7_found 30 = .ok (.aload_n 0, 1) := by decide +kernel
theorem dX7_found_31 : decode cX7_found 31 = .ok (.getfield 10, 3) := by decide +kernel
theorem dX7_found_34 : decode cX7_found 34 = .ok (.aload_n 0, 1) := by decide +kernel
theorem dX7_found_35 : decode cX7_found 35 = .ok (.getfield 37, 3) := by decide +kernel
theorem dX7_found_38 : decode cX7_found 38 = .ok (.invokevirtual 208, 3) := by decide +kernel
theorem dX7_found_41 : decode cX7_found 41 = .ok (.ifCond .eq 9, 3) := by decide +kernel
theorem dX7_found_44 : decode cX7_found 44 = .ok (.iload_n 1, 1) := by decide +kernel
theorem dX7_found_45 : decode cX7_found 45 = .ok (.iconst 1, 1) := by decide +kernel
theorem dX7_found_46 : decode cX7_found 46 = .ok (.iload_n 2, 1) := by decide +kernel
theorem dX7_found_47 : decode cX7_found 47 = .ok (.ishl, 1) := by decide +kernel
theorem dX7_found_48 : decode cX7_found 48 = .ok (.ior, 1) := by decide +kernel
theorem dX7_found_49 : decode cX7_found 49 = .ok (.istore_n 1, 1) := by decide +kernel
theorem dX7_found_50 : decode cX7_found 50 = .ok (.iinc 2 1, 3) := by decide +kernel
theorem dX7_found_53 : decode cX7_found 53 = .ok (.goto (-49), 3) := by decide +kernel
theorem dX7_found_56 : decode cX7_found 56 = .ok (.iload_n 1, 1) := by decide +kernel
theorem dX7_found_57 : decode cX7_found 57 = .ok (.ireturn, 1) := by decide +kernel
theorem dX7_nearest_0 : decode cX7_nearest 0 = .ok (.iconst (-1), 1) := by decide +kernel
theorem dX7_nearest_1 : decode cX7_nearest 1 = .ok (.istore_n 1, 1) := by decide +kernel
theorem dX7_nearest_2 : decode cX7_nearest 2 = .ok (.iconst 0, 1) := by decide +kernel
theorem dX7_nearest_3 : decode cX7_nearest 3 = .ok (.istore_n 2, 1) := by decide +kernel
theorem dX7_nearest_4 : decode cX7_nearest 4 = .ok (.iconst 0, 1) := by decide +kernel
theorem dX7_nearest_5 : decode cX7_nearest 5 = .ok (.istore_n 3, 1) := by decide +kernel
theorem dX7_nearest_6 : decode cX7_nearest 6 = .ok (.iload_n 3, 1) := by decide +kernel
theorem dX7_nearest_7 : decode cX7_nearest 7 = .ok (.aload_n 0, 1) := by decide +kernel
theorem dX7_nearest_8 : decode cX7_nearest 8 = .ok (.getfield 10, 3) := by decide +kernel
theorem dX7_nearest_11 : decode cX7_nearest 11 = .ok (.getfield 95, 3) := by decide +kernel
theorem dX7_nearest_14 : decode cX7_nearest 14 = .ok (.getfield 99, 3) := by decide +kernel
theorem dX7_nearest_17 : decode cX7_nearest 17 = .ok (.if_icmp .ge 43, 3) := by decide +kernel
theorem dX7_nearest_20 : decode cX7_nearest 20 = .ok (.aload_n 0, 1) := by decide +kernel
theorem dX7_nearest_21 : decode cX7_nearest 21 = .ok (.getfield 10, 3) := by decide +kernel
theorem dX7_nearest_24 : decode cX7_nearest 24 = .ok (.iload_n 3, 1) := by decide +kernel
theorem dX7_nearest_25 : decode cX7_nearest 25 = .ok (.invokevirtual 212, 3) := by decide +kernel
theorem dX7_nearest_28 : decode cX7_nearest 28 = .ok (.ifCond .eq 26, 3) := by decide +kernel
theorem dX7_nearest_31 : decode cX7_nearest 31 = .ok (.aload_n 0, 1) := by decide +kernel
theorem dX7_nearest_32 : decode cX7_nearest 32 = .ok (.iload_n 3, 1) := by decide +kernel
theorem dX7_nearest_33 : decode cX7_nearest 33 = .ok (.invokevirtual 205, 3) := by decide +kernel
theorem dX7_nearest_36 : decode cX7_nearest 36 = .ok (.istore 4, 2) := by decide +kernel
theorem dX7_nearest_38 : decode cX7_nearest 38 = .ok (.iload_n 1, 1) := by decide +kernel
theorem dX7_nearest_39 : decode cX7_nearest 39 = .ok (.iconst (-1), 1) := by decide +kernel
theorem dX7_nearest_40 : decode cX7_nearest 40 = .ok (.if_icmp .eq 9, 3) := by decide +kernel
theorem dX7_nearest_43 : decode cX7_nearest 43 = .ok (.iload 4, 2) := by decide +kernel
theorem dX7_nearest_45 : decode cX7_nearest 45 = .ok (.iload_n 2, 1) := by decide +kernel
theorem dX7_nearest_46 : decode cX7_nearest 46 = .ok (.if_icmp .ge 8, 3) := by decide +kernel
theorem dX7_nearest_49 : decode cX7_nearest 49 = .ok (.iload_n 3, 1) := by decide +kernel
theorem dX7_nearest_50 : decode cX7_nearest 50 = .ok (.istore_n 1, 1) := by decide +kernel
theorem dX7_nearest_51 : decode cX7_nearest 51 = .ok (.iload 4, 2) := by decide +kernel
theorem dX7_nearest_53 : decode cX7_nearest 53 = .ok (.istore_n 2, 1) := by decide +kernel
theorem dX7_nearest_54 : decode cX7_nearest 54 = .ok (.iinc 3 1, 3) := by decide +kernel
theorem dX7_nearest_57 : decode cX7_nearest 57 = .ok (.goto (-51), 3) := by decide +kernel
theorem dX7_nearest_60 : decode cX7_nearest 60 = .ok (.iload_n 1, 1) := by decide +kernel
theorem dX7_nearest_61 : decode cX7_nearest 61 = .ok (.ireturn, 1) := by decide +kernel
theorem dX7_tour_0 : decode cX7_tour 0 = .ok (.iload_n 1, 1) := by decide +kernel
theorem dX7_tour_1 : decode cX7_tour 1 = .ok (.ifCond .eq 26, 3) := by decide +kernel
theorem dX7_tour_4 : decode cX7_tour 4 = .ok (.iload_n 1, 1) := by decide +kernel
theorem dX7_tour_5 : decode cX7_tour 5 = .ok (.aload_n 0, 1) := by decide +kernel
theorem dX7_tour_6 : decode cX7_tour 6 = .ok (.getfield 10, 3) := by decide +kernel
theorem dX7_tour_9 : decode cX7_tour 9 = .ok (.getfield 95, 3) := by decide +kernel
theorem dX7_tour_12 : decode cX7_tour 12 = .ok (.getfield 99, 3) := by decide +kernel
theorem dX7_tour_15 : decode cX7_tour 15 = .ok (.iushr, 1) := by decide +kernel
theorem dX7_tour_16 : decode cX7_tour 16 = .ok (.ifCond .ne 11, 3) := by decide +kernel
theorem dX7_tour_19 : decode cX7_tour 19 = .ok (.iload_n 1, 1) := by decide +kernel
theorem dX7_tour_20 : decode cX7_tour 20 = .ok (.invokestatic 215, 3) := by decide +kernel
theorem dX7_tour_23 : decode cX7_tour 23 = .ok (.iconst 5, 1) := by decide +kernel
theorem dX7_tour_24 : decode cX7_tour 24 = .ok (.if_icmp .le 13, 3) := by decide +kernel
theorem dX7_tour_27 : decode cX7_tour 27 = .ok (.new 59, 3) := by decide +kernel
theorem dX7_tour_30 : decode cX7_tour 30 = .ok (.dup, 1) := by decide +kernel
theorem dX7_tour_31 : decode cX7_tour 31 = .ok (.ldc 220, 2) := by decide +kernel
theorem dX7_tour_33 : decode cX7_tour 33 = .ok (.invokespecial 63, 3) := by decide +kernel
theorem dX7_tour_36 : decode cX7_tour 36 = .ok (.athrow, 1) := by decide +kernel
theorem dX7_tour_37 : decode cX7_tour 37 = .ok (.iload_n 2, 1) := by decide +kernel
theorem dX7_tour_38 : decode cX7_tour 38 = .ok (.iconst (-1), 1) := by decide +kernel
theorem dX7_tour_39 : decode cX7_tour 39 = .ok (.if_icmp .lt 11, 3) := by decide +kernel
theorem dX7_tour_42 : decode cX7_tour 42 = .ok (.iload_n 2, 1) := by decide +kernel
theorem dX7_tour_43 : decode cX7_tour 43 = .ok (.iload_n 1, 1) := by decide +kernel
theorem dX7_tour_44 : decode cX7_tour 44 = .ok (.invokestatic 215, 3) := by decide +kernel
theorem dX7_tour_47 : decode cX7_tour 47 = .ok (.if_icmp .lt 13, 3) := by decide +kernel
theorem dX7_tour_50 : decode cX7_tour 50 = .ok (.new 112, 3) := by decide +kernel
theorem dX7_tour_53 : decode cX7_tour 53 = .ok (.dup, 1) := by decide +kernel
theorem dX7_tour_54 : decode cX7_tour 54 = .ok (.ldc 222, 2) := by decide +kernel
theorem dX7_tour_56 : decode cX7_tour 56 = .ok (.invokespecial 116, 3) := by decide +kernel
theorem dX7_tour_59 : decode cX7_tour 59 = .ok (.athrow, 1) := by decide +kernel
theorem dX7_tour_60 : decode cX7_tour 60 = .ok (.aload_n 0, 1) := by decide +kernel
theorem dX7_tour_61 : decode cX7_tour 61 = .ok (.getfield 44, 3) := by decide +kernel
theorem dX7_tour_64 : decode cX7_tour 64 = .ok (.aload_n 0, 1) := by decide +kernel
theorem dX7_tour_65 : decode cX7_tour 65 = .ok (.getfield 10, 3) := by decide +kernel
theorem dX7_tour_68 : decode cX7_tour 68 = .ok (.iload_n 1, 1) := by decide +kernel
theorem dX7_tour_69 : decode cX7_tour 69 = .ok (.invokevirtual 224, 3) := by decide +kernel
theorem dX7_tour_72 : decode cX7_tour 72 = .ok (.iload_n 2, 1) := by decide +kernel
theorem dX7_tour_73 : decode cX7_tour 73 = .ok (.iconst (-1), 1) := by decide +kernel
theorem dX7_tour_74 : decode cX7_tour 74 = .ok (.if_icmp .ne 13, 3) := by decide +kernel
theorem dX7_tour_77 : decode cX7_tour 77 = .ok (.aload_n 0, 1) := by decide +kernel
theorem dX7_tour_78 : decode cX7_tour 78 = .ok (.getfield 44, 3) := by decide +kernel
theorem dX7_tour_81 : decode cX7_tour 81 = .ok (.getfield 228, 3) := by decide +kernel
theorem dX7_tour_84 : decode cX7_tour 84 = .ok (.goto 11, 3) := by decide +kernel
theorem dX7_tour_87 : decode cX7_tour 87 = .ok (.aload_n 0, 1) := by decide +kernel
theorem dX7_tour_88 : decode cX7_tour 88 = .ok (.getfield 44, 3) := by decide +kernel
theorem dX7_tour_91 : decode cX7_tour 91 = .ok (.iload_n 2, 1) := by decide +kernel
theorem dX7_tour_92 : decode cX7_tour 92 = .ok (.invokevirtual 231, 3) := by decide +kernel
theorem dX7_tour_95 : decode cX7_tour 95 = .ok (.ireturn, 1) := by decide +kernel
theorem dX7_undo_0 : decode cX7_undo 0 = .ok (.aload_n 0, 1) := by decide +kernel
theorem dX7_undo_1 : decode cX7_undo 1 = .ok (.getfield 23, 3) := by decide +kernel
theorem dX7_undo_4 : decode cX7_undo 4 = .ok (.ifCond .ne 14, 3) := by decide +kernel
theorem dX7_undo_7 : decode cX7_undo 7 = .ok (.new 70, 3) := by decide +kernel
theorem dX7_undo_10 : decode cX7_undo 10 = .ok (.dup, 1) := by decide +kernel
theorem dX7_undo_11 : decode cX7_undo 11 = .ok (.ldc_w 257, 3) := by decide +kernel
theorem dX7_undo_14 : decode cX7_undo 14 = .ok (.invokespecial 74, 3) := by decide +kernel
theorem dX7_undo_17 : decode cX7_undo 17 = .ok (.athrow, 1) := by decide +kernel
theorem dX7_undo_18 : decode cX7_undo 18 = .ok (.aload_n 0, 1) := by decide +kernel
theorem dX7_undo_19 : decode cX7_undo 19 = .ok (.dup, 1) := by decide +kernel
theorem dX7_undo_20 : decode cX7_undo 20 = .ok (.getfield 23, 3) := by decide +kernel
theorem dX7_undo_23 : decode cX7_undo 23 = .ok (.iconst 1, 1) := by decide +kernel
theorem dX7_undo_24 : decode cX7_undo 24 = .ok (.isub, 1) := by decide +kernel
theorem dX7_undo_25 : decode cX7_undo 25 = .ok (.putfield 23, 3) := by decide +kernel
theorem dX7_undo_28 : decode cX7_undo 28 = .ok (.aload_n 0, 1) := by decide +kernel
theorem dX7_undo_29 : decode cX7_undo 29 = .ok (.getfield 10, 3) := by decide +kernel
theorem dX7_undo_32 : decode cX7_undo 32 = .ok (.aload_n 0, 1) := by decide +kernel
theorem dX7_undo_33 : decode cX7_undo 33 = .ok (.getfield 19, 3) := by decide +kernel
theorem dX7_undo_36 : decode cX7_undo 36 = .ok (.aload_n 0, 1) := by decide +kernel
theorem dX7_undo_37 : decode cX7_undo 37 = .ok (.getfield 23, 3) := by decide +kernel
theorem dX7_undo_40 : decode cX7_undo 40 = .ok (.aaload, 1) := by decide +kernel
theorem dX7_undo_41 : decode cX7_undo 41 = .ok (.invokevirtual 139, 3) := by decide +kernel
theorem dX7_undo_44 : decode cX7_undo 44 = .ok (.aload_n 0, 1) := by decide +kernel
theorem dX7_undo_45 : decode cX7_undo 45 = .ok (.getfield 23, 3) := by decide +kernel
theorem dX7_undo_48 : decode cX7_undo 48 = .ok (.ireturn, 1) := by decide +kernel
theorem dX7_isStar_0 : decode cX7_isStar 0 = .ok (.iload_n 1, 1) := by decide +kernel
theorem dX7_isStar_1 : decode cX7_isStar 1 = .ok (.ifCond .lt 21, 3) := by decide +kernel
theorem dX7_isStar_4 : decode cX7_isStar 4 = .ok (.iload_n 1, 1) := by decide +kernel
theorem dX7_isStar_5 : decode cX7_isStar 5 = .ok (.aload_n 0, 1) := by decide +kernel
theorem dX7_isStar_6 : decode cX7_isStar 6 = .ok (.getfield 10, 3) := by decide +kernel
theorem dX7_isStar_9 : decode cX7_isStar 9 = .ok (.getfield 95, 3) := by decide +kernel
theorem dX7_isStar_12 : decode cX7_isStar 12 = .ok (.getfield 99, 3) := by decide +kernel
theorem dX7_isStar_15 : decode cX7_isStar 15 = .ok (.if_icmp .ge 7, 3) := by decide +kernel
theorem dX7_isStar_18 : decode cX7_isStar 18 = .ok (.iconst 1, 1) := by decide +kernel
theorem dX7_isStar_19 : decode cX7_isStar 19 = .ok (.goto 4, 3) := by decide +kernel
theorem dX7_isStar_22 : decode cX7_isStar 22 = .ok (.iconst 0, 1) := by decide +kernel
theorem dX7_isStar_23 : decode cX7_isStar 23 = .ok (.ireturn, 1) := by decide +kernel
theorem dX7_isRegion_0 : decode cX7_isRegion 0 = .ok (.iload_n 0, 1) := by decide +kernel
theorem dX7_isRegion_1 : decode cX7_isRegion 1 = .ok (.ifCond .lt 13, 3) := by decide +kernel
theorem dX7_isRegion_4 : decode cX7_isRegion 4 = .ok (.iload_n 0, 1) := by decide +kernel
theorem dX7_isRegion_5 : decode cX7_isRegion 5 = .ok (.bipush 24, 2) := by decide +kernel
theorem dX7_isRegion_7 : decode cX7_isRegion 7 = .ok (.if_icmp .ge 7, 3) := by decide +kernel
theorem dX7_isRegion_10 : decode cX7_isRegion 10 = .ok (.iconst 1, 1) := by decide +kernel
theorem dX7_isRegion_11 : decode cX7_isRegion 11 = .ok (.goto 4, 3) := by decide +kernel
theorem dX7_isRegion_14 : decode cX7_isRegion 14 = .ok (.iconst 0, 1) := by decide +kernel
theorem dX7_isRegion_15 : decode cX7_isRegion 15 = .ok (.ireturn, 1) := by decide +kernel
theorem dX7_isSetting_0 : decode cX7_isSetting 0 = .ok (.iload_n 0, 1) := by decide +kernel
theorem dX7_isSetting_1 : decode cX7_isSetting 1 = .ok (.ifCond .lt 12, 3) := by decide +kernel
theorem dX7_isSetting_4 : decode cX7_isSetting 4 = .ok (.iload_n 0, 1) := by decide +kernel
theorem dX7_isSetting_5 : decode cX7_isSetting 5 = .ok (.iconst 5, 1) := by decide +kernel
theorem dX7_isSetting_6 : decode cX7_isSetting 6 = .ok (.if_icmp .ge 7, 3) := by decide +kernel
theorem dX7_isSetting_9 : decode cX7_isSetting 9 = .ok (.iconst 1, 1) := by decide +kernel
theorem dX7_isSetting_10 : decode cX7_isSetting 10 = .ok (.goto 4, 3) := by decide +kernel
theorem dX7_isSetting_13 : decode cX7_isSetting 13 = .ok (.iconst 0, 1) := by decide +kernel
theorem dX7_isSetting_14 : decode cX7_isSetting 14 = .ok (.ireturn, 1) := by decide +kernel
theorem dX7_isBend_0 : decode cX7_isBend 0 = .ok (.iload_n 0, 1) := by decide +kernel
theorem dX7_isBend_1 : decode cX7_isBend 1 = .ok (.ifCond .lt 21, 3) := by decide +kernel
theorem dX7_isBend_4 : decode cX7_isBend 4 = .ok (.iload_n 0, 1) := by decide +kernel
theorem dX7_isBend_5 : decode cX7_isBend 5 = .ok (.iconst 2, 1) := by decide +kernel
theorem dX7_isBend_6 : decode cX7_isBend 6 = .ok (.if_icmp .ge 16, 3) := by decide +kernel
theorem dX7_isBend_9 : decode cX7_isBend 9 = .ok (.iload_n 1, 1) := by decide +kernel
theorem dX7_isBend_10 : decode cX7_isBend 10 = .ok (.ifCond .lt 12, 3) := by decide +kernel
theorem dX7_isBend_13 : decode cX7_isBend 13 = .ok (.iload_n 1, 1) := by decide +kernel
theorem dX7_isBend_14 : decode cX7_isBend 14 = .ok (.iconst 4, 1) := by decide +kernel
theorem dX7_isBend_15 : decode cX7_isBend 15 = .ok (.if_icmp .ge 7, 3) := by decide +kernel
theorem dX7_isBend_18 : decode cX7_isBend 18 = .ok (.iconst 1, 1) := by decide +kernel
theorem dX7_isBend_19 : decode cX7_isBend 19 = .ok (.goto 4, 3) := by decide +kernel
theorem dX7_isBend_22 : decode cX7_isBend 22 = .ok (.iconst 0, 1) := by decide +kernel
theorem dX7_isBend_23 : decode cX7_isBend 23 = .ok (.ireturn, 1) := by decide +kernel
theorem dX7_bendIndex_0 : decode cX7_bendIndex 0 = .ok (.iconst 4, 1) := by decide +kernel
theorem dX7_bendIndex_1 : decode cX7_bendIndex 1 = .ok (.iload_n 0, 1) := by decide +kernel
theorem dX7_bendIndex_2 : decode cX7_bendIndex 2 = .ok (.imul, 1) := by decide +kernel
theorem dX7_bendIndex_3 : decode cX7_bendIndex 3 = .ok (.iload_n 1, 1) := by decide +kernel
theorem dX7_bendIndex_4 : decode cX7_bendIndex 4 = .ok (.iadd, 1) := by decide +kernel
theorem dX7_bendIndex_5 : decode cX7_bendIndex 5 = .ok (.ireturn, 1) := by decide +kernel
theorem dX7_crossesLimits_0 : decode cX7_crossesLimits 0 = .ok (.iload_n 1, 1) := by decide +kernel
theorem dX7_crossesLimits_1 : decode cX7_crossesLimits 1 = .ok (.iconst 3, 1) := by decide +kernel
theorem dX7_crossesLimits_2 : decode cX7_crossesLimits 2 = .ok (.if_icmp .ne 16, 3) := by decide +kernel
theorem dX7_crossesLimits_5 : decode cX7_crossesLimits 5 = .ok (.iload_n 2, 1) := by decide +kernel
theorem dX7_crossesLimits_6 : decode cX7_crossesLimits 6 = .ok (.aload_n 0, 1) := by decide +kernel
theorem dX7_crossesLimits_7 : decode cX7_crossesLimits 7 = .ok (.getfield 10, 3) := by decide +kernel
theorem dX7_crossesLimits_10 : decode cX7_crossesLimits 10 = .ok (.getfield 78, 3) := by decide +kernel
theorem dX7_crossesLimits_13 : decode cX7_crossesLimits 13 = .ok (.iconst 4, 1) := by decide +kernel
theorem dX7_crossesLimits_14 : decode cX7_crossesLimits 14 = .ok (.iaload, 1) := by decide +kernel
theorem dX7_crossesLimits_15 : decode cX7_crossesLimits 15 = .ok (.if_icmp .gt 21, 3) := by decide +kernel
theorem dX7_crossesLimits_18 : decode cX7_crossesLimits 18 = .ok (.iload_n 1, 1) := by decide +kernel
theorem dX7_crossesLimits_19 : decode cX7_crossesLimits 19 = .ok (.iconst 4, 1) := by decide +kernel
theorem dX7_crossesLimits_20 : decode cX7_crossesLimits 20 = .ok (.if_icmp .ne 20, 3) := by decide +kernel
theorem dX7_crossesLimits_23 : decode cX7_crossesLimits 23 = .ok (.iload_n 2, 1) := by decide +kernel
theorem dX7_crossesLimits_24 : decode cX7_crossesLimits 24 = .ok (.aload_n 0, 1) := by decide +kernel
theorem dX7_crossesLimits_25 : decode cX7_crossesLimits 25 = .ok (.getfield 10, 3) := by decide +kernel
theorem dX7_crossesLimits_28 : decode cX7_crossesLimits 28 = .ok (.getfield 78, 3) := by decide +kernel
theorem dX7_crossesLimits_31 : decode cX7_crossesLimits 31 = .ok (.iconst 3, 1) := by decide +kernel
theorem dX7_crossesLimits_32 : decode cX7_crossesLimits 32 = .ok (.iaload, 1) := by decide +kernel
theorem dX7_crossesLimits_33 : decode cX7_crossesLimits 33 = .ok (.if_icmp .ge 7, 3) := by decide +kernel
theorem dX7_crossesLimits_36 : decode cX7_crossesLimits 36 = .ok (.iconst 1, 1) := by decide +kernel
theorem dX7_crossesLimits_37 : decode cX7_crossesLimits 37 = .ok (.goto 4, 3) := by decide +kernel
theorem dX7_crossesLimits_40 : decode cX7_crossesLimits 40 = .ok (.iconst 0, 1) := by decide +kernel
theorem dX7_crossesLimits_41 : decode cX7_crossesLimits 41 = .ok (.ireturn, 1) := by decide +kernel
theorem dX7_timeNow_0 : decode cX7_timeNow 0 = .ok (.aload_n 0, 1) := by decide +kernel
theorem dX7_timeNow_1 : decode cX7_timeNow 1 = .ok (.getfield 10, 3) := by decide +kernel
theorem dX7_timeNow_4 : decode cX7_timeNow 4 = .ok (.iload_n 1, 1) := by decide +kernel
theorem dX7_timeNow_5 : decode cX7_timeNow 5 = .ok (.aload_n 0, 1) := by decide +kernel
theorem dX7_timeNow_6 : decode cX7_timeNow 6 = .ok (.getfield 37, 3) := by decide +kernel
theorem dX7_timeNow_9 : decode cX7_timeNow 9 = .ok (.invokevirtual 197, 3) := by decide +kernel
theorem dX7_timeNow_12 : decode cX7_timeNow 12 = .ok (.aload_n 0, 1) := by decide +kernel
theorem dX7_timeNow_13 : decode cX7_timeNow 13 = .ok (.getfield 10, 3) := by decide +kernel
theorem dX7_timeNow_16 : decode cX7_timeNow 16 = .ok (.getfield 275, 3) := by decide +kernel
theorem dX7_timeNow_19 : decode cX7_timeNow 19 = .ok (.aload_n 0, 1) := by decide +kernel
theorem dX7_timeNow_20 : decode cX7_timeNow 20 = .ok (.getfield 37, 3) := by decide +kernel
theorem dX7_timeNow_23 : decode cX7_timeNow 23 = .ok (.aload_n 0, 1) := by decide +kernel
theorem dX7_timeNow_24 : decode cX7_timeNow 24 = .ok (.getfield 10, 3) := by decide +kernel
theorem dX7_timeNow_27 : decode cX7_timeNow 27 = .ok (.getfield 78, 3) := by decide +kernel
theorem dX7_timeNow_30 : decode cX7_timeNow 30 = .ok (.iconst 0, 1) := by decide +kernel
theorem dX7_timeNow_31 : decode cX7_timeNow 31 = .ok (.iaload, 1) := by decide +kernel
theorem dX7_timeNow_32 : decode cX7_timeNow 32 = .ok (.invokevirtual 279, 3) := by decide +kernel
theorem dX7_timeNow_35 : decode cX7_timeNow 35 = .ok (.ireturn, 1) := by decide +kernel
theorem dX7_saveState_0 : decode cX7_saveState 0 = .ok (.aload_n 0, 1) := by decide +kernel
theorem dX7_saveState_1 : decode cX7_saveState 1 = .ok (.getfield 23, 3) := by decide +kernel
theorem dX7_saveState_4 : decode cX7_saveState 4 = .ok (.iconst 4, 1) := by decide +kernel
theorem dX7_saveState_5 : decode cX7_saveState 5 = .ok (.if_icmp .ne 7, 3) := by decide +kernel
theorem dX7_saveState_8 : decode cX7_saveState 8 = .ok (.aload_n 0, 1) := by decide +kernel
theorem dX7_saveState_9 : decode cX7_saveState 9 = .ok (.invokevirtual 285, 3) := by decide +kernel
theorem dX7_saveState_12 : decode cX7_saveState 12 = .ok (.aload_n 0, 1) := by decide +kernel
theorem dX7_saveState_13 : decode cX7_saveState 13 = .ok (.getfield 19, 3) := by decide +kernel
theorem dX7_saveState_16 : decode cX7_saveState 16 = .ok (.aload_n 0, 1) := by decide +kernel
theorem dX7_saveState_17 : decode cX7_saveState 17 = .ok (.getfield 23, 3) := by decide +kernel
theorem dX7_saveState_20 : decode cX7_saveState 20 = .ok (.aaload, 1) := by decide +kernel
theorem dX7_saveState_21 : decode cX7_saveState 21 = .ok (.aload_n 0, 1) := by decide +kernel
theorem dX7_saveState_22 : decode cX7_saveState 22 = .ok (.getfield 10, 3) := by decide +kernel
theorem dX7_saveState_25 : decode cX7_saveState 25 = .ok (.invokevirtual 139, 3) := by decide +kernel
theorem dX7_saveState_28 : decode cX7_saveState 28 = .ok (.aload_n 0, 1) := by decide +kernel
theorem dX7_saveState_29 : decode cX7_saveState 29 = .ok (.dup, 1) := by decide +kernel
theorem dX7_saveState_30 : decode cX7_saveState 30 = .ok (.getfield 23, 3) := by decide +kernel
theorem dX7_saveState_33 : decode cX7_saveState 33 = .ok (.iconst 1, 1) := by decide +kernel
theorem dX7_saveState_34 : decode cX7_saveState 34 = .ok (.iadd, 1) := by decide +kernel
theorem dX7_saveState_35 : decode cX7_saveState 35 = .ok (.putfield 23, 3) := by decide +kernel
theorem dX7_saveState_38 : decode cX7_saveState 38 = .ok (.return_, 1) := by decide +kernel
theorem dX7_dropOldest_0 : decode cX7_dropOldest 0 = .ok (.aload_n 0, 1) := by decide +kernel
theorem dX7_dropOldest_1 : decode cX7_dropOldest 1 = .ok (.getfield 19, 3) := by decide +kernel
theorem dX7_dropOldest_4 : decode cX7_dropOldest 4 = .ok (.iconst 0, 1) := by decide +kernel
theorem dX7_dropOldest_5 : decode cX7_dropOldest 5 = .ok (.aaload, 1) := by decide +kernel
theorem dX7_dropOldest_6 : decode cX7_dropOldest 6 = .ok (.astore_n 1, 1) := by decide +kernel
theorem dX7_dropOldest_7 : decode cX7_dropOldest 7 = .ok (.iconst 1, 1) := by decide +kernel
theorem dX7_dropOldest_8 : decode cX7_dropOldest 8 = .ok (.istore_n 2, 1) := by decide +kernel
theorem dX7_dropOldest_9 : decode cX7_dropOldest 9 = .ok (.iload_n 2, 1) := by decide +kernel
theorem dX7_dropOldest_10 : decode cX7_dropOldest 10 = .ok (.iconst 4, 1) := by decide +kernel
theorem dX7_dropOldest_11 : decode cX7_dropOldest 11 = .ok (.if_icmp .ge 23, 3) := by decide +kernel
theorem dX7_dropOldest_14 : decode cX7_dropOldest 14 = .ok (.aload_n 0, 1) := by decide +kernel
theorem dX7_dropOldest_15 : decode cX7_dropOldest 15 = .ok (.getfield 19, 3) := by decide +kernel
theorem dX7_dropOldest_18 : decode cX7_dropOldest 18 = .ok (.iload_n 2, 1) := by decide +kernel
theorem dX7_dropOldest_19 : decode cX7_dropOldest 19 = .ok (.iconst 1, 1) := by decide +kernel
theorem dX7_dropOldest_20 : decode cX7_dropOldest 20 = .ok (.isub, 1) := by decide +kernel
theorem dX7_dropOldest_21 : decode cX7_dropOldest 21 = .ok (.aload_n 0, 1) := by decide +kernel
theorem dX7_dropOldest_22 : decode cX7_dropOldest 22 = .ok (.getfield 19, 3) := by decide +kernel
theorem dX7_dropOldest_25 : decode cX7_dropOldest 25 = .ok (.iload_n 2, 1) := by decide +kernel
theorem dX7_dropOldest_26 : decode cX7_dropOldest 26 = .ok (.aaload, 1) := by decide +kernel
theorem dX7_dropOldest_27 : decode cX7_dropOldest 27 = .ok (.aastore, 1) := by decide +kernel
theorem dX7_dropOldest_28 : decode cX7_dropOldest 28 = .ok (.iinc 2 1, 3) := by decide +kernel
theorem dX7_dropOldest_31 : decode cX7_dropOldest 31 = .ok (.goto (-22), 3) := by decide +kernel
theorem dX7_dropOldest_34 : decode cX7_dropOldest 34 = .ok (.aload_n 0, 1) := by decide +kernel
theorem dX7_dropOldest_35 : decode cX7_dropOldest 35 = .ok (.getfield 19, 3) := by decide +kernel
theorem dX7_dropOldest_38 : decode cX7_dropOldest 38 = .ok (.iconst 3, 1) := by decide +kernel
theorem dX7_dropOldest_39 : decode cX7_dropOldest 39 = .ok (.aload_n 1, 1) := by decide +kernel
theorem dX7_dropOldest_40 : decode cX7_dropOldest 40 = .ok (.aastore, 1) := by decide +kernel
theorem dX7_dropOldest_41 : decode cX7_dropOldest 41 = .ok (.aload_n 0, 1) := by decide +kernel
theorem dX7_dropOldest_42 : decode cX7_dropOldest 42 = .ok (.dup, 1) := by decide +kernel
theorem dX7_dropOldest_43 : decode cX7_dropOldest 43 = .ok (.getfield 23, 3) := by decide +kernel
theorem dX7_dropOldest_46 : decode cX7_dropOldest 46 = .ok (.iconst 1, 1) := by decide +kernel
theorem dX7_dropOldest_47 : decode cX7_dropOldest 47 = .ok (.isub, 1) := by decide +kernel
theorem dX7_dropOldest_48 : decode cX7_dropOldest 48 = .ok (.putfield 23, 3) := by decide +kernel
theorem dX7_dropOldest_51 : decode cX7_dropOldest 51 = .ok (.return_, 1) := by decide +kernel
theorem dX7_withoutSign_0 : decode cX7_withoutSign 0 = .ok (.dload_n 0, 1) := by decide +kernel
theorem dX7_withoutSign_1 : decode cX7_withoutSign 1 = .ok (.dconst 0, 1) := by decide +kernel
theorem dX7_withoutSign_2 : decode cX7_withoutSign 2 = .ok (.dcmp .g, 1) := by decide +kernel
theorem dX7_withoutSign_3 : decode cX7_withoutSign 3 = .ok (.ifCond .ge 8, 3) := by decide +kernel
theorem dX7_withoutSign_6 : decode cX7_withoutSign 6 = .ok (.dload_n 0, 1) := by decide +kernel
theorem dX7_withoutSign_7 : decode cX7_withoutSign 7 = .ok (.dneg, 1) := by decide +kernel
theorem dX7_withoutSign_8 : decode cX7_withoutSign 8 = .ok (.goto 4, 3) := by decide +kernel
theorem dX7_withoutSign_11 : decode cX7_withoutSign 11 = .ok (.dload_n 0, 1) := by decide +kernel
theorem dX7_withoutSign_12 : decode cX7_withoutSign 12 = .ok (.dreturn, 1) := by decide +kernel
theorem dX7_rounded_0 : decode cX7_rounded 0 = .ok (.dload_n 0, 1) := by decide +kernel
theorem dX7_rounded_1 : decode cX7_rounded 1 = .ok (.dconst 0, 1) := by decide +kernel
theorem dX7_rounded_2 : decode cX7_rounded 2 = .ok (.dcmp .l, 1) := by decide +kernel
theorem dX7_rounded_3 : decode cX7_rounded 3 = .ok (.ifCond .lt 12, 3) := by decide +kernel
theorem dX7_rounded_6 : decode cX7_rounded 6 = .ok (.dload_n 0, 1) := by decide +kernel
theorem dX7_rounded_7 : decode cX7_rounded 7 = .ok (.ldc2_w 304, 3) := by decide +kernel
theorem dX7_rounded_10 : decode cX7_rounded 10 = .ok (.dadd, 1) := by decide +kernel
theorem dX7_rounded_11 : decode cX7_rounded 11 = .ok (.d2i, 1) := by decide +kernel
theorem dX7_rounded_12 : decode cX7_rounded 12 = .ok (.goto 10, 3) := by decide +kernel
theorem dX7_rounded_15 : decode cX7_rounded 15 = .ok (.ldc2_w 304, 3) := by decide +kernel
theorem dX7_rounded_18 : decode cX7_rounded 18 = .ok (.dload_n 0, 1) := by decide +kernel
theorem dX7_rounded_19 : decode cX7_rounded 19 = .ok (.dsub, 1) := by decide +kernel
theorem dX7_rounded_20 : decode cX7_rounded 20 = .ok (.d2i, 1) := by decide +kernel
theorem dX7_rounded_21 : decode cX7_rounded 21 = .ok (.ineg, 1) := by decide +kernel
theorem dX7_rounded_22 : decode cX7_rounded 22 = .ok (.ireturn, 1) := by decide +kernel
theorem dX7_dividedUp_0 : decode cX7_dividedUp 0 = .ok (.iload_n 1, 1) := by decide +kernel
theorem dX7_dividedUp_1 : decode cX7_dividedUp 1 = .ok (.iconst 1, 1) := by decide +kernel
theorem dX7_dividedUp_2 : decode cX7_dividedUp 2 = .ok (.if_icmp .ge 7, 3) := by decide +kernel
theorem dX7_dividedUp_5 : decode cX7_dividedUp 5 = .ok (.iconst 0, 1) := by decide +kernel
theorem dX7_dividedUp_6 : decode cX7_dividedUp 6 = .ok (.goto 10, 3) := by decide +kernel
theorem dX7_dividedUp_9 : decode cX7_dividedUp 9 = .ok (.iload_n 0, 1) := by decide +kernel
theorem dX7_dividedUp_10 : decode cX7_dividedUp 10 = .ok (.iload_n 1, 1) := by decide +kernel
theorem dX7_dividedUp_11 : decode cX7_dividedUp 11 = .ok (.iadd, 1) := by decide +kernel
theorem dX7_dividedUp_12 : decode cX7_dividedUp 12 = .ok (.iconst 1, 1) := by decide +kernel
theorem dX7_dividedUp_13 : decode cX7_dividedUp 13 = .ok (.isub, 1) := by decide +kernel
theorem dX7_dividedUp_14 : decode cX7_dividedUp 14 = .ok (.iload_n 1, 1) := by decide +kernel
theorem dX7_dividedUp_15 : decode cX7_dividedUp 15 = .ok (.idiv, 1) := by decide +kernel
theorem dX7_dividedUp_16 : decode cX7_dividedUp 16 = .ok (.ireturn, 1) := by decide +kernel
theorem dX7_nearestTurn_0 : decode cX7_nearestTurn 0 = .ok (.iload_n 1, 1) := by decide +kernel
theorem dX7_nearestTurn_1 : decode cX7_nearestTurn 1 = .ok (.sipush 21600, 3) := by decide +kernel
theorem dX7_nearestTurn_4 : decode cX7_nearestTurn 4 = .ok (.isub, 1) := by decide +kernel
theorem dX7_nearestTurn_5 : decode cX7_nearestTurn 5 = .ok (.istore_n 2, 1) := by decide +kernel
theorem dX7_nearestTurn_6 : decode cX7_nearestTurn 6 = .ok (.iload_n 2, 1) := by decide +kernel
theorem dX7_nearestTurn_7 : decode cX7_nearestTurn 7 = .ok (.sipush (-16200), 3) := by decide +kernel
theorem dX7_nearestTurn_10 : decode cX7_nearestTurn 10 = .ok (.if_icmp .ge 5, 3) := by decide +kernel
theorem dX7_nearestTurn_13 : decode cX7_nearestTurn 13 = .ok (.iload_n 1, 1) := by decide +kernel
theorem dX7_nearestTurn_14 : decode cX7_nearestTurn 14 = .ok (.ireturn, 1) := by decide +kernel
theorem dX7_nearestTurn_15 : decode cX7_nearestTurn 15 = .ok (.iload_n 1, 1) := by decide +kernel
theorem dX7_nearestTurn_16 : decode cX7_nearestTurn 16 = .ok (.sipush 16200, 3) := by decide +kernel
theorem dX7_nearestTurn_19 : decode cX7_nearestTurn 19 = .ok (.if_icmp .le 5, 3) := by decide +kernel
theorem dX7_nearestTurn_22 : decode cX7_nearestTurn 22 = .ok (.iload_n 2, 1) := by decide +kernel
theorem dX7_nearestTurn_23 : decode cX7_nearestTurn 23 = .ok (.ireturn, 1) := by decide +kernel
theorem dX7_nearestTurn_24 : decode cX7_nearestTurn 24 = .ok (.iload_n 1, 1) := by decide +kernel
theorem dX7_nearestTurn_25 : decode cX7_nearestTurn 25 = .ok (.iload_n 0, 1) := by decide +kernel
theorem dX7_nearestTurn_26 : decode cX7_nearestTurn 26 = .ok (.isub, 1) := by decide +kernel
theorem dX7_nearestTurn_27 : decode cX7_nearestTurn 27 = .ok (.invokestatic 306, 3) := by decide +kernel
theorem dX7_nearestTurn_30 : decode cX7_nearestTurn 30 = .ok (.iload_n 2, 1) := by decide +kernel
theorem dX7_nearestTurn_31 : decode cX7_nearestTurn 31 = .ok (.iload_n 0, 1) := by decide +kernel
theorem dX7_nearestTurn_32 : decode cX7_nearestTurn 32 = .ok (.isub, 1) := by decide +kernel
theorem dX7_nearestTurn_33 : decode cX7_nearestTurn 33 = .ok (.invokestatic 306, 3) := by decide +kernel
theorem dX7_nearestTurn_36 : decode cX7_nearestTurn 36 = .ok (.if_icmp .ge 7, 3) := by decide +kernel
theorem dX7_nearestTurn_39 : decode cX7_nearestTurn 39 = .ok (.iload_n 1, 1) := by decide +kernel
theorem dX7_nearestTurn_40 : decode cX7_nearestTurn 40 = .ok (.goto 4, 3) := by decide +kernel
theorem dX7_nearestTurn_43 : decode cX7_nearestTurn 43 = .ok (.iload_n 2, 1) := by decide +kernel
theorem dX7_nearestTurn_44 : decode cX7_nearestTurn 44 = .ok (.ireturn, 1) := by decide +kernel
theorem dJ6_bitCount_0f7a4_0 : decode cJ6_bitCount_0f7a4 0 = .ok (.iload_n 0, 1) := by decide +kernel
theorem dJ6_bitCount_0f7a4_1 : decode cJ6_bitCount_0f7a4 1 = .ok (.iload_n 0, 1) := by decide +kernel
theorem dJ6_bitCount_0f7a4_2 : decode cJ6_bitCount_0f7a4 2 = .ok (.iconst 1, 1) := by decide +kernel
theorem dJ6_bitCount_0f7a4_3 : decode cJ6_bitCount_0f7a4 3 = .ok (.iushr, 1) := by decide +kernel
theorem dJ6_bitCount_0f7a4_4 : decode cJ6_bitCount_0f7a4 4 = .ok (.ldc_w 265, 3) := by decide +kernel
theorem dJ6_bitCount_0f7a4_7 : decode cJ6_bitCount_0f7a4 7 = .ok (.iand, 1) := by decide +kernel
theorem dJ6_bitCount_0f7a4_8 : decode cJ6_bitCount_0f7a4 8 = .ok (.isub, 1) := by decide +kernel
theorem dJ6_bitCount_0f7a4_9 : decode cJ6_bitCount_0f7a4 9 = .ok (.istore_n 0, 1) := by decide +kernel
theorem dJ6_bitCount_0f7a4_10 : decode cJ6_bitCount_0f7a4 10 = .ok (.iload_n 0, 1) := by decide +kernel
theorem dJ6_bitCount_0f7a4_11 : decode cJ6_bitCount_0f7a4 11 = .ok (.ldc_w 266, 3) := by decide +kernel
theorem dJ6_bitCount_0f7a4_14 : decode cJ6_bitCount_0f7a4 14 = .ok (.iand, 1) := by decide +kernel
theorem dJ6_bitCount_0f7a4_15 : decode cJ6_bitCount_0f7a4 15 = .ok (.iload_n 0, 1) := by decide +kernel
theorem dJ6_bitCount_0f7a4_16 : decode cJ6_bitCount_0f7a4 16 = .ok (.iconst 2, 1) := by decide +kernel
theorem dJ6_bitCount_0f7a4_17 : decode cJ6_bitCount_0f7a4 17 = .ok (.iushr, 1) := by decide +kernel
theorem dJ6_bitCount_0f7a4_18 : decode cJ6_bitCount_0f7a4 18 = .ok (.ldc_w 266, 3) := by decide +kernel
theorem dJ6_bitCount_0f7a4_21 : decode cJ6_bitCount_0f7a4 21 = .ok (.iand, 1) := by decide +kernel
theorem dJ6_bitCount_0f7a4_22 : decode cJ6_bitCount_0f7a4 22 = .ok (.iadd, 1) := by decide +kernel
theorem dJ6_bitCount_0f7a4_23 : decode cJ6_bitCount_0f7a4 23 = .ok (.istore_n 0, 1) := by decide +kernel
theorem dJ6_bitCount_0f7a4_24 : decode cJ6_bitCount_0f7a4 24 = .ok (.iload_n 0, 1) := by decide +kernel
theorem dJ6_bitCount_0f7a4_25 : decode cJ6_bitCount_0f7a4 25 = .ok (.iload_n 0, 1) := by decide +kernel
theorem dJ6_bitCount_0f7a4_26 : decode cJ6_bitCount_0f7a4 26 = .ok (.iconst 4, 1) := by decide +kernel
theorem dJ6_bitCount_0f7a4_27 : decode cJ6_bitCount_0f7a4 27 = .ok (.iushr, 1) := by decide +kernel
theorem dJ6_bitCount_0f7a4_28 : decode cJ6_bitCount_0f7a4 28 = .ok (.iadd, 1) := by decide +kernel
theorem dJ6_bitCount_0f7a4_29 : decode cJ6_bitCount_0f7a4 29 = .ok (.ldc_w 267, 3) := by decide +kernel
theorem dJ6_bitCount_0f7a4_32 : decode cJ6_bitCount_0f7a4 32 = .ok (.iand, 1) := by decide +kernel
theorem dJ6_bitCount_0f7a4_33 : decode cJ6_bitCount_0f7a4 33 = .ok (.istore_n 0, 1) := by decide +kernel
theorem dJ6_bitCount_0f7a4_34 : decode cJ6_bitCount_0f7a4 34 = .ok (.iload_n 0, 1) := by decide +kernel
theorem dJ6_bitCount_0f7a4_35 : decode cJ6_bitCount_0f7a4 35 = .ok (.iload_n 0, 1) := by decide +kernel
theorem dJ6_bitCount_0f7a4_36 : decode cJ6_bitCount_0f7a4 36 = .ok (.bipush 8, 2) := by decide +kernel
theorem dJ6_bitCount_0f7a4_38 : decode cJ6_bitCount_0f7a4 38 = .ok (.iushr, 1) := by decide +kernel
theorem dJ6_bitCount_0f7a4_39 : decode cJ6_bitCount_0f7a4 39 = .ok (.iadd, 1) := by decide +kernel
theorem dJ6_bitCount_0f7a4_40 : decode cJ6_bitCount_0f7a4 40 = .ok (.istore_n 0, 1) := by decide +kernel
theorem dJ6_bitCount_0f7a4_41 : decode cJ6_bitCount_0f7a4 41 = .ok (.iload_n 0, 1) := by decide +kernel
theorem dJ6_bitCount_0f7a4_42 : decode cJ6_bitCount_0f7a4 42 = .ok (.iload_n 0, 1) := by decide +kernel
theorem dJ6_bitCount_0f7a4_43 : decode cJ6_bitCount_0f7a4 43 = .ok (.bipush 16, 2) := by decide +kernel
theorem dJ6_bitCount_0f7a4_45 : decode cJ6_bitCount_0f7a4 45 = .ok (.iushr, 1) := by decide +kernel
theorem dJ6_bitCount_0f7a4_46 : decode cJ6_bitCount_0f7a4 46 = .ok (.iadd, 1) := by decide +kernel
theorem dJ6_bitCount_0f7a4_47 : decode cJ6_bitCount_0f7a4 47 = .ok (.istore_n 0, 1) := by decide +kernel
theorem dJ6_bitCount_0f7a4_48 : decode cJ6_bitCount_0f7a4 48 = .ok (.iload_n 0, 1) := by decide +kernel
theorem dJ6_bitCount_0f7a4_49 : decode cJ6_bitCount_0f7a4 49 = .ok (.bipush 63, 2) := by decide +kernel
theorem dJ6_bitCount_0f7a4_51 : decode cJ6_bitCount_0f7a4 51 = .ok (.iand, 1) := by decide +kernel
theorem dJ6_bitCount_0f7a4_52 : decode cJ6_bitCount_0f7a4 52 = .ok (.ireturn, 1) := by decide +kernel
theorem dJ9_floorMod_7cf53_0 : decode cJ9_floorMod_7cf53 0 = .ok (.iload_n 0, 1) := by decide +kernel
theorem dJ9_floorMod_7cf53_1 : decode cJ9_floorMod_7cf53 1 = .ok (.iload_n 1, 1) := by decide +kernel
theorem dJ9_floorMod_7cf53_2 : decode cJ9_floorMod_7cf53 2 = .ok (.irem, 1) := by decide +kernel
theorem dJ9_floorMod_7cf53_3 : decode cJ9_floorMod_7cf53 3 = .ok (.istore_n 2, 1) := by decide +kernel
theorem dJ9_floorMod_7cf53_4 : decode cJ9_floorMod_7cf53 4 = .ok (.iload_n 0, 1) := by decide +kernel
theorem dJ9_floorMod_7cf53_5 : decode cJ9_floorMod_7cf53 5 = .ok (.iload_n 1, 1) := by decide +kernel
theorem dJ9_floorMod_7cf53_6 : decode cJ9_floorMod_7cf53 6 = .ok (.ixor, 1) := by decide +kernel
theorem dJ9_floorMod_7cf53_7 : decode cJ9_floorMod_7cf53 7 = .ok (.ifCond .ge 11, 3) := by decide +kernel
theorem dJ9_floorMod_7cf53_10 : decode cJ9_floorMod_7cf53 10 = .ok (.iload_n 2, 1) := by decide +kernel
theorem dJ9_floorMod_7cf53_11 : decode cJ9_floorMod_7cf53 11 = .ok (.ifCond .eq 7, 3) := by decide +kernel
theorem dJ9_floorMod_7cf53_14 : decode cJ9_floorMod_7cf53 14 = .ok (.iload_n 2, 1) := by decide +kernel
theorem dJ9_floorMod_7cf53_15 : decode cJ9_floorMod_7cf53 15 = .ok (.iload_n 1, 1) := by decide +kernel
theorem dJ9_floorMod_7cf53_16 : decode cJ9_floorMod_7cf53 16 = .ok (.iadd, 1) := by decide +kernel
theorem dJ9_floorMod_7cf53_17 : decode cJ9_floorMod_7cf53 17 = .ok (.ireturn, 1) := by decide +kernel
theorem dJ9_floorMod_7cf53_18 : decode cJ9_floorMod_7cf53 18 = .ok (.iload_n 2, 1) := by decide +kernel
theorem dJ9_floorMod_7cf53_19 : decode cJ9_floorMod_7cf53 19 = .ok (.ireturn, 1) := by decide +kernel
theorem dJ9_abs_0f7a4_0 : decode cJ9_abs_0f7a4 0 = .ok (.iload_n 0, 1) := by decide +kernel
theorem dJ9_abs_0f7a4_1 : decode cJ9_abs_0f7a4 1 = .ok (.ifCond .ge 8, 3) := by decide +kernel
theorem dJ9_abs_0f7a4_4 : decode cJ9_abs_0f7a4 4 = .ok (.iload_n 0, 1) := by decide +kernel
theorem dJ9_abs_0f7a4_5 : decode cJ9_abs_0f7a4 5 = .ok (.ineg, 1) := by decide +kernel
theorem dJ9_abs_0f7a4_6 : decode cJ9_abs_0f7a4 6 = .ok (.goto 4, 3) := by decide +kernel
theorem dJ9_abs_0f7a4_9 : decode cJ9_abs_0f7a4 9 = .ok (.iload_n 0, 1) := by decide +kernel
theorem dJ9_abs_0f7a4_10 : decode cJ9_abs_0f7a4 10 = .ok (.ireturn, 1) := by decide +kernel
theorem dJ9_max_7cf53_0 : decode cJ9_max_7cf53 0 = .ok (.iload_n 0, 1) := by decide +kernel
theorem dJ9_max_7cf53_1 : decode cJ9_max_7cf53 1 = .ok (.iload_n 1, 1) := by decide +kernel
theorem dJ9_max_7cf53_2 : decode cJ9_max_7cf53 2 = .ok (.if_icmp .lt 7, 3) := by decide +kernel
theorem dJ9_max_7cf53_5 : decode cJ9_max_7cf53 5 = .ok (.iload_n 0, 1) := by decide +kernel
theorem dJ9_max_7cf53_6 : decode cJ9_max_7cf53 6 = .ok (.goto 4, 3) := by decide +kernel
theorem dJ9_max_7cf53_9 : decode cJ9_max_7cf53 9 = .ok (.iload_n 1, 1) := by decide +kernel
theorem dJ9_max_7cf53_10 : decode cJ9_max_7cf53 10 = .ok (.ireturn, 1) := by decide +kernel
theorem dJ9_min_7cf53_0 : decode cJ9_min_7cf53 0 = .ok (.iload_n 0, 1) := by decide +kernel
theorem dJ9_min_7cf53_1 : decode cJ9_min_7cf53 1 = .ok (.iload_n 1, 1) := by decide +kernel
theorem dJ9_min_7cf53_2 : decode cJ9_min_7cf53 2 = .ok (.if_icmp .gt 7, 3) := by decide +kernel
theorem dJ9_min_7cf53_5 : decode cJ9_min_7cf53 5 = .ok (.iload_n 0, 1) := by decide +kernel
theorem dJ9_min_7cf53_6 : decode cJ9_min_7cf53 6 = .ok (.goto 4, 3) := by decide +kernel
theorem dJ9_min_7cf53_9 : decode cJ9_min_7cf53 9 = .ok (.iload_n 1, 1) := by decide +kernel
theorem dJ9_min_7cf53_10 : decode cJ9_min_7cf53 10 = .ok (.ireturn, 1) := by decide +kernel
