theorem dL_lot_0 : decode cL_lot 0 = .ok (.iload_n 1, 1) := by decide +kernel
theorem dL_lot_1 : decode cL_lot 1 = .ok (.aload_n 0, 1) := by decide +kernel
theorem dL_lot_2 : decode cL_lot 2 = .ok (.arraylength, 1) := by decide +kernel
theorem dL_lot_3 : decode cL_lot 3 = .ok (.if_icmp .ge 9, 3) := by decide +kernel
theorem dL_lot_6 : decode cL_lot 6 = .ok (.aload_n 0, 1) := by decide +kernel
theorem dL_lot_7 : decode cL_lot 7 = .ok (.iload_n 1, 1) := by decide +kernel
theorem dL_lot_8 : decode cL_lot 8 = .ok (.iaload, 1) := by decide +kernel
theorem dL_lot_9 : decode cL_lot 9 = .ok (.goto 15, 3) := by decide +kernel
theorem dL_lot_12 : decode cL_lot 12 = .ok (.ldc 7, 2) := by decide +kernel
theorem dL_lot_14 : decode cL_lot 14 = .ok (.iload_n 1, 1) := by decide +kernel
theorem dL_lot_15 : decode cL_lot 15 = .ok (.sipush 2441, 3) := by decide +kernel
theorem dL_lot_18 : decode cL_lot 18 = .ok (.iadd, 1) := by decide +kernel
theorem dL_lot_19 : decode cL_lot 19 = .ok (.imul, 1) := by decide +kernel
theorem dL_lot_20 : decode cL_lot 20 = .ok (.sipush 2251, 3) := by decide +kernel
theorem dL_lot_23 : decode cL_lot 23 = .ok (.iadd, 1) := by decide +kernel
theorem dL_lot_24 : decode cL_lot 24 = .ok (.ireturn, 1) := by decide +kernel
theorem dL_low_0 : decode cL_low 0 = .ok (.iload_n 0, 1) := by decide +kernel
theorem dL_low_1 : decode cL_low 1 = .ok (.ldc 8, 2) := by decide +kernel
theorem dL_low_3 : decode cL_low 3 = .ok (.iand, 1) := by decide +kernel
theorem dL_low_4 : decode cL_low 4 = .ok (.iload_n 1, 1) := by decide +kernel
theorem dL_low_5 : decode cL_low 5 = .ok (.irem, 1) := by decide +kernel
theorem dL_low_6 : decode cL_low 6 = .ok (.ireturn, 1) := by decide +kernel
theorem dL_aim_0 : decode cL_aim 0 = .ok (.aload_n 0, 1) := by decide +kernel
theorem dL_aim_1 : decode cL_aim 1 = .ok (.iload_n 1, 1) := by decide +kernel
theorem dL_aim_2 : decode cL_aim 2 = .ok (.invokevirtual 9, 3) := by decide +kernel
theorem dL_aim_5 : decode cL_aim 5 = .ok (.ireturn, 1) := by decide +kernel
theorem dL_aim_6 : decode cL_aim 6 = .ok (.astore_n 2, 1) := by decide +kernel
theorem dL_aim_7 : decode cL_aim 7 = .ok (.sipush (-903), 3) := by decide +kernel
theorem dL_aim_10 : decode cL_aim 10 = .ok (.ireturn, 1) := by decide +kernel
theorem dL_aim_11 : decode cL_aim 11 = .ok (.astore_n 2, 1) := by decide +kernel
theorem dL_aim_12 : decode cL_aim 12 = .ok (.sipush (-902), 3) := by decide +kernel
theorem dL_aim_15 : decode cL_aim 15 = .ok (.ireturn, 1) := by decide +kernel
theorem dL_learn_0 : decode cL_learn 0 = .ok (.aload_n 0, 1) := by decide +kernel
theorem dL_learn_1 : decode cL_learn 1 = .ok (.invokevirtual 19, 3) := by decide +kernel
theorem dL_learn_4 : decode cL_learn 4 = .ok (.ireturn, 1) := by decide +kernel
theorem dL_learn_5 : decode cL_learn 5 = .ok (.astore_n 1, 1) := by decide +kernel
theorem dL_learn_6 : decode cL_learn 6 = .ok (.sipush (-902), 3) := by decide +kernel
theorem dL_learn_9 : decode cL_learn 9 = .ok (.ireturn, 1) := by decide +kernel
theorem dL_learnAll_0 : decode cL_learnAll 0 = .ok (.aload_n 0, 1) := by decide +kernel
theorem dL_learnAll_1 : decode cL_learnAll 1 = .ok (.invokevirtual 23, 3) := by decide +kernel
theorem dL_learnAll_4 : decode cL_learnAll 4 = .ok (.ireturn, 1) := by decide +kernel
theorem dL_learnAll_5 : decode cL_learnAll 5 = .ok (.astore_n 1, 1) := by decide +kernel
theorem dL_learnAll_6 : decode cL_learnAll 6 = .ok (.sipush (-902), 3) := by decide +kernel
theorem dL_learnAll_9 : decode cL_learnAll 9 = .ok (.ireturn, 1) := by decide +kernel
theorem dL_set_0 : decode cL_set 0 = .ok (.aload_n 0, 1) := by decide +kernel
theorem dL_set_1 : decode cL_set 1 = .ok (.iload_n 1, 1) := by decide +kernel
theorem dL_set_2 : decode cL_set 2 = .ok (.iload_n 2, 1) := by decide +kernel
theorem dL_set_3 : decode cL_set 3 = .ok (.invokevirtual 26, 3) := by decide +kernel
theorem dL_set_6 : decode cL_set 6 = .ok (.ireturn, 1) := by decide +kernel
theorem dL_set_7 : decode cL_set 7 = .ok (.astore_n 3, 1) := by decide +kernel
theorem dL_set_8 : decode cL_set 8 = .ok (.sipush (-901), 3) := by decide +kernel
theorem dL_set_11 : decode cL_set 11 = .ok (.ireturn, 1) := by decide +kernel
theorem dL_set_12 : decode cL_set 12 = .ok (.astore_n 3, 1) := by decide +kernel
theorem dL_set_13 : decode cL_set 13 = .ok (.sipush (-902), 3) := by decide +kernel
theorem dL_set_16 : decode cL_set 16 = .ok (.ireturn, 1) := by decide +kernel
theorem dL_setBend_0 : decode cL_setBend 0 = .ok (.aload_n 0, 1) := by decide +kernel
theorem dL_setBend_1 : decode cL_setBend 1 = .ok (.iload_n 1, 1) := by decide +kernel
theorem dL_setBend_2 : decode cL_setBend 2 = .ok (.iload_n 2, 1) := by decide +kernel
theorem dL_setBend_3 : decode cL_setBend 3 = .ok (.iload_n 3, 1) := by decide +kernel
theorem dL_setBend_4 : decode cL_setBend 4 = .ok (.invokevirtual 32, 3) := by decide +kernel
theorem dL_setBend_7 : decode cL_setBend 7 = .ok (.ireturn, 1) := by decide +kernel
theorem dL_setBend_8 : decode cL_setBend 8 = .ok (.astore 4, 2) := by decide +kernel
theorem dL_setBend_10 : decode cL_setBend 10 = .ok (.sipush (-901), 3) := by decide +kernel
theorem dL_setBend_13 : decode cL_setBend 13 = .ok (.ireturn, 1) := by decide +kernel
theorem dL_star_0 : decode cL_star 0 = .ok (.aload_n 0, 1) := by decide +kernel
theorem dL_star_1 : decode cL_star 1 = .ok (.iload_n 1, 1) := by decide +kernel
theorem dL_star_2 : decode cL_star 2 = .ok (.iload_n 2, 1) := by decide +kernel
theorem dL_star_3 : decode cL_star 3 = .ok (.invokevirtual 36, 3) := by decide +kernel
theorem dL_star_6 : decode cL_star 6 = .ok (.ireturn, 1) := by decide +kernel
theorem dL_star_7 : decode cL_star 7 = .ok (.astore_n 3, 1) := by decide +kernel
theorem dL_star_8 : decode cL_star 8 = .ok (.sipush (-903), 3) := by decide +kernel
theorem dL_star_11 : decode cL_star 11 = .ok (.ireturn, 1) := by decide +kernel
theorem dL_star_12 : decode cL_star 12 = .ok (.astore_n 3, 1) := by decide +kernel
theorem dL_star_13 : decode cL_star 13 = .ok (.sipush (-901), 3) := by decide +kernel
theorem dL_star_16 : decode cL_star 16 = .ok (.ireturn, 1) := by decide +kernel
theorem dL_tour_0 : decode cL_tour 0 = .ok (.aload_n 0, 1) := by decide +kernel
theorem dL_tour_1 : decode cL_tour 1 = .ok (.iload_n 1, 1) := by decide +kernel
theorem dL_tour_2 : decode cL_tour 2 = .ok (.iload_n 2, 1) := by decide +kernel
theorem dL_tour_3 : decode cL_tour 3 = .ok (.invokevirtual 39, 3) := by decide +kernel
theorem dL_tour_6 : decode cL_tour 6 = .ok (.ireturn, 1) := by decide +kernel
theorem dL_tour_7 : decode cL_tour 7 = .ok (.astore_n 3, 1) := by decide +kernel
theorem dL_tour_8 : decode cL_tour 8 = .ok (.sipush (-901), 3) := by decide +kernel
theorem dL_tour_11 : decode cL_tour 11 = .ok (.ireturn, 1) := by decide +kernel
theorem dL_tour_12 : decode cL_tour 12 = .ok (.astore_n 3, 1) := by decide +kernel
theorem dL_tour_13 : decode cL_tour 13 = .ok (.sipush (-903), 3) := by decide +kernel
theorem dL_tour_16 : decode cL_tour 16 = .ok (.ireturn, 1) := by decide +kernel
theorem dL_undo_0 : decode cL_undo 0 = .ok (.aload_n 0, 1) := by decide +kernel
theorem dL_undo_1 : decode cL_undo 1 = .ok (.invokevirtual 42, 3) := by decide +kernel
theorem dL_undo_4 : decode cL_undo 4 = .ok (.ireturn, 1) := by decide +kernel
theorem dL_undo_5 : decode cL_undo 5 = .ok (.astore_n 1, 1) := by decide +kernel
theorem dL_undo_6 : decode cL_undo 6 = .ok (.sipush (-902), 3) := by decide +kernel
theorem dL_undo_9 : decode cL_undo 9 = .ok (.ireturn, 1) := by decide +kernel
theorem dL_apart_0 : decode cL_apart 0 = .ok (.iload_n 0, 1) := by decide +kernel
theorem dL_apart_1 : decode cL_apart 1 = .ok (.iconst 3, 1) := by decide +kernel
theorem dL_apart_2 : decode cL_apart 2 = .ok (.idiv, 1) := by decide +kernel
theorem dL_apart_3 : decode cL_apart 3 = .ok (.iload_n 1, 1) := by decide +kernel
theorem dL_apart_4 : decode cL_apart 4 = .ok (.iconst 3, 1) := by decide +kernel
theorem dL_apart_5 : decode cL_apart 5 = .ok (.idiv, 1) := by decide +kernel
theorem dL_apart_6 : decode cL_apart 6 = .ok (.if_icmp .ge 13, 3) := by decide +kernel
theorem dL_apart_9 : decode cL_apart 9 = .ok (.iload_n 1, 1) := by decide +kernel
theorem dL_apart_10 : decode cL_apart 10 = .ok (.iconst 3, 1) := by decide +kernel
theorem dL_apart_11 : decode cL_apart 11 = .ok (.idiv, 1) := by decide +kernel
theorem dL_apart_12 : decode cL_apart 12 = .ok (.iload_n 0, 1) := by decide +kernel
theorem dL_apart_13 : decode cL_apart 13 = .ok (.iconst 3, 1) := by decide +kernel
theorem dL_apart_14 : decode cL_apart 14 = .ok (.idiv, 1) := by decide +kernel
theorem dL_apart_15 : decode cL_apart 15 = .ok (.isub, 1) := by decide +kernel
theorem dL_apart_16 : decode cL_apart 16 = .ok (.goto 10, 3) := by decide +kernel
theorem dL_apart_19 : decode cL_apart 19 = .ok (.iload_n 0, 1) := by decide +kernel
theorem dL_apart_20 : decode cL_apart 20 = .ok (.iconst 3, 1) := by decide +kernel
theorem dL_apart_21 : decode cL_apart 21 = .ok (.idiv, 1) := by decide +kernel
theorem dL_apart_22 : decode cL_apart 22 = .ok (.iload_n 1, 1) := by decide +kernel
theorem dL_apart_23 : decode cL_apart 23 = .ok (.iconst 3, 1) := by decide +kernel
theorem dL_apart_24 : decode cL_apart 24 = .ok (.idiv, 1) := by decide +kernel
theorem dL_apart_25 : decode cL_apart 25 = .ok (.isub, 1) := by decide +kernel
theorem dL_apart_26 : decode cL_apart 26 = .ok (.istore_n 2, 1) := by decide +kernel
theorem dL_apart_27 : decode cL_apart 27 = .ok (.iload_n 0, 1) := by decide +kernel
theorem dL_apart_28 : decode cL_apart 28 = .ok (.iconst 3, 1) := by decide +kernel
theorem dL_apart_29 : decode cL_apart 29 = .ok (.irem, 1) := by decide +kernel
theorem dL_apart_30 : decode cL_apart 30 = .ok (.iload_n 1, 1) := by decide +kernel
theorem dL_apart_31 : decode cL_apart 31 = .ok (.iconst 3, 1) := by decide +kernel
theorem dL_apart_32 : decode cL_apart 32 = .ok (.irem, 1) := by decide +kernel
theorem dL_apart_33 : decode cL_apart 33 = .ok (.if_icmp .ge 13, 3) := by decide +kernel
theorem dL_apart_36 : decode cL_apart 36 = .ok (.iload_n 1, 1) := by decide +kernel
theorem dL_apart_37 : decode cL_apart 37 = .ok (.iconst 3, 1) := by decide +kernel
theorem dL_apart_38 : decode cL_apart 38 = .ok (.irem, 1) := by decide +kernel
theorem dL_apart_39 : decode cL_apart 39 = .ok (.iload_n 0, 1) := by decide +kernel
theorem dL_apart_40 : decode cL_apart 40 = .ok (.iconst 3, 1) := by decide +kernel
theorem dL_apart_41 : decode cL_apart 41 = .ok (.irem, 1) := by decide +kernel
theorem dL_apart_42 : decode cL_apart 42 = .ok (.isub, 1) := by decide +kernel
theorem dL_apart_43 : decode cL_apart 43 = .ok (.goto 10, 3) := by decide +kernel
theorem dL_apart_46 : decode cL_apart 46 = .ok (.iload_n 0, 1) := by decide +kernel
theorem dL_apart_47 : decode cL_apart 47 = .ok (.iconst 3, 1) := by decide +kernel
theorem dL_apart_48 : decode cL_apart 48 = .ok (.irem, 1) := by decide +kernel
theorem dL_apart_49 : decode cL_apart 49 = .ok (.iload_n 1, 1) := by decide +kernel
theorem dL_apart_50 : decode cL_apart 50 = .ok (.iconst 3, 1) := by decide +kernel
theorem dL_apart_51 : decode cL_apart 51 = .ok (.irem, 1) := by decide +kernel
theorem dL_apart_52 : decode cL_apart 52 = .ok (.isub, 1) := by decide +kernel
theorem dL_apart_53 : decode cL_apart 53 = .ok (.istore_n 3, 1) := by decide +kernel
theorem dL_apart_54 : decode cL_apart 54 = .ok (.iload_n 2, 1) := by decide +kernel
theorem dL_apart_55 : decode cL_apart 55 = .ok (.iconst 4, 1) := by decide +kernel
theorem dL_apart_56 : decode cL_apart 56 = .ok (.if_icmp .le 10, 3) := by decide +kernel
theorem dL_apart_59 : decode cL_apart 59 = .ok (.bipush 8, 2) := by decide +kernel
theorem dL_apart_61 : decode cL_apart 61 = .ok (.iload_n 2, 1) := by decide +kernel
theorem dL_apart_62 : decode cL_apart 62 = .ok (.isub, 1) := by decide +kernel
theorem dL_apart_63 : decode cL_apart 63 = .ok (.goto 4, 3) := by decide +kernel
theorem dL_apart_66 : decode cL_apart 66 = .ok (.iload_n 2, 1) := by decide +kernel
theorem dL_apart_67 : decode cL_apart 67 = .ok (.iload_n 3, 1) := by decide +kernel
theorem dL_apart_68 : decode cL_apart 68 = .ok (.iadd, 1) := by decide +kernel
theorem dL_apart_69 : decode cL_apart 69 = .ok (.ireturn, 1) := by decide +kernel
theorem dL_size_0 : decode cL_size 0 = .ok (.dload_n 0, 1) := by decide +kernel
theorem dL_size_1 : decode cL_size 1 = .ok (.dconst 0, 1) := by decide +kernel
theorem dL_size_2 : decode cL_size 2 = .ok (.dcmp .g, 1) := by decide +kernel
theorem dL_size_3 : decode cL_size 3 = .ok (.ifCond .ge 8, 3) := by decide +kernel
theorem dL_size_6 : decode cL_size 6 = .ok (.dload_n 0, 1) := by decide +kernel
theorem dL_size_7 : decode cL_size 7 = .ok (.dneg, 1) := by decide +kernel
theorem dL_size_8 : decode cL_size 8 = .ok (.goto 4, 3) := by decide +kernel
theorem dL_size_11 : decode cL_size 11 = .ok (.dload_n 0, 1) := by decide +kernel
theorem dL_size_12 : decode cL_size 12 = .ok (.dreturn, 1) := by decide +kernel
theorem dL_regions_0 : decode cL_regions 0 = .ok (.iconst 0, 1) := by decide +kernel
theorem dL_regions_1 : decode cL_regions 1 = .ok (.istore_n 1, 1) := by decide +kernel
theorem dL_regions_2 : decode cL_regions 2 = .ok (.iconst 0, 1) := by decide +kernel
theorem dL_regions_3 : decode cL_regions 3 = .ok (.istore_n 2, 1) := by decide +kernel
theorem dL_regions_4 : decode cL_regions 4 = .ok (.iconst 0, 1) := by decide +kernel
theorem dL_regions_5 : decode cL_regions 5 = .ok (.istore_n 3, 1) := by decide +kernel
theorem dL_regions_6 : decode cL_regions 6 = .ok (.iload_n 3, 1) := by decide +kernel
theorem dL_regions_7 : decode cL_regions 7 = .ok (.bipush 24, 2) := by decide +kernel
theorem dL_regions_9 : decode cL_regions 9 = .ok (.if_icmp .ge 239, 3) := by decide +kernel
theorem dL_regions_12 : decode cL_regions 12 = .ok (.aload_n 0, 1) := by decide +kernel
theorem dL_regions_13 : decode cL_regions 13 = .ok (.iload_n 3, 1) := by decide +kernel
theorem dL_regions_14 : decode cL_regions 14 = .ok (.invokevirtual 45, 3) := by decide +kernel
theorem dL_regions_17 : decode cL_regions 17 = .ok (.istore 4, 2) := by decide +kernel
theorem dL_regions_19 : decode cL_regions 19 = .ok (.iload_n 1, 1) := by decide +kernel
theorem dL_regions_20 : decode cL_regions 20 = .ok (.aload_n 0, 1) := by decide +kernel
theorem dL_regions_21 : decode cL_regions 21 = .ok (.iload_n 3, 1) := by decide +kernel
theorem dL_regions_22 : decode cL_regions 22 = .ok (.invokevirtual 48, 3) := by decide +kernel
theorem dL_regions_25 : decode cL_regions 25 = .ok (.iadd, 1) := by decide +kernel
theorem dL_regions_26 : decode cL_regions 26 = .ok (.istore_n 1, 1) := by decide +kernel
theorem dL_regions_27 : decode cL_regions 27 = .ok (.iload_n 2, 1) := by decide +kernel
theorem dL_regions_28 : decode cL_regions 28 = .ok (.aload_n 0, 1) := by decide +kernel
theorem dL_regions_29 : decode cL_regions 29 = .ok (.iload_n 3, 1) := by decide +kernel
theorem dL_regions_30 : decode cL_regions 30 = .ok (.invokevirtual 48, 3) := by decide +kernel
theorem dL_regions_33 : decode cL_regions 33 = .ok (.ifCond .le 7, 3) := by decide +kernel
theorem dL_regions_36 : decode cL_regions 36 = .ok (.iconst 1, 1) := by decide +kernel
theorem dL_regions_37 : decode cL_regions 37 = .ok (.goto 4, 3) := by decide +kernel
theorem dL_regions_40 : decode cL_regions 40 = .ok (.iconst 0, 1) := by decide +kernel
theorem dL_regions_41 : decode cL_regions 41 = .ok (.iadd, 1) := by decide +kernel
theorem dL_regions_42 : decode cL_regions 42 = .ok (.istore_n 2, 1) := by decide +kernel
theorem dL_regions_43 : decode cL_regions 43 = .ok (.aload_n 0, 1) := by decide +kernel
theorem dL_regions_44 : decode cL_regions 44 = .ok (.iload_n 3, 1) := by decide +kernel
theorem dL_regions_45 : decode cL_regions 45 = .ok (.invokevirtual 48, 3) := by decide +kernel
theorem dL_regions_48 : decode cL_regions 48 = .ok (.ifCond .lt 122, 3) := by decide +kernel
theorem dL_regions_51 : decode cL_regions 51 = .ok (.aload_n 0, 1) := by decide +kernel
theorem dL_regions_52 : decode cL_regions 52 = .ok (.iload_n 3, 1) := by decide +kernel
theorem dL_regions_53 : decode cL_regions 53 = .ok (.invokevirtual 48, 3) := by decide +kernel
theorem dL_regions_56 : decode cL_regions 56 = .ok (.ifCond .le 9, 3) := by decide +kernel
theorem dL_regions_59 : decode cL_regions 59 = .ok (.iload 4, 2) := by decide +kernel
theorem dL_regions_61 : decode cL_regions 61 = .ok (.iload_n 3, 1) := by decide +kernel
theorem dL_regions_62 : decode cL_regions 62 = .ok (.if_icmp .ne 108, 3) := by decide +kernel
theorem dL_regions_65 : decode cL_regions 65 = .ok (.iload 4, 2) := by decide +kernel
theorem dL_regions_67 : decode cL_regions 67 = .ok (.iconst (-1), 1) := by decide +kernel
theorem dL_regions_68 : decode cL_regions 68 = .ok (.if_icmp .ne 7, 3) := by decide +kernel
theorem dL_regions_71 : decode cL_regions 71 = .ok (.iconst 1, 1) := by decide +kernel
theorem dL_regions_72 : decode cL_regions 72 = .ok (.goto 4, 3) := by decide +kernel
theorem dL_regions_75 : decode cL_regions 75 = .ok (.iconst 0, 1) := by decide +kernel
theorem dL_regions_76 : decode cL_regions 76 = .ok (.aload_n 0, 1) := by decide +kernel
theorem dL_regions_77 : decode cL_regions 77 = .ok (.bipush 9, 2) := by decide +kernel
theorem dL_regions_79 : decode cL_regions 79 = .ok (.invokevirtual 53, 3) := by decide +kernel
theorem dL_regions_82 : decode cL_regions 82 = .ok (.ifCond .ne 7, 3) := by decide +kernel
theorem dL_regions_85 : decode cL_regions 85 = .ok (.iconst 1, 1) := by decide +kernel
theorem dL_regions_86 : decode cL_regions 86 = .ok (.goto 4, 3) := by decide +kernel
theorem dL_regions_89 : decode cL_regions 89 = .ok (.iconst 0, 1) := by decide +kernel
theorem dL_regions_90 : decode cL_regions 90 = .ok (.if_icmp .ne 80, 3) := by decide +kernel
theorem dL_regions_93 : decode cL_regions 93 = .ok (.iload 4, 2) := by decide +kernel
theorem dL_regions_95 : decode cL_regions 95 = .ok (.iconst (-1), 1) := by decide +kernel
theorem dL_regions_96 : decode cL_regions 96 = .ok (.if_icmp .eq 46, 3) := by decide +kernel
theorem dL_regions_99 : decode cL_regions 99 = .ok (.aload_n 0, 1) := by decide +kernel
theorem dL_regions_100 : decode cL_regions 100 = .ok (.iload 4, 2) := by decide +kernel
theorem dL_regions_102 : decode cL_regions 102 = .ok (.invokevirtual 48, 3) := by decide +kernel
theorem dL_regions_105 : decode cL_regions 105 = .ok (.ifCond .eq 65, 3) := by decide +kernel
theorem dL_regions_108 : decode cL_regions 108 = .ok (.aload_n 0, 1) := by decide +kernel
theorem dL_regions_109 : decode cL_regions 109 = .ok (.iload_n 3, 1) := by decide +kernel
theorem dL_regions_110 : decode cL_regions 110 = .ok (.iconst 1, 1) := by decide +kernel
theorem dL_regions_111 : decode cL_regions 111 = .ok (.invokevirtual 56, 3) := by decide +kernel
theorem dL_regions_114 : decode cL_regions 114 = .ok (.aload_n 0, 1) := by decide +kernel
theorem dL_regions_115 : decode cL_regions 115 = .ok (.iload 4, 2) := by decide +kernel
theorem dL_regions_117 : decode cL_regions 117 = .ok (.iconst 1, 1) := by decide +kernel
theorem dL_regions_118 : decode cL_regions 118 = .ok (.invokevirtual 56, 3) := by decide +kernel
theorem dL_regions_121 : decode cL_regions 121 = .ok (.dcmp .l, 1) := by decide +kernel
theorem dL_regions_122 : decode cL_regions 122 = .ok (.ifCond .ne 48, 3) := by decide +kernel
theorem dL_regions_125 : decode cL_regions 125 = .ok (.aload_n 0, 1) := by decide +kernel
theorem dL_regions_126 : decode cL_regions 126 = .ok (.iload_n 3, 1) := by decide +kernel
theorem dL_regions_127 : decode cL_regions 127 = .ok (.iconst 0, 1) := by decide +kernel
theorem dL_regions_128 : decode cL_regions 128 = .ok (.invokevirtual 56, 3) := by decide +kernel
theorem dL_regions_131 : decode cL_regions 131 = .ok (.aload_n 0, 1) := by decide +kernel
theorem dL_regions_132 : decode cL_regions 132 = .ok (.iload 4, 2) := by decide +kernel
theorem dL_regions_134 : decode cL_regions 134 = .ok (.iconst 0, 1) := by decide +kernel
theorem dL_regions_135 : decode cL_regions 135 = .ok (.invokevirtual 56, 3) := by decide +kernel
theorem dL_regions_138 : decode cL_regions 138 = .ok (.dcmp .l, 1) := by decide +kernel
theorem dL_regions_139 : decode cL_regions 139 = .ok (.ifCond .ne 31, 3) := by decide +kernel
theorem dL_regions_142 : decode cL_regions 142 = .ok (.iload 4, 2) := by decide +kernel
theorem dL_regions_144 : decode cL_regions 144 = .ok (.iconst (-1), 1) := by decide +kernel
theorem dL_regions_145 : decode cL_regions 145 = .ok (.if_icmp .ne 27, 3) := by decide +kernel
theorem dL_regions_148 : decode cL_regions 148 = .ok (.aload_n 0, 1) := by decide +kernel
theorem dL_regions_149 : decode cL_regions 149 = .ok (.iload_n 3, 1) := by decide +kernel
theorem dL_regions_150 : decode cL_regions 150 = .ok (.iconst 1, 1) := by decide +kernel
theorem dL_regions_151 : decode cL_regions 151 = .ok (.invokevirtual 56, 3) := by decide +kernel
theorem dL_regions_154 : decode cL_regions 154 = .ok (.dconst 0, 1) := by decide +kernel
theorem dL_regions_155 : decode cL_regions 155 = .ok (.dcmp .l, 1) := by decide +kernel
theorem dL_regions_156 : decode cL_regions 156 = .ok (.ifCond .ne 14, 3) := by decide +kernel
theorem dL_regions_159 : decode cL_regions 159 = .ok (.aload_n 0, 1) := by decide +kernel
theorem dL_regions_160 : decode cL_regions 160 = .ok (.iload_n 3, 1) := by decide +kernel
theorem dL_regions_161 : decode cL_regions 161 = .ok (.iconst 0, 1) := by decide +kernel
theorem dL_regions_162 : decode cL_regions 162 = .ok (.invokevirtual 56, 3) := by decide +kernel
theorem dL_regions_165 : decode cL_regions 165 = .ok (.dconst 0, 1) := by decide +kernel
theorem dL_regions_166 : decode cL_regions 166 = .ok (.dcmp .l, 1) := by decide +kernel
theorem dL_regions_167 : decode cL_regions 167 = .ok (.ifCond .eq 5, 3) := by decide +kernel
theorem dL_regions_170 : decode cL_regions 170 = .ok (.iconst 0, 1) := by decide +kernel
theorem dL_regions_171 : decode cL_regions 171 = .ok (.ireturn, 1) := by decide +kernel
theorem dL_regions_172 : decode cL_regions 172 = .ok (.iconst 0, 1) := by decide +kernel
theorem dL_regions_173 : decode cL_regions 173 = .ok (.istore 5, 2) := by decide +kernel
theorem dL_regions_175 : decode cL_regions 175 = .ok (.iload 5, 2) := by decide +kernel
theorem dL_regions_177 : decode cL_regions 177 = .ok (.bipush 24, 2) := by decide +kernel
theorem dL_regions_179 : decode cL_regions 179 = .ok (.if_icmp .ge 63, 3) := by decide +kernel
theorem dL_regions_182 : decode cL_regions 182 = .ok (.iload 4, 2) := by decide +kernel
theorem dL_regions_184 : decode cL_regions 184 = .ok (.iconst (-1), 1) := by decide +kernel
theorem dL_regions_185 : decode cL_regions 185 = .ok (.if_icmp .eq 57, 3) := by decide +kernel
theorem dL_regions_188 : decode cL_regions 188 = .ok (.aload_n 0, 1) := by decide +kernel
theorem dL_regions_189 : decode cL_regions 189 = .ok (.iload 5, 2) := by decide +kernel
theorem dL_regions_191 : decode cL_regions 191 = .ok (.invokevirtual 48, 3) := by decide +kernel
theorem dL_regions_194 : decode cL_regions 194 = .ok (.ifCond .le 42, 3) := by decide +kernel
theorem dL_regions_197 : decode cL_regions 197 = .ok (.iload_n 3, 1) := by decide +kernel
theorem dL_regions_198 : decode cL_regions 198 = .ok (.iload 5, 2) := by decide +kernel
theorem dL_regions_200 : decode cL_regions 200 = .ok (.invokestatic 60, 3) := by decide +kernel
theorem dL_regions_203 : decode cL_regions 203 = .ok (.iload_n 3, 1) := by decide +kernel
theorem dL_regions_204 : decode cL_regions 204 = .ok (.iload 4, 2) := by decide +kernel
theorem dL_regions_206 : decode cL_regions 206 = .ok (.invokestatic 60, 3) := by decide +kernel
theorem dL_regions_209 : decode cL_regions 209 = .ok (.if_icmp .lt 25, 3) := by decide +kernel
theorem dL_regions_212 : decode cL_regions 212 = .ok (.iload_n 3, 1) := by decide +kernel
theorem dL_regions_213 : decode cL_regions 213 = .ok (.iload 5, 2) := by decide +kernel
theorem dL_regions_215 : decode cL_regions 215 = .ok (.invokestatic 60, 3) := by decide +kernel
theorem dL_regions_218 : decode cL_regions 218 = .ok (.iload_n 3, 1) := by decide +kernel
theorem dL_regions_219 : decode cL_regions 219 = .ok (.iload 4, 2) := by decide +kernel
theorem dL_regions_221 : decode cL_regions 221 = .ok (.invokestatic 60, 3) := by decide +kernel
theorem dL_regions_224 : decode cL_regions 224 = .ok (.if_icmp .ne 12, 3) := by decide +kernel
theorem dL_regions_227 : decode cL_regions 227 = .ok (.iload 5, 2) := by decide +kernel
theorem dL_regions_229 : decode cL_regions 229 = .ok (.iload 4, 2) := by decide +kernel
theorem dL_regions_231 : decode cL_regions 231 = .ok (.if_icmp .ge 5, 3) := by decide +kernel
theorem dL_regions_234 : decode cL_regions 234 = .ok (.iconst 0, 1) := by decide +kernel
theorem dL_regions_235 : decode cL_regions 235 = .ok (.ireturn, 1) := by decide +kernel
theorem dL_regions_236 : decode cL_regions 236 = .ok (.iinc 5 1, 3) := by decide +kernel
theorem dL_regions_239 : decode cL_regions 239 = .ok (.goto (-64), 3) := by decide +kernel
theorem dL_regions_242 : decode cL_regions 242 = .ok (.iinc 3 1, 3) := by decide +kernel
theorem dL_regions_245 : decode cL_regions 245 = .ok (.goto (-239), 3) := by decide +kernel
theorem dL_regions_248 : decode cL_regions 248 = .ok (.aload_n 0, 1) := by decide +kernel
theorem dL_regions_249 : decode cL_regions 249 = .ok (.bipush 8, 2) := by decide +kernel
theorem dL_regions_251 : decode cL_regions 251 = .ok (.invokevirtual 53, 3) := by decide +kernel
theorem dL_regions_254 : decode cL_regions 254 = .ok (.iload_n 1, 1) := by decide +kernel
theorem dL_regions_255 : decode cL_regions 255 = .ok (.if_icmp .ne 17, 3) := by decide +kernel
theorem dL_regions_258 : decode cL_regions 258 = .ok (.aload_n 0, 1) := by decide +kernel
theorem dL_regions_259 : decode cL_regions 259 = .ok (.bipush 9, 2) := by decide +kernel
theorem dL_regions_261 : decode cL_regions 261 = .ok (.invokevirtual 53, 3) := by decide +kernel
theorem dL_regions_264 : decode cL_regions 264 = .ok (.iload_n 2, 1) := by decide +kernel
theorem dL_regions_265 : decode cL_regions 265 = .ok (.if_icmp .ne 7, 3) := by decide +kernel
theorem dL_regions_268 : decode cL_regions 268 = .ok (.iconst 1, 1) := by decide +kernel
theorem dL_regions_269 : decode cL_regions 269 = .ok (.goto 4, 3) := by decide +kernel
theorem dL_regions_272 : decode cL_regions 272 = .ok (.iconst 0, 1) := by decide +kernel
theorem dL_regions_273 : decode cL_regions 273 = .ok (.ireturn, 1) := by decide +kernel
theorem dL_stars_0 : decode cL_stars 0 = .ok (.iconst 0, 1) := by decide +kernel
theorem dL_stars_1 : decode cL_stars 1 = .ok (.istore_n 1, 1) := by decide +kernel
theorem dL_stars_2 : decode cL_stars 2 = .ok (.iconst 0, 1) := by decide +kernel
theorem dL_stars_3 : decode cL_stars 3 = .ok (.istore_n 2, 1) := by decide +kernel
theorem dL_stars_4 : decode cL_stars 4 = .ok (.iconst 0, 1) := by decide +kernel
theorem dL_stars_5 : decode cL_stars 5 = .ok (.istore_n 3, 1) := by decide +kernel
theorem dL_stars_6 : decode cL_stars 6 = .ok (.aload_n 0, 1) := by decide +kernel
theorem dL_stars_7 : decode cL_stars 7 = .ok (.invokevirtual 63, 3) := by decide +kernel
theorem dL_stars_10 : decode cL_stars 10 = .ok (.istore 4, 2) := by decide +kernel
theorem dL_stars_12 : decode cL_stars 12 = .ok (.iconst 0, 1) := by decide +kernel
theorem dL_stars_13 : decode cL_stars 13 = .ok (.istore 5, 2) := by decide +kernel
theorem dL_stars_15 : decode cL_stars 15 = .ok (.aload_n 0, 1) := by decide +kernel
theorem dL_stars_16 : decode cL_stars 16 = .ok (.bipush 9, 2) := by decide +kernel
theorem dL_stars_18 : decode cL_stars 18 = .ok (.invokevirtual 53, 3) := by decide +kernel
theorem dL_stars_21 : decode cL_stars 21 = .ok (.ifCond .ne 7, 3) := by decide +kernel
theorem dL_stars_24 : decode cL_stars 24 = .ok (.iconst 1, 1) := by decide +kernel
theorem dL_stars_25 : decode cL_stars 25 = .ok (.goto 4, 3) := by decide +kernel
theorem dL_stars_28 : decode cL_stars 28 = .ok (.iconst 0, 1) := by decide +kernel
theorem dL_stars_29 : decode cL_stars 29 = .ok (.istore 6, 2) := by decide +kernel
theorem dL_stars_31 : decode cL_stars 31 = .ok (.iconst 0, 1) := by decide +kernel
theorem dL_stars_32 : decode cL_stars 32 = .ok (.istore 7, 2) := by decide +kernel
theorem dL_stars_34 : decode cL_stars 34 = .ok (.iload 7, 2) := by decide +kernel
theorem dL_stars_36 : decode cL_stars 36 = .ok (.bipush 8, 2) := by decide +kernel
theorem dL_stars_38 : decode cL_stars 38 = .ok (.if_icmp .ge 36, 3) := by decide +kernel
theorem dL_stars_41 : decode cL_stars 41 = .ok (.iload 6, 2) := by decide +kernel
theorem dL_stars_43 : decode cL_stars 43 = .ok (.ifCond .eq 22, 3) := by decide +kernel
theorem dL_stars_46 : decode cL_stars 46 = .ok (.aload_n 0, 1) := by decide +kernel
theorem dL_stars_47 : decode cL_stars 47 = .ok (.iload 7, 2) := by decide +kernel
theorem dL_stars_49 : decode cL_stars 49 = .ok (.iconst 4, 1) := by decide +kernel
theorem dL_stars_50 : decode cL_stars 50 = .ok (.idiv, 1) := by decide +kernel
theorem dL_stars_51 : decode cL_stars 51 = .ok (.iload 7, 2) := by decide +kernel
theorem dL_stars_53 : decode cL_stars 53 = .ok (.iconst 4, 1) := by decide +kernel
theorem dL_stars_54 : decode cL_stars 54 = .ok (.irem, 1) := by decide +kernel
theorem dL_stars_55 : decode cL_stars 55 = .ok (.invokevirtual 66, 3) := by decide +kernel
theorem dL_stars_58 : decode cL_stars 58 = .ok (.ifCond .ne 7, 3) := by decide +kernel
theorem dL_stars_61 : decode cL_stars 61 = .ok (.iconst 1, 1) := by decide +kernel
theorem dL_stars_62 : decode cL_stars 62 = .ok (.goto 4, 3) := by decide +kernel
theorem dL_stars_65 : decode cL_stars 65 = .ok (.iconst 0, 1) := by decide +kernel
theorem dL_stars_66 : decode cL_stars 66 = .ok (.istore 6, 2) := by decide +kernel
theorem dL_stars_68 : decode cL_stars 68 = .ok (.iinc 7 1, 3) := by decide +kernel
theorem dL_stars_71 : decode cL_stars 71 = .ok (.goto (-37), 3) := by decide +kernel
theorem dL_stars_74 : decode cL_stars 74 = .ok (.iconst 0, 1) := by decide +kernel
theorem dL_stars_75 : decode cL_stars 75 = .ok (.istore 7, 2) := by decide +kernel
theorem dL_stars_77 : decode cL_stars 77 = .ok (.iload 7, 2) := by decide +kernel
theorem dL_stars_79 : decode cL_stars 79 = .ok (.aload_n 0, 1) := by decide +kernel
theorem dL_stars_80 : decode cL_stars 80 = .ok (.iconst 0, 1) := by decide +kernel
theorem dL_stars_81 : decode cL_stars 81 = .ok (.invokevirtual 53, 3) := by decide +kernel
theorem dL_stars_84 : decode cL_stars 84 = .ok (.if_icmp .ge 316, 3) := by decide +kernel
theorem dL_stars_87 : decode cL_stars 87 = .ok (.aload_n 0, 1) := by decide +kernel
theorem dL_stars_88 : decode cL_stars 88 = .ok (.iload 7, 2) := by decide +kernel
theorem dL_stars_90 : decode cL_stars 90 = .ok (.iconst 0, 1) := by decide +kernel
theorem dL_stars_91 : decode cL_stars 91 = .ok (.invokevirtual 36, 3) := by decide +kernel
theorem dL_stars_94 : decode cL_stars 94 = .ok (.istore 8, 2) := by decide +kernel
theorem dL_stars_96 : decode cL_stars 96 = .ok (.aload_n 0, 1) := by decide +kernel
theorem dL_stars_97 : decode cL_stars 97 = .ok (.iload 7, 2) := by decide +kernel
theorem dL_stars_99 : decode cL_stars 99 = .ok (.iconst 1, 1) := by decide +kernel
theorem dL_stars_100 : decode cL_stars 100 = .ok (.invokevirtual 36, 3) := by decide +kernel
theorem dL_stars_103 : decode cL_stars 103 = .ok (.istore 9, 2) := by decide +kernel
theorem dL_stars_105 : decode cL_stars 105 = .ok (.iload 9, 2) := by decide +kernel
theorem dL_stars_107 : decode cL_stars 107 = .ok (.aload_n 0, 1) := by decide +kernel
theorem dL_stars_108 : decode cL_stars 108 = .ok (.iconst 3, 1) := by decide +kernel
theorem dL_stars_109 : decode cL_stars 109 = .ok (.invokevirtual 69, 3) := by decide +kernel
theorem dL_stars_112 : decode cL_stars 112 = .ok (.if_icmp .lt 17, 3) := by decide +kernel
theorem dL_stars_115 : decode cL_stars 115 = .ok (.iload 9, 2) := by decide +kernel
theorem dL_stars_117 : decode cL_stars 117 = .ok (.aload_n 0, 1) := by decide +kernel
theorem dL_stars_118 : decode cL_stars 118 = .ok (.iconst 4, 1) := by decide +kernel
theorem dL_stars_119 : decode cL_stars 119 = .ok (.invokevirtual 69, 3) := by decide +kernel
theorem dL_stars_122 : decode cL_stars 122 = .ok (.if_icmp .gt 7, 3) := by decide +kernel
theorem dL_stars_125 : decode cL_stars 125 = .ok (.iconst 1, 1) := by decide +kernel
theorem dL_stars_126 : decode cL_stars 126 = .ok (.goto 4, 3) := by decide +kernel
theorem dL_stars_129 : decode cL_stars 129 = .ok (.iconst 0, 1) := by decide +kernel
theorem dL_stars_130 : decode cL_stars 130 = .ok (.istore 10, 2) := by decide +kernel
theorem dL_stars_132 : decode cL_stars 132 = .ok (.iload 5, 2) := by decide +kernel
theorem dL_stars_134 : decode cL_stars 134 = .ok (.ifCond .ne 8, 3) := by decide +kernel
theorem dL_stars_137 : decode cL_stars 137 = .ok (.iload 10, 2) := by decide +kernel
theorem dL_stars_139 : decode cL_stars 139 = .ok (.ifCond .eq 7, 3) := by decide +kernel
theorem dL_stars_142 : decode cL_stars 142 = .ok (.iconst 1, 1) := by decide +kernel
theorem dL_stars_143 : decode cL_stars 143 = .ok (.goto 4, 3) := by decide +kernel
theorem dL_stars_146 : decode cL_stars 146 = .ok (.iconst 0, 1) := by decide +kernel
theorem dL_stars_147 : decode cL_stars 147 = .ok (.istore 5, 2) := by decide +kernel
theorem dL_stars_149 : decode cL_stars 149 = .ok (.iload_n 1, 1) := by decide +kernel
theorem dL_stars_150 : decode cL_stars 150 = .ok (.aload_n 0, 1) := by decide +kernel
theorem dL_stars_151 : decode cL_stars 151 = .ok (.iload 7, 2) := by decide +kernel
theorem dL_stars_153 : decode cL_stars 153 = .ok (.iconst 5, 1) := by decide +kernel
theorem dL_stars_154 : decode cL_stars 154 = .ok (.invokevirtual 36, 3) := by decide +kernel
theorem dL_stars_157 : decode cL_stars 157 = .ok (.iadd, 1) := by decide +kernel
theorem dL_stars_158 : decode cL_stars 158 = .ok (.istore_n 1, 1) := by decide +kernel
theorem dL_stars_159 : decode cL_stars 159 = .ok (.iload_n 2, 1) := by decide +kernel
theorem dL_stars_160 : decode cL_stars 160 = .ok (.aload_n 0, 1) := by decide +kernel
theorem dL_stars_161 : decode cL_stars 161 = .ok (.iload 7, 2) := by decide +kernel
theorem dL_stars_163 : decode cL_stars 163 = .ok (.bipush 6, 2) := by decide +kernel
theorem dL_stars_165 : decode cL_stars 165 = .ok (.invokevirtual 36, 3) := by decide +kernel
theorem dL_stars_168 : decode cL_stars 168 = .ok (.iadd, 1) := by decide +kernel
theorem dL_stars_169 : decode cL_stars 169 = .ok (.istore_n 2, 1) := by decide +kernel
theorem dL_stars_170 : decode cL_stars 170 = .ok (.iload_n 3, 1) := by decide +kernel
theorem dL_stars_171 : decode cL_stars 171 = .ok (.aload_n 0, 1) := by decide +kernel
theorem dL_stars_172 : decode cL_stars 172 = .ok (.iload 7, 2) := by decide +kernel
theorem dL_stars_174 : decode cL_stars 174 = .ok (.invokevirtual 72, 3) := by decide +kernel
theorem dL_stars_177 : decode cL_stars 177 = .ok (.aload_n 0, 1) := by decide +kernel
theorem dL_stars_178 : decode cL_stars 178 = .ok (.iconst 2, 1) := by decide +kernel
theorem dL_stars_179 : decode cL_stars 179 = .ok (.invokevirtual 69, 3) := by decide +kernel
theorem dL_stars_182 : decode cL_stars 182 = .ok (.i2d, 1) := by decide +kernel
theorem dL_stars_183 : decode cL_stars 183 = .ok (.dcmp .g, 1) := by decide +kernel
theorem dL_stars_184 : decode cL_stars 184 = .ok (.ifCond .gt 10, 3) := by decide +kernel
theorem dL_stars_187 : decode cL_stars 187 = .ok (.iconst 1, 1) := by decide +kernel
theorem dL_stars_188 : decode cL_stars 188 = .ok (.iload 7, 2) := by decide +kernel
theorem dL_stars_190 : decode cL_stars 190 = .ok (.ishl, 1) := by decide +kernel
theorem dL_stars_191 : decode cL_stars 191 = .ok (.goto 4, 3) := by decide +kernel
theorem dL_stars_194 : decode cL_stars 194 = .ok (.iconst 0, 1) := by decide +kernel
theorem dL_stars_195 : decode cL_stars 195 = .ok (.ior, 1) := by decide +kernel
theorem dL_stars_196 : decode cL_stars 196 = .ok (.istore_n 3, 1) := by decide +kernel
theorem dL_stars_197 : decode cL_stars 197 = .ok (.aload_n 0, 1) := by decide +kernel
theorem dL_stars_198 : decode cL_stars 198 = .ok (.iload 7, 2) := by decide +kernel
theorem dL_stars_200 : decode cL_stars 200 = .ok (.iconst 3, 1) := by decide +kernel
theorem dL_stars_201 : decode cL_stars 201 = .ok (.invokevirtual 36, 3) := by decide +kernel
theorem dL_stars_204 : decode cL_stars 204 = .ok (.iconst 3, 1) := by decide +kernel
theorem dL_stars_205 : decode cL_stars 205 = .ok (.iload 8, 2) := by decide +kernel
theorem dL_stars_207 : decode cL_stars 207 = .ok (.sipush 2700, 3) := by decide +kernel
theorem dL_stars_210 : decode cL_stars 210 = .ok (.idiv, 1) := by decide +kernel
theorem dL_stars_211 : decode cL_stars 211 = .ok (.imul, 1) := by decide +kernel
theorem dL_stars_212 : decode cL_stars 212 = .ok (.iload 9, 2) := by decide +kernel
theorem dL_stars_214 : decode cL_stars 214 = .ok (.sipush 1801, 3) := by decide +kernel
theorem dL_stars_217 : decode cL_stars 217 = .ok (.idiv, 1) := by decide +kernel
theorem dL_stars_218 : decode cL_stars 218 = .ok (.iadd, 1) := by decide +kernel
theorem dL_stars_219 : decode cL_stars 219 = .ok (.if_icmp .ne 173, 3) := by decide +kernel
theorem dL_stars_222 : decode cL_stars 222 = .ok (.aload_n 0, 1) := by decide +kernel
theorem dL_stars_223 : decode cL_stars 223 = .ok (.iload 7, 2) := by decide +kernel
theorem dL_stars_225 : decode cL_stars 225 = .ok (.iconst 2, 1) := by decide +kernel
theorem dL_stars_226 : decode cL_stars 226 = .ok (.invokevirtual 36, 3) := by decide +kernel
theorem dL_stars_229 : decode cL_stars 229 = .ok (.iload 8, 2) := by decide +kernel
theorem dL_stars_231 : decode cL_stars 231 = .ok (.sipush 10800, 3) := by decide +kernel
theorem dL_stars_234 : decode cL_stars 234 = .ok (.idiv, 1) := by decide +kernel
theorem dL_stars_235 : decode cL_stars 235 = .ok (.if_icmp .ne 157, 3) := by decide +kernel
theorem dL_stars_238 : decode cL_stars 238 = .ok (.aload_n 0, 1) := by decide +kernel
theorem dL_stars_239 : decode cL_stars 239 = .ok (.iload 7, 2) := by decide +kernel
theorem dL_stars_241 : decode cL_stars 241 = .ok (.iconst 4, 1) := by decide +kernel
theorem dL_stars_242 : decode cL_stars 242 = .ok (.invokevirtual 36, 3) := by decide +kernel
theorem dL_stars_245 : decode cL_stars 245 = .ok (.iload 10, 2) := by decide +kernel
theorem dL_stars_247 : decode cL_stars 247 = .ok (.ifCond .eq 7, 3) := by decide +kernel
theorem dL_stars_250 : decode cL_stars 250 = .ok (.iconst 1, 1) := by decide +kernel
theorem dL_stars_251 : decode cL_stars 251 = .ok (.goto 4, 3) := by decide +kernel
theorem dL_stars_254 : decode cL_stars 254 = .ok (.iconst 0, 1) := by decide +kernel
theorem dL_stars_255 : decode cL_stars 255 = .ok (.if_icmp .ne 137, 3) := by decide +kernel
theorem dL_stars_258 : decode cL_stars 258 = .ok (.aload_n 0, 1) := by decide +kernel
theorem dL_stars_259 : decode cL_stars 259 = .ok (.iload 7, 2) := by decide +kernel
theorem dL_stars_261 : decode cL_stars 261 = .ok (.bipush 6, 2) := by decide +kernel
theorem dL_stars_263 : decode cL_stars 263 = .ok (.invokevirtual 36, 3) := by decide +kernel
theorem dL_stars_266 : decode cL_stars 266 = .ok (.aload_n 0, 1) := by decide +kernel
theorem dL_stars_267 : decode cL_stars 267 = .ok (.iload 7, 2) := by decide +kernel
theorem dL_stars_269 : decode cL_stars 269 = .ok (.iconst 5, 1) := by decide +kernel
theorem dL_stars_270 : decode cL_stars 270 = .ok (.invokevirtual 36, 3) := by decide +kernel
theorem dL_stars_273 : decode cL_stars 273 = .ok (.if_icmp .gt 119, 3) := by decide +kernel
theorem dL_stars_276 : decode cL_stars 276 = .ok (.aload_n 0, 1) := by decide +kernel
theorem dL_stars_277 : decode cL_stars 277 = .ok (.iload 7, 2) := by decide +kernel
theorem dL_stars_279 : decode cL_stars 279 = .ok (.invokevirtual 76, 3) := by decide +kernel
theorem dL_stars_282 : decode cL_stars 282 = .ok (.ifCond .lt 110, 3) := by decide +kernel
theorem dL_stars_285 : decode cL_stars 285 = .ok (.aload_n 0, 1) := by decide +kernel
theorem dL_stars_286 : decode cL_stars 286 = .ok (.iload 7, 2) := by decide +kernel
theorem dL_stars_288 : decode cL_stars 288 = .ok (.invokevirtual 72, 3) := by decide +kernel
theorem dL_stars_291 : decode cL_stars 291 = .ok (.dconst 0, 1) := by decide +kernel
theorem dL_stars_292 : decode cL_stars 292 = .ok (.dcmp .g, 1) := by decide +kernel
theorem dL_stars_293 : decode cL_stars 293 = .ok (.ifCond .lt 99, 3) := by decide +kernel
theorem dL_stars_296 : decode cL_stars 296 = .ok (.iload 6, 2) := by decide +kernel
theorem dL_stars_298 : decode cL_stars 298 = .ok (.ifCond .eq 14, 3) := by decide +kernel
theorem dL_stars_301 : decode cL_stars 301 = .ok (.aload_n 0, 1) := by decide +kernel
theorem dL_stars_302 : decode cL_stars 302 = .ok (.iload 7, 2) := by decide +kernel
theorem dL_stars_304 : decode cL_stars 304 = .ok (.invokevirtual 72, 3) := by decide +kernel
theorem dL_stars_307 : decode cL_stars 307 = .ok (.dconst 0, 1) := by decide +kernel
theorem dL_stars_308 : decode cL_stars 308 = .ok (.dcmp .l, 1) := by decide +kernel
theorem dL_stars_309 : decode cL_stars 309 = .ok (.ifCond .ne 83, 3) := by decide +kernel
theorem dL_stars_312 : decode cL_stars 312 = .ok (.iload 10, 2) := by decide +kernel
theorem dL_stars_314 : decode cL_stars 314 = .ok (.ifCond .eq 46, 3) := by decide +kernel
theorem dL_stars_317 : decode cL_stars 317 = .ok (.iload 4, 2) := by decide +kernel
theorem dL_stars_319 : decode cL_stars 319 = .ok (.iconst (-1), 1) := by decide +kernel
theorem dL_stars_320 : decode cL_stars 320 = .ok (.if_icmp .eq 72, 3) := by decide +kernel
theorem dL_stars_323 : decode cL_stars 323 = .ok (.aload_n 0, 1) := by decide +kernel
theorem dL_stars_324 : decode cL_stars 324 = .ok (.iload 4, 2) := by decide +kernel
theorem dL_stars_326 : decode cL_stars 326 = .ok (.invokevirtual 76, 3) := by decide +kernel
theorem dL_stars_329 : decode cL_stars 329 = .ok (.aload_n 0, 1) := by decide +kernel
theorem dL_stars_330 : decode cL_stars 330 = .ok (.iload 7, 2) := by decide +kernel
theorem dL_stars_332 : decode cL_stars 332 = .ok (.invokevirtual 76, 3) := by decide +kernel
theorem dL_stars_335 : decode cL_stars 335 = .ok (.if_icmp .gt 57, 3) := by decide +kernel
theorem dL_stars_338 : decode cL_stars 338 = .ok (.aload_n 0, 1) := by decide +kernel
theorem dL_stars_339 : decode cL_stars 339 = .ok (.iload 4, 2) := by decide +kernel
theorem dL_stars_341 : decode cL_stars 341 = .ok (.invokevirtual 76, 3) := by decide +kernel
theorem dL_stars_344 : decode cL_stars 344 = .ok (.aload_n 0, 1) := by decide +kernel
theorem dL_stars_345 : decode cL_stars 345 = .ok (.iload 7, 2) := by decide +kernel
theorem dL_stars_347 : decode cL_stars 347 = .ok (.invokevirtual 76, 3) := by decide +kernel
theorem dL_stars_350 : decode cL_stars 350 = .ok (.if_icmp .ne 10, 3) := by decide +kernel
theorem dL_stars_353 : decode cL_stars 353 = .ok (.iload 4, 2) := by decide +kernel
theorem dL_stars_355 : decode cL_stars 355 = .ok (.iload 7, 2) := by decide +kernel
theorem dL_stars_357 : decode cL_stars 357 = .ok (.if_icmp .gt 35, 3) := by decide +kernel
theorem dL_stars_360 : decode cL_stars 360 = .ok (.aload_n 0, 1) := by decide +kernel
theorem dL_stars_361 : decode cL_stars 361 = .ok (.iconst 1, 1) := by decide +kernel
theorem dL_stars_362 : decode cL_stars 362 = .ok (.iload 7, 2) := by decide +kernel
theorem dL_stars_364 : decode cL_stars 364 = .ok (.ishl, 1) := by decide +kernel
theorem dL_stars_365 : decode cL_stars 365 = .ok (.iconst (-1), 1) := by decide +kernel
theorem dL_stars_366 : decode cL_stars 366 = .ok (.invokevirtual 39, 3) := by decide +kernel
theorem dL_stars_369 : decode cL_stars 369 = .ok (.aload_n 0, 1) := by decide +kernel
theorem dL_stars_370 : decode cL_stars 370 = .ok (.iload 7, 2) := by decide +kernel
theorem dL_stars_372 : decode cL_stars 372 = .ok (.invokevirtual 76, 3) := by decide +kernel
theorem dL_stars_375 : decode cL_stars 375 = .ok (.if_icmp .ne 17, 3) := by decide +kernel
theorem dL_stars_378 : decode cL_stars 378 = .ok (.aload_n 0, 1) := by decide +kernel
theorem dL_stars_379 : decode cL_stars 379 = .ok (.iconst 1, 1) := by decide +kernel
theorem dL_stars_380 : decode cL_stars 380 = .ok (.iload 7, 2) := by decide +kernel
theorem dL_stars_382 : decode cL_stars 382 = .ok (.ishl, 1) := by decide +kernel
theorem dL_stars_383 : decode cL_stars 383 = .ok (.iconst 0, 1) := by decide +kernel
theorem dL_stars_384 : decode cL_stars 384 = .ok (.invokevirtual 39, 3) := by decide +kernel
theorem dL_stars_387 : decode cL_stars 387 = .ok (.iload 7, 2) := by decide +kernel
theorem dL_stars_389 : decode cL_stars 389 = .ok (.if_icmp .eq 5, 3) := by decide +kernel
theorem dL_stars_392 : decode cL_stars 392 = .ok (.iconst 0, 1) := by decide +kernel
theorem dL_stars_393 : decode cL_stars 393 = .ok (.ireturn, 1) := by decide +kernel
theorem dL_stars_394 : decode cL_stars 394 = .ok (.iinc 7 1, 3) := by decide +kernel
theorem dL_stars_397 : decode cL_stars 397 = .ok (.goto (-320), 3) := by decide +kernel
theorem dL_stars_400 : decode cL_stars 400 = .ok (.aload_n 0, 1) := by decide +kernel
theorem dL_stars_401 : decode cL_stars 401 = .ok (.bipush 10, 2) := by decide +kernel
theorem dL_stars_403 : decode cL_stars 403 = .ok (.invokevirtual 53, 3) := by decide +kernel
theorem dL_stars_406 : decode cL_stars 406 = .ok (.iconst (-1), 1) := by decide +kernel
theorem dL_stars_407 : decode cL_stars 407 = .ok (.if_icmp .ne 7, 3) := by decide +kernel
theorem dL_stars_410 : decode cL_stars 410 = .ok (.iconst 1, 1) := by decide +kernel
theorem dL_stars_411 : decode cL_stars 411 = .ok (.goto 4, 3) := by decide +kernel
theorem dL_stars_414 : decode cL_stars 414 = .ok (.iconst 0, 1) := by decide +kernel
theorem dL_stars_415 : decode cL_stars 415 = .ok (.istore 7, 2) := by decide +kernel
theorem dL_stars_417 : decode cL_stars 417 = .ok (.iload 7, 2) := by decide +kernel
theorem dL_stars_419 : decode cL_stars 419 = .ok (.ifCond .eq 7, 3) := by decide +kernel
theorem dL_stars_422 : decode cL_stars 422 = .ok (.dconst 0, 1) := by decide +kernel
theorem dL_stars_423 : decode cL_stars 423 = .ok (.goto 42, 3) := by decide +kernel
theorem dL_stars_426 : decode cL_stars 426 = .ok (.aload_n 0, 1) := by decide +kernel
theorem dL_stars_427 : decode cL_stars 427 = .ok (.iconst 0, 1) := by decide +kernel
theorem dL_stars_428 : decode cL_stars 428 = .ok (.invokevirtual 79, 3) := by decide +kernel
theorem dL_stars_431 : decode cL_stars 431 = .ok (.invokestatic 82, 3) := by decide +kernel
theorem dL_stars_434 : decode cL_stars 434 = .ok (.aload_n 0, 1) := by decide +kernel
theorem dL_stars_435 : decode cL_stars 435 = .ok (.iconst 1, 1) := by decide +kernel
theorem dL_stars_436 : decode cL_stars 436 = .ok (.invokevirtual 79, 3) := by decide +kernel
theorem dL_stars_439 : decode cL_stars 439 = .ok (.invokestatic 82, 3) := by decide +kernel
theorem dL_stars_442 : decode cL_stars 442 = .ok (.dcmp .l, 1) := by decide +kernel
theorem dL_stars_443 : decode cL_stars 443 = .ok (.ifCond .le 14, 3) := by decide +kernel
theorem dL_stars_446 : decode cL_stars 446 = .ok (.aload_n 0, 1) := by decide +kernel
theorem dL_stars_447 : decode cL_stars 447 = .ok (.iconst 0, 1) := by decide +kernel
theorem dL_stars_448 : decode cL_stars 448 = .ok (.invokevirtual 79, 3) := by decide +kernel
theorem dL_stars_451 : decode cL_stars 451 = .ok (.invokestatic 82, 3) := by decide +kernel
theorem dL_stars_454 : decode cL_stars 454 = .ok (.goto 11, 3) := by decide +kernel
theorem dL_stars_457 : decode cL_stars 457 = .ok (.aload_n 0, 1) := by decide +kernel
theorem dL_stars_458 : decode cL_stars 458 = .ok (.iconst 1, 1) := by decide +kernel
theorem dL_stars_459 : decode cL_stars 459 = .ok (.invokevirtual 79, 3) := by decide +kernel
theorem dL_stars_462 : decode cL_stars 462 = .ok (.invokestatic 82, 3) := by decide +kernel
theorem dL_stars_465 : decode cL_stars 465 = .ok (.dstore 8, 2) := by decide +kernel
theorem dL_stars_467 : decode cL_stars 467 = .ok (.aload_n 0, 1) := by decide +kernel
theorem dL_stars_468 : decode cL_stars 468 = .ok (.invokevirtual 86, 3) := by decide +kernel
theorem dL_stars_471 : decode cL_stars 471 = .ok (.iload_n 3, 1) := by decide +kernel
theorem dL_stars_472 : decode cL_stars 472 = .ok (.if_icmp .ne 138, 3) := by decide +kernel
theorem dL_stars_475 : decode cL_stars 475 = .ok (.iload 4, 2) := by decide +kernel
theorem dL_stars_477 : decode cL_stars 477 = .ok (.iconst (-1), 1) := by decide +kernel
theorem dL_stars_478 : decode cL_stars 478 = .ok (.if_icmp .ne 7, 3) := by decide +kernel
theorem dL_stars_481 : decode cL_stars 481 = .ok (.iconst 1, 1) := by decide +kernel
theorem dL_stars_482 : decode cL_stars 482 = .ok (.goto 4, 3) := by decide +kernel
theorem dL_stars_485 : decode cL_stars 485 = .ok (.iconst 0, 1) := by decide +kernel
theorem dL_stars_486 : decode cL_stars 486 = .ok (.iload 5, 2) := by decide +kernel
theorem dL_stars_488 : decode cL_stars 488 = .ok (.if_icmp .eq 122, 3) := by decide +kernel
theorem dL_stars_491 : decode cL_stars 491 = .ok (.aload_n 0, 1) := by decide +kernel
theorem dL_stars_492 : decode cL_stars 492 = .ok (.iconst 5, 1) := by decide +kernel
theorem dL_stars_493 : decode cL_stars 493 = .ok (.invokevirtual 53, 3) := by decide +kernel
theorem dL_stars_496 : decode cL_stars 496 = .ok (.iload_n 1, 1) := by decide +kernel
theorem dL_stars_497 : decode cL_stars 497 = .ok (.if_icmp .ne 113, 3) := by decide +kernel
theorem dL_stars_500 : decode cL_stars 500 = .ok (.aload_n 0, 1) := by decide +kernel
theorem dL_stars_501 : decode cL_stars 501 = .ok (.bipush 6, 2) := by decide +kernel
theorem dL_stars_503 : decode cL_stars 503 = .ok (.invokevirtual 53, 3) := by decide +kernel
theorem dL_stars_506 : decode cL_stars 506 = .ok (.iload_n 2, 1) := by decide +kernel
theorem dL_stars_507 : decode cL_stars 507 = .ok (.if_icmp .ne 103, 3) := by decide +kernel
theorem dL_stars_510 : decode cL_stars 510 = .ok (.aload_n 0, 1) := by decide +kernel
theorem dL_stars_511 : decode cL_stars 511 = .ok (.iconst 1, 1) := by decide +kernel
theorem dL_stars_512 : decode cL_stars 512 = .ok (.invokevirtual 53, 3) := by decide +kernel
theorem dL_stars_515 : decode cL_stars 515 = .ok (.sipush (-16200), 3) := by decide +kernel
theorem dL_stars_518 : decode cL_stars 518 = .ok (.if_icmp .lt 92, 3) := by decide +kernel
theorem dL_stars_521 : decode cL_stars 521 = .ok (.aload_n 0, 1) := by decide +kernel
theorem dL_stars_522 : decode cL_stars 522 = .ok (.iconst 1, 1) := by decide +kernel
theorem dL_stars_523 : decode cL_stars 523 = .ok (.invokevirtual 53, 3) := by decide +kernel
theorem dL_stars_526 : decode cL_stars 526 = .ok (.sipush 16200, 3) := by decide +kernel
theorem dL_stars_529 : decode cL_stars 529 = .ok (.if_icmp .gt 81, 3) := by decide +kernel
theorem dL_stars_532 : decode cL_stars 532 = .ok (.aload_n 0, 1) := by decide +kernel
theorem dL_stars_533 : decode cL_stars 533 = .ok (.iconst 2, 1) := by decide +kernel
theorem dL_stars_534 : decode cL_stars 534 = .ok (.invokevirtual 53, 3) := by decide +kernel
theorem dL_stars_537 : decode cL_stars 537 = .ok (.ifCond .lt 73, 3) := by decide +kernel
theorem dL_stars_540 : decode cL_stars 540 = .ok (.aload_n 0, 1) := by decide +kernel
theorem dL_stars_541 : decode cL_stars 541 = .ok (.iconst 2, 1) := by decide +kernel
theorem dL_stars_542 : decode cL_stars 542 = .ok (.invokevirtual 53, 3) := by decide +kernel
theorem dL_stars_545 : decode cL_stars 545 = .ok (.sipush 5400, 3) := by decide +kernel
theorem dL_stars_548 : decode cL_stars 548 = .ok (.if_icmp .gt 62, 3) := by decide +kernel
theorem dL_stars_551 : decode cL_stars 551 = .ok (.aload_n 0, 1) := by decide +kernel
theorem dL_stars_552 : decode cL_stars 552 = .ok (.iconst 3, 1) := by decide +kernel
theorem dL_stars_553 : decode cL_stars 553 = .ok (.invokevirtual 69, 3) := by decide +kernel
theorem dL_stars_556 : decode cL_stars 556 = .ok (.aload_n 0, 1) := by decide +kernel
theorem dL_stars_557 : decode cL_stars 557 = .ok (.iconst 4, 1) := by decide +kernel
theorem dL_stars_558 : decode cL_stars 558 = .ok (.invokevirtual 69, 3) := by decide +kernel
theorem dL_stars_561 : decode cL_stars 561 = .ok (.if_icmp .gt 49, 3) := by decide +kernel
theorem dL_stars_564 : decode cL_stars 564 = .ok (.iload 7, 2) := by decide +kernel
theorem dL_stars_566 : decode cL_stars 566 = .ok (.ifCond .eq 19, 3) := by decide +kernel
theorem dL_stars_569 : decode cL_stars 569 = .ok (.iload_n 1, 1) := by decide +kernel
theorem dL_stars_570 : decode cL_stars 570 = .ok (.ifCond .ne 40, 3) := by decide +kernel
theorem dL_stars_573 : decode cL_stars 573 = .ok (.aload_n 0, 1) := by decide +kernel
theorem dL_stars_574 : decode cL_stars 574 = .ok (.bipush 11, 2) := by decide +kernel
theorem dL_stars_576 : decode cL_stars 576 = .ok (.invokevirtual 53, 3) := by decide +kernel
theorem dL_stars_579 : decode cL_stars 579 = .ok (.ifCond .ne 31, 3) := by decide +kernel
theorem dL_stars_582 : decode cL_stars 582 = .ok (.goto 14, 3) := by decide +kernel
theorem dL_stars_585 : decode cL_stars 585 = .ok (.aload_n 0, 1) := by decide +kernel
theorem dL_stars_586 : decode cL_stars 586 = .ok (.iconst 2, 1) := by decide +kernel
theorem dL_stars_587 : decode cL_stars 587 = .ok (.invokevirtual 79, 3) := by decide +kernel
theorem dL_stars_590 : decode cL_stars 590 = .ok (.dload 8, 2) := by decide +kernel
theorem dL_stars_592 : decode cL_stars 592 = .ok (.dcmp .l, 1) := by decide +kernel
theorem dL_stars_593 : decode cL_stars 593 = .ok (.ifCond .ne 17, 3) := by decide +kernel
theorem dL_stars_596 : decode cL_stars 596 = .ok (.aload_n 0, 1) := by decide +kernel
theorem dL_stars_597 : decode cL_stars 597 = .ok (.bipush 7, 2) := by decide +kernel
theorem dL_stars_599 : decode cL_stars 599 = .ok (.invokevirtual 53, 3) := by decide +kernel
theorem dL_stars_602 : decode cL_stars 602 = .ok (.iload_n 1, 1) := by decide +kernel
theorem dL_stars_603 : decode cL_stars 603 = .ok (.if_icmp .gt 7, 3) := by decide +kernel
theorem dL_stars_606 : decode cL_stars 606 = .ok (.iconst 1, 1) := by decide +kernel
theorem dL_stars_607 : decode cL_stars 607 = .ok (.goto 4, 3) := by decide +kernel
theorem dL_stars_610 : decode cL_stars 610 = .ok (.iconst 0, 1) := by decide +kernel
theorem dL_stars_611 : decode cL_stars 611 = .ok (.ireturn, 1) := by decide +kernel
theorem dL_goes_0 : decode cL_goes 0 = .ok (.aload_n 0, 1) := by decide +kernel
theorem dL_goes_1 : decode cL_goes 1 = .ok (.iload_n 1, 1) := by decide +kernel
theorem dL_goes_2 : decode cL_goes 2 = .ok (.invokevirtual 76, 3) := by decide +kernel
theorem dL_goes_5 : decode cL_goes 5 = .ok (.istore_n 3, 1) := by decide +kernel
theorem dL_goes_6 : decode cL_goes 6 = .ok (.aload_n 0, 1) := by decide +kernel
theorem dL_goes_7 : decode cL_goes 7 = .ok (.iload_n 1, 1) := by decide +kernel
theorem dL_goes_8 : decode cL_goes 8 = .ok (.invokevirtual 72, 3) := by decide +kernel
theorem dL_goes_11 : decode cL_goes 11 = .ok (.dstore 4, 2) := by decide +kernel
theorem dL_goes_13 : decode cL_goes 13 = .ok (.aload_n 0, 1) := by decide +kernel
theorem dL_goes_14 : decode cL_goes 14 = .ok (.iconst 3, 1) := by decide +kernel
theorem dL_goes_15 : decode cL_goes 15 = .ok (.invokevirtual 53, 3) := by decide +kernel
theorem dL_goes_18 : decode cL_goes 18 = .ok (.istore 6, 2) := by decide +kernel
theorem dL_goes_20 : decode cL_goes 20 = .ok (.aload_n 0, 1) := by decide +kernel
theorem dL_goes_21 : decode cL_goes 21 = .ok (.iconst 4, 1) := by decide +kernel
theorem dL_goes_22 : decode cL_goes 22 = .ok (.invokevirtual 53, 3) := by decide +kernel
theorem dL_goes_25 : decode cL_goes 25 = .ok (.istore 7, 2) := by decide +kernel
theorem dL_goes_27 : decode cL_goes 27 = .ok (.aload_n 0, 1) := by decide +kernel
theorem dL_goes_28 : decode cL_goes 28 = .ok (.bipush 7, 2) := by decide +kernel
theorem dL_goes_30 : decode cL_goes 30 = .ok (.invokevirtual 53, 3) := by decide +kernel
theorem dL_goes_33 : decode cL_goes 33 = .ok (.istore 8, 2) := by decide +kernel
theorem dL_goes_35 : decode cL_goes 35 = .ok (.aload_n 0, 1) := by decide +kernel
theorem dL_goes_36 : decode cL_goes 36 = .ok (.bipush 6, 2) := by decide +kernel
theorem dL_goes_38 : decode cL_goes 38 = .ok (.invokevirtual 53, 3) := by decide +kernel
theorem dL_goes_41 : decode cL_goes 41 = .ok (.istore 9, 2) := by decide +kernel
theorem dL_goes_43 : decode cL_goes 43 = .ok (.aload_n 0, 1) := by decide +kernel
theorem dL_goes_44 : decode cL_goes 44 = .ok (.invokevirtual 86, 3) := by decide +kernel
theorem dL_goes_47 : decode cL_goes 47 = .ok (.iload_n 1, 1) := by decide +kernel
theorem dL_goes_48 : decode cL_goes 48 = .ok (.ishr, 1) := by decide +kernel
theorem dL_goes_49 : decode cL_goes 49 = .ok (.iconst 1, 1) := by decide +kernel
theorem dL_goes_50 : decode cL_goes 50 = .ok (.iand, 1) := by decide +kernel
theorem dL_goes_51 : decode cL_goes 51 = .ok (.iconst 1, 1) := by decide +kernel
theorem dL_goes_52 : decode cL_goes 52 = .ok (.if_icmp .ne 7, 3) := by decide +kernel
theorem dL_goes_55 : decode cL_goes 55 = .ok (.iconst 1, 1) := by decide +kernel
theorem dL_goes_56 : decode cL_goes 56 = .ok (.goto 4, 3) := by decide +kernel
theorem dL_goes_59 : decode cL_goes 59 = .ok (.iconst 0, 1) := by decide +kernel
theorem dL_goes_60 : decode cL_goes 60 = .ok (.istore 10, 2) := by decide +kernel
theorem dL_goes_62 : decode cL_goes 62 = .ok (.aload_n 0, 1) := by decide +kernel
theorem dL_goes_63 : decode cL_goes 63 = .ok (.iload_n 1, 1) := by decide +kernel
theorem dL_goes_64 : decode cL_goes 64 = .ok (.iconst 3, 1) := by decide +kernel
theorem dL_goes_65 : decode cL_goes 65 = .ok (.invokevirtual 36, 3) := by decide +kernel
theorem dL_goes_68 : decode cL_goes 68 = .ok (.istore 11, 2) := by decide +kernel
theorem dL_goes_70 : decode cL_goes 70 = .ok (.aload_n 0, 1) := by decide +kernel
theorem dL_goes_71 : decode cL_goes 71 = .ok (.iload 11, 2) := by decide +kernel
theorem dL_goes_73 : decode cL_goes 73 = .ok (.invokevirtual 48, 3) := by decide +kernel
theorem dL_goes_76 : decode cL_goes 76 = .ok (.istore 12, 2) := by decide +kernel
theorem dL_goes_78 : decode cL_goes 78 = .ok (.aload_n 0, 1) := by decide +kernel
theorem dL_goes_79 : decode cL_goes 79 = .ok (.iload 11, 2) := by decide +kernel
theorem dL_goes_81 : decode cL_goes 81 = .ok (.iconst 0, 1) := by decide +kernel
theorem dL_goes_82 : decode cL_goes 82 = .ok (.invokevirtual 56, 3) := by decide +kernel
theorem dL_goes_85 : decode cL_goes 85 = .ok (.dstore 13, 2) := by decide +kernel
theorem dL_goes_87 : decode cL_goes 87 = .ok (.aload_n 0, 1) := by decide +kernel
theorem dL_goes_88 : decode cL_goes 88 = .ok (.iload_n 1, 1) := by decide +kernel
theorem dL_goes_89 : decode cL_goes 89 = .ok (.invokestatic 89, 3) := by decide +kernel
theorem dL_goes_92 : decode cL_goes 92 = .ok (.istore 15, 2) := by decide +kernel
theorem dL_goes_94 : decode cL_goes 94 = .ok (.iload 15, 2) := by decide +kernel
theorem dL_goes_96 : decode cL_goes 96 = .ok (.sipush (-902), 3) := by decide +kernel
theorem dL_goes_99 : decode cL_goes 99 = .ok (.if_icmp .ne 57, 3) := by decide +kernel
theorem dL_goes_102 : decode cL_goes 102 = .ok (.aload_n 0, 1) := by decide +kernel
theorem dL_goes_103 : decode cL_goes 103 = .ok (.iload_n 1, 1) := by decide +kernel
theorem dL_goes_104 : decode cL_goes 104 = .ok (.iconst 4, 1) := by decide +kernel
theorem dL_goes_105 : decode cL_goes 105 = .ok (.invokevirtual 36, 3) := by decide +kernel
theorem dL_goes_108 : decode cL_goes 108 = .ok (.ifCond .eq 12, 3) := by decide +kernel
theorem dL_goes_111 : decode cL_goes 111 = .ok (.iload 7, 2) := by decide +kernel
theorem dL_goes_113 : decode cL_goes 113 = .ok (.iload_n 3, 1) := by decide +kernel
theorem dL_goes_114 : decode cL_goes 114 = .ok (.iadd, 1) := by decide +kernel
theorem dL_goes_115 : decode cL_goes 115 = .ok (.ldc 92, 2) := by decide +kernel
theorem dL_goes_117 : decode cL_goes 117 = .ok (.if_icmp .le 37, 3) := by decide +kernel
theorem dL_goes_120 : decode cL_goes 120 = .ok (.aload_n 0, 1) := by decide +kernel
theorem dL_goes_121 : decode cL_goes 121 = .ok (.iconst 4, 1) := by decide +kernel
theorem dL_goes_122 : decode cL_goes 122 = .ok (.invokevirtual 53, 3) := by decide +kernel
theorem dL_goes_125 : decode cL_goes 125 = .ok (.iload 7, 2) := by decide +kernel
theorem dL_goes_127 : decode cL_goes 127 = .ok (.if_icmp .ne 27, 3) := by decide +kernel
theorem dL_goes_130 : decode cL_goes 130 = .ok (.aload_n 0, 1) := by decide +kernel
theorem dL_goes_131 : decode cL_goes 131 = .ok (.bipush 6, 2) := by decide +kernel
theorem dL_goes_133 : decode cL_goes 133 = .ok (.invokevirtual 53, 3) := by decide +kernel
theorem dL_goes_136 : decode cL_goes 136 = .ok (.iload 9, 2) := by decide +kernel
theorem dL_goes_138 : decode cL_goes 138 = .ok (.if_icmp .ne 16, 3) := by decide +kernel
theorem dL_goes_141 : decode cL_goes 141 = .ok (.aload_n 0, 1) := by decide +kernel
theorem dL_goes_142 : decode cL_goes 142 = .ok (.iload_n 1, 1) := by decide +kernel
theorem dL_goes_143 : decode cL_goes 143 = .ok (.invokevirtual 76, 3) := by decide +kernel
theorem dL_goes_146 : decode cL_goes 146 = .ok (.iload_n 3, 1) := by decide +kernel
theorem dL_goes_147 : decode cL_goes 147 = .ok (.if_icmp .ne 7, 3) := by decide +kernel
theorem dL_goes_150 : decode cL_goes 150 = .ok (.iconst 1, 1) := by decide +kernel
theorem dL_goes_151 : decode cL_goes 151 = .ok (.goto 4, 3) := by decide +kernel
theorem dL_goes_154 : decode cL_goes 154 = .ok (.iconst 0, 1) := by decide +kernel
theorem dL_goes_155 : decode cL_goes 155 = .ok (.ireturn, 1) := by decide +kernel
theorem dL_goes_156 : decode cL_goes 156 = .ok (.iload 15, 2) := by decide +kernel
theorem dL_goes_158 : decode cL_goes 158 = .ok (.iload_n 3, 1) := by decide +kernel
theorem dL_goes_159 : decode cL_goes 159 = .ok (.if_icmp .ne 134, 3) := by decide +kernel
theorem dL_goes_162 : decode cL_goes 162 = .ok (.aload_n 0, 1) := by decide +kernel
theorem dL_goes_163 : decode cL_goes 163 = .ok (.iconst 4, 1) := by decide +kernel
theorem dL_goes_164 : decode cL_goes 164 = .ok (.invokevirtual 53, 3) := by decide +kernel
theorem dL_goes_167 : decode cL_goes 167 = .ok (.iload 7, 2) := by decide +kernel
theorem dL_goes_169 : decode cL_goes 169 = .ok (.iload 15, 2) := by decide +kernel
theorem dL_goes_171 : decode cL_goes 171 = .ok (.iadd, 1) := by decide +kernel
theorem dL_goes_172 : decode cL_goes 172 = .ok (.if_icmp .ne 121, 3) := by decide +kernel
theorem dL_goes_175 : decode cL_goes 175 = .ok (.aload_n 0, 1) := by decide +kernel
theorem dL_goes_176 : decode cL_goes 176 = .ok (.iconst 2, 1) := by decide +kernel
theorem dL_goes_177 : decode cL_goes 177 = .ok (.invokevirtual 79, 3) := by decide +kernel
theorem dL_goes_180 : decode cL_goes 180 = .ok (.dload 4, 2) := by decide +kernel
theorem dL_goes_182 : decode cL_goes 182 = .ok (.dcmp .l, 1) := by decide +kernel
theorem dL_goes_183 : decode cL_goes 183 = .ok (.ifCond .ne 110, 3) := by decide +kernel
theorem dL_goes_186 : decode cL_goes 186 = .ok (.aload_n 0, 1) := by decide +kernel
theorem dL_goes_187 : decode cL_goes 187 = .ok (.bipush 10, 2) := by decide +kernel
theorem dL_goes_189 : decode cL_goes 189 = .ok (.invokevirtual 53, 3) := by decide +kernel
theorem dL_goes_192 : decode cL_goes 192 = .ok (.iload_n 1, 1) := by decide +kernel
theorem dL_goes_193 : decode cL_goes 193 = .ok (.if_icmp .ne 100, 3) := by decide +kernel
theorem dL_goes_196 : decode cL_goes 196 = .ok (.aload_n 0, 1) := by decide +kernel
theorem dL_goes_197 : decode cL_goes 197 = .ok (.bipush 11, 2) := by decide +kernel
theorem dL_goes_199 : decode cL_goes 199 = .ok (.invokevirtual 53, 3) := by decide +kernel
theorem dL_goes_202 : decode cL_goes 202 = .ok (.iconst 1, 1) := by decide +kernel
theorem dL_goes_203 : decode cL_goes 203 = .ok (.if_icmp .ne 90, 3) := by decide +kernel
theorem dL_goes_206 : decode cL_goes 206 = .ok (.aload_n 0, 1) := by decide +kernel
theorem dL_goes_207 : decode cL_goes 207 = .ok (.iconst 3, 1) := by decide +kernel
theorem dL_goes_208 : decode cL_goes 208 = .ok (.invokevirtual 53, 3) := by decide +kernel
theorem dL_goes_211 : decode cL_goes 211 = .ok (.aload_n 0, 1) := by decide +kernel
theorem dL_goes_212 : decode cL_goes 212 = .ok (.iload_n 1, 1) := by decide +kernel
theorem dL_goes_213 : decode cL_goes 213 = .ok (.iconst 2, 1) := by decide +kernel
theorem dL_goes_214 : decode cL_goes 214 = .ok (.invokevirtual 36, 3) := by decide +kernel
theorem dL_goes_217 : decode cL_goes 217 = .ok (.if_icmp .ne 76, 3) := by decide +kernel
theorem dL_goes_220 : decode cL_goes 220 = .ok (.aload_n 0, 1) := by decide +kernel
theorem dL_goes_221 : decode cL_goes 221 = .ok (.bipush 6, 2) := by decide +kernel
theorem dL_goes_223 : decode cL_goes 223 = .ok (.invokevirtual 53, 3) := by decide +kernel
theorem dL_goes_226 : decode cL_goes 226 = .ok (.iload 9, 2) := by decide +kernel
theorem dL_goes_228 : decode cL_goes 228 = .ok (.iload 10, 2) := by decide +kernel
theorem dL_goes_230 : decode cL_goes 230 = .ok (.ifCond .eq 7, 3) := by decide +kernel
theorem dL_goes_233 : decode cL_goes 233 = .ok (.iconst 1, 1) := by decide +kernel
theorem dL_goes_234 : decode cL_goes 234 = .ok (.goto 4, 3) := by decide +kernel
theorem dL_goes_237 : decode cL_goes 237 = .ok (.iconst 0, 1) := by decide +kernel
theorem dL_goes_238 : decode cL_goes 238 = .ok (.iadd, 1) := by decide +kernel
theorem dL_goes_239 : decode cL_goes 239 = .ok (.if_icmp .ne 54, 3) := by decide +kernel
theorem dL_goes_242 : decode cL_goes 242 = .ok (.aload_n 0, 1) := by decide +kernel
theorem dL_goes_243 : decode cL_goes 243 = .ok (.bipush 7, 2) := by decide +kernel
theorem dL_goes_245 : decode cL_goes 245 = .ok (.invokevirtual 53, 3) := by decide +kernel
theorem dL_goes_248 : decode cL_goes 248 = .ok (.iload 8, 2) := by decide +kernel
theorem dL_goes_250 : decode cL_goes 250 = .ok (.iload 6, 2) := by decide +kernel
theorem dL_goes_252 : decode cL_goes 252 = .ok (.aload_n 0, 1) := by decide +kernel
theorem dL_goes_253 : decode cL_goes 253 = .ok (.iload_n 1, 1) := by decide +kernel
theorem dL_goes_254 : decode cL_goes 254 = .ok (.iconst 2, 1) := by decide +kernel
theorem dL_goes_255 : decode cL_goes 255 = .ok (.invokevirtual 36, 3) := by decide +kernel
theorem dL_goes_258 : decode cL_goes 258 = .ok (.if_icmp .ne 7, 3) := by decide +kernel
theorem dL_goes_261 : decode cL_goes 261 = .ok (.iconst 0, 1) := by decide +kernel
theorem dL_goes_262 : decode cL_goes 262 = .ok (.goto 4, 3) := by decide +kernel
theorem dL_goes_265 : decode cL_goes 265 = .ok (.iconst 1, 1) := by decide +kernel
theorem dL_goes_266 : decode cL_goes 266 = .ok (.iadd, 1) := by decide +kernel
theorem dL_goes_267 : decode cL_goes 267 = .ok (.if_icmp .ne 26, 3) := by decide +kernel
theorem dL_goes_270 : decode cL_goes 270 = .ok (.aload_n 0, 1) := by decide +kernel
theorem dL_goes_271 : decode cL_goes 271 = .ok (.iload_n 1, 1) := by decide +kernel
theorem dL_goes_272 : decode cL_goes 272 = .ok (.invokevirtual 76, 3) := by decide +kernel
theorem dL_goes_275 : decode cL_goes 275 = .ok (.ifCond .ne 18, 3) := by decide +kernel
theorem dL_goes_278 : decode cL_goes 278 = .ok (.aload_n 0, 1) := by decide +kernel
theorem dL_goes_279 : decode cL_goes 279 = .ok (.iload 11, 2) := by decide +kernel
theorem dL_goes_281 : decode cL_goes 281 = .ok (.invokevirtual 48, 3) := by decide +kernel
theorem dL_goes_284 : decode cL_goes 284 = .ok (.iload 12, 2) := by decide +kernel
theorem dL_goes_286 : decode cL_goes 286 = .ok (.if_icmp .ne 7, 3) := by decide +kernel
theorem dL_goes_289 : decode cL_goes 289 = .ok (.iconst 1, 1) := by decide +kernel
theorem dL_goes_290 : decode cL_goes 290 = .ok (.goto 4, 3) := by decide +kernel
theorem dL_goes_293 : decode cL_goes 293 = .ok (.iconst 0, 1) := by decide +kernel
theorem dL_goes_294 : decode cL_goes 294 = .ok (.istore 16, 2) := by decide +kernel
theorem dL_goes_296 : decode cL_goes 296 = .ok (.iload 16, 2) := by decide +kernel
theorem dL_goes_298 : decode cL_goes 298 = .ok (.ifCond .eq 11, 3) := by decide +kernel
theorem dL_goes_301 : decode cL_goes 301 = .ok (.iload_n 2, 1) := by decide +kernel
theorem dL_goes_302 : decode cL_goes 302 = .ok (.iconst 3, 1) := by decide +kernel
theorem dL_goes_303 : decode cL_goes 303 = .ok (.invokestatic 93, 3) := by decide +kernel
theorem dL_goes_306 : decode cL_goes 306 = .ok (.ifCond .ne 6, 3) := by decide +kernel
theorem dL_goes_309 : decode cL_goes 309 = .ok (.iload 16, 2) := by decide +kernel
theorem dL_goes_311 : decode cL_goes 311 = .ok (.ireturn, 1) := by decide +kernel
theorem dL_goes_312 : decode cL_goes 312 = .ok (.aload_n 0, 1) := by decide +kernel
theorem dL_goes_313 : decode cL_goes 313 = .ok (.iconst 0, 1) := by decide +kernel
theorem dL_goes_314 : decode cL_goes 314 = .ok (.invokevirtual 79, 3) := by decide +kernel
theorem dL_goes_317 : decode cL_goes 317 = .ok (.dstore 17, 2) := by decide +kernel
theorem dL_goes_319 : decode cL_goes 319 = .ok (.aload_n 0, 1) := by decide +kernel
theorem dL_goes_320 : decode cL_goes 320 = .ok (.invokevirtual 19, 3) := by decide +kernel
theorem dL_goes_323 : decode cL_goes 323 = .ok (.iload 12, 2) := by decide +kernel
theorem dL_goes_325 : decode cL_goes 325 = .ok (.iconst 1, 1) := by decide +kernel
theorem dL_goes_326 : decode cL_goes 326 = .ok (.iadd, 1) := by decide +kernel
theorem dL_goes_327 : decode cL_goes 327 = .ok (.if_icmp .ne 114, 3) := by decide +kernel
theorem dL_goes_330 : decode cL_goes 330 = .ok (.aload_n 0, 1) := by decide +kernel
theorem dL_goes_331 : decode cL_goes 331 = .ok (.bipush 11, 2) := by decide +kernel
theorem dL_goes_333 : decode cL_goes 333 = .ok (.invokevirtual 53, 3) := by decide +kernel
theorem dL_goes_336 : decode cL_goes 336 = .ok (.ifCond .ne 105, 3) := by decide +kernel
theorem dL_goes_339 : decode cL_goes 339 = .ok (.aload_n 0, 1) := by decide +kernel
theorem dL_goes_340 : decode cL_goes 340 = .ok (.iload 11, 2) := by decide +kernel
theorem dL_goes_342 : decode cL_goes 342 = .ok (.invokevirtual 45, 3) := by decide +kernel
theorem dL_goes_345 : decode cL_goes 345 = .ok (.iload 11, 2) := by decide +kernel
theorem dL_goes_347 : decode cL_goes 347 = .ok (.if_icmp .ne 94, 3) := by decide +kernel
theorem dL_goes_350 : decode cL_goes 350 = .ok (.aload_n 0, 1) := by decide +kernel
theorem dL_goes_351 : decode cL_goes 351 = .ok (.iload 11, 2) := by decide +kernel
theorem dL_goes_353 : decode cL_goes 353 = .ok (.iconst 0, 1) := by decide +kernel
theorem dL_goes_354 : decode cL_goes 354 = .ok (.invokevirtual 56, 3) := by decide +kernel
theorem dL_goes_357 : decode cL_goes 357 = .ok (.dload 13, 2) := by decide +kernel
theorem dL_goes_359 : decode cL_goes 359 = .ok (.dload 17, 2) := by decide +kernel
theorem dL_goes_361 : decode cL_goes 361 = .ok (.aload_n 0, 1) := by decide +kernel
theorem dL_goes_362 : decode cL_goes 362 = .ok (.iconst 1, 1) := by decide +kernel
theorem dL_goes_363 : decode cL_goes 363 = .ok (.invokevirtual 69, 3) := by decide +kernel
theorem dL_goes_366 : decode cL_goes 366 = .ok (.i2d, 1) := by decide +kernel
theorem dL_goes_367 : decode cL_goes 367 = .ok (.dmul, 1) := by decide +kernel
theorem dL_goes_368 : decode cL_goes 368 = .ok (.ldc2_w 96, 3) := by decide +kernel
theorem dL_goes_371 : decode cL_goes 371 = .ok (.ddiv, 1) := by decide +kernel
theorem dL_goes_372 : decode cL_goes 372 = .ok (.dadd, 1) := by decide +kernel
theorem dL_goes_373 : decode cL_goes 373 = .ok (.dcmp .l, 1) := by decide +kernel
theorem dL_goes_374 : decode cL_goes 374 = .ok (.ifCond .ne 67, 3) := by decide +kernel
theorem dL_goes_377 : decode cL_goes 377 = .ok (.aload_n 0, 1) := by decide +kernel
theorem dL_goes_378 : decode cL_goes 378 = .ok (.invokestatic 98, 3) := by decide +kernel
theorem dL_goes_381 : decode cL_goes 381 = .ok (.sipush (-902), 3) := by decide +kernel
theorem dL_goes_384 : decode cL_goes 384 = .ok (.if_icmp .ne 57, 3) := by decide +kernel
theorem dL_goes_387 : decode cL_goes 387 = .ok (.iload_n 2, 1) := by decide +kernel
theorem dL_goes_388 : decode cL_goes 388 = .ok (.iconst 3, 1) := by decide +kernel
theorem dL_goes_389 : decode cL_goes 389 = .ok (.invokestatic 93, 3) := by decide +kernel
theorem dL_goes_392 : decode cL_goes 392 = .ok (.iconst 1, 1) := by decide +kernel
theorem dL_goes_393 : decode cL_goes 393 = .ok (.if_icmp .gt 44, 3) := by decide +kernel
theorem dL_goes_396 : decode cL_goes 396 = .ok (.aload_n 0, 1) := by decide +kernel
theorem dL_goes_397 : decode cL_goes 397 = .ok (.invokevirtual 42, 3) := by decide +kernel
theorem dL_goes_400 : decode cL_goes 400 = .ok (.ifCond .lt 41, 3) := by decide +kernel
theorem dL_goes_403 : decode cL_goes 403 = .ok (.aload_n 0, 1) := by decide +kernel
theorem dL_goes_404 : decode cL_goes 404 = .ok (.bipush 11, 2) := by decide +kernel
theorem dL_goes_406 : decode cL_goes 406 = .ok (.invokevirtual 53, 3) := by decide +kernel
theorem dL_goes_409 : decode cL_goes 409 = .ok (.iconst 1, 1) := by decide +kernel
theorem dL_goes_410 : decode cL_goes 410 = .ok (.if_icmp .ne 31, 3) := by decide +kernel
theorem dL_goes_413 : decode cL_goes 413 = .ok (.aload_n 0, 1) := by decide +kernel
theorem dL_goes_414 : decode cL_goes 414 = .ok (.iload 11, 2) := by decide +kernel
theorem dL_goes_416 : decode cL_goes 416 = .ok (.invokevirtual 48, 3) := by decide +kernel
theorem dL_goes_419 : decode cL_goes 419 = .ok (.iload 12, 2) := by decide +kernel
theorem dL_goes_421 : decode cL_goes 421 = .ok (.if_icmp .ne 20, 3) := by decide +kernel
theorem dL_goes_424 : decode cL_goes 424 = .ok (.aload_n 0, 1) := by decide +kernel
theorem dL_goes_425 : decode cL_goes 425 = .ok (.iload 11, 2) := by decide +kernel
theorem dL_goes_427 : decode cL_goes 427 = .ok (.iconst 0, 1) := by decide +kernel
theorem dL_goes_428 : decode cL_goes 428 = .ok (.invokevirtual 56, 3) := by decide +kernel
theorem dL_goes_431 : decode cL_goes 431 = .ok (.dload 13, 2) := by decide +kernel
theorem dL_goes_433 : decode cL_goes 433 = .ok (.dcmp .l, 1) := by decide +kernel
theorem dL_goes_434 : decode cL_goes 434 = .ok (.ifCond .ne 7, 3) := by decide +kernel
theorem dL_goes_437 : decode cL_goes 437 = .ok (.iconst 1, 1) := by decide +kernel
theorem dL_goes_438 : decode cL_goes 438 = .ok (.goto 4, 3) := by decide +kernel
theorem dL_goes_441 : decode cL_goes 441 = .ok (.iconst 0, 1) := by decide +kernel
theorem dL_goes_442 : decode cL_goes 442 = .ok (.ireturn, 1) := by decide +kernel
theorem dL_tours_0 : decode cL_tours 0 = .ok (.aload_n 0, 1) := by decide +kernel
theorem dL_tours_1 : decode cL_tours 1 = .ok (.iconst 0, 1) := by decide +kernel
theorem dL_tours_2 : decode cL_tours 2 = .ok (.invokevirtual 53, 3) := by decide +kernel
theorem dL_tours_5 : decode cL_tours 5 = .ok (.istore_n 2, 1) := by decide +kernel
theorem dL_tours_6 : decode cL_tours 6 = .ok (.iconst 1, 1) := by decide +kernel
theorem dL_tours_7 : decode cL_tours 7 = .ok (.iload_n 1, 1) := by decide +kernel
theorem dL_tours_8 : decode cL_tours 8 = .ok (.iload_n 2, 1) := by decide +kernel
theorem dL_tours_9 : decode cL_tours 9 = .ok (.invokestatic 93, 3) := by decide +kernel
theorem dL_tours_12 : decode cL_tours 12 = .ok (.ishl, 1) := by decide +kernel
theorem dL_tours_13 : decode cL_tours 13 = .ok (.iconst 1, 1) := by decide +kernel
theorem dL_tours_14 : decode cL_tours 14 = .ok (.iload_n 1, 1) := by decide +kernel
theorem dL_tours_15 : decode cL_tours 15 = .ok (.iconst 4, 1) := by decide +kernel
theorem dL_tours_16 : decode cL_tours 16 = .ok (.ishr, 1) := by decide +kernel
theorem dL_tours_17 : decode cL_tours 17 = .ok (.iload_n 2, 1) := by decide +kernel
theorem dL_tours_18 : decode cL_tours 18 = .ok (.invokestatic 93, 3) := by decide +kernel
theorem dL_tours_21 : decode cL_tours 21 = .ok (.ishl, 1) := by decide +kernel
theorem dL_tours_22 : decode cL_tours 22 = .ok (.ior, 1) := by decide +kernel
theorem dL_tours_23 : decode cL_tours 23 = .ok (.iconst 1, 1) := by decide +kernel
theorem dL_tours_24 : decode cL_tours 24 = .ok (.iload_n 1, 1) := by decide +kernel
theorem dL_tours_25 : decode cL_tours 25 = .ok (.bipush 8, 2) := by decide +kernel
theorem dL_tours_27 : decode cL_tours 27 = .ok (.ishr, 1) := by decide +kernel
theorem dL_tours_28 : decode cL_tours 28 = .ok (.iload_n 2, 1) := by decide +kernel
theorem dL_tours_29 : decode cL_tours 29 = .ok (.invokestatic 93, 3) := by decide +kernel
theorem dL_tours_32 : decode cL_tours 32 = .ok (.ishl, 1) := by decide +kernel
theorem dL_tours_33 : decode cL_tours 33 = .ok (.ior, 1) := by decide +kernel
theorem dL_tours_34 : decode cL_tours 34 = .ok (.iconst 1, 1) := by decide +kernel
theorem dL_tours_35 : decode cL_tours 35 = .ok (.iload_n 1, 1) := by decide +kernel
theorem dL_tours_36 : decode cL_tours 36 = .ok (.bipush 12, 2) := by decide +kernel
theorem dL_tours_38 : decode cL_tours 38 = .ok (.ishr, 1) := by decide +kernel
theorem dL_tours_39 : decode cL_tours 39 = .ok (.iload_n 2, 1) := by decide +kernel
theorem dL_tours_40 : decode cL_tours 40 = .ok (.invokestatic 93, 3) := by decide +kernel
theorem dL_tours_43 : decode cL_tours 43 = .ok (.ishl, 1) := by decide +kernel
theorem dL_tours_44 : decode cL_tours 44 = .ok (.ior, 1) := by decide +kernel
theorem dL_tours_45 : decode cL_tours 45 = .ok (.istore_n 3, 1) := by decide +kernel
theorem dL_tours_46 : decode cL_tours 46 = .ok (.aload_n 0, 1) := by decide +kernel
theorem dL_tours_47 : decode cL_tours 47 = .ok (.iload_n 3, 1) := by decide +kernel
theorem dL_tours_48 : decode cL_tours 48 = .ok (.iconst (-1), 1) := by decide +kernel
theorem dL_tours_49 : decode cL_tours 49 = .ok (.invokevirtual 39, 3) := by decide +kernel
theorem dL_tours_52 : decode cL_tours 52 = .ok (.istore 4, 2) := by decide +kernel
theorem dL_tours_54 : decode cL_tours 54 = .ok (.iconst 0, 1) := by decide +kernel
theorem dL_tours_55 : decode cL_tours 55 = .ok (.istore 5, 2) := by decide +kernel
theorem dL_tours_57 : decode cL_tours 57 = .ok (.iconst 0, 1) := by decide +kernel
theorem dL_tours_58 : decode cL_tours 58 = .ok (.istore 6, 2) := by decide +kernel
theorem dL_tours_60 : decode cL_tours 60 = .ok (.aload_n 0, 1) := by decide +kernel
theorem dL_tours_61 : decode cL_tours 61 = .ok (.iconst 4, 1) := by decide +kernel
theorem dL_tours_62 : decode cL_tours 62 = .ok (.invokevirtual 53, 3) := by decide +kernel
theorem dL_tours_65 : decode cL_tours 65 = .ok (.iload 4, 2) := by decide +kernel
theorem dL_tours_67 : decode cL_tours 67 = .ok (.iadd, 1) := by decide +kernel
theorem dL_tours_68 : decode cL_tours 68 = .ok (.ldc 92, 2) := by decide +kernel
theorem dL_tours_70 : decode cL_tours 70 = .ok (.if_icmp .gt 7, 3) := by decide +kernel
theorem dL_tours_73 : decode cL_tours 73 = .ok (.iconst 1, 1) := by decide +kernel
theorem dL_tours_74 : decode cL_tours 74 = .ok (.goto 4, 3) := by decide +kernel
theorem dL_tours_77 : decode cL_tours 77 = .ok (.iconst 0, 1) := by decide +kernel
theorem dL_tours_78 : decode cL_tours 78 = .ok (.istore 7, 2) := by decide +kernel
theorem dL_tours_80 : decode cL_tours 80 = .ok (.aload_n 0, 1) := by decide +kernel
theorem dL_tours_81 : decode cL_tours 81 = .ok (.iload_n 3, 1) := by decide +kernel
theorem dL_tours_82 : decode cL_tours 82 = .ok (.iload 6, 2) := by decide +kernel
theorem dL_tours_84 : decode cL_tours 84 = .ok (.invokestatic 101, 3) := by decide +kernel
theorem dL_tours_87 : decode cL_tours 87 = .ok (.ifCond .lt 56, 3) := by decide +kernel
theorem dL_tours_90 : decode cL_tours 90 = .ok (.iload 6, 2) := by decide +kernel
theorem dL_tours_92 : decode cL_tours 92 = .ok (.iconst 5, 1) := by decide +kernel
theorem dL_tours_93 : decode cL_tours 93 = .ok (.if_icmp .ge 50, 3) := by decide +kernel
theorem dL_tours_96 : decode cL_tours 96 = .ok (.aload_n 0, 1) := by decide +kernel
theorem dL_tours_97 : decode cL_tours 97 = .ok (.iload_n 3, 1) := by decide +kernel
theorem dL_tours_98 : decode cL_tours 98 = .ok (.iload 6, 2) := by decide +kernel
theorem dL_tours_100 : decode cL_tours 100 = .ok (.invokevirtual 39, 3) := by decide +kernel
theorem dL_tours_103 : decode cL_tours 103 = .ok (.istore 8, 2) := by decide +kernel
theorem dL_tours_105 : decode cL_tours 105 = .ok (.iload 7, 2) := by decide +kernel
theorem dL_tours_107 : decode cL_tours 107 = .ok (.ifCond .eq 18, 3) := by decide +kernel
theorem dL_tours_110 : decode cL_tours 110 = .ok (.aload_n 0, 1) := by decide +kernel
theorem dL_tours_111 : decode cL_tours 111 = .ok (.iload 8, 2) := by decide +kernel
theorem dL_tours_113 : decode cL_tours 113 = .ok (.iconst 4, 1) := by decide +kernel
theorem dL_tours_114 : decode cL_tours 114 = .ok (.invokevirtual 36, 3) := by decide +kernel
theorem dL_tours_117 : decode cL_tours 117 = .ok (.iconst 1, 1) := by decide +kernel
theorem dL_tours_118 : decode cL_tours 118 = .ok (.if_icmp .ne 7, 3) := by decide +kernel
theorem dL_tours_121 : decode cL_tours 121 = .ok (.iconst 1, 1) := by decide +kernel
theorem dL_tours_122 : decode cL_tours 122 = .ok (.goto 4, 3) := by decide +kernel
theorem dL_tours_125 : decode cL_tours 125 = .ok (.iconst 0, 1) := by decide +kernel
theorem dL_tours_126 : decode cL_tours 126 = .ok (.istore 7, 2) := by decide +kernel
theorem dL_tours_128 : decode cL_tours 128 = .ok (.iload 5, 2) := by decide +kernel
theorem dL_tours_130 : decode cL_tours 130 = .ok (.iconst 1, 1) := by decide +kernel
theorem dL_tours_131 : decode cL_tours 131 = .ok (.iload 8, 2) := by decide +kernel
theorem dL_tours_133 : decode cL_tours 133 = .ok (.ishl, 1) := by decide +kernel
theorem dL_tours_134 : decode cL_tours 134 = .ok (.ior, 1) := by decide +kernel
theorem dL_tours_135 : decode cL_tours 135 = .ok (.istore 5, 2) := by decide +kernel
theorem dL_tours_137 : decode cL_tours 137 = .ok (.iinc 6 1, 3) := by decide +kernel
theorem dL_tours_140 : decode cL_tours 140 = .ok (.goto (-60), 3) := by decide +kernel
theorem dL_tours_143 : decode cL_tours 143 = .ok (.iload 5, 2) := by decide +kernel
theorem dL_tours_145 : decode cL_tours 145 = .ok (.iload_n 3, 1) := by decide +kernel
theorem dL_tours_146 : decode cL_tours 146 = .ok (.if_icmp .ne 47, 3) := by decide +kernel
theorem dL_tours_149 : decode cL_tours 149 = .ok (.aload_n 0, 1) := by decide +kernel
theorem dL_tours_150 : decode cL_tours 150 = .ok (.iload_n 3, 1) := by decide +kernel
theorem dL_tours_151 : decode cL_tours 151 = .ok (.iload 6, 2) := by decide +kernel
theorem dL_tours_153 : decode cL_tours 153 = .ok (.invokestatic 101, 3) := by decide +kernel
theorem dL_tours_156 : decode cL_tours 156 = .ok (.sipush (-903), 3) := by decide +kernel
theorem dL_tours_159 : decode cL_tours 159 = .ok (.if_icmp .ne 34, 3) := by decide +kernel
theorem dL_tours_162 : decode cL_tours 162 = .ok (.iload 4, 2) := by decide +kernel
theorem dL_tours_164 : decode cL_tours 164 = .ok (.aload_n 0, 1) := by decide +kernel
theorem dL_tours_165 : decode cL_tours 165 = .ok (.aload_n 0, 1) := by decide +kernel
theorem dL_tours_166 : decode cL_tours 166 = .ok (.iload_n 3, 1) := by decide +kernel
theorem dL_tours_167 : decode cL_tours 167 = .ok (.iconst 0, 1) := by decide +kernel
theorem dL_tours_168 : decode cL_tours 168 = .ok (.invokevirtual 39, 3) := by decide +kernel
theorem dL_tours_171 : decode cL_tours 171 = .ok (.invokevirtual 76, 3) := by decide +kernel
theorem dL_tours_174 : decode cL_tours 174 = .ok (.if_icmp .lt 19, 3) := by decide +kernel
theorem dL_tours_177 : decode cL_tours 177 = .ok (.aload_n 0, 1) := by decide +kernel
theorem dL_tours_178 : decode cL_tours 178 = .ok (.iload_n 3, 1) := by decide +kernel
theorem dL_tours_179 : decode cL_tours 179 = .ok (.iconst 1, 1) := by decide +kernel
theorem dL_tours_180 : decode cL_tours 180 = .ok (.iload_n 2, 1) := by decide +kernel
theorem dL_tours_181 : decode cL_tours 181 = .ok (.ishl, 1) := by decide +kernel
theorem dL_tours_182 : decode cL_tours 182 = .ok (.ior, 1) := by decide +kernel
theorem dL_tours_183 : decode cL_tours 183 = .ok (.iconst 0, 1) := by decide +kernel
theorem dL_tours_184 : decode cL_tours 184 = .ok (.invokestatic 101, 3) := by decide +kernel
theorem dL_tours_187 : decode cL_tours 187 = .ok (.sipush (-901), 3) := by decide +kernel
theorem dL_tours_190 : decode cL_tours 190 = .ok (.if_icmp .eq 5, 3) := by decide +kernel
theorem dL_tours_193 : decode cL_tours 193 = .ok (.iconst 0, 1) := by decide +kernel
theorem dL_tours_194 : decode cL_tours 194 = .ok (.ireturn, 1) := by decide +kernel
theorem dL_tours_195 : decode cL_tours 195 = .ok (.aload_n 0, 1) := by decide +kernel
theorem dL_tours_196 : decode cL_tours 196 = .ok (.iconst 4, 1) := by decide +kernel
theorem dL_tours_197 : decode cL_tours 197 = .ok (.invokevirtual 53, 3) := by decide +kernel
theorem dL_tours_200 : decode cL_tours 200 = .ok (.istore 8, 2) := by decide +kernel
theorem dL_tours_202 : decode cL_tours 202 = .ok (.iconst 5, 1) := by decide +kernel
theorem dL_tours_203 : decode cL_tours 203 = .ok (.newarray .int, 2) := by decide +kernel
theorem dL_tours_205 : decode cL_tours 205 = .ok (.astore 9, 2) := by decide +kernel
theorem dL_tours_207 : decode cL_tours 207 = .ok (.iconst 0, 1) := by decide +kernel
theorem dL_tours_208 : decode cL_tours 208 = .ok (.istore 10, 2) := by decide +kernel
theorem dL_tours_210 : decode cL_tours 210 = .ok (.iload 10, 2) := by decide +kernel
theorem dL_tours_212 : decode cL_tours 212 = .ok (.iload 6, 2) := by decide +kernel
theorem dL_tours_214 : decode cL_tours 214 = .ok (.if_icmp .ge 21, 3) := by decide +kernel
theorem dL_tours_217 : decode cL_tours 217 = .ok (.aload 9, 2) := by decide +kernel
theorem dL_tours_219 : decode cL_tours 219 = .ok (.iload 10, 2) := by decide +kernel
theorem dL_tours_221 : decode cL_tours 221 = .ok (.aload_n 0, 1) := by decide +kernel
theorem dL_tours_222 : decode cL_tours 222 = .ok (.iload_n 3, 1) := by decide +kernel
theorem dL_tours_223 : decode cL_tours 223 = .ok (.iload 10, 2) := by decide +kernel
theorem dL_tours_225 : decode cL_tours 225 = .ok (.invokevirtual 39, 3) := by decide +kernel
theorem dL_tours_228 : decode cL_tours 228 = .ok (.iastore, 1) := by decide +kernel
theorem dL_tours_229 : decode cL_tours 229 = .ok (.iinc 10 1, 3) := by decide +kernel
theorem dL_tours_232 : decode cL_tours 232 = .ok (.goto (-22), 3) := by decide +kernel
theorem dL_tours_235 : decode cL_tours 235 = .ok (.iconst 0, 1) := by decide +kernel
theorem dL_tours_236 : decode cL_tours 236 = .ok (.istore 10, 2) := by decide +kernel
theorem dL_tours_238 : decode cL_tours 238 = .ok (.iload 10, 2) := by decide +kernel
theorem dL_tours_240 : decode cL_tours 240 = .ok (.iload 6, 2) := by decide +kernel
theorem dL_tours_242 : decode cL_tours 242 = .ok (.if_icmp .ge 28, 3) := by decide +kernel
theorem dL_tours_245 : decode cL_tours 245 = .ok (.iload 7, 2) := by decide +kernel
theorem dL_tours_247 : decode cL_tours 247 = .ok (.ifCond .eq 23, 3) := by decide +kernel
theorem dL_tours_250 : decode cL_tours 250 = .ok (.aload_n 0, 1) := by decide +kernel
theorem dL_tours_251 : decode cL_tours 251 = .ok (.aload 9, 2) := by decide +kernel
theorem dL_tours_253 : decode cL_tours 253 = .ok (.iload 10, 2) := by decide +kernel
theorem dL_tours_255 : decode cL_tours 255 = .ok (.iaload, 1) := by decide +kernel
theorem dL_tours_256 : decode cL_tours 256 = .ok (.invokestatic 89, 3) := by decide +kernel
theorem dL_tours_259 : decode cL_tours 259 = .ok (.ifCond .ge 5, 3) := by decide +kernel
theorem dL_tours_262 : decode cL_tours 262 = .ok (.iconst 0, 1) := by decide +kernel
theorem dL_tours_263 : decode cL_tours 263 = .ok (.ireturn, 1) := by decide +kernel
theorem dL_tours_264 : decode cL_tours 264 = .ok (.iinc 10 1, 3) := by decide +kernel
theorem dL_tours_267 : decode cL_tours 267 = .ok (.goto (-29), 3) := by decide +kernel
theorem dL_tours_270 : decode cL_tours 270 = .ok (.iload 7, 2) := by decide +kernel
theorem dL_tours_272 : decode cL_tours 272 = .ok (.ifCond .eq 16, 3) := by decide +kernel
theorem dL_tours_275 : decode cL_tours 275 = .ok (.aload_n 0, 1) := by decide +kernel
theorem dL_tours_276 : decode cL_tours 276 = .ok (.iconst 4, 1) := by decide +kernel
theorem dL_tours_277 : decode cL_tours 277 = .ok (.invokevirtual 53, 3) := by decide +kernel
theorem dL_tours_280 : decode cL_tours 280 = .ok (.iload 8, 2) := by decide +kernel
theorem dL_tours_282 : decode cL_tours 282 = .ok (.iload 4, 2) := by decide +kernel
theorem dL_tours_284 : decode cL_tours 284 = .ok (.iadd, 1) := by decide +kernel
theorem dL_tours_285 : decode cL_tours 285 = .ok (.if_icmp .ne 7, 3) := by decide +kernel
theorem dL_tours_288 : decode cL_tours 288 = .ok (.iconst 1, 1) := by decide +kernel
theorem dL_tours_289 : decode cL_tours 289 = .ok (.goto 4, 3) := by decide +kernel
theorem dL_tours_292 : decode cL_tours 292 = .ok (.iconst 0, 1) := by decide +kernel
theorem dL_tours_293 : decode cL_tours 293 = .ok (.ireturn, 1) := by decide +kernel
theorem dL_acts_0 : decode cL_acts 0 = .ok (.iload_n 1, 1) := by decide +kernel
theorem dL_acts_1 : decode cL_acts 1 = .ok (.bipush 16, 2) := by decide +kernel
theorem dL_acts_3 : decode cL_acts 3 = .ok (.invokestatic 93, 3) := by decide +kernel
theorem dL_acts_6 : decode cL_acts 6 = .ok (.istore_n 3, 1) := by decide +kernel
theorem dL_acts_7 : decode cL_acts 7 = .ok (.aload_n 0, 1) := by decide +kernel
theorem dL_acts_8 : decode cL_acts 8 = .ok (.iconst 0, 1) := by decide +kernel
theorem dL_acts_9 : decode cL_acts 9 = .ok (.invokevirtual 53, 3) := by decide +kernel
theorem dL_acts_12 : decode cL_acts 12 = .ok (.istore 4, 2) := by decide +kernel
theorem dL_acts_14 : decode cL_acts 14 = .ok (.iload_n 3, 1) := by decide +kernel
theorem dL_acts_15 : decode cL_acts 15 = .ok (.iconst 2, 1) := by decide +kernel
theorem dL_acts_16 : decode cL_acts 16 = .ok (.if_icmp .ge 84, 3) := by decide +kernel
theorem dL_acts_19 : decode cL_acts 19 = .ok (.iload 4, 2) := by decide +kernel
theorem dL_acts_21 : decode cL_acts 21 = .ok (.bipush 18, 2) := by decide +kernel
theorem dL_acts_23 : decode cL_acts 23 = .ok (.if_icmp .ge 77, 3) := by decide +kernel
theorem dL_acts_26 : decode cL_acts 26 = .ok (.iload_n 2, 1) := by decide +kernel
theorem dL_acts_27 : decode cL_acts 27 = .ok (.sipush 21600, 3) := by decide +kernel
theorem dL_acts_30 : decode cL_acts 30 = .ok (.invokestatic 93, 3) := by decide +kernel
theorem dL_acts_33 : decode cL_acts 33 = .ok (.istore 5, 2) := by decide +kernel
theorem dL_acts_35 : decode cL_acts 35 = .ok (.iload_n 2, 1) := by decide +kernel
theorem dL_acts_36 : decode cL_acts 36 = .ok (.bipush 7, 2) := by decide +kernel
theorem dL_acts_38 : decode cL_acts 38 = .ok (.ishr, 1) := by decide +kernel
theorem dL_acts_39 : decode cL_acts 39 = .ok (.sipush 5401, 3) := by decide +kernel
theorem dL_acts_42 : decode cL_acts 42 = .ok (.invokestatic 93, 3) := by decide +kernel
theorem dL_acts_45 : decode cL_acts 45 = .ok (.istore 6, 2) := by decide +kernel
theorem dL_acts_47 : decode cL_acts 47 = .ok (.aload_n 0, 1) := by decide +kernel
theorem dL_acts_48 : decode cL_acts 48 = .ok (.iload 5, 2) := by decide +kernel
theorem dL_acts_50 : decode cL_acts 50 = .ok (.iload 6, 2) := by decide +kernel
theorem dL_acts_52 : decode cL_acts 52 = .ok (.invokevirtual 104, 3) := by decide +kernel
theorem dL_acts_55 : decode cL_acts 55 = .ok (.iload 4, 2) := by decide +kernel
theorem dL_acts_57 : decode cL_acts 57 = .ok (.if_icmp .ne 41, 3) := by decide +kernel
theorem dL_acts_60 : decode cL_acts 60 = .ok (.aload_n 0, 1) := by decide +kernel
theorem dL_acts_61 : decode cL_acts 61 = .ok (.iload 4, 2) := by decide +kernel
theorem dL_acts_63 : decode cL_acts 63 = .ok (.iconst 0, 1) := by decide +kernel
theorem dL_acts_64 : decode cL_acts 64 = .ok (.invokevirtual 36, 3) := by decide +kernel
theorem dL_acts_67 : decode cL_acts 67 = .ok (.iload 5, 2) := by decide +kernel
theorem dL_acts_69 : decode cL_acts 69 = .ok (.if_icmp .ne 29, 3) := by decide +kernel
theorem dL_acts_72 : decode cL_acts 72 = .ok (.aload_n 0, 1) := by decide +kernel
theorem dL_acts_73 : decode cL_acts 73 = .ok (.iload 4, 2) := by decide +kernel
theorem dL_acts_75 : decode cL_acts 75 = .ok (.iconst 1, 1) := by decide +kernel
theorem dL_acts_76 : decode cL_acts 76 = .ok (.invokevirtual 36, 3) := by decide +kernel
theorem dL_acts_79 : decode cL_acts 79 = .ok (.iload 6, 2) := by decide +kernel
theorem dL_acts_81 : decode cL_acts 81 = .ok (.if_icmp .ne 17, 3) := by decide +kernel
theorem dL_acts_84 : decode cL_acts 84 = .ok (.aload_n 0, 1) := by decide +kernel
theorem dL_acts_85 : decode cL_acts 85 = .ok (.iload 4, 2) := by decide +kernel
theorem dL_acts_87 : decode cL_acts 87 = .ok (.iconst 5, 1) := by decide +kernel
theorem dL_acts_88 : decode cL_acts 88 = .ok (.invokevirtual 36, 3) := by decide +kernel
theorem dL_acts_91 : decode cL_acts 91 = .ok (.ifCond .ne 7, 3) := by decide +kernel
theorem dL_acts_94 : decode cL_acts 94 = .ok (.iconst 1, 1) := by decide +kernel
theorem dL_acts_95 : decode cL_acts 95 = .ok (.goto 4, 3) := by decide +kernel
theorem dL_acts_98 : decode cL_acts 98 = .ok (.iconst 0, 1) := by decide +kernel
theorem dL_acts_99 : decode cL_acts 99 = .ok (.ireturn, 1) := by decide +kernel
theorem dL_acts_100 : decode cL_acts 100 = .ok (.iload_n 3, 1) := by decide +kernel
theorem dL_acts_101 : decode cL_acts 101 = .ok (.bipush 9, 2) := by decide +kernel
theorem dL_acts_103 : decode cL_acts 103 = .ok (.if_icmp .ge 17, 3) := by decide +kernel
theorem dL_acts_106 : decode cL_acts 106 = .ok (.aload_n 0, 1) := by decide +kernel
theorem dL_acts_107 : decode cL_acts 107 = .ok (.iload_n 2, 1) := by decide +kernel
theorem dL_acts_108 : decode cL_acts 108 = .ok (.iload 4, 2) := by decide +kernel
theorem dL_acts_110 : decode cL_acts 110 = .ok (.invokestatic 93, 3) := by decide +kernel
theorem dL_acts_113 : decode cL_acts 113 = .ok (.iload_n 2, 1) := by decide +kernel
theorem dL_acts_114 : decode cL_acts 114 = .ok (.iconst 5, 1) := by decide +kernel
theorem dL_acts_115 : decode cL_acts 115 = .ok (.ishr, 1) := by decide +kernel
theorem dL_acts_116 : decode cL_acts 116 = .ok (.invokestatic 107, 3) := by decide +kernel
theorem dL_acts_119 : decode cL_acts 119 = .ok (.ireturn, 1) := by decide +kernel
theorem dL_acts_120 : decode cL_acts 120 = .ok (.iload_n 3, 1) := by decide +kernel
theorem dL_acts_121 : decode cL_acts 121 = .ok (.bipush 11, 2) := by decide +kernel
theorem dL_acts_123 : decode cL_acts 123 = .ok (.if_icmp .ge 93, 3) := by decide +kernel
theorem dL_acts_126 : decode cL_acts 126 = .ok (.iload_n 2, 1) := by decide +kernel
theorem dL_acts_127 : decode cL_acts 127 = .ok (.iconst 2, 1) := by decide +kernel
theorem dL_acts_128 : decode cL_acts 128 = .ok (.invokestatic 93, 3) := by decide +kernel
theorem dL_acts_131 : decode cL_acts 131 = .ok (.istore 5, 2) := by decide +kernel
theorem dL_acts_133 : decode cL_acts 133 = .ok (.iload_n 2, 1) := by decide +kernel
theorem dL_acts_134 : decode cL_acts 134 = .ok (.iconst 1, 1) := by decide +kernel
theorem dL_acts_135 : decode cL_acts 135 = .ok (.ishr, 1) := by decide +kernel
theorem dL_acts_136 : decode cL_acts 136 = .ok (.iconst 4, 1) := by decide +kernel
theorem dL_acts_137 : decode cL_acts 137 = .ok (.invokestatic 93, 3) := by decide +kernel
theorem dL_acts_140 : decode cL_acts 140 = .ok (.istore 6, 2) := by decide +kernel
theorem dL_acts_142 : decode cL_acts 142 = .ok (.aload_n 0, 1) := by decide +kernel
theorem dL_acts_143 : decode cL_acts 143 = .ok (.iload 5, 2) := by decide +kernel
theorem dL_acts_145 : decode cL_acts 145 = .ok (.iload 6, 2) := by decide +kernel
theorem dL_acts_147 : decode cL_acts 147 = .ok (.invokevirtual 66, 3) := by decide +kernel
theorem dL_acts_150 : decode cL_acts 150 = .ok (.istore 7, 2) := by decide +kernel
theorem dL_acts_152 : decode cL_acts 152 = .ok (.iload_n 2, 1) := by decide +kernel
theorem dL_acts_153 : decode cL_acts 153 = .ok (.iconst 3, 1) := by decide +kernel
theorem dL_acts_154 : decode cL_acts 154 = .ok (.ishr, 1) := by decide +kernel
theorem dL_acts_155 : decode cL_acts 155 = .ok (.sipush 241, 3) := by decide +kernel
theorem dL_acts_158 : decode cL_acts 158 = .ok (.invokestatic 93, 3) := by decide +kernel
theorem dL_acts_161 : decode cL_acts 161 = .ok (.bipush 120, 2) := by decide +kernel
theorem dL_acts_163 : decode cL_acts 163 = .ok (.isub, 1) := by decide +kernel
theorem dL_acts_164 : decode cL_acts 164 = .ok (.istore 8, 2) := by decide +kernel
theorem dL_acts_166 : decode cL_acts 166 = .ok (.aload_n 0, 1) := by decide +kernel
theorem dL_acts_167 : decode cL_acts 167 = .ok (.iload 5, 2) := by decide +kernel
theorem dL_acts_169 : decode cL_acts 169 = .ok (.iload 6, 2) := by decide +kernel
theorem dL_acts_171 : decode cL_acts 171 = .ok (.iload 8, 2) := by decide +kernel
theorem dL_acts_173 : decode cL_acts 173 = .ok (.invokestatic 111, 3) := by decide +kernel
theorem dL_acts_176 : decode cL_acts 176 = .ok (.iload 7, 2) := by decide +kernel
theorem dL_acts_178 : decode cL_acts 178 = .ok (.if_icmp .ne 36, 3) := by decide +kernel
theorem dL_acts_181 : decode cL_acts 181 = .ok (.aload_n 0, 1) := by decide +kernel
theorem dL_acts_182 : decode cL_acts 182 = .ok (.iload 5, 2) := by decide +kernel
theorem dL_acts_184 : decode cL_acts 184 = .ok (.iload 6, 2) := by decide +kernel
theorem dL_acts_186 : decode cL_acts 186 = .ok (.invokevirtual 66, 3) := by decide +kernel
theorem dL_acts_189 : decode cL_acts 189 = .ok (.iload 8, 2) := by decide +kernel
theorem dL_acts_191 : decode cL_acts 191 = .ok (.if_icmp .ne 23, 3) := by decide +kernel
theorem dL_acts_194 : decode cL_acts 194 = .ok (.aload_n 0, 1) := by decide +kernel
theorem dL_acts_195 : decode cL_acts 195 = .ok (.iload 5, 2) := by decide +kernel
theorem dL_acts_197 : decode cL_acts 197 = .ok (.iload 6, 2) := by decide +kernel
theorem dL_acts_199 : decode cL_acts 199 = .ok (.bipush 121, 2) := by decide +kernel
theorem dL_acts_201 : decode cL_acts 201 = .ok (.invokestatic 111, 3) := by decide +kernel
theorem dL_acts_204 : decode cL_acts 204 = .ok (.sipush (-901), 3) := by decide +kernel
theorem dL_acts_207 : decode cL_acts 207 = .ok (.if_icmp .ne 7, 3) := by decide +kernel
theorem dL_acts_210 : decode cL_acts 210 = .ok (.iconst 1, 1) := by decide +kernel
theorem dL_acts_211 : decode cL_acts 211 = .ok (.goto 4, 3) := by decide +kernel
theorem dL_acts_214 : decode cL_acts 214 = .ok (.iconst 0, 1) := by decide +kernel
theorem dL_acts_215 : decode cL_acts 215 = .ok (.ireturn, 1) := by decide +kernel
theorem dL_acts_216 : decode cL_acts 216 = .ok (.iload_n 3, 1) := by decide +kernel
theorem dL_acts_217 : decode cL_acts 217 = .ok (.bipush 11, 2) := by decide +kernel
theorem dL_acts_219 : decode cL_acts 219 = .ok (.if_icmp .ne 144, 3) := by decide +kernel
theorem dL_acts_222 : decode cL_acts 222 = .ok (.iload_n 2, 1) := by decide +kernel
theorem dL_acts_223 : decode cL_acts 223 = .ok (.iconst 5, 1) := by decide +kernel
theorem dL_acts_224 : decode cL_acts 224 = .ok (.invokestatic 93, 3) := by decide +kernel
theorem dL_acts_227 : decode cL_acts 227 = .ok (.istore 5, 2) := by decide +kernel
theorem dL_acts_229 : decode cL_acts 229 = .ok (.iload 5, 2) := by decide +kernel
theorem dL_acts_231 : decode cL_acts 231 = .ok (.iconst 3, 1) := by decide +kernel
theorem dL_acts_232 : decode cL_acts 232 = .ok (.if_icmp .ge 16, 3) := by decide +kernel
theorem dL_acts_235 : decode cL_acts 235 = .ok (.iconst 1, 1) := by decide +kernel
theorem dL_acts_236 : decode cL_acts 236 = .ok (.iload_n 2, 1) := by decide +kernel
theorem dL_acts_237 : decode cL_acts 237 = .ok (.iconst 3, 1) := by decide +kernel
theorem dL_acts_238 : decode cL_acts 238 = .ok (.ishr, 1) := by decide +kernel
theorem dL_acts_239 : decode cL_acts 239 = .ok (.bipush 100, 2) := by decide +kernel
theorem dL_acts_241 : decode cL_acts 241 = .ok (.invokestatic 93, 3) := by decide +kernel
theorem dL_acts_244 : decode cL_acts 244 = .ok (.iadd, 1) := by decide +kernel
theorem dL_acts_245 : decode cL_acts 245 = .ok (.goto 12, 3) := by decide +kernel
theorem dL_acts_248 : decode cL_acts 248 = .ok (.iload_n 2, 1) := by decide +kernel
theorem dL_acts_249 : decode cL_acts 249 = .ok (.iconst 3, 1) := by decide +kernel
theorem dL_acts_250 : decode cL_acts 250 = .ok (.ishr, 1) := by decide +kernel
theorem dL_acts_251 : decode cL_acts 251 = .ok (.sipush 5401, 3) := by decide +kernel
theorem dL_acts_254 : decode cL_acts 254 = .ok (.invokestatic 93, 3) := by decide +kernel
theorem dL_acts_257 : decode cL_acts 257 = .ok (.istore 6, 2) := by decide +kernel
theorem dL_acts_259 : decode cL_acts 259 = .ok (.aload_n 0, 1) := by decide +kernel
theorem dL_acts_260 : decode cL_acts 260 = .ok (.iload 5, 2) := by decide +kernel
theorem dL_acts_262 : decode cL_acts 262 = .ok (.invokevirtual 69, 3) := by decide +kernel
theorem dL_acts_265 : decode cL_acts 265 = .ok (.istore 7, 2) := by decide +kernel
theorem dL_acts_267 : decode cL_acts 267 = .ok (.aload_n 0, 1) := by decide +kernel
theorem dL_acts_268 : decode cL_acts 268 = .ok (.iload 5, 2) := by decide +kernel
theorem dL_acts_270 : decode cL_acts 270 = .ok (.iload 6, 2) := by decide +kernel
theorem dL_acts_272 : decode cL_acts 272 = .ok (.invokestatic 114, 3) := by decide +kernel
theorem dL_acts_275 : decode cL_acts 275 = .ok (.istore 8, 2) := by decide +kernel
theorem dL_acts_277 : decode cL_acts 277 = .ok (.iload 8, 2) := by decide +kernel
theorem dL_acts_279 : decode cL_acts 279 = .ok (.sipush (-902), 3) := by decide +kernel
theorem dL_acts_282 : decode cL_acts 282 = .ok (.if_icmp .ne 57, 3) := by decide +kernel
theorem dL_acts_285 : decode cL_acts 285 = .ok (.aload_n 0, 1) := by decide +kernel
theorem dL_acts_286 : decode cL_acts 286 = .ok (.iload 5, 2) := by decide +kernel
theorem dL_acts_288 : decode cL_acts 288 = .ok (.invokevirtual 69, 3) := by decide +kernel
theorem dL_acts_291 : decode cL_acts 291 = .ok (.iload 7, 2) := by decide +kernel
theorem dL_acts_293 : decode cL_acts 293 = .ok (.if_icmp .ne 42, 3) := by decide +kernel
theorem dL_acts_296 : decode cL_acts 296 = .ok (.iload 5, 2) := by decide +kernel
theorem dL_acts_298 : decode cL_acts 298 = .ok (.iconst 3, 1) := by decide +kernel
theorem dL_acts_299 : decode cL_acts 299 = .ok (.if_icmp .ne 16, 3) := by decide +kernel
theorem dL_acts_302 : decode cL_acts 302 = .ok (.iload 6, 2) := by decide +kernel
theorem dL_acts_304 : decode cL_acts 304 = .ok (.aload_n 0, 1) := by decide +kernel
theorem dL_acts_305 : decode cL_acts 305 = .ok (.iconst 4, 1) := by decide +kernel
theorem dL_acts_306 : decode cL_acts 306 = .ok (.invokevirtual 69, 3) := by decide +kernel
theorem dL_acts_309 : decode cL_acts 309 = .ok (.if_icmp .le 26, 3) := by decide +kernel
theorem dL_acts_312 : decode cL_acts 312 = .ok (.goto 19, 3) := by decide +kernel
theorem dL_acts_315 : decode cL_acts 315 = .ok (.iload 5, 2) := by decide +kernel
theorem dL_acts_317 : decode cL_acts 317 = .ok (.iconst 4, 1) := by decide +kernel
theorem dL_acts_318 : decode cL_acts 318 = .ok (.if_icmp .ne 17, 3) := by decide +kernel
theorem dL_acts_321 : decode cL_acts 321 = .ok (.iload 6, 2) := by decide +kernel
theorem dL_acts_323 : decode cL_acts 323 = .ok (.aload_n 0, 1) := by decide +kernel
theorem dL_acts_324 : decode cL_acts 324 = .ok (.iconst 3, 1) := by decide +kernel
theorem dL_acts_325 : decode cL_acts 325 = .ok (.invokevirtual 69, 3) := by decide +kernel
theorem dL_acts_328 : decode cL_acts 328 = .ok (.if_icmp .ge 7, 3) := by decide +kernel
theorem dL_acts_331 : decode cL_acts 331 = .ok (.iconst 1, 1) := by decide +kernel
theorem dL_acts_332 : decode cL_acts 332 = .ok (.goto 30, 3) := by decide +kernel
theorem dL_acts_335 : decode cL_acts 335 = .ok (.iconst 0, 1) := by decide +kernel
theorem dL_acts_336 : decode cL_acts 336 = .ok (.goto 26, 3) := by decide +kernel
theorem dL_acts_339 : decode cL_acts 339 = .ok (.iload 8, 2) := by decide +kernel
theorem dL_acts_341 : decode cL_acts 341 = .ok (.iload 7, 2) := by decide +kernel
theorem dL_acts_343 : decode cL_acts 343 = .ok (.if_icmp .ne 18, 3) := by decide +kernel
theorem dL_acts_346 : decode cL_acts 346 = .ok (.aload_n 0, 1) := by decide +kernel
theorem dL_acts_347 : decode cL_acts 347 = .ok (.iload 5, 2) := by decide +kernel
theorem dL_acts_349 : decode cL_acts 349 = .ok (.invokevirtual 69, 3) := by decide +kernel
theorem dL_acts_352 : decode cL_acts 352 = .ok (.iload 6, 2) := by decide +kernel
theorem dL_acts_354 : decode cL_acts 354 = .ok (.if_icmp .ne 7, 3) := by decide +kernel
theorem dL_acts_357 : decode cL_acts 357 = .ok (.iconst 1, 1) := by decide +kernel
theorem dL_acts_358 : decode cL_acts 358 = .ok (.goto 4, 3) := by decide +kernel
theorem dL_acts_361 : decode cL_acts 361 = .ok (.iconst 0, 1) := by decide +kernel
theorem dL_acts_362 : decode cL_acts 362 = .ok (.ireturn, 1) := by decide +kernel
theorem dL_acts_363 : decode cL_acts 363 = .ok (.iload_n 3, 1) := by decide +kernel
theorem dL_acts_364 : decode cL_acts 364 = .ok (.bipush 12, 2) := by decide +kernel
theorem dL_acts_366 : decode cL_acts 366 = .ok (.if_icmp .ne 64, 3) := by decide +kernel
theorem dL_acts_369 : decode cL_acts 369 = .ok (.iload_n 2, 1) := by decide +kernel
theorem dL_acts_370 : decode cL_acts 370 = .ok (.bipush 24, 2) := by decide +kernel
theorem dL_acts_372 : decode cL_acts 372 = .ok (.invokestatic 93, 3) := by decide +kernel
theorem dL_acts_375 : decode cL_acts 375 = .ok (.istore 5, 2) := by decide +kernel
theorem dL_acts_377 : decode cL_acts 377 = .ok (.aload_n 0, 1) := by decide +kernel
theorem dL_acts_378 : decode cL_acts 378 = .ok (.iload 5, 2) := by decide +kernel
theorem dL_acts_380 : decode cL_acts 380 = .ok (.invokevirtual 48, 3) := by decide +kernel
theorem dL_acts_383 : decode cL_acts 383 = .ok (.istore 6, 2) := by decide +kernel
theorem dL_acts_385 : decode cL_acts 385 = .ok (.aload_n 0, 1) := by decide +kernel
theorem dL_acts_386 : decode cL_acts 386 = .ok (.bipush 10, 2) := by decide +kernel
theorem dL_acts_388 : decode cL_acts 388 = .ok (.invokevirtual 53, 3) := by decide +kernel
theorem dL_acts_391 : decode cL_acts 391 = .ok (.istore 7, 2) := by decide +kernel
theorem dL_acts_393 : decode cL_acts 393 = .ok (.aload_n 0, 1) := by decide +kernel
theorem dL_acts_394 : decode cL_acts 394 = .ok (.iload 5, 2) := by decide +kernel
theorem dL_acts_396 : decode cL_acts 396 = .ok (.invokevirtual 116, 3) := by decide +kernel
theorem dL_acts_399 : decode cL_acts 399 = .ok (.iload 6, 2) := by decide +kernel
theorem dL_acts_401 : decode cL_acts 401 = .ok (.if_icmp .ne 27, 3) := by decide +kernel
theorem dL_acts_404 : decode cL_acts 404 = .ok (.aload_n 0, 1) := by decide +kernel
theorem dL_acts_405 : decode cL_acts 405 = .ok (.iload 5, 2) := by decide +kernel
theorem dL_acts_407 : decode cL_acts 407 = .ok (.invokevirtual 48, 3) := by decide +kernel
theorem dL_acts_410 : decode cL_acts 410 = .ok (.ifCond .ne 18, 3) := by decide +kernel
theorem dL_acts_413 : decode cL_acts 413 = .ok (.aload_n 0, 1) := by decide +kernel
theorem dL_acts_414 : decode cL_acts 414 = .ok (.bipush 10, 2) := by decide +kernel
theorem dL_acts_416 : decode cL_acts 416 = .ok (.invokevirtual 53, 3) := by decide +kernel
theorem dL_acts_419 : decode cL_acts 419 = .ok (.iload 7, 2) := by decide +kernel
theorem dL_acts_421 : decode cL_acts 421 = .ok (.if_icmp .ne 7, 3) := by decide +kernel
theorem dL_acts_424 : decode cL_acts 424 = .ok (.iconst 1, 1) := by decide +kernel
theorem dL_acts_425 : decode cL_acts 425 = .ok (.goto 4, 3) := by decide +kernel
theorem dL_acts_428 : decode cL_acts 428 = .ok (.iconst 0, 1) := by decide +kernel
theorem dL_acts_429 : decode cL_acts 429 = .ok (.ireturn, 1) := by decide +kernel
theorem dL_acts_430 : decode cL_acts 430 = .ok (.iload_n 3, 1) := by decide +kernel
theorem dL_acts_431 : decode cL_acts 431 = .ok (.bipush 13, 2) := by decide +kernel
theorem dL_acts_433 : decode cL_acts 433 = .ok (.if_icmp .ne 9, 3) := by decide +kernel
theorem dL_acts_436 : decode cL_acts 436 = .ok (.aload_n 0, 1) := by decide +kernel
theorem dL_acts_437 : decode cL_acts 437 = .ok (.iload_n 2, 1) := by decide +kernel
theorem dL_acts_438 : decode cL_acts 438 = .ok (.invokestatic 119, 3) := by decide +kernel
theorem dL_acts_441 : decode cL_acts 441 = .ok (.ireturn, 1) := by decide +kernel
theorem dL_acts_442 : decode cL_acts 442 = .ok (.aload_n 0, 1) := by decide +kernel
theorem dL_acts_443 : decode cL_acts 443 = .ok (.iconst 4, 1) := by decide +kernel
theorem dL_acts_444 : decode cL_acts 444 = .ok (.invokevirtual 53, 3) := by decide +kernel
theorem dL_acts_447 : decode cL_acts 447 = .ok (.istore 5, 2) := by decide +kernel
theorem dL_acts_449 : decode cL_acts 449 = .ok (.aload_n 0, 1) := by decide +kernel
theorem dL_acts_450 : decode cL_acts 450 = .ok (.bipush 8, 2) := by decide +kernel
theorem dL_acts_452 : decode cL_acts 452 = .ok (.invokevirtual 53, 3) := by decide +kernel
theorem dL_acts_455 : decode cL_acts 455 = .ok (.istore 6, 2) := by decide +kernel
theorem dL_acts_457 : decode cL_acts 457 = .ok (.aload_n 0, 1) := by decide +kernel
theorem dL_acts_458 : decode cL_acts 458 = .ok (.iconst 5, 1) := by decide +kernel
theorem dL_acts_459 : decode cL_acts 459 = .ok (.invokevirtual 53, 3) := by decide +kernel
theorem dL_acts_462 : decode cL_acts 462 = .ok (.istore 7, 2) := by decide +kernel
theorem dL_acts_464 : decode cL_acts 464 = .ok (.aload_n 0, 1) := by decide +kernel
theorem dL_acts_465 : decode cL_acts 465 = .ok (.bipush 6, 2) := by decide +kernel
theorem dL_acts_467 : decode cL_acts 467 = .ok (.invokevirtual 53, 3) := by decide +kernel
theorem dL_acts_470 : decode cL_acts 470 = .ok (.istore 8, 2) := by decide +kernel
theorem dL_acts_472 : decode cL_acts 472 = .ok (.aload_n 0, 1) := by decide +kernel
theorem dL_acts_473 : decode cL_acts 473 = .ok (.bipush 10, 2) := by decide +kernel
theorem dL_acts_475 : decode cL_acts 475 = .ok (.invokevirtual 53, 3) := by decide +kernel
theorem dL_acts_478 : decode cL_acts 478 = .ok (.istore 9, 2) := by decide +kernel
theorem dL_acts_480 : decode cL_acts 480 = .ok (.aload_n 0, 1) := by decide +kernel
theorem dL_acts_481 : decode cL_acts 481 = .ok (.invokestatic 123, 3) := by decide +kernel
theorem dL_acts_484 : decode cL_acts 484 = .ok (.istore 10, 2) := by decide +kernel
theorem dL_acts_486 : decode cL_acts 486 = .ok (.iload 10, 2) := by decide +kernel
theorem dL_acts_488 : decode cL_acts 488 = .ok (.sipush (-902), 3) := by decide +kernel
theorem dL_acts_491 : decode cL_acts 491 = .ok (.if_icmp .ne 40, 3) := by decide +kernel
theorem dL_acts_494 : decode cL_acts 494 = .ok (.aload_n 0, 1) := by decide +kernel
theorem dL_acts_495 : decode cL_acts 495 = .ok (.iconst 4, 1) := by decide +kernel
theorem dL_acts_496 : decode cL_acts 496 = .ok (.invokevirtual 53, 3) := by decide +kernel
theorem dL_acts_499 : decode cL_acts 499 = .ok (.iload 5, 2) := by decide +kernel
theorem dL_acts_501 : decode cL_acts 501 = .ok (.if_icmp .ne 28, 3) := by decide +kernel
theorem dL_acts_504 : decode cL_acts 504 = .ok (.aload_n 0, 1) := by decide +kernel
theorem dL_acts_505 : decode cL_acts 505 = .ok (.bipush 8, 2) := by decide +kernel
theorem dL_acts_507 : decode cL_acts 507 = .ok (.invokevirtual 53, 3) := by decide +kernel
theorem dL_acts_510 : decode cL_acts 510 = .ok (.iload 6, 2) := by decide +kernel
theorem dL_acts_512 : decode cL_acts 512 = .ok (.if_icmp .ne 17, 3) := by decide +kernel
theorem dL_acts_515 : decode cL_acts 515 = .ok (.aload_n 0, 1) := by decide +kernel
theorem dL_acts_516 : decode cL_acts 516 = .ok (.iconst 5, 1) := by decide +kernel
theorem dL_acts_517 : decode cL_acts 517 = .ok (.invokevirtual 53, 3) := by decide +kernel
theorem dL_acts_520 : decode cL_acts 520 = .ok (.iload 7, 2) := by decide +kernel
theorem dL_acts_522 : decode cL_acts 522 = .ok (.if_icmp .ne 7, 3) := by decide +kernel
theorem dL_acts_525 : decode cL_acts 525 = .ok (.iconst 1, 1) := by decide +kernel
theorem dL_acts_526 : decode cL_acts 526 = .ok (.goto 4, 3) := by decide +kernel
theorem dL_acts_529 : decode cL_acts 529 = .ok (.iconst 0, 1) := by decide +kernel
theorem dL_acts_530 : decode cL_acts 530 = .ok (.ireturn, 1) := by decide +kernel
theorem dL_acts_531 : decode cL_acts 531 = .ok (.aload_n 0, 1) := by decide +kernel
theorem dL_acts_532 : decode cL_acts 532 = .ok (.bipush 8, 2) := by decide +kernel
theorem dL_acts_534 : decode cL_acts 534 = .ok (.invokevirtual 53, 3) := by decide +kernel
theorem dL_acts_537 : decode cL_acts 537 = .ok (.iload 6, 2) := by decide +kernel
theorem dL_acts_539 : decode cL_acts 539 = .ok (.isub, 1) := by decide +kernel
theorem dL_acts_540 : decode cL_acts 540 = .ok (.istore 11, 2) := by decide +kernel
theorem dL_acts_542 : decode cL_acts 542 = .ok (.iload 10, 2) := by decide +kernel
theorem dL_acts_544 : decode cL_acts 544 = .ok (.aload_n 0, 1) := by decide +kernel
theorem dL_acts_545 : decode cL_acts 545 = .ok (.bipush 6, 2) := by decide +kernel
theorem dL_acts_547 : decode cL_acts 547 = .ok (.invokevirtual 53, 3) := by decide +kernel
theorem dL_acts_550 : decode cL_acts 550 = .ok (.iload 8, 2) := by decide +kernel
theorem dL_acts_552 : decode cL_acts 552 = .ok (.isub, 1) := by decide +kernel
theorem dL_acts_553 : decode cL_acts 553 = .ok (.if_icmp .ne 111, 3) := by decide +kernel
theorem dL_acts_556 : decode cL_acts 556 = .ok (.iload 11, 2) := by decide +kernel
theorem dL_acts_558 : decode cL_acts 558 = .ok (.aload_n 0, 1) := by decide +kernel
theorem dL_acts_559 : decode cL_acts 559 = .ok (.iconst 5, 1) := by decide +kernel
theorem dL_acts_560 : decode cL_acts 560 = .ok (.invokevirtual 53, 3) := by decide +kernel
theorem dL_acts_563 : decode cL_acts 563 = .ok (.iload 7, 2) := by decide +kernel
theorem dL_acts_565 : decode cL_acts 565 = .ok (.isub, 1) := by decide +kernel
theorem dL_acts_566 : decode cL_acts 566 = .ok (.if_icmp .ne 98, 3) := by decide +kernel
theorem dL_acts_569 : decode cL_acts 569 = .ok (.iload 10, 2) := by decide +kernel
theorem dL_acts_571 : decode cL_acts 571 = .ok (.iload 11, 2) := by decide +kernel
theorem dL_acts_573 : decode cL_acts 573 = .ok (.if_icmp .gt 91, 3) := by decide +kernel
theorem dL_acts_576 : decode cL_acts 576 = .ok (.iload 11, 2) := by decide +kernel
theorem dL_acts_578 : decode cL_acts 578 = .ok (.ifCond .le 15, 3) := by decide +kernel
theorem dL_acts_581 : decode cL_acts 581 = .ok (.aload_n 0, 1) := by decide +kernel
theorem dL_acts_582 : decode cL_acts 582 = .ok (.bipush 11, 2) := by decide +kernel
theorem dL_acts_584 : decode cL_acts 584 = .ok (.invokevirtual 53, 3) := by decide +kernel
theorem dL_acts_587 : decode cL_acts 587 = .ok (.ifCond .ne 77, 3) := by decide +kernel
theorem dL_acts_590 : decode cL_acts 590 = .ok (.goto 14, 3) := by decide +kernel
theorem dL_acts_593 : decode cL_acts 593 = .ok (.aload_n 0, 1) := by decide +kernel
theorem dL_acts_594 : decode cL_acts 594 = .ok (.bipush 10, 2) := by decide +kernel
theorem dL_acts_596 : decode cL_acts 596 = .ok (.invokevirtual 53, 3) := by decide +kernel
theorem dL_acts_599 : decode cL_acts 599 = .ok (.iload 9, 2) := by decide +kernel
theorem dL_acts_601 : decode cL_acts 601 = .ok (.if_icmp .ne 63, 3) := by decide +kernel
theorem dL_acts_604 : decode cL_acts 604 = .ok (.iload_n 3, 1) := by decide +kernel
theorem dL_acts_605 : decode cL_acts 605 = .ok (.bipush 14, 2) := by decide +kernel
theorem dL_acts_607 : decode cL_acts 607 = .ok (.if_icmp .eq 53, 3) := by decide +kernel
theorem dL_acts_610 : decode cL_acts 610 = .ok (.aload_n 0, 1) := by decide +kernel
theorem dL_acts_611 : decode cL_acts 611 = .ok (.invokestatic 125, 3) := by decide +kernel
theorem dL_acts_614 : decode cL_acts 614 = .ok (.ifCond .lt 50, 3) := by decide +kernel
theorem dL_acts_617 : decode cL_acts 617 = .ok (.aload_n 0, 1) := by decide +kernel
theorem dL_acts_618 : decode cL_acts 618 = .ok (.iconst 4, 1) := by decide +kernel
theorem dL_acts_619 : decode cL_acts 619 = .ok (.invokevirtual 53, 3) := by decide +kernel
theorem dL_acts_622 : decode cL_acts 622 = .ok (.iload 5, 2) := by decide +kernel
theorem dL_acts_624 : decode cL_acts 624 = .ok (.if_icmp .ne 40, 3) := by decide +kernel
theorem dL_acts_627 : decode cL_acts 627 = .ok (.aload_n 0, 1) := by decide +kernel
theorem dL_acts_628 : decode cL_acts 628 = .ok (.bipush 8, 2) := by decide +kernel
theorem dL_acts_630 : decode cL_acts 630 = .ok (.invokevirtual 53, 3) := by decide +kernel
theorem dL_acts_633 : decode cL_acts 633 = .ok (.iload 6, 2) := by decide +kernel
theorem dL_acts_635 : decode cL_acts 635 = .ok (.if_icmp .ne 29, 3) := by decide +kernel
theorem dL_acts_638 : decode cL_acts 638 = .ok (.aload_n 0, 1) := by decide +kernel
theorem dL_acts_639 : decode cL_acts 639 = .ok (.bipush 6, 2) := by decide +kernel
theorem dL_acts_641 : decode cL_acts 641 = .ok (.invokevirtual 53, 3) := by decide +kernel
theorem dL_acts_644 : decode cL_acts 644 = .ok (.iload 8, 2) := by decide +kernel
theorem dL_acts_646 : decode cL_acts 646 = .ok (.if_icmp .ne 18, 3) := by decide +kernel
theorem dL_acts_649 : decode cL_acts 649 = .ok (.aload_n 0, 1) := by decide +kernel
theorem dL_acts_650 : decode cL_acts 650 = .ok (.bipush 10, 2) := by decide +kernel
theorem dL_acts_652 : decode cL_acts 652 = .ok (.invokevirtual 53, 3) := by decide +kernel
theorem dL_acts_655 : decode cL_acts 655 = .ok (.iload 9, 2) := by decide +kernel
theorem dL_acts_657 : decode cL_acts 657 = .ok (.if_icmp .ne 7, 3) := by decide +kernel
theorem dL_acts_660 : decode cL_acts 660 = .ok (.iconst 1, 1) := by decide +kernel
theorem dL_acts_661 : decode cL_acts 661 = .ok (.goto 4, 3) := by decide +kernel
theorem dL_acts_664 : decode cL_acts 664 = .ok (.iconst 0, 1) := by decide +kernel
theorem dL_acts_665 : decode cL_acts 665 = .ok (.ireturn, 1) := by decide +kernel
theorem dL_law_0 : decode cL_law 0 = .ok (.new 10, 3) := by decide +kernel
theorem dL_law_3 : decode cL_law 3 = .ok (.dup, 1) := by decide +kernel
theorem dL_law_4 : decode cL_law 4 = .ok (.invokespecial 127, 3) := by decide +kernel
theorem dL_law_7 : decode cL_law 7 = .ok (.astore_n 1, 1) := by decide +kernel
theorem dL_law_8 : decode cL_law 8 = .ok (.aload_n 1, 1) := by decide +kernel
theorem dL_law_9 : decode cL_law 9 = .ok (.invokestatic 128, 3) := by decide +kernel
theorem dL_law_12 : decode cL_law 12 = .ok (.ifCond .eq 69, 3) := by decide +kernel
theorem dL_law_15 : decode cL_law 15 = .ok (.aload_n 1, 1) := by decide +kernel
theorem dL_law_16 : decode cL_law 16 = .ok (.invokestatic 132, 3) := by decide +kernel
theorem dL_law_19 : decode cL_law 19 = .ok (.ifCond .eq 62, 3) := by decide +kernel
theorem dL_law_22 : decode cL_law 22 = .ok (.aload_n 1, 1) := by decide +kernel
theorem dL_law_23 : decode cL_law 23 = .ok (.invokestatic 125, 3) := by decide +kernel
theorem dL_law_26 : decode cL_law 26 = .ok (.sipush (-902), 3) := by decide +kernel
theorem dL_law_29 : decode cL_law 29 = .ok (.if_icmp .ne 52, 3) := by decide +kernel
theorem dL_law_32 : decode cL_law 32 = .ok (.aload_n 1, 1) := by decide +kernel
theorem dL_law_33 : decode cL_law 33 = .ok (.invokestatic 98, 3) := by decide +kernel
theorem dL_law_36 : decode cL_law 36 = .ok (.sipush (-902), 3) := by decide +kernel
theorem dL_law_39 : decode cL_law 39 = .ok (.if_icmp .ne 42, 3) := by decide +kernel
theorem dL_law_42 : decode cL_law 42 = .ok (.aload_n 1, 1) := by decide +kernel
theorem dL_law_43 : decode cL_law 43 = .ok (.iconst 0, 1) := by decide +kernel
theorem dL_law_44 : decode cL_law 44 = .ok (.invokestatic 89, 3) := by decide +kernel
theorem dL_law_47 : decode cL_law 47 = .ok (.sipush (-903), 3) := by decide +kernel
theorem dL_law_50 : decode cL_law 50 = .ok (.if_icmp .ne 31, 3) := by decide +kernel
theorem dL_law_53 : decode cL_law 53 = .ok (.aload_n 1, 1) := by decide +kernel
theorem dL_law_54 : decode cL_law 54 = .ok (.iconst 0, 1) := by decide +kernel
theorem dL_law_55 : decode cL_law 55 = .ok (.iconst 0, 1) := by decide +kernel
theorem dL_law_56 : decode cL_law 56 = .ok (.invokestatic 135, 3) := by decide +kernel
theorem dL_law_59 : decode cL_law 59 = .ok (.sipush (-903), 3) := by decide +kernel
theorem dL_law_62 : decode cL_law 62 = .ok (.if_icmp .ne 19, 3) := by decide +kernel
theorem dL_law_65 : decode cL_law 65 = .ok (.aload_n 1, 1) := by decide +kernel
theorem dL_law_66 : decode cL_law 66 = .ok (.iconst 0, 1) := by decide +kernel
theorem dL_law_67 : decode cL_law 67 = .ok (.iconst (-1), 1) := by decide +kernel
theorem dL_law_68 : decode cL_law 68 = .ok (.invokestatic 101, 3) := by decide +kernel
theorem dL_law_71 : decode cL_law 71 = .ok (.sipush (-901), 3) := by decide +kernel
theorem dL_law_74 : decode cL_law 74 = .ok (.if_icmp .ne 7, 3) := by decide +kernel
theorem dL_law_77 : decode cL_law 77 = .ok (.iconst 1, 1) := by decide +kernel
theorem dL_law_78 : decode cL_law 78 = .ok (.goto 4, 3) := by decide +kernel
theorem dL_law_81 : decode cL_law 81 = .ok (.iconst 0, 1) := by decide +kernel
theorem dL_law_82 : decode cL_law 82 = .ok (.istore_n 2, 1) := by decide +kernel
theorem dL_law_83 : decode cL_law 83 = .ok (.iconst 0, 1) := by decide +kernel
theorem dL_law_84 : decode cL_law 84 = .ok (.istore_n 3, 1) := by decide +kernel
theorem dL_law_85 : decode cL_law 85 = .ok (.iload_n 3, 1) := by decide +kernel
theorem dL_law_86 : decode cL_law 86 = .ok (.iconst 5, 1) := by decide +kernel
theorem dL_law_87 : decode cL_law 87 = .ok (.if_icmp .ge 56, 3) := by decide +kernel
theorem dL_law_90 : decode cL_law 90 = .ok (.iload_n 2, 1) := by decide +kernel
theorem dL_law_91 : decode cL_law 91 = .ok (.ifCond .eq 52, 3) := by decide +kernel
theorem dL_law_94 : decode cL_law 94 = .ok (.aload_n 1, 1) := by decide +kernel
theorem dL_law_95 : decode cL_law 95 = .ok (.aload_n 0, 1) := by decide +kernel
theorem dL_law_96 : decode cL_law 96 = .ok (.iload_n 3, 1) := by decide +kernel
theorem dL_law_97 : decode cL_law 97 = .ok (.invokestatic 137, 3) := by decide +kernel
theorem dL_law_100 : decode cL_law 100 = .ok (.sipush 21600, 3) := by decide +kernel
theorem dL_law_103 : decode cL_law 103 = .ok (.invokestatic 93, 3) := by decide +kernel
theorem dL_law_106 : decode cL_law 106 = .ok (.sipush 600, 3) := by decide +kernel
theorem dL_law_109 : decode cL_law 109 = .ok (.aload_n 0, 1) := by decide +kernel
theorem dL_law_110 : decode cL_law 110 = .ok (.iload_n 3, 1) := by decide +kernel
theorem dL_law_111 : decode cL_law 111 = .ok (.invokestatic 137, 3) := by decide +kernel
theorem dL_law_114 : decode cL_law 114 = .ok (.bipush 6, 2) := by decide +kernel
theorem dL_law_116 : decode cL_law 116 = .ok (.ishr, 1) := by decide +kernel
theorem dL_law_117 : decode cL_law 117 = .ok (.sipush 4501, 3) := by decide +kernel
theorem dL_law_120 : decode cL_law 120 = .ok (.invokestatic 93, 3) := by decide +kernel
theorem dL_law_123 : decode cL_law 123 = .ok (.iadd, 1) := by decide +kernel
theorem dL_law_124 : decode cL_law 124 = .ok (.invokevirtual 104, 3) := by decide +kernel
theorem dL_law_127 : decode cL_law 127 = .ok (.iload_n 3, 1) := by decide +kernel
theorem dL_law_128 : decode cL_law 128 = .ok (.if_icmp .ne 7, 3) := by decide +kernel
theorem dL_law_131 : decode cL_law 131 = .ok (.iconst 1, 1) := by decide +kernel
theorem dL_law_132 : decode cL_law 132 = .ok (.goto 4, 3) := by decide +kernel
theorem dL_law_135 : decode cL_law 135 = .ok (.iconst 0, 1) := by decide +kernel
theorem dL_law_136 : decode cL_law 136 = .ok (.istore_n 2, 1) := by decide +kernel
theorem dL_law_137 : decode cL_law 137 = .ok (.iinc 3 1, 3) := by decide +kernel
theorem dL_law_140 : decode cL_law 140 = .ok (.goto (-55), 3) := by decide +kernel
theorem dL_law_143 : decode cL_law 143 = .ok (.iconst 3, 1) := by decide +kernel
theorem dL_law_144 : decode cL_law 144 = .ok (.istore_n 3, 1) := by decide +kernel
theorem dL_law_145 : decode cL_law 145 = .ok (.iload_n 3, 1) := by decide +kernel
theorem dL_law_146 : decode cL_law 146 = .ok (.bipush 42, 2) := by decide +kernel
theorem dL_law_148 : decode cL_law 148 = .ok (.if_icmp .ge 62, 3) := by decide +kernel
theorem dL_law_151 : decode cL_law 151 = .ok (.iload_n 2, 1) := by decide +kernel
theorem dL_law_152 : decode cL_law 152 = .ok (.ifCond .eq 58, 3) := by decide +kernel
theorem dL_law_155 : decode cL_law 155 = .ok (.aload_n 1, 1) := by decide +kernel
theorem dL_law_156 : decode cL_law 156 = .ok (.aload_n 0, 1) := by decide +kernel
theorem dL_law_157 : decode cL_law 157 = .ok (.iconst 2, 1) := by decide +kernel
theorem dL_law_158 : decode cL_law 158 = .ok (.iload_n 3, 1) := by decide +kernel
theorem dL_law_159 : decode cL_law 159 = .ok (.imul, 1) := by decide +kernel
theorem dL_law_160 : decode cL_law 160 = .ok (.invokestatic 137, 3) := by decide +kernel
theorem dL_law_163 : decode cL_law 163 = .ok (.aload_n 0, 1) := by decide +kernel
theorem dL_law_164 : decode cL_law 164 = .ok (.iconst 2, 1) := by decide +kernel
theorem dL_law_165 : decode cL_law 165 = .ok (.iload_n 3, 1) := by decide +kernel
theorem dL_law_166 : decode cL_law 166 = .ok (.imul, 1) := by decide +kernel
theorem dL_law_167 : decode cL_law 167 = .ok (.iconst 1, 1) := by decide +kernel
theorem dL_law_168 : decode cL_law 168 = .ok (.iadd, 1) := by decide +kernel
theorem dL_law_169 : decode cL_law 169 = .ok (.invokestatic 137, 3) := by decide +kernel
theorem dL_law_172 : decode cL_law 172 = .ok (.invokestatic 141, 3) := by decide +kernel
theorem dL_law_175 : decode cL_law 175 = .ok (.ifCond .eq 27, 3) := by decide +kernel
theorem dL_law_178 : decode cL_law 178 = .ok (.aload_n 1, 1) := by decide +kernel
theorem dL_law_179 : decode cL_law 179 = .ok (.invokestatic 132, 3) := by decide +kernel
theorem dL_law_182 : decode cL_law 182 = .ok (.ifCond .eq 20, 3) := by decide +kernel
theorem dL_law_185 : decode cL_law 185 = .ok (.iload_n 3, 1) := by decide +kernel
theorem dL_law_186 : decode cL_law 186 = .ok (.iconst 2, 1) := by decide +kernel
theorem dL_law_187 : decode cL_law 187 = .ok (.irem, 1) := by decide +kernel
theorem dL_law_188 : decode cL_law 188 = .ok (.ifCond .eq 10, 3) := by decide +kernel
theorem dL_law_191 : decode cL_law 191 = .ok (.aload_n 1, 1) := by decide +kernel
theorem dL_law_192 : decode cL_law 192 = .ok (.invokestatic 128, 3) := by decide +kernel
theorem dL_law_195 : decode cL_law 195 = .ok (.ifCond .eq 7, 3) := by decide +kernel
theorem dL_law_198 : decode cL_law 198 = .ok (.iconst 1, 1) := by decide +kernel
theorem dL_law_199 : decode cL_law 199 = .ok (.goto 4, 3) := by decide +kernel
theorem dL_law_202 : decode cL_law 202 = .ok (.iconst 0, 1) := by decide +kernel
theorem dL_law_203 : decode cL_law 203 = .ok (.istore_n 2, 1) := by decide +kernel
theorem dL_law_204 : decode cL_law 204 = .ok (.iinc 3 1, 3) := by decide +kernel
theorem dL_law_207 : decode cL_law 207 = .ok (.goto (-62), 3) := by decide +kernel
theorem dL_law_210 : decode cL_law 210 = .ok (.iload_n 2, 1) := by decide +kernel
theorem dL_law_211 : decode cL_law 211 = .ok (.ireturn, 1) := by decide +kernel
