theorem dX8_init_0 : decode cX8_init 0 = .ok (.aload_n 0, 1) := by decide +kernel
theorem dX8_init_1 : decode cX8_init 1 = .ok (.invokespecial 1, 3) := by decide +kernel
theorem dX8_init_4 : decode cX8_init 4 = .ok (.aload_n 0, 1) := by decide +kernel
theorem dX8_init_5 : decode cX8_init 5 = .ok (.bipush 127, 2) := by decide +kernel
theorem dX8_init_7 : decode cX8_init 7 = .ok (.newarray .int, 2) := by decide +kernel
theorem dX8_init_9 : decode cX8_init 9 = .ok (.putfield 7, 3) := by decide +kernel
theorem dX8_init_12 : decode cX8_init 12 = .ok (.aload_n 0, 1) := by decide +kernel
theorem dX8_init_13 : decode cX8_init 13 = .ok (.bipush 52, 2) := by decide +kernel
theorem dX8_init_15 : decode cX8_init 15 = .ok (.newarray .double, 2) := by decide +kernel
theorem dX8_init_17 : decode cX8_init 17 = .ok (.putfield 13, 3) := by decide +kernel
theorem dX8_init_20 : decode cX8_init 20 = .ok (.aload_n 0, 1) := by decide +kernel
theorem dX8_init_21 : decode cX8_init 21 = .ok (.bipush 127, 2) := by decide +kernel
theorem dX8_init_23 : decode cX8_init 23 = .ok (.newarray .int, 2) := by decide +kernel
theorem dX8_init_25 : decode cX8_init 25 = .ok (.putfield 17, 3) := by decide +kernel
theorem dX8_init_28 : decode cX8_init 28 = .ok (.aload_n 0, 1) := by decide +kernel
theorem dX8_init_29 : decode cX8_init 29 = .ok (.bipush 52, 2) := by decide +kernel
theorem dX8_init_31 : decode cX8_init 31 = .ok (.newarray .double, 2) := by decide +kernel
theorem dX8_init_33 : decode cX8_init 33 = .ok (.putfield 20, 3) := by decide +kernel
theorem dX8_init_36 : decode cX8_init 36 = .ok (.aload_n 0, 1) := by decide +kernel
theorem dX8_init_37 : decode cX8_init 37 = .ok (.sipush 508, 3) := by decide +kernel
theorem dX8_init_40 : decode cX8_init 40 = .ok (.newarray .int, 2) := by decide +kernel
theorem dX8_init_42 : decode cX8_init 42 = .ok (.putfield 23, 3) := by decide +kernel
theorem dX8_init_45 : decode cX8_init 45 = .ok (.aload_n 0, 1) := by decide +kernel
theorem dX8_init_46 : decode cX8_init 46 = .ok (.sipush 208, 3) := by decide +kernel
theorem dX8_init_49 : decode cX8_init 49 = .ok (.newarray .double, 2) := by decide +kernel
theorem dX8_init_51 : decode cX8_init 51 = .ok (.putfield 26, 3) := by decide +kernel
theorem dX8_init_54 : decode cX8_init 54 = .ok (.aload_n 0, 1) := by decide +kernel
theorem dX8_init_55 : decode cX8_init 55 = .ok (.bipush 100, 2) := by decide +kernel
theorem dX8_init_57 : decode cX8_init 57 = .ok (.newarray .int, 2) := by decide +kernel
theorem dX8_init_59 : decode cX8_init 59 = .ok (.putfield 29, 3) := by decide +kernel
theorem dX8_init_62 : decode cX8_init 62 = .ok (.aload_n 0, 1) := by decide +kernel
theorem dX8_init_63 : decode cX8_init 63 = .ok (.iconst 5, 1) := by decide +kernel
theorem dX8_init_64 : decode cX8_init 64 = .ok (.newarray .int, 2) := by decide +kernel
theorem dX8_init_66 : decode cX8_init 66 = .ok (.putfield 32, 3) := by decide +kernel
theorem dX8_init_69 : decode cX8_init 69 = .ok (.aload_n 0, 1) := by decide +kernel
theorem dX8_init_70 : decode cX8_init 70 = .ok (.iconst 5, 1) := by decide +kernel
theorem dX8_init_71 : decode cX8_init 71 = .ok (.newarray .int, 2) := by decide +kernel
theorem dX8_init_73 : decode cX8_init 73 = .ok (.putfield 35, 3) := by decide +kernel
theorem dX8_init_76 : decode cX8_init 76 = .ok (.aload_n 0, 1) := by decide +kernel
theorem dX8_init_77 : decode cX8_init 77 = .ok (.getfield 7, 3) := by decide +kernel
theorem dX8_init_80 : decode cX8_init 80 = .ok (.iconst 0, 1) := by decide +kernel
theorem dX8_init_81 : decode cX8_init 81 = .ok (.bipush 60, 2) := by decide +kernel
theorem dX8_init_83 : decode cX8_init 83 = .ok (.iastore, 1) := by decide +kernel
theorem dX8_init_84 : decode cX8_init 84 = .ok (.aload_n 0, 1) := by decide +kernel
theorem dX8_init_85 : decode cX8_init 85 = .ok (.getfield 7, 3) := by decide +kernel
theorem dX8_init_88 : decode cX8_init 88 = .ok (.iconst 1, 1) := by decide +kernel
theorem dX8_init_89 : decode cX8_init 89 = .ok (.bipush 50, 2) := by decide +kernel
theorem dX8_init_91 : decode cX8_init 91 = .ok (.iastore, 1) := by decide +kernel
theorem dX8_init_92 : decode cX8_init 92 = .ok (.aload_n 0, 1) := by decide +kernel
theorem dX8_init_93 : decode cX8_init 93 = .ok (.getfield 7, 3) := by decide +kernel
theorem dX8_init_96 : decode cX8_init 96 = .ok (.iconst 2, 1) := by decide +kernel
theorem dX8_init_97 : decode cX8_init 97 = .ok (.bipush 10, 2) := by decide +kernel
theorem dX8_init_99 : decode cX8_init 99 = .ok (.iastore, 1) := by decide +kernel
theorem dX8_init_100 : decode cX8_init 100 = .ok (.aload_n 0, 1) := by decide +kernel
theorem dX8_init_101 : decode cX8_init 101 = .ok (.getfield 7, 3) := by decide +kernel
theorem dX8_init_104 : decode cX8_init 104 = .ok (.iconst 3, 1) := by decide +kernel
theorem dX8_init_105 : decode cX8_init 105 = .ok (.sipush 600, 3) := by decide +kernel
theorem dX8_init_108 : decode cX8_init 108 = .ok (.iastore, 1) := by decide +kernel
theorem dX8_init_109 : decode cX8_init 109 = .ok (.aload_n 0, 1) := by decide +kernel
theorem dX8_init_110 : decode cX8_init 110 = .ok (.getfield 7, 3) := by decide +kernel
theorem dX8_init_113 : decode cX8_init 113 = .ok (.iconst 4, 1) := by decide +kernel
theorem dX8_init_114 : decode cX8_init 114 = .ok (.sipush 5100, 3) := by decide +kernel
theorem dX8_init_117 : decode cX8_init 117 = .ok (.iastore, 1) := by decide +kernel
theorem dX8_init_118 : decode cX8_init 118 = .ok (.aload_n 0, 1) := by decide +kernel
theorem dX8_init_119 : decode cX8_init 119 = .ok (.getfield 7, 3) := by decide +kernel
theorem dX8_init_122 : decode cX8_init 122 = .ok (.bipush 14, 2) := by decide +kernel
theorem dX8_init_124 : decode cX8_init 124 = .ok (.sipush 2700, 3) := by decide +kernel
theorem dX8_init_127 : decode cX8_init 127 = .ok (.iastore, 1) := by decide +kernel
theorem dX8_init_128 : decode cX8_init 128 = .ok (.aload_n 0, 1) := by decide +kernel
theorem dX8_init_129 : decode cX8_init 129 = .ok (.getfield 7, 3) := by decide +kernel
theorem dX8_init_132 : decode cX8_init 132 = .ok (.bipush 21, 2) := by decide +kernel
theorem dX8_init_134 : decode cX8_init 134 = .ok (.iconst (-1), 1) := by decide +kernel
theorem dX8_init_135 : decode cX8_init 135 = .ok (.iastore, 1) := by decide +kernel
theorem dX8_init_136 : decode cX8_init 136 = .ok (.return_, 1) := by decide +kernel
theorem dX8_thrown_0 : decode cX8_thrown 0 = .ok (.aload_n 0, 1) := by decide +kernel
theorem dX8_thrown_1 : decode cX8_thrown 1 = .ok (.getfield 38, 3) := by decide +kernel
theorem dX8_thrown_4 : decode cX8_thrown 4 = .ok (.ireturn, 1) := by decide +kernel
theorem dX8_in_0 : decode cX8_in 0 = .ok (.iload_n 0, 1) := by decide +kernel
theorem dX8_in_1 : decode cX8_in 1 = .ok (.iload_n 1, 1) := by decide +kernel
theorem dX8_in_2 : decode cX8_in 2 = .ok (.if_icmp .lt 12, 3) := by decide +kernel
theorem dX8_in_5 : decode cX8_in 5 = .ok (.iload_n 0, 1) := by decide +kernel
theorem dX8_in_6 : decode cX8_in 6 = .ok (.iload_n 2, 1) := by decide +kernel
theorem dX8_in_7 : decode cX8_in 7 = .ok (.if_icmp .gt 7, 3) := by decide +kernel
theorem dX8_in_10 : decode cX8_in 10 = .ok (.iconst 1, 1) := by decide +kernel
theorem dX8_in_11 : decode cX8_in 11 = .ok (.goto 4, 3) := by decide +kernel
theorem dX8_in_14 : decode cX8_in 14 = .ok (.iconst 0, 1) := by decide +kernel
theorem dX8_in_15 : decode cX8_in 15 = .ok (.ireturn, 1) := by decide +kernel
theorem dX8_hold_0 : decode cX8_hold 0 = .ok (.aload_n 0, 1) := by decide +kernel
theorem dX8_hold_1 : decode cX8_hold 1 = .ok (.iconst 0, 1) := by decide +kernel
theorem dX8_hold_2 : decode cX8_hold 2 = .ok (.putfield 42, 3) := by decide +kernel
theorem dX8_hold_5 : decode cX8_hold 5 = .ok (.iconst 0, 1) := by decide +kernel
theorem dX8_hold_6 : decode cX8_hold 6 = .ok (.istore_n 1, 1) := by decide +kernel
theorem dX8_hold_7 : decode cX8_hold 7 = .ok (.iload_n 1, 1) := by decide +kernel
theorem dX8_hold_8 : decode cX8_hold 8 = .ok (.bipush 127, 2) := by decide +kernel
theorem dX8_hold_10 : decode cX8_hold 10 = .ok (.if_icmp .ge 21, 3) := by decide +kernel
theorem dX8_hold_13 : decode cX8_hold 13 = .ok (.aload_n 0, 1) := by decide +kernel
theorem dX8_hold_14 : decode cX8_hold 14 = .ok (.getfield 17, 3) := by decide +kernel
theorem dX8_hold_17 : decode cX8_hold 17 = .ok (.iload_n 1, 1) := by decide +kernel
theorem dX8_hold_18 : decode cX8_hold 18 = .ok (.aload_n 0, 1) := by decide +kernel
theorem dX8_hold_19 : decode cX8_hold 19 = .ok (.getfield 7, 3) := by decide +kernel
theorem dX8_hold_22 : decode cX8_hold 22 = .ok (.iload_n 1, 1) := by decide +kernel
theorem dX8_hold_23 : decode cX8_hold 23 = .ok (.iaload, 1) := by decide +kernel
theorem dX8_hold_24 : decode cX8_hold 24 = .ok (.iastore, 1) := by decide +kernel
theorem dX8_hold_25 : decode cX8_hold 25 = .ok (.iinc 1 1, 3) := by decide +kernel
theorem dX8_hold_28 : decode cX8_hold 28 = .ok (.goto (-21), 3) := by decide +kernel
theorem dX8_hold_31 : decode cX8_hold 31 = .ok (.iconst 0, 1) := by decide +kernel
theorem dX8_hold_32 : decode cX8_hold 32 = .ok (.istore_n 1, 1) := by decide +kernel
theorem dX8_hold_33 : decode cX8_hold 33 = .ok (.iload_n 1, 1) := by decide +kernel
theorem dX8_hold_34 : decode cX8_hold 34 = .ok (.bipush 52, 2) := by decide +kernel
theorem dX8_hold_36 : decode cX8_hold 36 = .ok (.if_icmp .ge 21, 3) := by decide +kernel
theorem dX8_hold_39 : decode cX8_hold 39 = .ok (.aload_n 0, 1) := by decide +kernel
theorem dX8_hold_40 : decode cX8_hold 40 = .ok (.getfield 20, 3) := by decide +kernel
theorem dX8_hold_43 : decode cX8_hold 43 = .ok (.iload_n 1, 1) := by decide +kernel
theorem dX8_hold_44 : decode cX8_hold 44 = .ok (.aload_n 0, 1) := by decide +kernel
theorem dX8_hold_45 : decode cX8_hold 45 = .ok (.getfield 13, 3) := by decide +kernel
theorem dX8_hold_48 : decode cX8_hold 48 = .ok (.iload_n 1, 1) := by decide +kernel
theorem dX8_hold_49 : decode cX8_hold 49 = .ok (.daload, 1) := by decide +kernel
theorem dX8_hold_50 : decode cX8_hold 50 = .ok (.dastore, 1) := by decide +kernel
theorem dX8_hold_51 : decode cX8_hold 51 = .ok (.iinc 1 1, 3) := by decide +kernel
theorem dX8_hold_54 : decode cX8_hold 54 = .ok (.goto (-21), 3) := by decide +kernel
theorem dX8_hold_57 : decode cX8_hold 57 = .ok (.return_, 1) := by decide +kernel
theorem dX8_back_0 : decode cX8_back 0 = .ok (.iconst 0, 1) := by decide +kernel
theorem dX8_back_1 : decode cX8_back 1 = .ok (.istore_n 1, 1) := by decide +kernel
theorem dX8_back_2 : decode cX8_back 2 = .ok (.iload_n 1, 1) := by decide +kernel
theorem dX8_back_3 : decode cX8_back 3 = .ok (.bipush 127, 2) := by decide +kernel
theorem dX8_back_5 : decode cX8_back 5 = .ok (.if_icmp .ge 21, 3) := by decide +kernel
theorem dX8_back_8 : decode cX8_back 8 = .ok (.aload_n 0, 1) := by decide +kernel
theorem dX8_back_9 : decode cX8_back 9 = .ok (.getfield 7, 3) := by decide +kernel
theorem dX8_back_12 : decode cX8_back 12 = .ok (.iload_n 1, 1) := by decide +kernel
theorem dX8_back_13 : decode cX8_back 13 = .ok (.aload_n 0, 1) := by decide +kernel
theorem dX8_back_14 : decode cX8_back 14 = .ok (.getfield 17, 3) := by decide +kernel
theorem dX8_back_17 : decode cX8_back 17 = .ok (.iload_n 1, 1) := by decide +kernel
theorem dX8_back_18 : decode cX8_back 18 = .ok (.iaload, 1) := by decide +kernel
theorem dX8_back_19 : decode cX8_back 19 = .ok (.iastore, 1) := by decide +kernel
theorem dX8_back_20 : decode cX8_back 20 = .ok (.iinc 1 1, 3) := by decide +kernel
theorem dX8_back_23 : decode cX8_back 23 = .ok (.goto (-21), 3) := by decide +kernel
theorem dX8_back_26 : decode cX8_back 26 = .ok (.iconst 0, 1) := by decide +kernel
theorem dX8_back_27 : decode cX8_back 27 = .ok (.istore_n 1, 1) := by decide +kernel
theorem dX8_back_28 : decode cX8_back 28 = .ok (.iload_n 1, 1) := by decide +kernel
theorem dX8_back_29 : decode cX8_back 29 = .ok (.bipush 52, 2) := by decide +kernel
theorem dX8_back_31 : decode cX8_back 31 = .ok (.if_icmp .ge 21, 3) := by decide +kernel
theorem dX8_back_34 : decode cX8_back 34 = .ok (.aload_n 0, 1) := by decide +kernel
theorem dX8_back_35 : decode cX8_back 35 = .ok (.getfield 13, 3) := by decide +kernel
theorem dX8_back_38 : decode cX8_back 38 = .ok (.iload_n 1, 1) := by decide +kernel
theorem dX8_back_39 : decode cX8_back 39 = .ok (.aload_n 0, 1) := by decide +kernel
theorem dX8_back_40 : decode cX8_back 40 = .ok (.getfield 20, 3) := by decide +kernel
theorem dX8_back_43 : decode cX8_back 43 = .ok (.iload_n 1, 1) := by decide +kernel
theorem dX8_back_44 : decode cX8_back 44 = .ok (.daload, 1) := by decide +kernel
theorem dX8_back_45 : decode cX8_back 45 = .ok (.dastore, 1) := by decide +kernel
theorem dX8_back_46 : decode cX8_back 46 = .ok (.iinc 1 1, 3) := by decide +kernel
theorem dX8_back_49 : decode cX8_back 49 = .ok (.goto (-21), 3) := by decide +kernel
theorem dX8_back_52 : decode cX8_back 52 = .ok (.return_, 1) := by decide +kernel
theorem dX8_ends_0 : decode cX8_ends 0 = .ok (.aload_n 0, 1) := by decide +kernel
theorem dX8_ends_1 : decode cX8_ends 1 = .ok (.aload_n 0, 1) := by decide +kernel
theorem dX8_ends_2 : decode cX8_ends 2 = .ok (.getfield 42, 3) := by decide +kernel
theorem dX8_ends_5 : decode cX8_ends 5 = .ok (.putfield 38, 3) := by decide +kernel
theorem dX8_ends_8 : decode cX8_ends 8 = .ok (.aload_n 0, 1) := by decide +kernel
theorem dX8_ends_9 : decode cX8_ends 9 = .ok (.getfield 42, 3) := by decide +kernel
theorem dX8_ends_12 : decode cX8_ends 12 = .ok (.ifCond .eq 5, 3) := by decide +kernel
theorem dX8_ends_15 : decode cX8_ends 15 = .ok (.iconst 0, 1) := by decide +kernel
theorem dX8_ends_16 : decode cX8_ends 16 = .ok (.ireturn, 1) := by decide +kernel
theorem dX8_ends_17 : decode cX8_ends 17 = .ok (.aload_n 0, 1) := by decide +kernel
theorem dX8_ends_18 : decode cX8_ends 18 = .ok (.getfield 45, 3) := by decide +kernel
theorem dX8_ends_21 : decode cX8_ends 21 = .ok (.iconst 4, 1) := by decide +kernel
theorem dX8_ends_22 : decode cX8_ends 22 = .ok (.if_icmp .ne 73, 3) := by decide +kernel
theorem dX8_ends_25 : decode cX8_ends 25 = .ok (.iconst 0, 1) := by decide +kernel
theorem dX8_ends_26 : decode cX8_ends 26 = .ok (.istore_n 2, 1) := by decide +kernel
theorem dX8_ends_27 : decode cX8_ends 27 = .ok (.iload_n 2, 1) := by decide +kernel
theorem dX8_ends_28 : decode cX8_ends 28 = .ok (.sipush 381, 3) := by decide +kernel
theorem dX8_ends_31 : decode cX8_ends 31 = .ok (.if_icmp .ge 24, 3) := by decide +kernel
theorem dX8_ends_34 : decode cX8_ends 34 = .ok (.aload_n 0, 1) := by decide +kernel
theorem dX8_ends_35 : decode cX8_ends 35 = .ok (.getfield 23, 3) := by decide +kernel
theorem dX8_ends_38 : decode cX8_ends 38 = .ok (.iload_n 2, 1) := by decide +kernel
theorem dX8_ends_39 : decode cX8_ends 39 = .ok (.aload_n 0, 1) := by decide +kernel
theorem dX8_ends_40 : decode cX8_ends 40 = .ok (.getfield 23, 3) := by decide +kernel
theorem dX8_ends_43 : decode cX8_ends 43 = .ok (.iload_n 2, 1) := by decide +kernel
theorem dX8_ends_44 : decode cX8_ends 44 = .ok (.bipush 127, 2) := by decide +kernel
theorem dX8_ends_46 : decode cX8_ends 46 = .ok (.iadd, 1) := by decide +kernel
theorem dX8_ends_47 : decode cX8_ends 47 = .ok (.iaload, 1) := by decide +kernel
theorem dX8_ends_48 : decode cX8_ends 48 = .ok (.iastore, 1) := by decide +kernel
theorem dX8_ends_49 : decode cX8_ends 49 = .ok (.iinc 2 1, 3) := by decide +kernel
theorem dX8_ends_52 : decode cX8_ends 52 = .ok (.goto (-25), 3) := by decide +kernel
theorem dX8_ends_55 : decode cX8_ends 55 = .ok (.iconst 0, 1) := by decide +kernel
theorem dX8_ends_56 : decode cX8_ends 56 = .ok (.istore_n 2, 1) := by decide +kernel
theorem dX8_ends_57 : decode cX8_ends 57 = .ok (.iload_n 2, 1) := by decide +kernel
theorem dX8_ends_58 : decode cX8_ends 58 = .ok (.sipush 156, 3) := by decide +kernel
theorem dX8_ends_61 : decode cX8_ends 61 = .ok (.if_icmp .ge 24, 3) := by decide +kernel
theorem dX8_ends_64 : decode cX8_ends 64 = .ok (.aload_n 0, 1) := by decide +kernel
theorem dX8_ends_65 : decode cX8_ends 65 = .ok (.getfield 26, 3) := by decide +kernel
theorem dX8_ends_68 : decode cX8_ends 68 = .ok (.iload_n 2, 1) := by decide +kernel
theorem dX8_ends_69 : decode cX8_ends 69 = .ok (.aload_n 0, 1) := by decide +kernel
theorem dX8_ends_70 : decode cX8_ends 70 = .ok (.getfield 26, 3) := by decide +kernel
theorem dX8_ends_73 : decode cX8_ends 73 = .ok (.iload_n 2, 1) := by decide +kernel
theorem dX8_ends_74 : decode cX8_ends 74 = .ok (.bipush 52, 2) := by decide +kernel
theorem dX8_ends_76 : decode cX8_ends 76 = .ok (.iadd, 1) := by decide +kernel
theorem dX8_ends_77 : decode cX8_ends 77 = .ok (.daload, 1) := by decide +kernel
theorem dX8_ends_78 : decode cX8_ends 78 = .ok (.dastore, 1) := by decide +kernel
theorem dX8_ends_79 : decode cX8_ends 79 = .ok (.iinc 2 1, 3) := by decide +kernel
theorem dX8_ends_82 : decode cX8_ends 82 = .ok (.goto (-25), 3) := by decide +kernel
theorem dX8_ends_85 : decode cX8_ends 85 = .ok (.aload_n 0, 1) := by decide +kernel
theorem dX8_ends_86 : decode cX8_ends 86 = .ok (.dup, 1) := by decide +kernel
theorem dX8_ends_87 : decode cX8_ends 87 = .ok (.getfield 45, 3) := by decide +kernel
theorem dX8_ends_90 : decode cX8_ends 90 = .ok (.iconst 1, 1) := by decide +kernel
theorem dX8_ends_91 : decode cX8_ends 91 = .ok (.isub, 1) := by decide +kernel
theorem dX8_ends_92 : decode cX8_ends 92 = .ok (.putfield 45, 3) := by decide +kernel
theorem dX8_ends_95 : decode cX8_ends 95 = .ok (.iconst 0, 1) := by decide +kernel
theorem dX8_ends_96 : decode cX8_ends 96 = .ok (.istore_n 2, 1) := by decide +kernel
theorem dX8_ends_97 : decode cX8_ends 97 = .ok (.iload_n 2, 1) := by decide +kernel
theorem dX8_ends_98 : decode cX8_ends 98 = .ok (.bipush 127, 2) := by decide +kernel
theorem dX8_ends_100 : decode cX8_ends 100 = .ok (.if_icmp .ge 29, 3) := by decide +kernel
theorem dX8_ends_103 : decode cX8_ends 103 = .ok (.aload_n 0, 1) := by decide +kernel
theorem dX8_ends_104 : decode cX8_ends 104 = .ok (.getfield 23, 3) := by decide +kernel
theorem dX8_ends_107 : decode cX8_ends 107 = .ok (.bipush 127, 2) := by decide +kernel
theorem dX8_ends_109 : decode cX8_ends 109 = .ok (.aload_n 0, 1) := by decide +kernel
theorem dX8_ends_110 : decode cX8_ends 110 = .ok (.getfield 45, 3) := by decide +kernel
theorem dX8_ends_113 : decode cX8_ends 113 = .ok (.imul, 1) := by decide +kernel
theorem dX8_ends_114 : decode cX8_ends 114 = .ok (.iload_n 2, 1) := by decide +kernel
theorem dX8_ends_115 : decode cX8_ends 115 = .ok (.iadd, 1) := by decide +kernel
theorem dX8_ends_116 : decode cX8_ends 116 = .ok (.aload_n 0, 1) := by decide +kernel
theorem dX8_ends_117 : decode cX8_ends 117 = .ok (.getfield 17, 3) := by decide +kernel
theorem dX8_ends_120 : decode cX8_ends 120 = .ok (.iload_n 2, 1) := by decide +kernel
theorem dX8_ends_121 : decode cX8_ends 121 = .ok (.iaload, 1) := by decide +kernel
theorem dX8_ends_122 : decode cX8_ends 122 = .ok (.iastore, 1) := by decide +kernel
theorem dX8_ends_123 : decode cX8_ends 123 = .ok (.iinc 2 1, 3) := by decide +kernel
theorem dX8_ends_126 : decode cX8_ends 126 = .ok (.goto (-29), 3) := by decide +kernel
theorem dX8_ends_129 : decode cX8_ends 129 = .ok (.iconst 0, 1) := by decide +kernel
theorem dX8_ends_130 : decode cX8_ends 130 = .ok (.istore_n 2, 1) := by decide +kernel
theorem dX8_ends_131 : decode cX8_ends 131 = .ok (.iload_n 2, 1) := by decide +kernel
theorem dX8_ends_132 : decode cX8_ends 132 = .ok (.bipush 52, 2) := by decide +kernel
theorem dX8_ends_134 : decode cX8_ends 134 = .ok (.if_icmp .ge 29, 3) := by decide +kernel
theorem dX8_ends_137 : decode cX8_ends 137 = .ok (.aload_n 0, 1) := by decide +kernel
theorem dX8_ends_138 : decode cX8_ends 138 = .ok (.getfield 26, 3) := by decide +kernel
theorem dX8_ends_141 : decode cX8_ends 141 = .ok (.bipush 52, 2) := by decide +kernel
theorem dX8_ends_143 : decode cX8_ends 143 = .ok (.aload_n 0, 1) := by decide +kernel
theorem dX8_ends_144 : decode cX8_ends 144 = .ok (.getfield 45, 3) := by decide +kernel
theorem dX8_ends_147 : decode cX8_ends 147 = .ok (.imul, 1) := by decide +kernel
theorem dX8_ends_148 : decode cX8_ends 148 = .ok (.iload_n 2, 1) := by decide +kernel
theorem dX8_ends_149 : decode cX8_ends 149 = .ok (.iadd, 1) := by decide +kernel
theorem dX8_ends_150 : decode cX8_ends 150 = .ok (.aload_n 0, 1) := by decide +kernel
theorem dX8_ends_151 : decode cX8_ends 151 = .ok (.getfield 20, 3) := by decide +kernel
theorem dX8_ends_154 : decode cX8_ends 154 = .ok (.iload_n 2, 1) := by decide +kernel
theorem dX8_ends_155 : decode cX8_ends 155 = .ok (.daload, 1) := by decide +kernel
theorem dX8_ends_156 : decode cX8_ends 156 = .ok (.dastore, 1) := by decide +kernel
theorem dX8_ends_157 : decode cX8_ends 157 = .ok (.iinc 2 1, 3) := by decide +kernel
theorem dX8_ends_160 : decode cX8_ends 160 = .ok (.goto (-29), 3) := by decide +kernel
theorem dX8_ends_163 : decode cX8_ends 163 = .ok (.aload_n 0, 1) := by decide +kernel
theorem dX8_ends_164 : decode cX8_ends 164 = .ok (.dup, 1) := by decide +kernel
theorem dX8_ends_165 : decode cX8_ends 165 = .ok (.getfield 45, 3) := by decide +kernel
theorem dX8_ends_168 : decode cX8_ends 168 = .ok (.iconst 1, 1) := by decide +kernel
theorem dX8_ends_169 : decode cX8_ends 169 = .ok (.iadd, 1) := by decide +kernel
theorem dX8_ends_170 : decode cX8_ends 170 = .ok (.putfield 45, 3) := by decide +kernel
theorem dX8_ends_173 : decode cX8_ends 173 = .ok (.iload_n 1, 1) := by decide +kernel
theorem dX8_ends_174 : decode cX8_ends 174 = .ok (.ireturn, 1) := by decide +kernel
theorem dX8_refuse_0 : decode cX8_refuse 0 = .ok (.aload_n 0, 1) := by decide +kernel
theorem dX8_refuse_1 : decode cX8_refuse 1 = .ok (.iload_n 1, 1) := by decide +kernel
theorem dX8_refuse_2 : decode cX8_refuse 2 = .ok (.putfield 42, 3) := by decide +kernel
theorem dX8_refuse_5 : decode cX8_refuse 5 = .ok (.iconst 0, 1) := by decide +kernel
theorem dX8_refuse_6 : decode cX8_refuse 6 = .ok (.ireturn, 1) := by decide +kernel
theorem dX8_fails_0 : decode cX8_fails 0 = .ok (.aload_n 0, 1) := by decide +kernel
theorem dX8_fails_1 : decode cX8_fails 1 = .ok (.iload_n 1, 1) := by decide +kernel
theorem dX8_fails_2 : decode cX8_fails 2 = .ok (.putfield 38, 3) := by decide +kernel
theorem dX8_fails_5 : decode cX8_fails 5 = .ok (.iconst 0, 1) := by decide +kernel
theorem dX8_fails_6 : decode cX8_fails 6 = .ok (.ireturn, 1) := by decide +kernel
theorem dX8_isStar_0 : decode cX8_isStar 0 = .ok (.iload_n 1, 1) := by decide +kernel
theorem dX8_isStar_1 : decode cX8_isStar 1 = .ok (.iconst 0, 1) := by decide +kernel
theorem dX8_isStar_2 : decode cX8_isStar 2 = .ok (.aload_n 0, 1) := by decide +kernel
theorem dX8_isStar_3 : decode cX8_isStar 3 = .ok (.getfield 7, 3) := by decide +kernel
theorem dX8_isStar_6 : decode cX8_isStar 6 = .ok (.bipush 20, 2) := by decide +kernel
theorem dX8_isStar_8 : decode cX8_isStar 8 = .ok (.iaload, 1) := by decide +kernel
theorem dX8_isStar_9 : decode cX8_isStar 9 = .ok (.iconst 1, 1) := by decide +kernel
theorem dX8_isStar_10 : decode cX8_isStar 10 = .ok (.isub, 1) := by decide +kernel
theorem dX8_isStar_11 : decode cX8_isStar 11 = .ok (.invokestatic 48, 3) := by decide +kernel
theorem dX8_isStar_14 : decode cX8_isStar 14 = .ok (.ireturn, 1) := by decide +kernel
theorem dX8_isRegion_0 : decode cX8_isRegion 0 = .ok (.iload_n 0, 1) := by decide +kernel
theorem dX8_isRegion_1 : decode cX8_isRegion 1 = .ok (.iconst 0, 1) := by decide +kernel
theorem dX8_isRegion_2 : decode cX8_isRegion 2 = .ok (.bipush 23, 2) := by decide +kernel
theorem dX8_isRegion_4 : decode cX8_isRegion 4 = .ok (.invokestatic 48, 3) := by decide +kernel
theorem dX8_isRegion_7 : decode cX8_isRegion 7 = .ok (.ireturn, 1) := by decide +kernel
theorem dX8_of_0 : decode cX8_of 0 = .ok (.aload_n 0, 1) := by decide +kernel
theorem dX8_of_1 : decode cX8_of 1 = .ok (.getfield 7, 3) := by decide +kernel
theorem dX8_of_4 : decode cX8_of 4 = .ok (.bipush 23, 2) := by decide +kernel
theorem dX8_of_6 : decode cX8_of 6 = .ok (.iconst 4, 1) := by decide +kernel
theorem dX8_of_7 : decode cX8_of 7 = .ok (.iload_n 1, 1) := by decide +kernel
theorem dX8_of_8 : decode cX8_of 8 = .ok (.imul, 1) := by decide +kernel
theorem dX8_of_9 : decode cX8_of 9 = .ok (.iadd, 1) := by decide +kernel
theorem dX8_of_10 : decode cX8_of 10 = .ok (.iload_n 2, 1) := by decide +kernel
theorem dX8_of_11 : decode cX8_of 11 = .ok (.iadd, 1) := by decide +kernel
theorem dX8_of_12 : decode cX8_of 12 = .ok (.iaload, 1) := by decide +kernel
theorem dX8_of_13 : decode cX8_of 13 = .ok (.ireturn, 1) := by decide +kernel
theorem dX8_sideOf_0 : decode cX8_sideOf 0 = .ok (.aload_n 0, 1) := by decide +kernel
theorem dX8_sideOf_1 : decode cX8_sideOf 1 = .ok (.iload_n 1, 1) := by decide +kernel
theorem dX8_sideOf_2 : decode cX8_sideOf 2 = .ok (.iconst 0, 1) := by decide +kernel
theorem dX8_sideOf_3 : decode cX8_sideOf 3 = .ok (.invokevirtual 52, 3) := by decide +kernel
theorem dX8_sideOf_6 : decode cX8_sideOf 6 = .ok (.sipush 10800, 3) := by decide +kernel
theorem dX8_sideOf_9 : decode cX8_sideOf 9 = .ok (.if_icmp .ge 7, 3) := by decide +kernel
theorem dX8_sideOf_12 : decode cX8_sideOf 12 = .ok (.iconst 0, 1) := by decide +kernel
theorem dX8_sideOf_13 : decode cX8_sideOf 13 = .ok (.goto 4, 3) := by decide +kernel
theorem dX8_sideOf_16 : decode cX8_sideOf 16 = .ok (.iconst 1, 1) := by decide +kernel
theorem dX8_sideOf_17 : decode cX8_sideOf 17 = .ok (.ireturn, 1) := by decide +kernel
theorem dX8_regionOf_0 : decode cX8_regionOf 0 = .ok (.iconst 3, 1) := by decide +kernel
theorem dX8_regionOf_1 : decode cX8_regionOf 1 = .ok (.aload_n 0, 1) := by decide +kernel
theorem dX8_regionOf_2 : decode cX8_regionOf 2 = .ok (.iload_n 1, 1) := by decide +kernel
theorem dX8_regionOf_3 : decode cX8_regionOf 3 = .ok (.iconst 0, 1) := by decide +kernel
theorem dX8_regionOf_4 : decode cX8_regionOf 4 = .ok (.invokevirtual 52, 3) := by decide +kernel
theorem dX8_regionOf_7 : decode cX8_regionOf 7 = .ok (.sipush 2700, 3) := by decide +kernel
theorem dX8_regionOf_10 : decode cX8_regionOf 10 = .ok (.idiv, 1) := by decide +kernel
theorem dX8_regionOf_11 : decode cX8_regionOf 11 = .ok (.imul, 1) := by decide +kernel
theorem dX8_regionOf_12 : decode cX8_regionOf 12 = .ok (.aload_n 0, 1) := by decide +kernel
theorem dX8_regionOf_13 : decode cX8_regionOf 13 = .ok (.iload_n 1, 1) := by decide +kernel
theorem dX8_regionOf_14 : decode cX8_regionOf 14 = .ok (.iconst 1, 1) := by decide +kernel
theorem dX8_regionOf_15 : decode cX8_regionOf 15 = .ok (.invokevirtual 52, 3) := by decide +kernel
theorem dX8_regionOf_18 : decode cX8_regionOf 18 = .ok (.sipush 1801, 3) := by decide +kernel
theorem dX8_regionOf_21 : decode cX8_regionOf 21 = .ok (.idiv, 1) := by decide +kernel
theorem dX8_regionOf_22 : decode cX8_regionOf 22 = .ok (.iadd, 1) := by decide +kernel
theorem dX8_regionOf_23 : decode cX8_regionOf 23 = .ok (.ireturn, 1) := by decide +kernel
theorem dX8_isWithin_0 : decode cX8_isWithin 0 = .ok (.aload_n 0, 1) := by decide +kernel
theorem dX8_isWithin_1 : decode cX8_isWithin 1 = .ok (.iload_n 1, 1) := by decide +kernel
theorem dX8_isWithin_2 : decode cX8_isWithin 2 = .ok (.iconst 1, 1) := by decide +kernel
theorem dX8_isWithin_3 : decode cX8_isWithin 3 = .ok (.invokevirtual 52, 3) := by decide +kernel
theorem dX8_isWithin_6 : decode cX8_isWithin 6 = .ok (.aload_n 0, 1) := by decide +kernel
theorem dX8_isWithin_7 : decode cX8_isWithin 7 = .ok (.getfield 7, 3) := by decide +kernel
theorem dX8_isWithin_10 : decode cX8_isWithin 10 = .ok (.iconst 3, 1) := by decide +kernel
theorem dX8_isWithin_11 : decode cX8_isWithin 11 = .ok (.iaload, 1) := by decide +kernel
theorem dX8_isWithin_12 : decode cX8_isWithin 12 = .ok (.aload_n 0, 1) := by decide +kernel
theorem dX8_isWithin_13 : decode cX8_isWithin 13 = .ok (.getfield 7, 3) := by decide +kernel
theorem dX8_isWithin_16 : decode cX8_isWithin 16 = .ok (.iconst 4, 1) := by decide +kernel
theorem dX8_isWithin_17 : decode cX8_isWithin 17 = .ok (.iaload, 1) := by decide +kernel
theorem dX8_isWithin_18 : decode cX8_isWithin 18 = .ok (.invokestatic 48, 3) := by decide +kernel
theorem dX8_isWithin_21 : decode cX8_isWithin 21 = .ok (.ireturn, 1) := by decide +kernel
theorem dX8_size_0 : decode cX8_size 0 = .ok (.iload_n 0, 1) := by decide +kernel
theorem dX8_size_1 : decode cX8_size 1 = .ok (.ifCond .ge 8, 3) := by decide +kernel
theorem dX8_size_4 : decode cX8_size 4 = .ok (.iload_n 0, 1) := by decide +kernel
theorem dX8_size_5 : decode cX8_size 5 = .ok (.ineg, 1) := by decide +kernel
theorem dX8_size_6 : decode cX8_size 6 = .ok (.goto 4, 3) := by decide +kernel
theorem dX8_size_9 : decode cX8_size 9 = .ok (.iload_n 0, 1) := by decide +kernel
theorem dX8_size_10 : decode cX8_size 10 = .ok (.ireturn, 1) := by decide +kernel
theorem dX8_between_0 : decode cX8_between 0 = .ok (.iload_n 0, 1) := by decide +kernel
theorem dX8_between_1 : decode cX8_between 1 = .ok (.iconst 3, 1) := by decide +kernel
theorem dX8_between_2 : decode cX8_between 2 = .ok (.idiv, 1) := by decide +kernel
theorem dX8_between_3 : decode cX8_between 3 = .ok (.iload_n 1, 1) := by decide +kernel
theorem dX8_between_4 : decode cX8_between 4 = .ok (.iconst 3, 1) := by decide +kernel
theorem dX8_between_5 : decode cX8_between 5 = .ok (.idiv, 1) := by decide +kernel
theorem dX8_between_6 : decode cX8_between 6 = .ok (.isub, 1) := by decide +kernel
theorem dX8_between_7 : decode cX8_between 7 = .ok (.invokestatic 56, 3) := by decide +kernel
theorem dX8_between_10 : decode cX8_between 10 = .ok (.istore_n 2, 1) := by decide +kernel
theorem dX8_between_11 : decode cX8_between 11 = .ok (.iload_n 2, 1) := by decide +kernel
theorem dX8_between_12 : decode cX8_between 12 = .ok (.iconst 4, 1) := by decide +kernel
theorem dX8_between_13 : decode cX8_between 13 = .ok (.if_icmp .le 10, 3) := by decide +kernel
theorem dX8_between_16 : decode cX8_between 16 = .ok (.bipush 8, 2) := by decide +kernel
theorem dX8_between_18 : decode cX8_between 18 = .ok (.iload_n 2, 1) := by decide +kernel
theorem dX8_between_19 : decode cX8_between 19 = .ok (.isub, 1) := by decide +kernel
theorem dX8_between_20 : decode cX8_between 20 = .ok (.goto 4, 3) := by decide +kernel
theorem dX8_between_23 : decode cX8_between 23 = .ok (.iload_n 2, 1) := by decide +kernel
theorem dX8_between_24 : decode cX8_between 24 = .ok (.iload_n 0, 1) := by decide +kernel
theorem dX8_between_25 : decode cX8_between 25 = .ok (.iconst 3, 1) := by decide +kernel
theorem dX8_between_26 : decode cX8_between 26 = .ok (.irem, 1) := by decide +kernel
theorem dX8_between_27 : decode cX8_between 27 = .ok (.iload_n 1, 1) := by decide +kernel
theorem dX8_between_28 : decode cX8_between 28 = .ok (.iconst 3, 1) := by decide +kernel
theorem dX8_between_29 : decode cX8_between 29 = .ok (.irem, 1) := by decide +kernel
theorem dX8_between_30 : decode cX8_between 30 = .ok (.isub, 1) := by decide +kernel
theorem dX8_between_31 : decode cX8_between 31 = .ok (.invokestatic 56, 3) := by decide +kernel
theorem dX8_between_34 : decode cX8_between 34 = .ok (.iadd, 1) := by decide +kernel
theorem dX8_between_35 : decode cX8_between 35 = .ok (.ireturn, 1) := by decide +kernel
theorem dX8_sourceOf_0 : decode cX8_sourceOf 0 = .ok (.iconst (-1), 1) := by decide +kernel
theorem dX8_sourceOf_1 : decode cX8_sourceOf 1 = .ok (.istore_n 2, 1) := by decide +kernel
theorem dX8_sourceOf_2 : decode cX8_sourceOf 2 = .ok (.iconst 0, 1) := by decide +kernel
theorem dX8_sourceOf_3 : decode cX8_sourceOf 3 = .ok (.istore_n 3, 1) := by decide +kernel
theorem dX8_sourceOf_4 : decode cX8_sourceOf 4 = .ok (.iload_n 3, 1) := by decide +kernel
theorem dX8_sourceOf_5 : decode cX8_sourceOf 5 = .ok (.bipush 24, 2) := by decide +kernel
theorem dX8_sourceOf_7 : decode cX8_sourceOf 7 = .ok (.if_icmp .ge 56, 3) := by decide +kernel
theorem dX8_sourceOf_10 : decode cX8_sourceOf 10 = .ok (.aload_n 0, 1) := by decide +kernel
theorem dX8_sourceOf_11 : decode cX8_sourceOf 11 = .ok (.getfield 7, 3) := by decide +kernel
theorem dX8_sourceOf_14 : decode cX8_sourceOf 14 = .ok (.bipush 103, 2) := by decide +kernel
theorem dX8_sourceOf_16 : decode cX8_sourceOf 16 = .ok (.iload_n 3, 1) := by decide +kernel
theorem dX8_sourceOf_17 : decode cX8_sourceOf 17 = .ok (.iadd, 1) := by decide +kernel
theorem dX8_sourceOf_18 : decode cX8_sourceOf 18 = .ok (.iaload, 1) := by decide +kernel
theorem dX8_sourceOf_19 : decode cX8_sourceOf 19 = .ok (.ifCond .le 24, 3) := by decide +kernel
theorem dX8_sourceOf_22 : decode cX8_sourceOf 22 = .ok (.iload_n 2, 1) := by decide +kernel
theorem dX8_sourceOf_23 : decode cX8_sourceOf 23 = .ok (.ifCond .lt 16, 3) := by decide +kernel
theorem dX8_sourceOf_26 : decode cX8_sourceOf 26 = .ok (.iload_n 1, 1) := by decide +kernel
theorem dX8_sourceOf_27 : decode cX8_sourceOf 27 = .ok (.iload_n 3, 1) := by decide +kernel
theorem dX8_sourceOf_28 : decode cX8_sourceOf 28 = .ok (.invokestatic 60, 3) := by decide +kernel
theorem dX8_sourceOf_31 : decode cX8_sourceOf 31 = .ok (.iload_n 1, 1) := by decide +kernel
theorem dX8_sourceOf_32 : decode cX8_sourceOf 32 = .ok (.iload_n 2, 1) := by decide +kernel
theorem dX8_sourceOf_33 : decode cX8_sourceOf 33 = .ok (.invokestatic 60, 3) := by decide +kernel
theorem dX8_sourceOf_36 : decode cX8_sourceOf 36 = .ok (.if_icmp .ge 7, 3) := by decide +kernel
theorem dX8_sourceOf_39 : decode cX8_sourceOf 39 = .ok (.iconst 1, 1) := by decide +kernel
theorem dX8_sourceOf_40 : decode cX8_sourceOf 40 = .ok (.goto 4, 3) := by decide +kernel
theorem dX8_sourceOf_43 : decode cX8_sourceOf 43 = .ok (.iconst 0, 1) := by decide +kernel
theorem dX8_sourceOf_44 : decode cX8_sourceOf 44 = .ok (.istore 4, 2) := by decide +kernel
theorem dX8_sourceOf_46 : decode cX8_sourceOf 46 = .ok (.iload 4, 2) := by decide +kernel
theorem dX8_sourceOf_48 : decode cX8_sourceOf 48 = .ok (.ifCond .eq 7, 3) := by decide +kernel
theorem dX8_sourceOf_51 : decode cX8_sourceOf 51 = .ok (.iload_n 3, 1) := by decide +kernel
theorem dX8_sourceOf_52 : decode cX8_sourceOf 52 = .ok (.goto 4, 3) := by decide +kernel
theorem dX8_sourceOf_55 : decode cX8_sourceOf 55 = .ok (.iload_n 2, 1) := by decide +kernel
theorem dX8_sourceOf_56 : decode cX8_sourceOf 56 = .ok (.istore_n 2, 1) := by decide +kernel
theorem dX8_sourceOf_57 : decode cX8_sourceOf 57 = .ok (.iinc 3 1, 3) := by decide +kernel
theorem dX8_sourceOf_60 : decode cX8_sourceOf 60 = .ok (.goto (-56), 3) := by decide +kernel
theorem dX8_sourceOf_63 : decode cX8_sourceOf 63 = .ok (.iload_n 2, 1) := by decide +kernel
theorem dX8_sourceOf_64 : decode cX8_sourceOf 64 = .ok (.ireturn, 1) := by decide +kernel
theorem dX8_holds_0 : decode cX8_holds 0 = .ok (.aload_n 0, 1) := by decide +kernel
theorem dX8_holds_1 : decode cX8_holds 1 = .ok (.iload_n 1, 1) := by decide +kernel
theorem dX8_holds_2 : decode cX8_holds 2 = .ok (.invokevirtual 63, 3) := by decide +kernel
theorem dX8_holds_5 : decode cX8_holds 5 = .ok (.istore_n 3, 1) := by decide +kernel
theorem dX8_holds_6 : decode cX8_holds 6 = .ok (.iload_n 3, 1) := by decide +kernel
theorem dX8_holds_7 : decode cX8_holds 7 = .ok (.ifCond .ge 7, 3) := by decide +kernel
theorem dX8_holds_10 : decode cX8_holds 10 = .ok (.dconst 0, 1) := by decide +kernel
theorem dX8_holds_11 : decode cX8_holds 11 = .ok (.goto 13, 3) := by decide +kernel
theorem dX8_holds_14 : decode cX8_holds 14 = .ok (.aload_n 0, 1) := by decide +kernel
theorem dX8_holds_15 : decode cX8_holds 15 = .ok (.getfield 13, 3) := by decide +kernel
theorem dX8_holds_18 : decode cX8_holds 18 = .ok (.iconst 2, 1) := by decide +kernel
theorem dX8_holds_19 : decode cX8_holds 19 = .ok (.iload_n 3, 1) := by decide +kernel
theorem dX8_holds_20 : decode cX8_holds 20 = .ok (.imul, 1) := by decide +kernel
theorem dX8_holds_21 : decode cX8_holds 21 = .ok (.iload_n 2, 1) := by decide +kernel
theorem dX8_holds_22 : decode cX8_holds 22 = .ok (.iadd, 1) := by decide +kernel
theorem dX8_holds_23 : decode cX8_holds 23 = .ok (.daload, 1) := by decide +kernel
theorem dX8_holds_24 : decode cX8_holds 24 = .ok (.dreturn, 1) := by decide +kernel
theorem dX8_rounded_0 : decode cX8_rounded 0 = .ok (.dload_n 0, 1) := by decide +kernel
theorem dX8_rounded_1 : decode cX8_rounded 1 = .ok (.dconst 0, 1) := by decide +kernel
theorem dX8_rounded_2 : decode cX8_rounded 2 = .ok (.dcmp .l, 1) := by decide +kernel
theorem dX8_rounded_3 : decode cX8_rounded 3 = .ok (.ifCond .lt 12, 3) := by decide +kernel
theorem dX8_rounded_6 : decode cX8_rounded 6 = .ok (.dload_n 0, 1) := by decide +kernel
theorem dX8_rounded_7 : decode cX8_rounded 7 = .ok (.ldc2_w 66, 3) := by decide +kernel
theorem dX8_rounded_10 : decode cX8_rounded 10 = .ok (.dadd, 1) := by decide +kernel
theorem dX8_rounded_11 : decode cX8_rounded 11 = .ok (.d2i, 1) := by decide +kernel
theorem dX8_rounded_12 : decode cX8_rounded 12 = .ok (.goto 10, 3) := by decide +kernel
theorem dX8_rounded_15 : decode cX8_rounded 15 = .ok (.ldc2_w 66, 3) := by decide +kernel
theorem dX8_rounded_18 : decode cX8_rounded 18 = .ok (.dload_n 0, 1) := by decide +kernel
theorem dX8_rounded_19 : decode cX8_rounded 19 = .ok (.dsub, 1) := by decide +kernel
theorem dX8_rounded_20 : decode cX8_rounded 20 = .ok (.d2i, 1) := by decide +kernel
theorem dX8_rounded_21 : decode cX8_rounded 21 = .ok (.ineg, 1) := by decide +kernel
theorem dX8_rounded_22 : decode cX8_rounded 22 = .ok (.ireturn, 1) := by decide +kernel
theorem dX8_bendOf_0 : decode cX8_bendOf 0 = .ok (.aload_n 0, 1) := by decide +kernel
theorem dX8_bendOf_1 : decode cX8_bendOf 1 = .ok (.getfield 7, 3) := by decide +kernel
theorem dX8_bendOf_4 : decode cX8_bendOf 4 = .ok (.iconst 5, 1) := by decide +kernel
theorem dX8_bendOf_5 : decode cX8_bendOf 5 = .ok (.iconst 4, 1) := by decide +kernel
theorem dX8_bendOf_6 : decode cX8_bendOf 6 = .ok (.iload_n 1, 1) := by decide +kernel
theorem dX8_bendOf_7 : decode cX8_bendOf 7 = .ok (.imul, 1) := by decide +kernel
theorem dX8_bendOf_8 : decode cX8_bendOf 8 = .ok (.iadd, 1) := by decide +kernel
theorem dX8_bendOf_9 : decode cX8_bendOf 9 = .ok (.iconst 2, 1) := by decide +kernel
theorem dX8_bendOf_10 : decode cX8_bendOf 10 = .ok (.iload_n 2, 1) := by decide +kernel
theorem dX8_bendOf_11 : decode cX8_bendOf 11 = .ok (.imul, 1) := by decide +kernel
theorem dX8_bendOf_12 : decode cX8_bendOf 12 = .ok (.iadd, 1) := by decide +kernel
theorem dX8_bendOf_13 : decode cX8_bendOf 13 = .ok (.iaload, 1) := by decide +kernel
theorem dX8_bendOf_14 : decode cX8_bendOf 14 = .ok (.i2d, 1) := by decide +kernel
theorem dX8_bendOf_15 : decode cX8_bendOf 15 = .ok (.dstore 4, 2) := by decide +kernel
theorem dX8_bendOf_17 : decode cX8_bendOf 17 = .ok (.aload_n 0, 1) := by decide +kernel
theorem dX8_bendOf_18 : decode cX8_bendOf 18 = .ok (.getfield 7, 3) := by decide +kernel
theorem dX8_bendOf_21 : decode cX8_bendOf 21 = .ok (.iconst 5, 1) := by decide +kernel
theorem dX8_bendOf_22 : decode cX8_bendOf 22 = .ok (.iconst 4, 1) := by decide +kernel
theorem dX8_bendOf_23 : decode cX8_bendOf 23 = .ok (.iload_n 1, 1) := by decide +kernel
theorem dX8_bendOf_24 : decode cX8_bendOf 24 = .ok (.imul, 1) := by decide +kernel
theorem dX8_bendOf_25 : decode cX8_bendOf 25 = .ok (.iadd, 1) := by decide +kernel
theorem dX8_bendOf_26 : decode cX8_bendOf 26 = .ok (.iconst 2, 1) := by decide +kernel
theorem dX8_bendOf_27 : decode cX8_bendOf 27 = .ok (.iload_n 2, 1) := by decide +kernel
theorem dX8_bendOf_28 : decode cX8_bendOf 28 = .ok (.imul, 1) := by decide +kernel
theorem dX8_bendOf_29 : decode cX8_bendOf 29 = .ok (.iadd, 1) := by decide +kernel
theorem dX8_bendOf_30 : decode cX8_bendOf 30 = .ok (.iconst 1, 1) := by decide +kernel
theorem dX8_bendOf_31 : decode cX8_bendOf 31 = .ok (.iadd, 1) := by decide +kernel
theorem dX8_bendOf_32 : decode cX8_bendOf 32 = .ok (.iaload, 1) := by decide +kernel
theorem dX8_bendOf_33 : decode cX8_bendOf 33 = .ok (.i2d, 1) := by decide +kernel
theorem dX8_bendOf_34 : decode cX8_bendOf 34 = .ok (.dstore 6, 2) := by decide +kernel
theorem dX8_bendOf_36 : decode cX8_bendOf 36 = .ok (.dload 4, 2) := by decide +kernel
theorem dX8_bendOf_38 : decode cX8_bendOf 38 = .ok (.dload 6, 2) := by decide +kernel
theorem dX8_bendOf_40 : decode cX8_bendOf 40 = .ok (.iload_n 3, 1) := by decide +kernel
theorem dX8_bendOf_41 : decode cX8_bendOf 41 = .ok (.i2d, 1) := by decide +kernel
theorem dX8_bendOf_42 : decode cX8_bendOf 42 = .ok (.dmul, 1) := by decide +kernel
theorem dX8_bendOf_43 : decode cX8_bendOf 43 = .ok (.ldc2_w 68, 3) := by decide +kernel
theorem dX8_bendOf_46 : decode cX8_bendOf 46 = .ok (.ddiv, 1) := by decide +kernel
theorem dX8_bendOf_47 : decode cX8_bendOf 47 = .ok (.dadd, 1) := by decide +kernel
theorem dX8_bendOf_48 : decode cX8_bendOf 48 = .ok (.dreturn, 1) := by decide +kernel
theorem dX8_aims_0 : decode cX8_aims 0 = .ok (.aload_n 0, 1) := by decide +kernel
theorem dX8_aims_1 : decode cX8_aims 1 = .ok (.aload_n 0, 1) := by decide +kernel
theorem dX8_aims_2 : decode cX8_aims 2 = .ok (.iload_n 1, 1) := by decide +kernel
theorem dX8_aims_3 : decode cX8_aims 3 = .ok (.invokevirtual 70, 3) := by decide +kernel
theorem dX8_aims_6 : decode cX8_aims 6 = .ok (.iconst 0, 1) := by decide +kernel
theorem dX8_aims_7 : decode cX8_aims 7 = .ok (.invokevirtual 73, 3) := by decide +kernel
theorem dX8_aims_10 : decode cX8_aims 10 = .ok (.invokestatic 77, 3) := by decide +kernel
theorem dX8_aims_13 : decode cX8_aims 13 = .ok (.istore_n 3, 1) := by decide +kernel
theorem dX8_aims_14 : decode cX8_aims 14 = .ok (.aload_n 0, 1) := by decide +kernel
theorem dX8_aims_15 : decode cX8_aims 15 = .ok (.aload_n 0, 1) := by decide +kernel
theorem dX8_aims_16 : decode cX8_aims 16 = .ok (.iload_n 1, 1) := by decide +kernel
theorem dX8_aims_17 : decode cX8_aims 17 = .ok (.invokevirtual 70, 3) := by decide +kernel
theorem dX8_aims_20 : decode cX8_aims 20 = .ok (.iconst 1, 1) := by decide +kernel
theorem dX8_aims_21 : decode cX8_aims 21 = .ok (.invokevirtual 73, 3) := by decide +kernel
theorem dX8_aims_24 : decode cX8_aims 24 = .ok (.invokestatic 77, 3) := by decide +kernel
theorem dX8_aims_27 : decode cX8_aims 27 = .ok (.istore 4, 2) := by decide +kernel
theorem dX8_aims_29 : decode cX8_aims 29 = .ok (.aload_n 0, 1) := by decide +kernel
theorem dX8_aims_30 : decode cX8_aims 30 = .ok (.iload_n 1, 1) := by decide +kernel
theorem dX8_aims_31 : decode cX8_aims 31 = .ok (.iconst 0, 1) := by decide +kernel
theorem dX8_aims_32 : decode cX8_aims 32 = .ok (.invokevirtual 52, 3) := by decide +kernel
theorem dX8_aims_35 : decode cX8_aims 35 = .ok (.iload_n 3, 1) := by decide +kernel
theorem dX8_aims_36 : decode cX8_aims 36 = .ok (.isub, 1) := by decide +kernel
theorem dX8_aims_37 : decode cX8_aims 37 = .ok (.istore 5, 2) := by decide +kernel
theorem dX8_aims_39 : decode cX8_aims 39 = .ok (.iload 5, 2) := by decide +kernel
theorem dX8_aims_41 : decode cX8_aims 41 = .ok (.ifCond .ge 12, 3) := by decide +kernel
theorem dX8_aims_44 : decode cX8_aims 44 = .ok (.iinc 5 21600, 6) := by decide +kernel
theorem dX8_aims_50 : decode cX8_aims 50 = .ok (.goto (-11), 3) := by decide +kernel
theorem dX8_aims_53 : decode cX8_aims 53 = .ok (.iload 5, 2) := by decide +kernel
theorem dX8_aims_55 : decode cX8_aims 55 = .ok (.sipush 21600, 3) := by decide +kernel
theorem dX8_aims_58 : decode cX8_aims 58 = .ok (.if_icmp .lt 12, 3) := by decide +kernel
theorem dX8_aims_61 : decode cX8_aims 61 = .ok (.iinc 5 (-21600), 6) := by decide +kernel
theorem dX8_aims_67 : decode cX8_aims 67 = .ok (.goto (-14), 3) := by decide +kernel
theorem dX8_aims_70 : decode cX8_aims 70 = .ok (.aload_n 0, 1) := by decide +kernel
theorem dX8_aims_71 : decode cX8_aims 71 = .ok (.iload_n 1, 1) := by decide +kernel
theorem dX8_aims_72 : decode cX8_aims 72 = .ok (.iconst 1, 1) := by decide +kernel
theorem dX8_aims_73 : decode cX8_aims 73 = .ok (.invokevirtual 52, 3) := by decide +kernel
theorem dX8_aims_76 : decode cX8_aims 76 = .ok (.iload 4, 2) := by decide +kernel
theorem dX8_aims_78 : decode cX8_aims 78 = .ok (.isub, 1) := by decide +kernel
theorem dX8_aims_79 : decode cX8_aims 79 = .ok (.istore 6, 2) := by decide +kernel
theorem dX8_aims_81 : decode cX8_aims 81 = .ok (.aload_n 0, 1) := by decide +kernel
theorem dX8_aims_82 : decode cX8_aims 82 = .ok (.iload 6, 2) := by decide +kernel
theorem dX8_aims_84 : decode cX8_aims 84 = .ok (.ifCond .ge 7, 3) := by decide +kernel
theorem dX8_aims_87 : decode cX8_aims 87 = .ok (.iconst 0, 1) := by decide +kernel
theorem dX8_aims_88 : decode cX8_aims 88 = .ok (.goto 19, 3) := by decide +kernel
theorem dX8_aims_91 : decode cX8_aims 91 = .ok (.iload 6, 2) := by decide +kernel
theorem dX8_aims_93 : decode cX8_aims 93 = .ok (.sipush 5400, 3) := by decide +kernel
theorem dX8_aims_96 : decode cX8_aims 96 = .ok (.if_icmp .le 9, 3) := by decide +kernel
theorem dX8_aims_99 : decode cX8_aims 99 = .ok (.sipush 5400, 3) := by decide +kernel
theorem dX8_aims_102 : decode cX8_aims 102 = .ok (.goto 5, 3) := by decide +kernel
theorem dX8_aims_105 : decode cX8_aims 105 = .ok (.iload 6, 2) := by decide +kernel
theorem dX8_aims_107 : decode cX8_aims 107 = .ok (.putfield 81, 3) := by decide +kernel
theorem dX8_aims_110 : decode cX8_aims 110 = .ok (.iload 5, 2) := by decide +kernel
theorem dX8_aims_112 : decode cX8_aims 112 = .ok (.sipush 21600, 3) := by decide +kernel
theorem dX8_aims_115 : decode cX8_aims 115 = .ok (.isub, 1) := by decide +kernel
theorem dX8_aims_116 : decode cX8_aims 116 = .ok (.istore 7, 2) := by decide +kernel
theorem dX8_aims_118 : decode cX8_aims 118 = .ok (.iload 5, 2) := by decide +kernel
theorem dX8_aims_120 : decode cX8_aims 120 = .ok (.sipush 16200, 3) := by decide +kernel
theorem dX8_aims_123 : decode cX8_aims 123 = .ok (.if_icmp .gt 28, 3) := by decide +kernel
theorem dX8_aims_126 : decode cX8_aims 126 = .ok (.iload 7, 2) := by decide +kernel
theorem dX8_aims_128 : decode cX8_aims 128 = .ok (.sipush (-16200), 3) := by decide +kernel
theorem dX8_aims_131 : decode cX8_aims 131 = .ok (.if_icmp .lt 24, 3) := by decide +kernel
theorem dX8_aims_134 : decode cX8_aims 134 = .ok (.iload 7, 2) := by decide +kernel
theorem dX8_aims_136 : decode cX8_aims 136 = .ok (.iload_n 2, 1) := by decide +kernel
theorem dX8_aims_137 : decode cX8_aims 137 = .ok (.isub, 1) := by decide +kernel
theorem dX8_aims_138 : decode cX8_aims 138 = .ok (.invokestatic 56, 3) := by decide +kernel
theorem dX8_aims_141 : decode cX8_aims 141 = .ok (.iload 5, 2) := by decide +kernel
theorem dX8_aims_143 : decode cX8_aims 143 = .ok (.iload_n 2, 1) := by decide +kernel
theorem dX8_aims_144 : decode cX8_aims 144 = .ok (.isub, 1) := by decide +kernel
theorem dX8_aims_145 : decode cX8_aims 145 = .ok (.invokestatic 56, 3) := by decide +kernel
theorem dX8_aims_148 : decode cX8_aims 148 = .ok (.if_icmp .gt 7, 3) := by decide +kernel
theorem dX8_aims_151 : decode cX8_aims 151 = .ok (.iconst 1, 1) := by decide +kernel
theorem dX8_aims_152 : decode cX8_aims 152 = .ok (.goto 4, 3) := by decide +kernel
theorem dX8_aims_155 : decode cX8_aims 155 = .ok (.iconst 0, 1) := by decide +kernel
theorem dX8_aims_156 : decode cX8_aims 156 = .ok (.istore 8, 2) := by decide +kernel
theorem dX8_aims_158 : decode cX8_aims 158 = .ok (.aload_n 0, 1) := by decide +kernel
theorem dX8_aims_159 : decode cX8_aims 159 = .ok (.iload 8, 2) := by decide +kernel
theorem dX8_aims_161 : decode cX8_aims 161 = .ok (.ifCond .eq 8, 3) := by decide +kernel
theorem dX8_aims_164 : decode cX8_aims 164 = .ok (.iload 7, 2) := by decide +kernel
theorem dX8_aims_166 : decode cX8_aims 166 = .ok (.goto 5, 3) := by decide +kernel
theorem dX8_aims_169 : decode cX8_aims 169 = .ok (.iload 5, 2) := by decide +kernel
theorem dX8_aims_171 : decode cX8_aims 171 = .ok (.putfield 84, 3) := by decide +kernel
theorem dX8_aims_174 : decode cX8_aims 174 = .ok (.aload_n 0, 1) := by decide +kernel
theorem dX8_aims_175 : decode cX8_aims 175 = .ok (.iload_n 3, 1) := by decide +kernel
theorem dX8_aims_176 : decode cX8_aims 176 = .ok (.ineg, 1) := by decide +kernel
theorem dX8_aims_177 : decode cX8_aims 177 = .ok (.i2d, 1) := by decide +kernel
theorem dX8_aims_178 : decode cX8_aims 178 = .ok (.aload_n 0, 1) := by decide +kernel
theorem dX8_aims_179 : decode cX8_aims 179 = .ok (.aload_n 0, 1) := by decide +kernel
theorem dX8_aims_180 : decode cX8_aims 180 = .ok (.iload_n 1, 1) := by decide +kernel
theorem dX8_aims_181 : decode cX8_aims 181 = .ok (.invokevirtual 87, 3) := by decide +kernel
theorem dX8_aims_184 : decode cX8_aims 184 = .ok (.iconst 0, 1) := by decide +kernel
theorem dX8_aims_185 : decode cX8_aims 185 = .ok (.aload_n 0, 1) := by decide +kernel
theorem dX8_aims_186 : decode cX8_aims 186 = .ok (.getfield 81, 3) := by decide +kernel
theorem dX8_aims_189 : decode cX8_aims 189 = .ok (.invokevirtual 90, 3) := by decide +kernel
theorem dX8_aims_192 : decode cX8_aims 192 = .ok (.dadd, 1) := by decide +kernel
theorem dX8_aims_193 : decode cX8_aims 193 = .ok (.putfield 94, 3) := by decide +kernel
theorem dX8_aims_196 : decode cX8_aims 196 = .ok (.aload_n 0, 1) := by decide +kernel
theorem dX8_aims_197 : decode cX8_aims 197 = .ok (.aload_n 0, 1) := by decide +kernel
theorem dX8_aims_198 : decode cX8_aims 198 = .ok (.getfield 81, 3) := by decide +kernel
theorem dX8_aims_201 : decode cX8_aims 201 = .ok (.aload_n 0, 1) := by decide +kernel
theorem dX8_aims_202 : decode cX8_aims 202 = .ok (.iload_n 1, 1) := by decide +kernel
theorem dX8_aims_203 : decode cX8_aims 203 = .ok (.iconst 1, 1) := by decide +kernel
theorem dX8_aims_204 : decode cX8_aims 204 = .ok (.invokevirtual 52, 3) := by decide +kernel
theorem dX8_aims_207 : decode cX8_aims 207 = .ok (.isub, 1) := by decide +kernel
theorem dX8_aims_208 : decode cX8_aims 208 = .ok (.i2d, 1) := by decide +kernel
theorem dX8_aims_209 : decode cX8_aims 209 = .ok (.aload_n 0, 1) := by decide +kernel
theorem dX8_aims_210 : decode cX8_aims 210 = .ok (.aload_n 0, 1) := by decide +kernel
theorem dX8_aims_211 : decode cX8_aims 211 = .ok (.iload_n 1, 1) := by decide +kernel
theorem dX8_aims_212 : decode cX8_aims 212 = .ok (.invokevirtual 87, 3) := by decide +kernel
theorem dX8_aims_215 : decode cX8_aims 215 = .ok (.iconst 1, 1) := by decide +kernel
theorem dX8_aims_216 : decode cX8_aims 216 = .ok (.aload_n 0, 1) := by decide +kernel
theorem dX8_aims_217 : decode cX8_aims 217 = .ok (.getfield 81, 3) := by decide +kernel
theorem dX8_aims_220 : decode cX8_aims 220 = .ok (.invokevirtual 90, 3) := by decide +kernel
theorem dX8_aims_223 : decode cX8_aims 223 = .ok (.dadd, 1) := by decide +kernel
theorem dX8_aims_224 : decode cX8_aims 224 = .ok (.putfield 98, 3) := by decide +kernel
theorem dX8_aims_227 : decode cX8_aims 227 = .ok (.return_, 1) := by decide +kernel
theorem dX8_timeOf_0 : decode cX8_timeOf 0 = .ok (.aload_n 0, 1) := by decide +kernel
theorem dX8_timeOf_1 : decode cX8_timeOf 1 = .ok (.getfield 84, 3) := by decide +kernel
theorem dX8_timeOf_4 : decode cX8_timeOf 4 = .ok (.iload_n 2, 1) := by decide +kernel
theorem dX8_timeOf_5 : decode cX8_timeOf 5 = .ok (.isub, 1) := by decide +kernel
theorem dX8_timeOf_6 : decode cX8_timeOf 6 = .ok (.invokestatic 56, 3) := by decide +kernel
theorem dX8_timeOf_9 : decode cX8_timeOf 9 = .ok (.aload_n 0, 1) := by decide +kernel
theorem dX8_timeOf_10 : decode cX8_timeOf 10 = .ok (.getfield 81, 3) := by decide +kernel
theorem dX8_timeOf_13 : decode cX8_timeOf 13 = .ok (.iload_n 3, 1) := by decide +kernel
theorem dX8_timeOf_14 : decode cX8_timeOf 14 = .ok (.isub, 1) := by decide +kernel
theorem dX8_timeOf_15 : decode cX8_timeOf 15 = .ok (.invokestatic 56, 3) := by decide +kernel
theorem dX8_timeOf_18 : decode cX8_timeOf 18 = .ok (.if_icmp .le 15, 3) := by decide +kernel
theorem dX8_timeOf_21 : decode cX8_timeOf 21 = .ok (.aload_n 0, 1) := by decide +kernel
theorem dX8_timeOf_22 : decode cX8_timeOf 22 = .ok (.getfield 84, 3) := by decide +kernel
theorem dX8_timeOf_25 : decode cX8_timeOf 25 = .ok (.iload_n 2, 1) := by decide +kernel
theorem dX8_timeOf_26 : decode cX8_timeOf 26 = .ok (.isub, 1) := by decide +kernel
theorem dX8_timeOf_27 : decode cX8_timeOf 27 = .ok (.invokestatic 56, 3) := by decide +kernel
theorem dX8_timeOf_30 : decode cX8_timeOf 30 = .ok (.goto 12, 3) := by decide +kernel
theorem dX8_timeOf_33 : decode cX8_timeOf 33 = .ok (.aload_n 0, 1) := by decide +kernel
theorem dX8_timeOf_34 : decode cX8_timeOf 34 = .ok (.getfield 81, 3) := by decide +kernel
theorem dX8_timeOf_37 : decode cX8_timeOf 37 = .ok (.iload_n 3, 1) := by decide +kernel
theorem dX8_timeOf_38 : decode cX8_timeOf 38 = .ok (.isub, 1) := by decide +kernel
theorem dX8_timeOf_39 : decode cX8_timeOf 39 = .ok (.invokestatic 56, 3) := by decide +kernel
theorem dX8_timeOf_42 : decode cX8_timeOf 42 = .ok (.istore 5, 2) := by decide +kernel
theorem dX8_timeOf_44 : decode cX8_timeOf 44 = .ok (.iload 5, 2) := by decide +kernel
theorem dX8_timeOf_46 : decode cX8_timeOf 46 = .ok (.aload_n 0, 1) := by decide +kernel
theorem dX8_timeOf_47 : decode cX8_timeOf 47 = .ok (.getfield 7, 3) := by decide +kernel
theorem dX8_timeOf_50 : decode cX8_timeOf 50 = .ok (.iconst 0, 1) := by decide +kernel
theorem dX8_timeOf_51 : decode cX8_timeOf 51 = .ok (.iaload, 1) := by decide +kernel
theorem dX8_timeOf_52 : decode cX8_timeOf 52 = .ok (.iadd, 1) := by decide +kernel
theorem dX8_timeOf_53 : decode cX8_timeOf 53 = .ok (.iconst 1, 1) := by decide +kernel
theorem dX8_timeOf_54 : decode cX8_timeOf 54 = .ok (.isub, 1) := by decide +kernel
theorem dX8_timeOf_55 : decode cX8_timeOf 55 = .ok (.aload_n 0, 1) := by decide +kernel
theorem dX8_timeOf_56 : decode cX8_timeOf 56 = .ok (.getfield 7, 3) := by decide +kernel
theorem dX8_timeOf_59 : decode cX8_timeOf 59 = .ok (.iconst 0, 1) := by decide +kernel
theorem dX8_timeOf_60 : decode cX8_timeOf 60 = .ok (.iaload, 1) := by decide +kernel
theorem dX8_timeOf_61 : decode cX8_timeOf 61 = .ok (.idiv, 1) := by decide +kernel
theorem dX8_timeOf_62 : decode cX8_timeOf 62 = .ok (.iload 4, 2) := by decide +kernel
theorem dX8_timeOf_64 : decode cX8_timeOf 64 = .ok (.aload_n 0, 1) := by decide +kernel
theorem dX8_timeOf_65 : decode cX8_timeOf 65 = .ok (.iload_n 1, 1) := by decide +kernel
theorem dX8_timeOf_66 : decode cX8_timeOf 66 = .ok (.invokevirtual 87, 3) := by decide +kernel
theorem dX8_timeOf_69 : decode cX8_timeOf 69 = .ok (.if_icmp .ne 7, 3) := by decide +kernel
theorem dX8_timeOf_72 : decode cX8_timeOf 72 = .ok (.iconst 0, 1) := by decide +kernel
theorem dX8_timeOf_73 : decode cX8_timeOf 73 = .ok (.goto 5, 3) := by decide +kernel
theorem dX8_timeOf_76 : decode cX8_timeOf 76 = .ok (.bipush 60, 2) := by decide +kernel
theorem dX8_timeOf_78 : decode cX8_timeOf 78 = .ok (.iadd, 1) := by decide +kernel
theorem dX8_timeOf_79 : decode cX8_timeOf 79 = .ok (.ireturn, 1) := by decide +kernel
theorem dX8_greater_0 : decode cX8_greater 0 = .ok (.dload_n 0, 1) := by decide +kernel
theorem dX8_greater_1 : decode cX8_greater 1 = .ok (.dconst 0, 1) := by decide +kernel
theorem dX8_greater_2 : decode cX8_greater 2 = .ok (.dcmp .g, 1) := by decide +kernel
theorem dX8_greater_3 : decode cX8_greater 3 = .ok (.ifCond .ge 8, 3) := by decide +kernel
theorem dX8_greater_6 : decode cX8_greater 6 = .ok (.dload_n 0, 1) := by decide +kernel
theorem dX8_greater_7 : decode cX8_greater 7 = .ok (.dneg, 1) := by decide +kernel
theorem dX8_greater_8 : decode cX8_greater 8 = .ok (.goto 4, 3) := by decide +kernel
theorem dX8_greater_11 : decode cX8_greater 11 = .ok (.dload_n 0, 1) := by decide +kernel
theorem dX8_greater_12 : decode cX8_greater 12 = .ok (.dstore 4, 2) := by decide +kernel
theorem dX8_greater_14 : decode cX8_greater 14 = .ok (.dload_n 2, 1) := by decide +kernel
theorem dX8_greater_15 : decode cX8_greater 15 = .ok (.dconst 0, 1) := by decide +kernel
theorem dX8_greater_16 : decode cX8_greater 16 = .ok (.dcmp .g, 1) := by decide +kernel
theorem dX8_greater_17 : decode cX8_greater 17 = .ok (.ifCond .ge 8, 3) := by decide +kernel
theorem dX8_greater_20 : decode cX8_greater 20 = .ok (.dload_n 2, 1) := by decide +kernel
theorem dX8_greater_21 : decode cX8_greater 21 = .ok (.dneg, 1) := by decide +kernel
theorem dX8_greater_22 : decode cX8_greater 22 = .ok (.goto 4, 3) := by decide +kernel
theorem dX8_greater_25 : decode cX8_greater 25 = .ok (.dload_n 2, 1) := by decide +kernel
theorem dX8_greater_26 : decode cX8_greater 26 = .ok (.dstore 6, 2) := by decide +kernel
theorem dX8_greater_28 : decode cX8_greater 28 = .ok (.dload 4, 2) := by decide +kernel
theorem dX8_greater_30 : decode cX8_greater 30 = .ok (.dload 6, 2) := by decide +kernel
theorem dX8_greater_32 : decode cX8_greater 32 = .ok (.dcmp .l, 1) := by decide +kernel
theorem dX8_greater_33 : decode cX8_greater 33 = .ok (.ifCond .le 8, 3) := by decide +kernel
theorem dX8_greater_36 : decode cX8_greater 36 = .ok (.dload 4, 2) := by decide +kernel
theorem dX8_greater_38 : decode cX8_greater 38 = .ok (.goto 5, 3) := by decide +kernel
theorem dX8_greater_41 : decode cX8_greater 41 = .ok (.dload 6, 2) := by decide +kernel
theorem dX8_greater_43 : decode cX8_greater 43 = .ok (.dreturn, 1) := by decide +kernel
theorem dX8_finds_0 : decode cX8_finds 0 = .ok (.aload_n 0, 1) := by decide +kernel
theorem dX8_finds_1 : decode cX8_finds 1 = .ok (.getfield 94, 3) := by decide +kernel
theorem dX8_finds_4 : decode cX8_finds 4 = .ok (.aload_n 0, 1) := by decide +kernel
theorem dX8_finds_5 : decode cX8_finds 5 = .ok (.getfield 98, 3) := by decide +kernel
theorem dX8_finds_8 : decode cX8_finds 8 = .ok (.invokestatic 101, 3) := by decide +kernel
theorem dX8_finds_11 : decode cX8_finds 11 = .ok (.aload_n 0, 1) := by decide +kernel
theorem dX8_finds_12 : decode cX8_finds 12 = .ok (.getfield 7, 3) := by decide +kernel
theorem dX8_finds_15 : decode cX8_finds 15 = .ok (.iconst 2, 1) := by decide +kernel
theorem dX8_finds_16 : decode cX8_finds 16 = .ok (.iaload, 1) := by decide +kernel
theorem dX8_finds_17 : decode cX8_finds 17 = .ok (.i2d, 1) := by decide +kernel
theorem dX8_finds_18 : decode cX8_finds 18 = .ok (.dcmp .g, 1) := by decide +kernel
theorem dX8_finds_19 : decode cX8_finds 19 = .ok (.ifCond .gt 7, 3) := by decide +kernel
theorem dX8_finds_22 : decode cX8_finds 22 = .ok (.iconst 1, 1) := by decide +kernel
theorem dX8_finds_23 : decode cX8_finds 23 = .ok (.goto 4, 3) := by decide +kernel
theorem dX8_finds_26 : decode cX8_finds 26 = .ok (.iconst 0, 1) := by decide +kernel
theorem dX8_finds_27 : decode cX8_finds 27 = .ok (.ireturn, 1) := by decide +kernel
theorem dX8_slew_0 : decode cX8_slew 0 = .ok (.aload_n 0, 1) := by decide +kernel
theorem dX8_slew_1 : decode cX8_slew 1 = .ok (.iload_n 1, 1) := by decide +kernel
theorem dX8_slew_2 : decode cX8_slew 2 = .ok (.aload_n 0, 1) := by decide +kernel
theorem dX8_slew_3 : decode cX8_slew 3 = .ok (.getfield 7, 3) := by decide +kernel
theorem dX8_slew_6 : decode cX8_slew 6 = .ok (.bipush 13, 2) := by decide +kernel
theorem dX8_slew_8 : decode cX8_slew 8 = .ok (.iaload, 1) := by decide +kernel
theorem dX8_slew_9 : decode cX8_slew 9 = .ok (.invokevirtual 105, 3) := by decide +kernel
theorem dX8_slew_12 : decode cX8_slew 12 = .ok (.aload_n 0, 1) := by decide +kernel
theorem dX8_slew_13 : decode cX8_slew 13 = .ok (.iload_n 1, 1) := by decide +kernel
theorem dX8_slew_14 : decode cX8_slew 14 = .ok (.aload_n 0, 1) := by decide +kernel
theorem dX8_slew_15 : decode cX8_slew 15 = .ok (.getfield 7, 3) := by decide +kernel
theorem dX8_slew_18 : decode cX8_slew 18 = .ok (.bipush 13, 2) := by decide +kernel
theorem dX8_slew_20 : decode cX8_slew 20 = .ok (.iaload, 1) := by decide +kernel
theorem dX8_slew_21 : decode cX8_slew 21 = .ok (.aload_n 0, 1) := by decide +kernel
theorem dX8_slew_22 : decode cX8_slew 22 = .ok (.getfield 7, 3) := by decide +kernel
theorem dX8_slew_25 : decode cX8_slew 25 = .ok (.bipush 14, 2) := by decide +kernel
theorem dX8_slew_27 : decode cX8_slew 27 = .ok (.iaload, 1) := by decide +kernel
theorem dX8_slew_28 : decode cX8_slew 28 = .ok (.aload_n 0, 1) := by decide +kernel
theorem dX8_slew_29 : decode cX8_slew 29 = .ok (.getfield 7, 3) := by decide +kernel
theorem dX8_slew_32 : decode cX8_slew 32 = .ok (.bipush 15, 2) := by decide +kernel
theorem dX8_slew_34 : decode cX8_slew 34 = .ok (.iaload, 1) := by decide +kernel
theorem dX8_slew_35 : decode cX8_slew 35 = .ok (.invokevirtual 109, 3) := by decide +kernel
theorem dX8_slew_38 : decode cX8_slew 38 = .ok (.ireturn, 1) := by decide +kernel
theorem dX8_goes_0 : decode cX8_goes 0 = .ok (.aload_n 0, 1) := by decide +kernel
theorem dX8_goes_1 : decode cX8_goes 1 = .ok (.iload_n 1, 1) := by decide +kernel
theorem dX8_goes_2 : decode cX8_goes 2 = .ok (.invokevirtual 113, 3) := by decide +kernel
theorem dX8_goes_5 : decode cX8_goes 5 = .ok (.istore_n 2, 1) := by decide +kernel
theorem dX8_goes_6 : decode cX8_goes 6 = .ok (.bipush 23, 2) := by decide +kernel
theorem dX8_goes_8 : decode cX8_goes 8 = .ok (.iconst 4, 1) := by decide +kernel
theorem dX8_goes_9 : decode cX8_goes 9 = .ok (.iload_n 1, 1) := by decide +kernel
theorem dX8_goes_10 : decode cX8_goes 10 = .ok (.imul, 1) := by decide +kernel
theorem dX8_goes_11 : decode cX8_goes 11 = .ok (.iadd, 1) := by decide +kernel
theorem dX8_goes_12 : decode cX8_goes 12 = .ok (.istore_n 3, 1) := by decide +kernel
theorem dX8_goes_13 : decode cX8_goes 13 = .ok (.aload_n 0, 1) := by decide +kernel
theorem dX8_goes_14 : decode cX8_goes 14 = .ok (.getfield 13, 3) := by decide +kernel
theorem dX8_goes_17 : decode cX8_goes 17 = .ok (.bipush 50, 2) := by decide +kernel
theorem dX8_goes_19 : decode cX8_goes 19 = .ok (.aload_n 0, 1) := by decide +kernel
theorem dX8_goes_20 : decode cX8_goes 20 = .ok (.aload_n 0, 1) := by decide +kernel
theorem dX8_goes_21 : decode cX8_goes 21 = .ok (.iload_n 1, 1) := by decide +kernel
theorem dX8_goes_22 : decode cX8_goes 22 = .ok (.invokevirtual 70, 3) := by decide +kernel
theorem dX8_goes_25 : decode cX8_goes 25 = .ok (.iconst 0, 1) := by decide +kernel
theorem dX8_goes_26 : decode cX8_goes 26 = .ok (.invokevirtual 73, 3) := by decide +kernel
theorem dX8_goes_29 : decode cX8_goes 29 = .ok (.dastore, 1) := by decide +kernel
theorem dX8_goes_30 : decode cX8_goes 30 = .ok (.aload_n 0, 1) := by decide +kernel
theorem dX8_goes_31 : decode cX8_goes 31 = .ok (.getfield 13, 3) := by decide +kernel
theorem dX8_goes_34 : decode cX8_goes 34 = .ok (.bipush 51, 2) := by decide +kernel
theorem dX8_goes_36 : decode cX8_goes 36 = .ok (.aload_n 0, 1) := by decide +kernel
theorem dX8_goes_37 : decode cX8_goes 37 = .ok (.aload_n 0, 1) := by decide +kernel
theorem dX8_goes_38 : decode cX8_goes 38 = .ok (.iload_n 1, 1) := by decide +kernel
theorem dX8_goes_39 : decode cX8_goes 39 = .ok (.invokevirtual 70, 3) := by decide +kernel
theorem dX8_goes_42 : decode cX8_goes 42 = .ok (.iconst 1, 1) := by decide +kernel
theorem dX8_goes_43 : decode cX8_goes 43 = .ok (.invokevirtual 73, 3) := by decide +kernel
theorem dX8_goes_46 : decode cX8_goes 46 = .ok (.dastore, 1) := by decide +kernel
theorem dX8_goes_47 : decode cX8_goes 47 = .ok (.aload_n 0, 1) := by decide +kernel
theorem dX8_goes_48 : decode cX8_goes 48 = .ok (.getfield 13, 3) := by decide +kernel
theorem dX8_goes_51 : decode cX8_goes 51 = .ok (.bipush 48, 2) := by decide +kernel
theorem dX8_goes_53 : decode cX8_goes 53 = .ok (.aload_n 0, 1) := by decide +kernel
theorem dX8_goes_54 : decode cX8_goes 54 = .ok (.getfield 94, 3) := by decide +kernel
theorem dX8_goes_57 : decode cX8_goes 57 = .ok (.dastore, 1) := by decide +kernel
theorem dX8_goes_58 : decode cX8_goes 58 = .ok (.aload_n 0, 1) := by decide +kernel
theorem dX8_goes_59 : decode cX8_goes 59 = .ok (.getfield 13, 3) := by decide +kernel
theorem dX8_goes_62 : decode cX8_goes 62 = .ok (.bipush 49, 2) := by decide +kernel
theorem dX8_goes_64 : decode cX8_goes 64 = .ok (.aload_n 0, 1) := by decide +kernel
theorem dX8_goes_65 : decode cX8_goes 65 = .ok (.getfield 98, 3) := by decide +kernel
theorem dX8_goes_68 : decode cX8_goes 68 = .ok (.dastore, 1) := by decide +kernel
theorem dX8_goes_69 : decode cX8_goes 69 = .ok (.aload_n 0, 1) := by decide +kernel
theorem dX8_goes_70 : decode cX8_goes 70 = .ok (.getfield 7, 3) := by decide +kernel
theorem dX8_goes_73 : decode cX8_goes 73 = .ok (.bipush 19, 2) := by decide +kernel
theorem dX8_goes_75 : decode cX8_goes 75 = .ok (.dup2, 1) := by decide +kernel
theorem dX8_goes_76 : decode cX8_goes 76 = .ok (.iaload, 1) := by decide +kernel
theorem dX8_goes_77 : decode cX8_goes 77 = .ok (.aload_n 0, 1) := by decide +kernel
theorem dX8_goes_78 : decode cX8_goes 78 = .ok (.getfield 7, 3) := by decide +kernel
theorem dX8_goes_81 : decode cX8_goes 81 = .ok (.bipush 15, 2) := by decide +kernel
theorem dX8_goes_83 : decode cX8_goes 83 = .ok (.iaload, 1) := by decide +kernel
theorem dX8_goes_84 : decode cX8_goes 84 = .ok (.aload_n 0, 1) := by decide +kernel
theorem dX8_goes_85 : decode cX8_goes 85 = .ok (.iload_n 1, 1) := by decide +kernel
theorem dX8_goes_86 : decode cX8_goes 86 = .ok (.invokevirtual 87, 3) := by decide +kernel
theorem dX8_goes_89 : decode cX8_goes 89 = .ok (.if_icmp .ne 7, 3) := by decide +kernel
theorem dX8_goes_92 : decode cX8_goes 92 = .ok (.iconst 0, 1) := by decide +kernel
theorem dX8_goes_93 : decode cX8_goes 93 = .ok (.goto 4, 3) := by decide +kernel
theorem dX8_goes_96 : decode cX8_goes 96 = .ok (.iconst 1, 1) := by decide +kernel
theorem dX8_goes_97 : decode cX8_goes 97 = .ok (.iadd, 1) := by decide +kernel
theorem dX8_goes_98 : decode cX8_goes 98 = .ok (.iastore, 1) := by decide +kernel
theorem dX8_goes_99 : decode cX8_goes 99 = .ok (.aload_n 0, 1) := by decide +kernel
theorem dX8_goes_100 : decode cX8_goes 100 = .ok (.getfield 7, 3) := by decide +kernel
theorem dX8_goes_103 : decode cX8_goes 103 = .ok (.bipush 13, 2) := by decide +kernel
theorem dX8_goes_105 : decode cX8_goes 105 = .ok (.aload_n 0, 1) := by decide +kernel
theorem dX8_goes_106 : decode cX8_goes 106 = .ok (.getfield 84, 3) := by decide +kernel
theorem dX8_goes_109 : decode cX8_goes 109 = .ok (.iastore, 1) := by decide +kernel
theorem dX8_goes_110 : decode cX8_goes 110 = .ok (.aload_n 0, 1) := by decide +kernel
theorem dX8_goes_111 : decode cX8_goes 111 = .ok (.getfield 7, 3) := by decide +kernel
theorem dX8_goes_114 : decode cX8_goes 114 = .ok (.bipush 14, 2) := by decide +kernel
theorem dX8_goes_116 : decode cX8_goes 116 = .ok (.aload_n 0, 1) := by decide +kernel
theorem dX8_goes_117 : decode cX8_goes 117 = .ok (.getfield 81, 3) := by decide +kernel
theorem dX8_goes_120 : decode cX8_goes 120 = .ok (.iastore, 1) := by decide +kernel
theorem dX8_goes_121 : decode cX8_goes 121 = .ok (.aload_n 0, 1) := by decide +kernel
theorem dX8_goes_122 : decode cX8_goes 122 = .ok (.getfield 7, 3) := by decide +kernel
theorem dX8_goes_125 : decode cX8_goes 125 = .ok (.bipush 15, 2) := by decide +kernel
theorem dX8_goes_127 : decode cX8_goes 127 = .ok (.aload_n 0, 1) := by decide +kernel
theorem dX8_goes_128 : decode cX8_goes 128 = .ok (.iload_n 1, 1) := by decide +kernel
theorem dX8_goes_129 : decode cX8_goes 129 = .ok (.invokevirtual 87, 3) := by decide +kernel
theorem dX8_goes_132 : decode cX8_goes 132 = .ok (.iastore, 1) := by decide +kernel
theorem dX8_goes_133 : decode cX8_goes 133 = .ok (.aload_n 0, 1) := by decide +kernel
theorem dX8_goes_134 : decode cX8_goes 134 = .ok (.getfield 7, 3) := by decide +kernel
theorem dX8_goes_137 : decode cX8_goes 137 = .ok (.bipush 16, 2) := by decide +kernel
theorem dX8_goes_139 : decode cX8_goes 139 = .ok (.dup2, 1) := by decide +kernel
theorem dX8_goes_140 : decode cX8_goes 140 = .ok (.iaload, 1) := by decide +kernel
theorem dX8_goes_141 : decode cX8_goes 141 = .ok (.iload_n 2, 1) := by decide +kernel
theorem dX8_goes_142 : decode cX8_goes 142 = .ok (.iadd, 1) := by decide +kernel
theorem dX8_goes_143 : decode cX8_goes 143 = .ok (.iastore, 1) := by decide +kernel
theorem dX8_goes_144 : decode cX8_goes 144 = .ok (.aload_n 0, 1) := by decide +kernel
theorem dX8_goes_145 : decode cX8_goes 145 = .ok (.getfield 7, 3) := by decide +kernel
theorem dX8_goes_148 : decode cX8_goes 148 = .ok (.bipush 17, 2) := by decide +kernel
theorem dX8_goes_150 : decode cX8_goes 150 = .ok (.dup2, 1) := by decide +kernel
theorem dX8_goes_151 : decode cX8_goes 151 = .ok (.iaload, 1) := by decide +kernel
theorem dX8_goes_152 : decode cX8_goes 152 = .ok (.iconst 1, 1) := by decide +kernel
theorem dX8_goes_153 : decode cX8_goes 153 = .ok (.iadd, 1) := by decide +kernel
theorem dX8_goes_154 : decode cX8_goes 154 = .ok (.iastore, 1) := by decide +kernel
theorem dX8_goes_155 : decode cX8_goes 155 = .ok (.aload_n 0, 1) := by decide +kernel
theorem dX8_goes_156 : decode cX8_goes 156 = .ok (.getfield 7, 3) := by decide +kernel
theorem dX8_goes_159 : decode cX8_goes 159 = .ok (.iload_n 3, 1) := by decide +kernel
theorem dX8_goes_160 : decode cX8_goes 160 = .ok (.iconst 2, 1) := by decide +kernel
theorem dX8_goes_161 : decode cX8_goes 161 = .ok (.iadd, 1) := by decide +kernel
theorem dX8_goes_162 : decode cX8_goes 162 = .ok (.dup2, 1) := by decide +kernel
theorem dX8_goes_163 : decode cX8_goes 163 = .ok (.iaload, 1) := by decide +kernel
theorem dX8_goes_164 : decode cX8_goes 164 = .ok (.iconst 1, 1) := by decide +kernel
theorem dX8_goes_165 : decode cX8_goes 165 = .ok (.iadd, 1) := by decide +kernel
theorem dX8_goes_166 : decode cX8_goes 166 = .ok (.iastore, 1) := by decide +kernel
theorem dX8_goes_167 : decode cX8_goes 167 = .ok (.aload_n 0, 1) := by decide +kernel
theorem dX8_goes_168 : decode cX8_goes 168 = .ok (.getfield 7, 3) := by decide +kernel
theorem dX8_goes_171 : decode cX8_goes 171 = .ok (.bipush 18, 2) := by decide +kernel
theorem dX8_goes_173 : decode cX8_goes 173 = .ok (.dup2, 1) := by decide +kernel
theorem dX8_goes_174 : decode cX8_goes 174 = .ok (.iaload, 1) := by decide +kernel
theorem dX8_goes_175 : decode cX8_goes 175 = .ok (.aload_n 0, 1) := by decide +kernel
theorem dX8_goes_176 : decode cX8_goes 176 = .ok (.invokevirtual 116, 3) := by decide +kernel
theorem dX8_goes_179 : decode cX8_goes 179 = .ok (.ifCond .eq 7, 3) := by decide +kernel
theorem dX8_goes_182 : decode cX8_goes 182 = .ok (.iconst 1, 1) := by decide +kernel
theorem dX8_goes_183 : decode cX8_goes 183 = .ok (.goto 4, 3) := by decide +kernel
theorem dX8_goes_186 : decode cX8_goes 186 = .ok (.iconst 0, 1) := by decide +kernel
theorem dX8_goes_187 : decode cX8_goes 187 = .ok (.iadd, 1) := by decide +kernel
theorem dX8_goes_188 : decode cX8_goes 188 = .ok (.iastore, 1) := by decide +kernel
theorem dX8_goes_189 : decode cX8_goes 189 = .ok (.aload_n 0, 1) := by decide +kernel
theorem dX8_goes_190 : decode cX8_goes 190 = .ok (.getfield 7, 3) := by decide +kernel
theorem dX8_goes_193 : decode cX8_goes 193 = .ok (.iload_n 3, 1) := by decide +kernel
theorem dX8_goes_194 : decode cX8_goes 194 = .ok (.iconst 3, 1) := by decide +kernel
theorem dX8_goes_195 : decode cX8_goes 195 = .ok (.iadd, 1) := by decide +kernel
theorem dX8_goes_196 : decode cX8_goes 196 = .ok (.dup2, 1) := by decide +kernel
theorem dX8_goes_197 : decode cX8_goes 197 = .ok (.iaload, 1) := by decide +kernel
theorem dX8_goes_198 : decode cX8_goes 198 = .ok (.aload_n 0, 1) := by decide +kernel
theorem dX8_goes_199 : decode cX8_goes 199 = .ok (.invokevirtual 116, 3) := by decide +kernel
theorem dX8_goes_202 : decode cX8_goes 202 = .ok (.ifCond .eq 7, 3) := by decide +kernel
theorem dX8_goes_205 : decode cX8_goes 205 = .ok (.iconst 1, 1) := by decide +kernel
theorem dX8_goes_206 : decode cX8_goes 206 = .ok (.goto 4, 3) := by decide +kernel
theorem dX8_goes_209 : decode cX8_goes 209 = .ok (.iconst 0, 1) := by decide +kernel
theorem dX8_goes_210 : decode cX8_goes 210 = .ok (.iadd, 1) := by decide +kernel
theorem dX8_goes_211 : decode cX8_goes 211 = .ok (.iastore, 1) := by decide +kernel
theorem dX8_goes_212 : decode cX8_goes 212 = .ok (.aload_n 0, 1) := by decide +kernel
theorem dX8_goes_213 : decode cX8_goes 213 = .ok (.getfield 7, 3) := by decide +kernel
theorem dX8_goes_216 : decode cX8_goes 216 = .ok (.bipush 21, 2) := by decide +kernel
theorem dX8_goes_218 : decode cX8_goes 218 = .ok (.iload_n 1, 1) := by decide +kernel
theorem dX8_goes_219 : decode cX8_goes 219 = .ok (.iastore, 1) := by decide +kernel
theorem dX8_goes_220 : decode cX8_goes 220 = .ok (.aload_n 0, 1) := by decide +kernel
theorem dX8_goes_221 : decode cX8_goes 221 = .ok (.getfield 7, 3) := by decide +kernel
theorem dX8_goes_224 : decode cX8_goes 224 = .ok (.bipush 22, 2) := by decide +kernel
theorem dX8_goes_226 : decode cX8_goes 226 = .ok (.iconst 1, 1) := by decide +kernel
theorem dX8_goes_227 : decode cX8_goes 227 = .ok (.iastore, 1) := by decide +kernel
theorem dX8_goes_228 : decode cX8_goes 228 = .ok (.iload_n 2, 1) := by decide +kernel
theorem dX8_goes_229 : decode cX8_goes 229 = .ok (.ireturn, 1) := by decide +kernel
theorem dX8_doAim_0 : decode cX8_doAim 0 = .ok (.aload_n 0, 1) := by decide +kernel
theorem dX8_doAim_1 : decode cX8_doAim 1 = .ok (.iload_n 1, 1) := by decide +kernel
theorem dX8_doAim_2 : decode cX8_doAim 2 = .ok (.invokevirtual 120, 3) := by decide +kernel
theorem dX8_doAim_5 : decode cX8_doAim 5 = .ok (.ifCond .ne 9, 3) := by decide +kernel
theorem dX8_doAim_8 : decode cX8_doAim 8 = .ok (.aload_n 0, 1) := by decide +kernel
theorem dX8_doAim_9 : decode cX8_doAim 9 = .ok (.iconst 1, 1) := by decide +kernel
theorem dX8_doAim_10 : decode cX8_doAim 10 = .ok (.invokevirtual 124, 3) := by decide +kernel
theorem dX8_doAim_13 : decode cX8_doAim 13 = .ok (.ireturn, 1) := by decide +kernel
theorem dX8_doAim_14 : decode cX8_doAim 14 = .ok (.aload_n 0, 1) := by decide +kernel
theorem dX8_doAim_15 : decode cX8_doAim 15 = .ok (.iload_n 1, 1) := by decide +kernel
theorem dX8_doAim_16 : decode cX8_doAim 16 = .ok (.invokevirtual 127, 3) := by decide +kernel
theorem dX8_doAim_19 : decode cX8_doAim 19 = .ok (.ifCond .eq 21, 3) := by decide +kernel
theorem dX8_doAim_22 : decode cX8_doAim 22 = .ok (.aload_n 0, 1) := by decide +kernel
theorem dX8_doAim_23 : decode cX8_doAim 23 = .ok (.getfield 7, 3) := by decide +kernel
theorem dX8_doAim_26 : decode cX8_doAim 26 = .ok (.bipush 16, 2) := by decide +kernel
theorem dX8_doAim_28 : decode cX8_doAim 28 = .ok (.iaload, 1) := by decide +kernel
theorem dX8_doAim_29 : decode cX8_doAim 29 = .ok (.aload_n 0, 1) := by decide +kernel
theorem dX8_doAim_30 : decode cX8_doAim 30 = .ok (.iload_n 1, 1) := by decide +kernel
theorem dX8_doAim_31 : decode cX8_doAim 31 = .ok (.invokevirtual 113, 3) := by decide +kernel
theorem dX8_doAim_34 : decode cX8_doAim 34 = .ok (.iadd, 1) := by decide +kernel
theorem dX8_doAim_35 : decode cX8_doAim 35 = .ok (.ldc 130, 2) := by decide +kernel
theorem dX8_doAim_37 : decode cX8_doAim 37 = .ok (.if_icmp .le 9, 3) := by decide +kernel
theorem dX8_doAim_40 : decode cX8_doAim 40 = .ok (.aload_n 0, 1) := by decide +kernel
theorem dX8_doAim_41 : decode cX8_doAim 41 = .ok (.iconst 2, 1) := by decide +kernel
theorem dX8_doAim_42 : decode cX8_doAim 42 = .ok (.invokevirtual 124, 3) := by decide +kernel
theorem dX8_doAim_45 : decode cX8_doAim 45 = .ok (.ireturn, 1) := by decide +kernel
theorem dX8_doAim_46 : decode cX8_doAim 46 = .ok (.aload_n 0, 1) := by decide +kernel
theorem dX8_doAim_47 : decode cX8_doAim 47 = .ok (.iload_n 1, 1) := by decide +kernel
theorem dX8_doAim_48 : decode cX8_doAim 48 = .ok (.invokevirtual 131, 3) := by decide +kernel
theorem dX8_doAim_51 : decode cX8_doAim 51 = .ok (.ireturn, 1) := by decide +kernel
theorem dX8_doLearn_0 : decode cX8_doLearn 0 = .ok (.aload_n 0, 1) := by decide +kernel
theorem dX8_doLearn_1 : decode cX8_doLearn 1 = .ok (.getfield 7, 3) := by decide +kernel
theorem dX8_doLearn_4 : decode cX8_doLearn 4 = .ok (.bipush 21, 2) := by decide +kernel
theorem dX8_doLearn_6 : decode cX8_doLearn 6 = .ok (.iaload, 1) := by decide +kernel
theorem dX8_doLearn_7 : decode cX8_doLearn 7 = .ok (.iconst (-1), 1) := by decide +kernel
theorem dX8_doLearn_8 : decode cX8_doLearn 8 = .ok (.if_icmp .eq 13, 3) := by decide +kernel
theorem dX8_doLearn_11 : decode cX8_doLearn 11 = .ok (.aload_n 0, 1) := by decide +kernel
theorem dX8_doLearn_12 : decode cX8_doLearn 12 = .ok (.getfield 7, 3) := by decide +kernel
theorem dX8_doLearn_15 : decode cX8_doLearn 15 = .ok (.bipush 22, 2) := by decide +kernel
theorem dX8_doLearn_17 : decode cX8_doLearn 17 = .ok (.iaload, 1) := by decide +kernel
theorem dX8_doLearn_18 : decode cX8_doLearn 18 = .ok (.ifCond .ne 9, 3) := by decide +kernel
theorem dX8_doLearn_21 : decode cX8_doLearn 21 = .ok (.aload_n 0, 1) := by decide +kernel
theorem dX8_doLearn_22 : decode cX8_doLearn 22 = .ok (.iconst 1, 1) := by decide +kernel
theorem dX8_doLearn_23 : decode cX8_doLearn 23 = .ok (.invokevirtual 124, 3) := by decide +kernel
theorem dX8_doLearn_26 : decode cX8_doLearn 26 = .ok (.ireturn, 1) := by decide +kernel
theorem dX8_doLearn_27 : decode cX8_doLearn 27 = .ok (.aload_n 0, 1) := by decide +kernel
theorem dX8_doLearn_28 : decode cX8_doLearn 28 = .ok (.aload_n 0, 1) := by decide +kernel
theorem dX8_doLearn_29 : decode cX8_doLearn 29 = .ok (.getfield 7, 3) := by decide +kernel
theorem dX8_doLearn_32 : decode cX8_doLearn 32 = .ok (.bipush 21, 2) := by decide +kernel
theorem dX8_doLearn_34 : decode cX8_doLearn 34 = .ok (.iaload, 1) := by decide +kernel
theorem dX8_doLearn_35 : decode cX8_doLearn 35 = .ok (.invokevirtual 70, 3) := by decide +kernel
theorem dX8_doLearn_38 : decode cX8_doLearn 38 = .ok (.istore_n 1, 1) := by decide +kernel
theorem dX8_doLearn_39 : decode cX8_doLearn 39 = .ok (.aload_n 0, 1) := by decide +kernel
theorem dX8_doLearn_40 : decode cX8_doLearn 40 = .ok (.getfield 7, 3) := by decide +kernel
theorem dX8_doLearn_43 : decode cX8_doLearn 43 = .ok (.bipush 103, 2) := by decide +kernel
theorem dX8_doLearn_45 : decode cX8_doLearn 45 = .ok (.iload_n 1, 1) := by decide +kernel
theorem dX8_doLearn_46 : decode cX8_doLearn 46 = .ok (.iadd, 1) := by decide +kernel
theorem dX8_doLearn_47 : decode cX8_doLearn 47 = .ok (.iaload, 1) := by decide +kernel
theorem dX8_doLearn_48 : decode cX8_doLearn 48 = .ok (.ifCond .ne 7, 3) := by decide +kernel
theorem dX8_doLearn_51 : decode cX8_doLearn 51 = .ok (.iconst 1, 1) := by decide +kernel
theorem dX8_doLearn_52 : decode cX8_doLearn 52 = .ok (.goto 4, 3) := by decide +kernel
theorem dX8_doLearn_55 : decode cX8_doLearn 55 = .ok (.iconst 0, 1) := by decide +kernel
theorem dX8_doLearn_56 : decode cX8_doLearn 56 = .ok (.istore_n 2, 1) := by decide +kernel
theorem dX8_doLearn_57 : decode cX8_doLearn 57 = .ok (.iconst 0, 1) := by decide +kernel
theorem dX8_doLearn_58 : decode cX8_doLearn 58 = .ok (.istore_n 3, 1) := by decide +kernel
theorem dX8_doLearn_59 : decode cX8_doLearn 59 = .ok (.iload_n 3, 1) := by decide +kernel
theorem dX8_doLearn_60 : decode cX8_doLearn 60 = .ok (.iconst 2, 1) := by decide +kernel
theorem dX8_doLearn_61 : decode cX8_doLearn 61 = .ok (.if_icmp .ge 71, 3) := by decide +kernel
theorem dX8_doLearn_64 : decode cX8_doLearn 64 = .ok (.iload_n 2, 1) := by decide +kernel
theorem dX8_doLearn_65 : decode cX8_doLearn 65 = .ok (.ifCond .eq 15, 3) := by decide +kernel
theorem dX8_doLearn_68 : decode cX8_doLearn 68 = .ok (.aload_n 0, 1) := by decide +kernel
theorem dX8_doLearn_69 : decode cX8_doLearn 69 = .ok (.getfield 13, 3) := by decide +kernel
theorem dX8_doLearn_72 : decode cX8_doLearn 72 = .ok (.bipush 50, 2) := by decide +kernel
theorem dX8_doLearn_74 : decode cX8_doLearn 74 = .ok (.iload_n 3, 1) := by decide +kernel
theorem dX8_doLearn_75 : decode cX8_doLearn 75 = .ok (.iadd, 1) := by decide +kernel
theorem dX8_doLearn_76 : decode cX8_doLearn 76 = .ok (.daload, 1) := by decide +kernel
theorem dX8_doLearn_77 : decode cX8_doLearn 77 = .ok (.goto 13, 3) := by decide +kernel
theorem dX8_doLearn_80 : decode cX8_doLearn 80 = .ok (.aload_n 0, 1) := by decide +kernel
theorem dX8_doLearn_81 : decode cX8_doLearn 81 = .ok (.getfield 13, 3) := by decide +kernel
theorem dX8_doLearn_84 : decode cX8_doLearn 84 = .ok (.iconst 2, 1) := by decide +kernel
theorem dX8_doLearn_85 : decode cX8_doLearn 85 = .ok (.iload_n 1, 1) := by decide +kernel
theorem dX8_doLearn_86 : decode cX8_doLearn 86 = .ok (.imul, 1) := by decide +kernel
theorem dX8_doLearn_87 : decode cX8_doLearn 87 = .ok (.iload_n 3, 1) := by decide +kernel
theorem dX8_doLearn_88 : decode cX8_doLearn 88 = .ok (.iadd, 1) := by decide +kernel
theorem dX8_doLearn_89 : decode cX8_doLearn 89 = .ok (.daload, 1) := by decide +kernel
theorem dX8_doLearn_90 : decode cX8_doLearn 90 = .ok (.dstore 4, 2) := by decide +kernel
theorem dX8_doLearn_92 : decode cX8_doLearn 92 = .ok (.aload_n 0, 1) := by decide +kernel
theorem dX8_doLearn_93 : decode cX8_doLearn 93 = .ok (.getfield 13, 3) := by decide +kernel
theorem dX8_doLearn_96 : decode cX8_doLearn 96 = .ok (.iconst 2, 1) := by decide +kernel
theorem dX8_doLearn_97 : decode cX8_doLearn 97 = .ok (.iload_n 1, 1) := by decide +kernel
theorem dX8_doLearn_98 : decode cX8_doLearn 98 = .ok (.imul, 1) := by decide +kernel
theorem dX8_doLearn_99 : decode cX8_doLearn 99 = .ok (.iload_n 3, 1) := by decide +kernel
theorem dX8_doLearn_100 : decode cX8_doLearn 100 = .ok (.iadd, 1) := by decide +kernel
theorem dX8_doLearn_101 : decode cX8_doLearn 101 = .ok (.dload 4, 2) := by decide +kernel
theorem dX8_doLearn_103 : decode cX8_doLearn 103 = .ok (.aload_n 0, 1) := by decide +kernel
theorem dX8_doLearn_104 : decode cX8_doLearn 104 = .ok (.getfield 13, 3) := by decide +kernel
theorem dX8_doLearn_107 : decode cX8_doLearn 107 = .ok (.bipush 48, 2) := by decide +kernel
theorem dX8_doLearn_109 : decode cX8_doLearn 109 = .ok (.iload_n 3, 1) := by decide +kernel
theorem dX8_doLearn_110 : decode cX8_doLearn 110 = .ok (.iadd, 1) := by decide +kernel
theorem dX8_doLearn_111 : decode cX8_doLearn 111 = .ok (.daload, 1) := by decide +kernel
theorem dX8_doLearn_112 : decode cX8_doLearn 112 = .ok (.aload_n 0, 1) := by decide +kernel
theorem dX8_doLearn_113 : decode cX8_doLearn 113 = .ok (.getfield 7, 3) := by decide +kernel
theorem dX8_doLearn_116 : decode cX8_doLearn 116 = .ok (.iconst 1, 1) := by decide +kernel
theorem dX8_doLearn_117 : decode cX8_doLearn 117 = .ok (.iaload, 1) := by decide +kernel
theorem dX8_doLearn_118 : decode cX8_doLearn 118 = .ok (.i2d, 1) := by decide +kernel
theorem dX8_doLearn_119 : decode cX8_doLearn 119 = .ok (.dmul, 1) := by decide +kernel
theorem dX8_doLearn_120 : decode cX8_doLearn 120 = .ok (.ldc2_w 134, 3) := by decide +kernel
theorem dX8_doLearn_123 : decode cX8_doLearn 123 = .ok (.ddiv, 1) := by decide +kernel
theorem dX8_doLearn_124 : decode cX8_doLearn 124 = .ok (.dadd, 1) := by decide +kernel
theorem dX8_doLearn_125 : decode cX8_doLearn 125 = .ok (.dastore, 1) := by decide +kernel
theorem dX8_doLearn_126 : decode cX8_doLearn 126 = .ok (.iinc 3 1, 3) := by decide +kernel
theorem dX8_doLearn_129 : decode cX8_doLearn 129 = .ok (.goto (-70), 3) := by decide +kernel
theorem dX8_doLearn_132 : decode cX8_doLearn 132 = .ok (.aload_n 0, 1) := by decide +kernel
theorem dX8_doLearn_133 : decode cX8_doLearn 133 = .ok (.getfield 7, 3) := by decide +kernel
theorem dX8_doLearn_136 : decode cX8_doLearn 136 = .ok (.bipush 103, 2) := by decide +kernel
theorem dX8_doLearn_138 : decode cX8_doLearn 138 = .ok (.iload_n 1, 1) := by decide +kernel
theorem dX8_doLearn_139 : decode cX8_doLearn 139 = .ok (.iadd, 1) := by decide +kernel
theorem dX8_doLearn_140 : decode cX8_doLearn 140 = .ok (.dup2, 1) := by decide +kernel
theorem dX8_doLearn_141 : decode cX8_doLearn 141 = .ok (.iaload, 1) := by decide +kernel
theorem dX8_doLearn_142 : decode cX8_doLearn 142 = .ok (.iconst 1, 1) := by decide +kernel
theorem dX8_doLearn_143 : decode cX8_doLearn 143 = .ok (.iadd, 1) := by decide +kernel
theorem dX8_doLearn_144 : decode cX8_doLearn 144 = .ok (.iastore, 1) := by decide +kernel
theorem dX8_doLearn_145 : decode cX8_doLearn 145 = .ok (.aload_n 0, 1) := by decide +kernel
theorem dX8_doLearn_146 : decode cX8_doLearn 146 = .ok (.getfield 7, 3) := by decide +kernel
theorem dX8_doLearn_149 : decode cX8_doLearn 149 = .ok (.bipush 22, 2) := by decide +kernel
theorem dX8_doLearn_151 : decode cX8_doLearn 151 = .ok (.iconst 0, 1) := by decide +kernel
theorem dX8_doLearn_152 : decode cX8_doLearn 152 = .ok (.iastore, 1) := by decide +kernel
theorem dX8_doLearn_153 : decode cX8_doLearn 153 = .ok (.aload_n 0, 1) := by decide +kernel
theorem dX8_doLearn_154 : decode cX8_doLearn 154 = .ok (.getfield 7, 3) := by decide +kernel
theorem dX8_doLearn_157 : decode cX8_doLearn 157 = .ok (.bipush 103, 2) := by decide +kernel
theorem dX8_doLearn_159 : decode cX8_doLearn 159 = .ok (.iload_n 1, 1) := by decide +kernel
theorem dX8_doLearn_160 : decode cX8_doLearn 160 = .ok (.iadd, 1) := by decide +kernel
theorem dX8_doLearn_161 : decode cX8_doLearn 161 = .ok (.iaload, 1) := by decide +kernel
theorem dX8_doLearn_162 : decode cX8_doLearn 162 = .ok (.ireturn, 1) := by decide +kernel
theorem dX8_most_0 : decode cX8_most 0 = .ok (.iload_n 0, 1) := by decide +kernel
theorem dX8_most_1 : decode cX8_most 1 = .ok (.ifCond .ne 9, 3) := by decide +kernel
theorem dX8_most_4 : decode cX8_most 4 = .ok (.sipush 600, 3) := by decide +kernel
theorem dX8_most_7 : decode cX8_most 7 = .ok (.goto 26, 3) := by decide +kernel
theorem dX8_most_10 : decode cX8_most 10 = .ok (.iload_n 0, 1) := by decide +kernel
theorem dX8_most_11 : decode cX8_most 11 = .ok (.iconst 1, 1) := by decide +kernel
theorem dX8_most_12 : decode cX8_most 12 = .ok (.if_icmp .ne 8, 3) := by decide +kernel
theorem dX8_most_15 : decode cX8_most 15 = .ok (.bipush 100, 2) := by decide +kernel
theorem dX8_most_17 : decode cX8_most 17 = .ok (.goto 16, 3) := by decide +kernel
theorem dX8_most_20 : decode cX8_most 20 = .ok (.iload_n 0, 1) := by decide +kernel
theorem dX8_most_21 : decode cX8_most 21 = .ok (.iconst 2, 1) := by decide +kernel
theorem dX8_most_22 : decode cX8_most 22 = .ok (.if_icmp .ne 8, 3) := by decide +kernel
theorem dX8_most_25 : decode cX8_most 25 = .ok (.bipush 120, 2) := by decide +kernel
theorem dX8_most_27 : decode cX8_most 27 = .ok (.goto 6, 3) := by decide +kernel
theorem dX8_most_30 : decode cX8_most 30 = .ok (.sipush 5400, 3) := by decide +kernel
theorem dX8_most_33 : decode cX8_most 33 = .ok (.ireturn, 1) := by decide +kernel
theorem dX8_set_0 : decode cX8_set 0 = .ok (.aload_n 0, 1) := by decide +kernel
theorem dX8_set_1 : decode cX8_set 1 = .ok (.invokevirtual 136, 3) := by decide +kernel
theorem dX8_set_4 : decode cX8_set 4 = .ok (.iload_n 1, 1) := by decide +kernel
theorem dX8_set_5 : decode cX8_set 5 = .ok (.iconst 0, 1) := by decide +kernel
theorem dX8_set_6 : decode cX8_set 6 = .ok (.iconst 4, 1) := by decide +kernel
theorem dX8_set_7 : decode cX8_set 7 = .ok (.invokestatic 48, 3) := by decide +kernel
theorem dX8_set_10 : decode cX8_set 10 = .ok (.ifCond .eq 24, 3) := by decide +kernel
theorem dX8_set_13 : decode cX8_set 13 = .ok (.iload_n 2, 1) := by decide +kernel
theorem dX8_set_14 : decode cX8_set 14 = .ok (.iload_n 1, 1) := by decide +kernel
theorem dX8_set_15 : decode cX8_set 15 = .ok (.iconst 3, 1) := by decide +kernel
theorem dX8_set_16 : decode cX8_set 16 = .ok (.if_icmp .ge 7, 3) := by decide +kernel
theorem dX8_set_19 : decode cX8_set 19 = .ok (.iconst 1, 1) := by decide +kernel
theorem dX8_set_20 : decode cX8_set 20 = .ok (.goto 4, 3) := by decide +kernel
theorem dX8_set_23 : decode cX8_set 23 = .ok (.iconst 0, 1) := by decide +kernel
theorem dX8_set_24 : decode cX8_set 24 = .ok (.iload_n 1, 1) := by decide +kernel
theorem dX8_set_25 : decode cX8_set 25 = .ok (.invokestatic 139, 3) := by decide +kernel
theorem dX8_set_28 : decode cX8_set 28 = .ok (.invokestatic 48, 3) := by decide +kernel
theorem dX8_set_31 : decode cX8_set 31 = .ok (.ifCond .ne 13, 3) := by decide +kernel
theorem dX8_set_34 : decode cX8_set 34 = .ok (.aload_n 0, 1) := by decide +kernel
theorem dX8_set_35 : decode cX8_set 35 = .ok (.aload_n 0, 1) := by decide +kernel
theorem dX8_set_36 : decode cX8_set 36 = .ok (.iconst 1, 1) := by decide +kernel
theorem dX8_set_37 : decode cX8_set 37 = .ok (.invokevirtual 124, 3) := by decide +kernel
theorem dX8_set_40 : decode cX8_set 40 = .ok (.invokevirtual 142, 3) := by decide +kernel
theorem dX8_set_43 : decode cX8_set 43 = .ok (.ireturn, 1) := by decide +kernel
theorem dX8_set_44 : decode cX8_set 44 = .ok (.iload_n 1, 1) := by decide +kernel
theorem dX8_set_45 : decode cX8_set 45 = .ok (.iconst 3, 1) := by decide +kernel
theorem dX8_set_46 : decode cX8_set 46 = .ok (.if_icmp .ne 13, 3) := by decide +kernel
theorem dX8_set_49 : decode cX8_set 49 = .ok (.iload_n 2, 1) := by decide +kernel
theorem dX8_set_50 : decode cX8_set 50 = .ok (.aload_n 0, 1) := by decide +kernel
theorem dX8_set_51 : decode cX8_set 51 = .ok (.getfield 7, 3) := by decide +kernel
theorem dX8_set_54 : decode cX8_set 54 = .ok (.iconst 4, 1) := by decide +kernel
theorem dX8_set_55 : decode cX8_set 55 = .ok (.iaload, 1) := by decide +kernel
theorem dX8_set_56 : decode cX8_set 56 = .ok (.if_icmp .gt 18, 3) := by decide +kernel
theorem dX8_set_59 : decode cX8_set 59 = .ok (.iload_n 1, 1) := by decide +kernel
theorem dX8_set_60 : decode cX8_set 60 = .ok (.iconst 4, 1) := by decide +kernel
theorem dX8_set_61 : decode cX8_set 61 = .ok (.if_icmp .ne 23, 3) := by decide +kernel
theorem dX8_set_64 : decode cX8_set 64 = .ok (.iload_n 2, 1) := by decide +kernel
theorem dX8_set_65 : decode cX8_set 65 = .ok (.aload_n 0, 1) := by decide +kernel
theorem dX8_set_66 : decode cX8_set 66 = .ok (.getfield 7, 3) := by decide +kernel
theorem dX8_set_69 : decode cX8_set 69 = .ok (.iconst 3, 1) := by decide +kernel
theorem dX8_set_70 : decode cX8_set 70 = .ok (.iaload, 1) := by decide +kernel
theorem dX8_set_71 : decode cX8_set 71 = .ok (.if_icmp .ge 13, 3) := by decide +kernel
theorem dX8_set_74 : decode cX8_set 74 = .ok (.aload_n 0, 1) := by decide +kernel
theorem dX8_set_75 : decode cX8_set 75 = .ok (.aload_n 0, 1) := by decide +kernel
theorem dX8_set_76 : decode cX8_set 76 = .ok (.iconst 2, 1) := by decide +kernel
theorem dX8_set_77 : decode cX8_set 77 = .ok (.invokevirtual 124, 3) := by decide +kernel
theorem dX8_set_80 : decode cX8_set 80 = .ok (.invokevirtual 142, 3) := by decide +kernel
theorem dX8_set_83 : decode cX8_set 83 = .ok (.ireturn, 1) := by decide +kernel
theorem dX8_set_84 : decode cX8_set 84 = .ok (.aload_n 0, 1) := by decide +kernel
theorem dX8_set_85 : decode cX8_set 85 = .ok (.getfield 7, 3) := by decide +kernel
theorem dX8_set_88 : decode cX8_set 88 = .ok (.iconst 0, 1) := by decide +kernel
theorem dX8_set_89 : decode cX8_set 89 = .ok (.iload_n 1, 1) := by decide +kernel
theorem dX8_set_90 : decode cX8_set 90 = .ok (.iadd, 1) := by decide +kernel
theorem dX8_set_91 : decode cX8_set 91 = .ok (.iaload, 1) := by decide +kernel
theorem dX8_set_92 : decode cX8_set 92 = .ok (.istore_n 3, 1) := by decide +kernel
theorem dX8_set_93 : decode cX8_set 93 = .ok (.aload_n 0, 1) := by decide +kernel
theorem dX8_set_94 : decode cX8_set 94 = .ok (.getfield 7, 3) := by decide +kernel
theorem dX8_set_97 : decode cX8_set 97 = .ok (.iconst 0, 1) := by decide +kernel
theorem dX8_set_98 : decode cX8_set 98 = .ok (.iload_n 1, 1) := by decide +kernel
theorem dX8_set_99 : decode cX8_set 99 = .ok (.iadd, 1) := by decide +kernel
theorem dX8_set_100 : decode cX8_set 100 = .ok (.iload_n 2, 1) := by decide +kernel
theorem dX8_set_101 : decode cX8_set 101 = .ok (.iastore, 1) := by decide +kernel
theorem dX8_set_102 : decode cX8_set 102 = .ok (.aload_n 0, 1) := by decide +kernel
theorem dX8_set_103 : decode cX8_set 103 = .ok (.iload_n 3, 1) := by decide +kernel
theorem dX8_set_104 : decode cX8_set 104 = .ok (.invokevirtual 142, 3) := by decide +kernel
theorem dX8_set_107 : decode cX8_set 107 = .ok (.ireturn, 1) := by decide +kernel
theorem dX8_doBend_0 : decode cX8_doBend 0 = .ok (.aload_n 0, 1) := by decide +kernel
theorem dX8_doBend_1 : decode cX8_doBend 1 = .ok (.getfield 7, 3) := by decide +kernel
theorem dX8_doBend_4 : decode cX8_doBend 4 = .ok (.iconst 5, 1) := by decide +kernel
theorem dX8_doBend_5 : decode cX8_doBend 5 = .ok (.iconst 4, 1) := by decide +kernel
theorem dX8_doBend_6 : decode cX8_doBend 6 = .ok (.iload_n 1, 1) := by decide +kernel
theorem dX8_doBend_7 : decode cX8_doBend 7 = .ok (.imul, 1) := by decide +kernel
theorem dX8_doBend_8 : decode cX8_doBend 8 = .ok (.iadd, 1) := by decide +kernel
theorem dX8_doBend_9 : decode cX8_doBend 9 = .ok (.iload_n 2, 1) := by decide +kernel
theorem dX8_doBend_10 : decode cX8_doBend 10 = .ok (.iadd, 1) := by decide +kernel
theorem dX8_doBend_11 : decode cX8_doBend 11 = .ok (.iaload, 1) := by decide +kernel
theorem dX8_doBend_12 : decode cX8_doBend 12 = .ok (.istore 4, 2) := by decide +kernel
theorem dX8_doBend_14 : decode cX8_doBend 14 = .ok (.aload_n 0, 1) := by decide +kernel
theorem dX8_doBend_15 : decode cX8_doBend 15 = .ok (.getfield 7, 3) := by decide +kernel
theorem dX8_doBend_18 : decode cX8_doBend 18 = .ok (.iconst 5, 1) := by decide +kernel
theorem dX8_doBend_19 : decode cX8_doBend 19 = .ok (.iconst 4, 1) := by decide +kernel
theorem dX8_doBend_20 : decode cX8_doBend 20 = .ok (.iload_n 1, 1) := by decide +kernel
theorem dX8_doBend_21 : decode cX8_doBend 21 = .ok (.imul, 1) := by decide +kernel
theorem dX8_doBend_22 : decode cX8_doBend 22 = .ok (.iadd, 1) := by decide +kernel
theorem dX8_doBend_23 : decode cX8_doBend 23 = .ok (.iload_n 2, 1) := by decide +kernel
theorem dX8_doBend_24 : decode cX8_doBend 24 = .ok (.iadd, 1) := by decide +kernel
theorem dX8_doBend_25 : decode cX8_doBend 25 = .ok (.iload_n 3, 1) := by decide +kernel
theorem dX8_doBend_26 : decode cX8_doBend 26 = .ok (.iastore, 1) := by decide +kernel
theorem dX8_doBend_27 : decode cX8_doBend 27 = .ok (.iload 4, 2) := by decide +kernel
theorem dX8_doBend_29 : decode cX8_doBend 29 = .ok (.ireturn, 1) := by decide +kernel
theorem dX8_setBend_0 : decode cX8_setBend 0 = .ok (.aload_n 0, 1) := by decide +kernel
theorem dX8_setBend_1 : decode cX8_setBend 1 = .ok (.invokevirtual 136, 3) := by decide +kernel
theorem dX8_setBend_4 : decode cX8_setBend 4 = .ok (.iload_n 1, 1) := by decide +kernel
theorem dX8_setBend_5 : decode cX8_setBend 5 = .ok (.iconst 0, 1) := by decide +kernel
theorem dX8_setBend_6 : decode cX8_setBend 6 = .ok (.iconst 1, 1) := by decide +kernel
theorem dX8_setBend_7 : decode cX8_setBend 7 = .ok (.invokestatic 48, 3) := by decide +kernel
theorem dX8_setBend_10 : decode cX8_setBend 10 = .ok (.ifCond .eq 27, 3) := by decide +kernel
theorem dX8_setBend_13 : decode cX8_setBend 13 = .ok (.iload_n 2, 1) := by decide +kernel
theorem dX8_setBend_14 : decode cX8_setBend 14 = .ok (.iconst 0, 1) := by decide +kernel
theorem dX8_setBend_15 : decode cX8_setBend 15 = .ok (.iconst 3, 1) := by decide +kernel
theorem dX8_setBend_16 : decode cX8_setBend 16 = .ok (.invokestatic 48, 3) := by decide +kernel
theorem dX8_setBend_19 : decode cX8_setBend 19 = .ok (.ifCond .eq 18, 3) := by decide +kernel
theorem dX8_setBend_22 : decode cX8_setBend 22 = .ok (.iload_n 3, 1) := by decide +kernel
theorem dX8_setBend_23 : decode cX8_setBend 23 = .ok (.bipush (-120), 2) := by decide +kernel
theorem dX8_setBend_25 : decode cX8_setBend 25 = .ok (.bipush 120, 2) := by decide +kernel
theorem dX8_setBend_27 : decode cX8_setBend 27 = .ok (.invokestatic 48, 3) := by decide +kernel
theorem dX8_setBend_30 : decode cX8_setBend 30 = .ok (.ifCond .eq 7, 3) := by decide +kernel
theorem dX8_setBend_33 : decode cX8_setBend 33 = .ok (.iconst 1, 1) := by decide +kernel
theorem dX8_setBend_34 : decode cX8_setBend 34 = .ok (.goto 4, 3) := by decide +kernel
theorem dX8_setBend_37 : decode cX8_setBend 37 = .ok (.iconst 0, 1) := by decide +kernel
theorem dX8_setBend_38 : decode cX8_setBend 38 = .ok (.istore 4, 2) := by decide +kernel
theorem dX8_setBend_40 : decode cX8_setBend 40 = .ok (.aload_n 0, 1) := by decide +kernel
theorem dX8_setBend_41 : decode cX8_setBend 41 = .ok (.iload 4, 2) := by decide +kernel
theorem dX8_setBend_43 : decode cX8_setBend 43 = .ok (.ifCond .eq 13, 3) := by decide +kernel
theorem dX8_setBend_46 : decode cX8_setBend 46 = .ok (.aload_n 0, 1) := by decide +kernel
theorem dX8_setBend_47 : decode cX8_setBend 47 = .ok (.iload_n 1, 1) := by decide +kernel
theorem dX8_setBend_48 : decode cX8_setBend 48 = .ok (.iload_n 2, 1) := by decide +kernel
theorem dX8_setBend_49 : decode cX8_setBend 49 = .ok (.iload_n 3, 1) := by decide +kernel
theorem dX8_setBend_50 : decode cX8_setBend 50 = .ok (.invokevirtual 145, 3) := by decide +kernel
theorem dX8_setBend_53 : decode cX8_setBend 53 = .ok (.goto 8, 3) := by decide +kernel
theorem dX8_setBend_56 : decode cX8_setBend 56 = .ok (.aload_n 0, 1) := by decide +kernel
theorem dX8_setBend_57 : decode cX8_setBend 57 = .ok (.iconst 1, 1) := by decide +kernel
theorem dX8_setBend_58 : decode cX8_setBend 58 = .ok (.invokevirtual 124, 3) := by decide +kernel
theorem dX8_setBend_61 : decode cX8_setBend 61 = .ok (.invokevirtual 142, 3) := by decide +kernel
theorem dX8_setBend_64 : decode cX8_setBend 64 = .ok (.ireturn, 1) := by decide +kernel
theorem dX8_doAdd_0 : decode cX8_doAdd 0 = .ok (.aload_n 0, 1) := by decide +kernel
theorem dX8_doAdd_1 : decode cX8_doAdd 1 = .ok (.getfield 7, 3) := by decide +kernel
theorem dX8_doAdd_4 : decode cX8_doAdd 4 = .ok (.bipush 20, 2) := by decide +kernel
theorem dX8_doAdd_6 : decode cX8_doAdd 6 = .ok (.iaload, 1) := by decide +kernel
theorem dX8_doAdd_7 : decode cX8_doAdd 7 = .ok (.bipush 20, 2) := by decide +kernel
theorem dX8_doAdd_9 : decode cX8_doAdd 9 = .ok (.if_icmp .ne 9, 3) := by decide +kernel
theorem dX8_doAdd_12 : decode cX8_doAdd 12 = .ok (.aload_n 0, 1) := by decide +kernel
theorem dX8_doAdd_13 : decode cX8_doAdd 13 = .ok (.iconst 2, 1) := by decide +kernel
theorem dX8_doAdd_14 : decode cX8_doAdd 14 = .ok (.invokevirtual 124, 3) := by decide +kernel
theorem dX8_doAdd_17 : decode cX8_doAdd 17 = .ok (.ireturn, 1) := by decide +kernel
theorem dX8_doAdd_18 : decode cX8_doAdd 18 = .ok (.aload_n 0, 1) := by decide +kernel
theorem dX8_doAdd_19 : decode cX8_doAdd 19 = .ok (.getfield 7, 3) := by decide +kernel
theorem dX8_doAdd_22 : decode cX8_doAdd 22 = .ok (.bipush 20, 2) := by decide +kernel
theorem dX8_doAdd_24 : decode cX8_doAdd 24 = .ok (.iaload, 1) := by decide +kernel
theorem dX8_doAdd_25 : decode cX8_doAdd 25 = .ok (.istore_n 3, 1) := by decide +kernel
theorem dX8_doAdd_26 : decode cX8_doAdd 26 = .ok (.aload_n 0, 1) := by decide +kernel
theorem dX8_doAdd_27 : decode cX8_doAdd 27 = .ok (.getfield 7, 3) := by decide +kernel
theorem dX8_doAdd_30 : decode cX8_doAdd 30 = .ok (.bipush 23, 2) := by decide +kernel
theorem dX8_doAdd_32 : decode cX8_doAdd 32 = .ok (.iconst 4, 1) := by decide +kernel
theorem dX8_doAdd_33 : decode cX8_doAdd 33 = .ok (.iload_n 3, 1) := by decide +kernel
theorem dX8_doAdd_34 : decode cX8_doAdd 34 = .ok (.imul, 1) := by decide +kernel
theorem dX8_doAdd_35 : decode cX8_doAdd 35 = .ok (.iadd, 1) := by decide +kernel
theorem dX8_doAdd_36 : decode cX8_doAdd 36 = .ok (.iconst 0, 1) := by decide +kernel
theorem dX8_doAdd_37 : decode cX8_doAdd 37 = .ok (.iadd, 1) := by decide +kernel
theorem dX8_doAdd_38 : decode cX8_doAdd 38 = .ok (.iload_n 1, 1) := by decide +kernel
theorem dX8_doAdd_39 : decode cX8_doAdd 39 = .ok (.iastore, 1) := by decide +kernel
theorem dX8_doAdd_40 : decode cX8_doAdd 40 = .ok (.aload_n 0, 1) := by decide +kernel
theorem dX8_doAdd_41 : decode cX8_doAdd 41 = .ok (.getfield 7, 3) := by decide +kernel
theorem dX8_doAdd_44 : decode cX8_doAdd 44 = .ok (.bipush 23, 2) := by decide +kernel
theorem dX8_doAdd_46 : decode cX8_doAdd 46 = .ok (.iconst 4, 1) := by decide +kernel
theorem dX8_doAdd_47 : decode cX8_doAdd 47 = .ok (.iload_n 3, 1) := by decide +kernel
theorem dX8_doAdd_48 : decode cX8_doAdd 48 = .ok (.imul, 1) := by decide +kernel
theorem dX8_doAdd_49 : decode cX8_doAdd 49 = .ok (.iadd, 1) := by decide +kernel
theorem dX8_doAdd_50 : decode cX8_doAdd 50 = .ok (.iconst 1, 1) := by decide +kernel
theorem dX8_doAdd_51 : decode cX8_doAdd 51 = .ok (.iadd, 1) := by decide +kernel
theorem dX8_doAdd_52 : decode cX8_doAdd 52 = .ok (.iload_n 2, 1) := by decide +kernel
theorem dX8_doAdd_53 : decode cX8_doAdd 53 = .ok (.iastore, 1) := by decide +kernel
theorem dX8_doAdd_54 : decode cX8_doAdd 54 = .ok (.aload_n 0, 1) := by decide +kernel
theorem dX8_doAdd_55 : decode cX8_doAdd 55 = .ok (.getfield 7, 3) := by decide +kernel
theorem dX8_doAdd_58 : decode cX8_doAdd 58 = .ok (.bipush 20, 2) := by decide +kernel
theorem dX8_doAdd_60 : decode cX8_doAdd 60 = .ok (.dup2, 1) := by decide +kernel
theorem dX8_doAdd_61 : decode cX8_doAdd 61 = .ok (.iaload, 1) := by decide +kernel
theorem dX8_doAdd_62 : decode cX8_doAdd 62 = .ok (.iconst 1, 1) := by decide +kernel
theorem dX8_doAdd_63 : decode cX8_doAdd 63 = .ok (.iadd, 1) := by decide +kernel
theorem dX8_doAdd_64 : decode cX8_doAdd 64 = .ok (.iastore, 1) := by decide +kernel
theorem dX8_doAdd_65 : decode cX8_doAdd 65 = .ok (.iload_n 3, 1) := by decide +kernel
theorem dX8_doAdd_66 : decode cX8_doAdd 66 = .ok (.ireturn, 1) := by decide +kernel
theorem dX8_addStar_0 : decode cX8_addStar 0 = .ok (.aload_n 0, 1) := by decide +kernel
theorem dX8_addStar_1 : decode cX8_addStar 1 = .ok (.invokevirtual 136, 3) := by decide +kernel
theorem dX8_addStar_4 : decode cX8_addStar 4 = .ok (.iload_n 1, 1) := by decide +kernel
theorem dX8_addStar_5 : decode cX8_addStar 5 = .ok (.iconst 0, 1) := by decide +kernel
theorem dX8_addStar_6 : decode cX8_addStar 6 = .ok (.sipush 21599, 3) := by decide +kernel
theorem dX8_addStar_9 : decode cX8_addStar 9 = .ok (.invokestatic 48, 3) := by decide +kernel
theorem dX8_addStar_12 : decode cX8_addStar 12 = .ok (.ifCond .eq 18, 3) := by decide +kernel
theorem dX8_addStar_15 : decode cX8_addStar 15 = .ok (.iload_n 2, 1) := by decide +kernel
theorem dX8_addStar_16 : decode cX8_addStar 16 = .ok (.iconst 0, 1) := by decide +kernel
theorem dX8_addStar_17 : decode cX8_addStar 17 = .ok (.sipush 5400, 3) := by decide +kernel
theorem dX8_addStar_20 : decode cX8_addStar 20 = .ok (.invokestatic 48, 3) := by decide +kernel
theorem dX8_addStar_23 : decode cX8_addStar 23 = .ok (.ifCond .eq 7, 3) := by decide +kernel
theorem dX8_addStar_26 : decode cX8_addStar 26 = .ok (.iconst 1, 1) := by decide +kernel
theorem dX8_addStar_27 : decode cX8_addStar 27 = .ok (.goto 4, 3) := by decide +kernel
theorem dX8_addStar_30 : decode cX8_addStar 30 = .ok (.iconst 0, 1) := by decide +kernel
theorem dX8_addStar_31 : decode cX8_addStar 31 = .ok (.istore_n 3, 1) := by decide +kernel
theorem dX8_addStar_32 : decode cX8_addStar 32 = .ok (.aload_n 0, 1) := by decide +kernel
theorem dX8_addStar_33 : decode cX8_addStar 33 = .ok (.iload_n 3, 1) := by decide +kernel
theorem dX8_addStar_34 : decode cX8_addStar 34 = .ok (.ifCond .eq 12, 3) := by decide +kernel
theorem dX8_addStar_37 : decode cX8_addStar 37 = .ok (.aload_n 0, 1) := by decide +kernel
theorem dX8_addStar_38 : decode cX8_addStar 38 = .ok (.iload_n 1, 1) := by decide +kernel
theorem dX8_addStar_39 : decode cX8_addStar 39 = .ok (.iload_n 2, 1) := by decide +kernel
theorem dX8_addStar_40 : decode cX8_addStar 40 = .ok (.invokevirtual 149, 3) := by decide +kernel
theorem dX8_addStar_43 : decode cX8_addStar 43 = .ok (.goto 8, 3) := by decide +kernel
theorem dX8_addStar_46 : decode cX8_addStar 46 = .ok (.aload_n 0, 1) := by decide +kernel
theorem dX8_addStar_47 : decode cX8_addStar 47 = .ok (.iconst 1, 1) := by decide +kernel
theorem dX8_addStar_48 : decode cX8_addStar 48 = .ok (.invokevirtual 124, 3) := by decide +kernel
theorem dX8_addStar_51 : decode cX8_addStar 51 = .ok (.invokevirtual 142, 3) := by decide +kernel
theorem dX8_addStar_54 : decode cX8_addStar 54 = .ok (.ireturn, 1) := by decide +kernel
theorem dX8_aim_0 : decode cX8_aim 0 = .ok (.aload_n 0, 1) := by decide +kernel
theorem dX8_aim_1 : decode cX8_aim 1 = .ok (.invokevirtual 136, 3) := by decide +kernel
theorem dX8_aim_4 : decode cX8_aim 4 = .ok (.aload_n 0, 1) := by decide +kernel
theorem dX8_aim_5 : decode cX8_aim 5 = .ok (.aload_n 0, 1) := by decide +kernel
theorem dX8_aim_6 : decode cX8_aim 6 = .ok (.iload_n 1, 1) := by decide +kernel
theorem dX8_aim_7 : decode cX8_aim 7 = .ok (.invokevirtual 152, 3) := by decide +kernel
theorem dX8_aim_10 : decode cX8_aim 10 = .ok (.invokevirtual 142, 3) := by decide +kernel
theorem dX8_aim_13 : decode cX8_aim 13 = .ok (.ireturn, 1) := by decide +kernel
theorem dX8_learn_0 : decode cX8_learn 0 = .ok (.aload_n 0, 1) := by decide +kernel
theorem dX8_learn_1 : decode cX8_learn 1 = .ok (.invokevirtual 136, 3) := by decide +kernel
theorem dX8_learn_4 : decode cX8_learn 4 = .ok (.aload_n 0, 1) := by decide +kernel
theorem dX8_learn_5 : decode cX8_learn 5 = .ok (.aload_n 0, 1) := by decide +kernel
theorem dX8_learn_6 : decode cX8_learn 6 = .ok (.invokevirtual 155, 3) := by decide +kernel
theorem dX8_learn_9 : decode cX8_learn 9 = .ok (.invokevirtual 142, 3) := by decide +kernel
theorem dX8_learn_12 : decode cX8_learn 12 = .ok (.ireturn, 1) := by decide +kernel
theorem dX8_learnAll_0 : decode cX8_learnAll 0 = .ok (.aload_n 0, 1) := by decide +kernel
theorem dX8_learnAll_1 : decode cX8_learnAll 1 = .ok (.invokevirtual 136, 3) := by decide +kernel
theorem dX8_learnAll_4 : decode cX8_learnAll 4 = .ok (.iconst 0, 1) := by decide +kernel
theorem dX8_learnAll_5 : decode cX8_learnAll 5 = .ok (.istore_n 1, 1) := by decide +kernel
theorem dX8_learnAll_6 : decode cX8_learnAll 6 = .ok (.iconst 0, 1) := by decide +kernel
theorem dX8_learnAll_7 : decode cX8_learnAll 7 = .ok (.istore_n 2, 1) := by decide +kernel
theorem dX8_learnAll_8 : decode cX8_learnAll 8 = .ok (.iload_n 2, 1) := by decide +kernel
theorem dX8_learnAll_9 : decode cX8_learnAll 9 = .ok (.aload_n 0, 1) := by decide +kernel
theorem dX8_learnAll_10 : decode cX8_learnAll 10 = .ok (.getfield 7, 3) := by decide +kernel
theorem dX8_learnAll_13 : decode cX8_learnAll 13 = .ok (.bipush 20, 2) := by decide +kernel
theorem dX8_learnAll_15 : decode cX8_learnAll 15 = .ok (.iaload, 1) := by decide +kernel
theorem dX8_learnAll_16 : decode cX8_learnAll 16 = .ok (.if_icmp .ge 69, 3) := by decide +kernel
theorem dX8_learnAll_19 : decode cX8_learnAll 19 = .ok (.aload_n 0, 1) := by decide +kernel
theorem dX8_learnAll_20 : decode cX8_learnAll 20 = .ok (.getfield 42, 3) := by decide +kernel
theorem dX8_learnAll_23 : decode cX8_learnAll 23 = .ok (.ifCond .ne 62, 3) := by decide +kernel
theorem dX8_learnAll_26 : decode cX8_learnAll 26 = .ok (.aload_n 0, 1) := by decide +kernel
theorem dX8_learnAll_27 : decode cX8_learnAll 27 = .ok (.iload_n 2, 1) := by decide +kernel
theorem dX8_learnAll_28 : decode cX8_learnAll 28 = .ok (.invokevirtual 127, 3) := by decide +kernel
theorem dX8_learnAll_31 : decode cX8_learnAll 31 = .ok (.ifCond .eq 48, 3) := by decide +kernel
theorem dX8_learnAll_34 : decode cX8_learnAll 34 = .ok (.aload_n 0, 1) := by decide +kernel
theorem dX8_learnAll_35 : decode cX8_learnAll 35 = .ok (.iload_n 2, 1) := by decide +kernel
theorem dX8_learnAll_36 : decode cX8_learnAll 36 = .ok (.invokevirtual 152, 3) := by decide +kernel
theorem dX8_learnAll_39 : decode cX8_learnAll 39 = .ok (.istore_n 3, 1) := by decide +kernel
theorem dX8_learnAll_40 : decode cX8_learnAll 40 = .ok (.iload_n 1, 1) := by decide +kernel
theorem dX8_learnAll_41 : decode cX8_learnAll 41 = .ok (.aload_n 0, 1) := by decide +kernel
theorem dX8_learnAll_42 : decode cX8_learnAll 42 = .ok (.getfield 42, 3) := by decide +kernel
theorem dX8_learnAll_45 : decode cX8_learnAll 45 = .ok (.ifCond .ne 14, 3) := by decide +kernel
theorem dX8_learnAll_48 : decode cX8_learnAll 48 = .ok (.aload_n 0, 1) := by decide +kernel
theorem dX8_learnAll_49 : decode cX8_learnAll 49 = .ok (.invokevirtual 116, 3) := by decide +kernel
theorem dX8_learnAll_52 : decode cX8_learnAll 52 = .ok (.ifCond .eq 7, 3) := by decide +kernel
theorem dX8_learnAll_55 : decode cX8_learnAll 55 = .ok (.iconst 1, 1) := by decide +kernel
theorem dX8_learnAll_56 : decode cX8_learnAll 56 = .ok (.goto 4, 3) := by decide +kernel
theorem dX8_learnAll_59 : decode cX8_learnAll 59 = .ok (.iconst 0, 1) := by decide +kernel
theorem dX8_learnAll_60 : decode cX8_learnAll 60 = .ok (.iadd, 1) := by decide +kernel
theorem dX8_learnAll_61 : decode cX8_learnAll 61 = .ok (.istore_n 1, 1) := by decide +kernel
theorem dX8_learnAll_62 : decode cX8_learnAll 62 = .ok (.aload_n 0, 1) := by decide +kernel
theorem dX8_learnAll_63 : decode cX8_learnAll 63 = .ok (.getfield 42, 3) := by decide +kernel
theorem dX8_learnAll_66 : decode cX8_learnAll 66 = .ok (.ifCond .ne 10, 3) := by decide +kernel
theorem dX8_learnAll_69 : decode cX8_learnAll 69 = .ok (.aload_n 0, 1) := by decide +kernel
theorem dX8_learnAll_70 : decode cX8_learnAll 70 = .ok (.invokevirtual 155, 3) := by decide +kernel
theorem dX8_learnAll_73 : decode cX8_learnAll 73 = .ok (.goto 4, 3) := by decide +kernel
theorem dX8_learnAll_76 : decode cX8_learnAll 76 = .ok (.iconst 0, 1) := by decide +kernel
theorem dX8_learnAll_77 : decode cX8_learnAll 77 = .ok (.istore 4, 2) := by decide +kernel
theorem dX8_learnAll_79 : decode cX8_learnAll 79 = .ok (.iinc 2 1, 3) := by decide +kernel
theorem dX8_learnAll_82 : decode cX8_learnAll 82 = .ok (.goto (-74), 3) := by decide +kernel
theorem dX8_learnAll_85 : decode cX8_learnAll 85 = .ok (.aload_n 0, 1) := by decide +kernel
theorem dX8_learnAll_86 : decode cX8_learnAll 86 = .ok (.getfield 42, 3) := by decide +kernel
theorem dX8_learnAll_89 : decode cX8_learnAll 89 = .ok (.ifCond .eq 12, 3) := by decide +kernel
theorem dX8_learnAll_92 : decode cX8_learnAll 92 = .ok (.aload_n 0, 1) := by decide +kernel
theorem dX8_learnAll_93 : decode cX8_learnAll 93 = .ok (.iconst 1, 1) := by decide +kernel
theorem dX8_learnAll_94 : decode cX8_learnAll 94 = .ok (.putfield 42, 3) := by decide +kernel
theorem dX8_learnAll_97 : decode cX8_learnAll 97 = .ok (.aload_n 0, 1) := by decide +kernel
theorem dX8_learnAll_98 : decode cX8_learnAll 98 = .ok (.invokevirtual 159, 3) := by decide +kernel
theorem dX8_learnAll_101 : decode cX8_learnAll 101 = .ok (.aload_n 0, 1) := by decide +kernel
theorem dX8_learnAll_102 : decode cX8_learnAll 102 = .ok (.iload_n 1, 1) := by decide +kernel
theorem dX8_learnAll_103 : decode cX8_learnAll 103 = .ok (.invokevirtual 142, 3) := by decide +kernel
theorem dX8_learnAll_106 : decode cX8_learnAll 106 = .ok (.ireturn, 1) := by decide +kernel
theorem dX8_forget_0 : decode cX8_forget 0 = .ok (.aload_n 0, 1) := by decide +kernel
theorem dX8_forget_1 : decode cX8_forget 1 = .ok (.invokevirtual 136, 3) := by decide +kernel
theorem dX8_forget_4 : decode cX8_forget 4 = .ok (.iload_n 1, 1) := by decide +kernel
theorem dX8_forget_5 : decode cX8_forget 5 = .ok (.invokestatic 162, 3) := by decide +kernel
theorem dX8_forget_8 : decode cX8_forget 8 = .ok (.ifCond .ne 13, 3) := by decide +kernel
theorem dX8_forget_11 : decode cX8_forget 11 = .ok (.aload_n 0, 1) := by decide +kernel
theorem dX8_forget_12 : decode cX8_forget 12 = .ok (.aload_n 0, 1) := by decide +kernel
theorem dX8_forget_13 : decode cX8_forget 13 = .ok (.iconst 1, 1) := by decide +kernel
theorem dX8_forget_14 : decode cX8_forget 14 = .ok (.invokevirtual 124, 3) := by decide +kernel
theorem dX8_forget_17 : decode cX8_forget 17 = .ok (.invokevirtual 142, 3) := by decide +kernel
theorem dX8_forget_20 : decode cX8_forget 20 = .ok (.ireturn, 1) := by decide +kernel
theorem dX8_forget_21 : decode cX8_forget 21 = .ok (.aload_n 0, 1) := by decide +kernel
theorem dX8_forget_22 : decode cX8_forget 22 = .ok (.getfield 7, 3) := by decide +kernel
theorem dX8_forget_25 : decode cX8_forget 25 = .ok (.bipush 103, 2) := by decide +kernel
theorem dX8_forget_27 : decode cX8_forget 27 = .ok (.iload_n 1, 1) := by decide +kernel
theorem dX8_forget_28 : decode cX8_forget 28 = .ok (.iadd, 1) := by decide +kernel
theorem dX8_forget_29 : decode cX8_forget 29 = .ok (.iaload, 1) := by decide +kernel
theorem dX8_forget_30 : decode cX8_forget 30 = .ok (.istore_n 2, 1) := by decide +kernel
theorem dX8_forget_31 : decode cX8_forget 31 = .ok (.aload_n 0, 1) := by decide +kernel
theorem dX8_forget_32 : decode cX8_forget 32 = .ok (.getfield 7, 3) := by decide +kernel
theorem dX8_forget_35 : decode cX8_forget 35 = .ok (.bipush 103, 2) := by decide +kernel
theorem dX8_forget_37 : decode cX8_forget 37 = .ok (.iload_n 1, 1) := by decide +kernel
theorem dX8_forget_38 : decode cX8_forget 38 = .ok (.iadd, 1) := by decide +kernel
theorem dX8_forget_39 : decode cX8_forget 39 = .ok (.iconst 0, 1) := by decide +kernel
theorem dX8_forget_40 : decode cX8_forget 40 = .ok (.iastore, 1) := by decide +kernel
theorem dX8_forget_41 : decode cX8_forget 41 = .ok (.aload_n 0, 1) := by decide +kernel
theorem dX8_forget_42 : decode cX8_forget 42 = .ok (.getfield 13, 3) := by decide +kernel
theorem dX8_forget_45 : decode cX8_forget 45 = .ok (.iconst 2, 1) := by decide +kernel
theorem dX8_forget_46 : decode cX8_forget 46 = .ok (.iload_n 1, 1) := by decide +kernel
theorem dX8_forget_47 : decode cX8_forget 47 = .ok (.imul, 1) := by decide +kernel
theorem dX8_forget_48 : decode cX8_forget 48 = .ok (.dconst 0, 1) := by decide +kernel
theorem dX8_forget_49 : decode cX8_forget 49 = .ok (.dastore, 1) := by decide +kernel
theorem dX8_forget_50 : decode cX8_forget 50 = .ok (.aload_n 0, 1) := by decide +kernel
theorem dX8_forget_51 : decode cX8_forget 51 = .ok (.getfield 13, 3) := by decide +kernel
theorem dX8_forget_54 : decode cX8_forget 54 = .ok (.iconst 2, 1) := by decide +kernel
theorem dX8_forget_55 : decode cX8_forget 55 = .ok (.iload_n 1, 1) := by decide +kernel
theorem dX8_forget_56 : decode cX8_forget 56 = .ok (.imul, 1) := by decide +kernel
theorem dX8_forget_57 : decode cX8_forget 57 = .ok (.iconst 1, 1) := by decide +kernel
theorem dX8_forget_58 : decode cX8_forget 58 = .ok (.iadd, 1) := by decide +kernel
theorem dX8_forget_59 : decode cX8_forget 59 = .ok (.dconst 0, 1) := by decide +kernel
theorem dX8_forget_60 : decode cX8_forget 60 = .ok (.dastore, 1) := by decide +kernel
theorem dX8_forget_61 : decode cX8_forget 61 = .ok (.aload_n 0, 1) := by decide +kernel
theorem dX8_forget_62 : decode cX8_forget 62 = .ok (.iload_n 2, 1) := by decide +kernel
theorem dX8_forget_63 : decode cX8_forget 63 = .ok (.invokevirtual 142, 3) := by decide +kernel
theorem dX8_forget_66 : decode cX8_forget 66 = .ok (.ireturn, 1) := by decide +kernel
theorem dX8_tellStar_0 : decode cX8_tellStar 0 = .ok (.iload_n 2, 1) := by decide +kernel
theorem dX8_tellStar_1 : decode cX8_tellStar 1 = .ok (.tableswitch 68 0 4 #[35, 35, 42, 48, 54], 35) := by decide +kernel
theorem dX8_tellStar_36 : decode cX8_tellStar 36 = .ok (.aload_n 0, 1) := by decide +kernel
theorem dX8_tellStar_37 : decode cX8_tellStar 37 = .ok (.iload_n 1, 1) := by decide +kernel
theorem dX8_tellStar_38 : decode cX8_tellStar 38 = .ok (.iload_n 2, 1) := by decide +kernel
theorem dX8_tellStar_39 : decode cX8_tellStar 39 = .ok (.invokevirtual 52, 3) := by decide +kernel
theorem dX8_tellStar_42 : decode cX8_tellStar 42 = .ok (.ireturn, 1) := by decide +kernel
theorem dX8_tellStar_43 : decode cX8_tellStar 43 = .ok (.aload_n 0, 1) := by decide +kernel
theorem dX8_tellStar_44 : decode cX8_tellStar 44 = .ok (.iload_n 1, 1) := by decide +kernel
theorem dX8_tellStar_45 : decode cX8_tellStar 45 = .ok (.invokevirtual 87, 3) := by decide +kernel
theorem dX8_tellStar_48 : decode cX8_tellStar 48 = .ok (.ireturn, 1) := by decide +kernel
theorem dX8_tellStar_49 : decode cX8_tellStar 49 = .ok (.aload_n 0, 1) := by decide +kernel
theorem dX8_tellStar_50 : decode cX8_tellStar 50 = .ok (.iload_n 1, 1) := by decide +kernel
theorem dX8_tellStar_51 : decode cX8_tellStar 51 = .ok (.invokevirtual 70, 3) := by decide +kernel
theorem dX8_tellStar_54 : decode cX8_tellStar 54 = .ok (.ireturn, 1) := by decide +kernel
theorem dX8_tellStar_55 : decode cX8_tellStar 55 = .ok (.aload_n 0, 1) := by decide +kernel
theorem dX8_tellStar_56 : decode cX8_tellStar 56 = .ok (.iload_n 1, 1) := by decide +kernel
theorem dX8_tellStar_57 : decode cX8_tellStar 57 = .ok (.invokevirtual 127, 3) := by decide +kernel
theorem dX8_tellStar_60 : decode cX8_tellStar 60 = .ok (.ifCond .eq 7, 3) := by decide +kernel
theorem dX8_tellStar_63 : decode cX8_tellStar 63 = .ok (.iconst 1, 1) := by decide +kernel
theorem dX8_tellStar_64 : decode cX8_tellStar 64 = .ok (.goto 4, 3) := by decide +kernel
theorem dX8_tellStar_67 : decode cX8_tellStar 67 = .ok (.iconst 0, 1) := by decide +kernel
theorem dX8_tellStar_68 : decode cX8_tellStar 68 = .ok (.ireturn, 1) := by decide +kernel
theorem dX8_tellStar_69 : decode cX8_tellStar 69 = .ok (.aload_n 0, 1) := by decide +kernel
theorem dX8_tellStar_70 : decode cX8_tellStar 70 = .ok (.iload_n 1, 1) := by decide +kernel
theorem dX8_tellStar_71 : decode cX8_tellStar 71 = .ok (.iload_n 2, 1) := by decide +kernel
theorem dX8_tellStar_72 : decode cX8_tellStar 72 = .ok (.iconst 3, 1) := by decide +kernel
theorem dX8_tellStar_73 : decode cX8_tellStar 73 = .ok (.isub, 1) := by decide +kernel
theorem dX8_tellStar_74 : decode cX8_tellStar 74 = .ok (.invokevirtual 52, 3) := by decide +kernel
theorem dX8_tellStar_77 : decode cX8_tellStar 77 = .ok (.ireturn, 1) := by decide +kernel
theorem dX8_star_0 : decode cX8_star 0 = .ok (.aload_n 0, 1) := by decide +kernel
theorem dX8_star_1 : decode cX8_star 1 = .ok (.iconst 0, 1) := by decide +kernel
theorem dX8_star_2 : decode cX8_star 2 = .ok (.putfield 38, 3) := by decide +kernel
theorem dX8_star_5 : decode cX8_star 5 = .ok (.aload_n 0, 1) := by decide +kernel
theorem dX8_star_6 : decode cX8_star 6 = .ok (.iload_n 1, 1) := by decide +kernel
theorem dX8_star_7 : decode cX8_star 7 = .ok (.invokevirtual 120, 3) := by decide +kernel
theorem dX8_star_10 : decode cX8_star 10 = .ok (.ifCond .ne 9, 3) := by decide +kernel
theorem dX8_star_13 : decode cX8_star 13 = .ok (.aload_n 0, 1) := by decide +kernel
theorem dX8_star_14 : decode cX8_star 14 = .ok (.iconst 1, 1) := by decide +kernel
theorem dX8_star_15 : decode cX8_star 15 = .ok (.invokevirtual 165, 3) := by decide +kernel
theorem dX8_star_18 : decode cX8_star 18 = .ok (.ireturn, 1) := by decide +kernel
theorem dX8_star_19 : decode cX8_star 19 = .ok (.iload_n 2, 1) := by decide +kernel
theorem dX8_star_20 : decode cX8_star 20 = .ok (.iconst 0, 1) := by decide +kernel
theorem dX8_star_21 : decode cX8_star 21 = .ok (.bipush 6, 2) := by decide +kernel
theorem dX8_star_23 : decode cX8_star 23 = .ok (.invokestatic 48, 3) := by decide +kernel
theorem dX8_star_26 : decode cX8_star 26 = .ok (.ifCond .eq 12, 3) := by decide +kernel
theorem dX8_star_29 : decode cX8_star 29 = .ok (.aload_n 0, 1) := by decide +kernel
theorem dX8_star_30 : decode cX8_star 30 = .ok (.iload_n 1, 1) := by decide +kernel
theorem dX8_star_31 : decode cX8_star 31 = .ok (.iload_n 2, 1) := by decide +kernel
theorem dX8_star_32 : decode cX8_star 32 = .ok (.invokevirtual 168, 3) := by decide +kernel
theorem dX8_star_35 : decode cX8_star 35 = .ok (.goto 8, 3) := by decide +kernel
theorem dX8_star_38 : decode cX8_star 38 = .ok (.aload_n 0, 1) := by decide +kernel
theorem dX8_star_39 : decode cX8_star 39 = .ok (.iconst 2, 1) := by decide +kernel
theorem dX8_star_40 : decode cX8_star 40 = .ok (.invokevirtual 165, 3) := by decide +kernel
theorem dX8_star_43 : decode cX8_star 43 = .ok (.ireturn, 1) := by decide +kernel
theorem dX8_correction_0 : decode cX8_correction 0 = .ok (.aload_n 0, 1) := by decide +kernel
theorem dX8_correction_1 : decode cX8_correction 1 = .ok (.iload_n 1, 1) := by decide +kernel
theorem dX8_correction_2 : decode cX8_correction 2 = .ok (.invokestatic 162, 3) := by decide +kernel
theorem dX8_correction_5 : decode cX8_correction 5 = .ok (.ifCond .eq 7, 3) := by decide +kernel
theorem dX8_correction_8 : decode cX8_correction 8 = .ok (.iconst 0, 1) := by decide +kernel
theorem dX8_correction_9 : decode cX8_correction 9 = .ok (.goto 4, 3) := by decide +kernel
theorem dX8_correction_12 : decode cX8_correction 12 = .ok (.iconst 1, 1) := by decide +kernel
theorem dX8_correction_13 : decode cX8_correction 13 = .ok (.putfield 38, 3) := by decide +kernel
theorem dX8_correction_16 : decode cX8_correction 16 = .ok (.iload_n 1, 1) := by decide +kernel
theorem dX8_correction_17 : decode cX8_correction 17 = .ok (.invokestatic 162, 3) := by decide +kernel
theorem dX8_correction_20 : decode cX8_correction 20 = .ok (.ifCond .eq 20, 3) := by decide +kernel
theorem dX8_correction_23 : decode cX8_correction 23 = .ok (.aload_n 0, 1) := by decide +kernel
theorem dX8_correction_24 : decode cX8_correction 24 = .ok (.iload_n 1, 1) := by decide +kernel
theorem dX8_correction_25 : decode cX8_correction 25 = .ok (.iload_n 2, 1) := by decide +kernel
theorem dX8_correction_26 : decode cX8_correction 26 = .ok (.ifCond .eq 7, 3) := by decide +kernel
theorem dX8_correction_29 : decode cX8_correction 29 = .ok (.iconst 1, 1) := by decide +kernel
theorem dX8_correction_30 : decode cX8_correction 30 = .ok (.goto 4, 3) := by decide +kernel
theorem dX8_correction_33 : decode cX8_correction 33 = .ok (.iconst 0, 1) := by decide +kernel
theorem dX8_correction_34 : decode cX8_correction 34 = .ok (.invokevirtual 73, 3) := by decide +kernel
theorem dX8_correction_37 : decode cX8_correction 37 = .ok (.goto 4, 3) := by decide +kernel
theorem dX8_correction_40 : decode cX8_correction 40 = .ok (.dconst 0, 1) := by decide +kernel
theorem dX8_correction_41 : decode cX8_correction 41 = .ok (.dreturn, 1) := by decide +kernel
theorem dX8_source_0 : decode cX8_source 0 = .ok (.aload_n 0, 1) := by decide +kernel
theorem dX8_source_1 : decode cX8_source 1 = .ok (.iconst 0, 1) := by decide +kernel
theorem dX8_source_2 : decode cX8_source 2 = .ok (.putfield 38, 3) := by decide +kernel
theorem dX8_source_5 : decode cX8_source 5 = .ok (.iload_n 1, 1) := by decide +kernel
theorem dX8_source_6 : decode cX8_source 6 = .ok (.invokestatic 162, 3) := by decide +kernel
theorem dX8_source_9 : decode cX8_source 9 = .ok (.ifCond .eq 11, 3) := by decide +kernel
theorem dX8_source_12 : decode cX8_source 12 = .ok (.aload_n 0, 1) := by decide +kernel
theorem dX8_source_13 : decode cX8_source 13 = .ok (.iload_n 1, 1) := by decide +kernel
theorem dX8_source_14 : decode cX8_source 14 = .ok (.invokevirtual 63, 3) := by decide +kernel
theorem dX8_source_17 : decode cX8_source 17 = .ok (.goto 8, 3) := by decide +kernel
theorem dX8_source_20 : decode cX8_source 20 = .ok (.aload_n 0, 1) := by decide +kernel
theorem dX8_source_21 : decode cX8_source 21 = .ok (.iconst 1, 1) := by decide +kernel
theorem dX8_source_22 : decode cX8_source 22 = .ok (.invokevirtual 165, 3) := by decide +kernel
theorem dX8_source_25 : decode cX8_source 25 = .ok (.ireturn, 1) := by decide +kernel
theorem dX8_lessons_0 : decode cX8_lessons 0 = .ok (.aload_n 0, 1) := by decide +kernel
theorem dX8_lessons_1 : decode cX8_lessons 1 = .ok (.iconst 0, 1) := by decide +kernel
theorem dX8_lessons_2 : decode cX8_lessons 2 = .ok (.putfield 38, 3) := by decide +kernel
theorem dX8_lessons_5 : decode cX8_lessons 5 = .ok (.iload_n 1, 1) := by decide +kernel
theorem dX8_lessons_6 : decode cX8_lessons 6 = .ok (.invokestatic 162, 3) := by decide +kernel
theorem dX8_lessons_9 : decode cX8_lessons 9 = .ok (.ifCond .eq 15, 3) := by decide +kernel
theorem dX8_lessons_12 : decode cX8_lessons 12 = .ok (.aload_n 0, 1) := by decide +kernel
theorem dX8_lessons_13 : decode cX8_lessons 13 = .ok (.getfield 7, 3) := by decide +kernel
theorem dX8_lessons_16 : decode cX8_lessons 16 = .ok (.bipush 103, 2) := by decide +kernel
theorem dX8_lessons_18 : decode cX8_lessons 18 = .ok (.iload_n 1, 1) := by decide +kernel
theorem dX8_lessons_19 : decode cX8_lessons 19 = .ok (.iadd, 1) := by decide +kernel
theorem dX8_lessons_20 : decode cX8_lessons 20 = .ok (.iaload, 1) := by decide +kernel
theorem dX8_lessons_21 : decode cX8_lessons 21 = .ok (.goto 8, 3) := by decide +kernel
theorem dX8_lessons_24 : decode cX8_lessons 24 = .ok (.aload_n 0, 1) := by decide +kernel
theorem dX8_lessons_25 : decode cX8_lessons 25 = .ok (.iconst 1, 1) := by decide +kernel
theorem dX8_lessons_26 : decode cX8_lessons 26 = .ok (.invokevirtual 165, 3) := by decide +kernel
theorem dX8_lessons_29 : decode cX8_lessons 29 = .ok (.ireturn, 1) := by decide +kernel
theorem dX8_tellMiss_0 : decode cX8_tellMiss 0 = .ok (.iload_n 1, 1) := by decide +kernel
theorem dX8_tellMiss_1 : decode cX8_tellMiss 1 = .ok (.iconst 2, 1) := by decide +kernel
theorem dX8_tellMiss_2 : decode cX8_tellMiss 2 = .ok (.if_icmp .ne 23, 3) := by decide +kernel
theorem dX8_tellMiss_5 : decode cX8_tellMiss 5 = .ok (.aload_n 0, 1) := by decide +kernel
theorem dX8_tellMiss_6 : decode cX8_tellMiss 6 = .ok (.getfield 13, 3) := by decide +kernel
theorem dX8_tellMiss_9 : decode cX8_tellMiss 9 = .ok (.bipush 48, 2) := by decide +kernel
theorem dX8_tellMiss_11 : decode cX8_tellMiss 11 = .ok (.daload, 1) := by decide +kernel
theorem dX8_tellMiss_12 : decode cX8_tellMiss 12 = .ok (.aload_n 0, 1) := by decide +kernel
theorem dX8_tellMiss_13 : decode cX8_tellMiss 13 = .ok (.getfield 13, 3) := by decide +kernel
theorem dX8_tellMiss_16 : decode cX8_tellMiss 16 = .ok (.bipush 49, 2) := by decide +kernel
theorem dX8_tellMiss_18 : decode cX8_tellMiss 18 = .ok (.daload, 1) := by decide +kernel
theorem dX8_tellMiss_19 : decode cX8_tellMiss 19 = .ok (.invokestatic 101, 3) := by decide +kernel
theorem dX8_tellMiss_22 : decode cX8_tellMiss 22 = .ok (.goto 12, 3) := by decide +kernel
theorem dX8_tellMiss_25 : decode cX8_tellMiss 25 = .ok (.aload_n 0, 1) := by decide +kernel
theorem dX8_tellMiss_26 : decode cX8_tellMiss 26 = .ok (.getfield 13, 3) := by decide +kernel
theorem dX8_tellMiss_29 : decode cX8_tellMiss 29 = .ok (.bipush 48, 2) := by decide +kernel
theorem dX8_tellMiss_31 : decode cX8_tellMiss 31 = .ok (.iload_n 1, 1) := by decide +kernel
theorem dX8_tellMiss_32 : decode cX8_tellMiss 32 = .ok (.iadd, 1) := by decide +kernel
theorem dX8_tellMiss_33 : decode cX8_tellMiss 33 = .ok (.daload, 1) := by decide +kernel
theorem dX8_tellMiss_34 : decode cX8_tellMiss 34 = .ok (.dreturn, 1) := by decide +kernel
theorem dX8_miss_0 : decode cX8_miss 0 = .ok (.aload_n 0, 1) := by decide +kernel
theorem dX8_miss_1 : decode cX8_miss 1 = .ok (.iload_n 1, 1) := by decide +kernel
theorem dX8_miss_2 : decode cX8_miss 2 = .ok (.iconst 0, 1) := by decide +kernel
theorem dX8_miss_3 : decode cX8_miss 3 = .ok (.iconst 2, 1) := by decide +kernel
theorem dX8_miss_4 : decode cX8_miss 4 = .ok (.invokestatic 48, 3) := by decide +kernel
theorem dX8_miss_7 : decode cX8_miss 7 = .ok (.ifCond .ne 7, 3) := by decide +kernel
theorem dX8_miss_10 : decode cX8_miss 10 = .ok (.iconst 1, 1) := by decide +kernel
theorem dX8_miss_11 : decode cX8_miss 11 = .ok (.goto 19, 3) := by decide +kernel
theorem dX8_miss_14 : decode cX8_miss 14 = .ok (.aload_n 0, 1) := by decide +kernel
theorem dX8_miss_15 : decode cX8_miss 15 = .ok (.getfield 7, 3) := by decide +kernel
theorem dX8_miss_18 : decode cX8_miss 18 = .ok (.bipush 21, 2) := by decide +kernel
theorem dX8_miss_20 : decode cX8_miss 20 = .ok (.iaload, 1) := by decide +kernel
theorem dX8_miss_21 : decode cX8_miss 21 = .ok (.iconst (-1), 1) := by decide +kernel
theorem dX8_miss_22 : decode cX8_miss 22 = .ok (.if_icmp .ne 7, 3) := by decide +kernel
theorem dX8_miss_25 : decode cX8_miss 25 = .ok (.iconst 2, 1) := by decide +kernel
theorem dX8_miss_26 : decode cX8_miss 26 = .ok (.goto 4, 3) := by decide +kernel
theorem dX8_miss_29 : decode cX8_miss 29 = .ok (.iconst 0, 1) := by decide +kernel
theorem dX8_miss_30 : decode cX8_miss 30 = .ok (.putfield 38, 3) := by decide +kernel
theorem dX8_miss_33 : decode cX8_miss 33 = .ok (.aload_n 0, 1) := by decide +kernel
theorem dX8_miss_34 : decode cX8_miss 34 = .ok (.getfield 38, 3) := by decide +kernel
theorem dX8_miss_37 : decode cX8_miss 37 = .ok (.ifCond .ne 11, 3) := by decide +kernel
theorem dX8_miss_40 : decode cX8_miss 40 = .ok (.aload_n 0, 1) := by decide +kernel
theorem dX8_miss_41 : decode cX8_miss 41 = .ok (.iload_n 1, 1) := by decide +kernel
theorem dX8_miss_42 : decode cX8_miss 42 = .ok (.invokevirtual 171, 3) := by decide +kernel
theorem dX8_miss_45 : decode cX8_miss 45 = .ok (.goto 4, 3) := by decide +kernel
theorem dX8_miss_48 : decode cX8_miss 48 = .ok (.dconst 0, 1) := by decide +kernel
theorem dX8_miss_49 : decode cX8_miss 49 = .ok (.dreturn, 1) := by decide +kernel
theorem dX8_inRegions_0 : decode cX8_inRegions 0 = .ok (.iconst 0, 1) := by decide +kernel
theorem dX8_inRegions_1 : decode cX8_inRegions 1 = .ok (.istore_n 2, 1) := by decide +kernel
theorem dX8_inRegions_2 : decode cX8_inRegions 2 = .ok (.iconst 0, 1) := by decide +kernel
theorem dX8_inRegions_3 : decode cX8_inRegions 3 = .ok (.istore_n 3, 1) := by decide +kernel
theorem dX8_inRegions_4 : decode cX8_inRegions 4 = .ok (.iload_n 3, 1) := by decide +kernel
theorem dX8_inRegions_5 : decode cX8_inRegions 5 = .ok (.bipush 24, 2) := by decide +kernel
theorem dX8_inRegions_7 : decode cX8_inRegions 7 = .ok (.if_icmp .ge 45, 3) := by decide +kernel
theorem dX8_inRegions_10 : decode cX8_inRegions 10 = .ok (.iload_n 2, 1) := by decide +kernel
theorem dX8_inRegions_11 : decode cX8_inRegions 11 = .ok (.iload_n 1, 1) := by decide +kernel
theorem dX8_inRegions_12 : decode cX8_inRegions 12 = .ok (.ifCond .eq 15, 3) := by decide +kernel
theorem dX8_inRegions_15 : decode cX8_inRegions 15 = .ok (.aload_n 0, 1) := by decide +kernel
theorem dX8_inRegions_16 : decode cX8_inRegions 16 = .ok (.getfield 7, 3) := by decide +kernel
theorem dX8_inRegions_19 : decode cX8_inRegions 19 = .ok (.bipush 103, 2) := by decide +kernel
theorem dX8_inRegions_21 : decode cX8_inRegions 21 = .ok (.iload_n 3, 1) := by decide +kernel
theorem dX8_inRegions_22 : decode cX8_inRegions 22 = .ok (.iadd, 1) := by decide +kernel
theorem dX8_inRegions_23 : decode cX8_inRegions 23 = .ok (.iaload, 1) := by decide +kernel
theorem dX8_inRegions_24 : decode cX8_inRegions 24 = .ok (.goto 20, 3) := by decide +kernel
theorem dX8_inRegions_27 : decode cX8_inRegions 27 = .ok (.aload_n 0, 1) := by decide +kernel
theorem dX8_inRegions_28 : decode cX8_inRegions 28 = .ok (.getfield 7, 3) := by decide +kernel
theorem dX8_inRegions_31 : decode cX8_inRegions 31 = .ok (.bipush 103, 2) := by decide +kernel
theorem dX8_inRegions_33 : decode cX8_inRegions 33 = .ok (.iload_n 3, 1) := by decide +kernel
theorem dX8_inRegions_34 : decode cX8_inRegions 34 = .ok (.iadd, 1) := by decide +kernel
theorem dX8_inRegions_35 : decode cX8_inRegions 35 = .ok (.iaload, 1) := by decide +kernel
theorem dX8_inRegions_36 : decode cX8_inRegions 36 = .ok (.ifCond .le 7, 3) := by decide +kernel
theorem dX8_inRegions_39 : decode cX8_inRegions 39 = .ok (.iconst 1, 1) := by decide +kernel
theorem dX8_inRegions_40 : decode cX8_inRegions 40 = .ok (.goto 4, 3) := by decide +kernel
theorem dX8_inRegions_43 : decode cX8_inRegions 43 = .ok (.iconst 0, 1) := by decide +kernel
theorem dX8_inRegions_44 : decode cX8_inRegions 44 = .ok (.iadd, 1) := by decide +kernel
theorem dX8_inRegions_45 : decode cX8_inRegions 45 = .ok (.istore_n 2, 1) := by decide +kernel
theorem dX8_inRegions_46 : decode cX8_inRegions 46 = .ok (.iinc 3 1, 3) := by decide +kernel
theorem dX8_inRegions_49 : decode cX8_inRegions 49 = .ok (.goto (-45), 3) := by decide +kernel
theorem dX8_inRegions_52 : decode cX8_inRegions 52 = .ok (.iload_n 2, 1) := by decide +kernel
theorem dX8_inRegions_53 : decode cX8_inRegions 53 = .ok (.ireturn, 1) := by decide +kernel
theorem dX8_tell_0 : decode cX8_tell 0 = .ok (.iload_n 1, 1) := by decide +kernel
theorem dX8_tell_1 : decode cX8_tell 1 = .ok (.tableswitch 103 0 10 #[59, 67, 67, 67, 67, 67, 67, 67, 79, 79, 95], 59) := by decide +kernel
theorem dX8_tell_60 : decode cX8_tell 60 = .ok (.aload_n 0, 1) := by decide +kernel
theorem dX8_tell_61 : decode cX8_tell 61 = .ok (.getfield 7, 3) := by decide +kernel
theorem dX8_tell_64 : decode cX8_tell 64 = .ok (.bipush 20, 2) := by decide +kernel
theorem dX8_tell_66 : decode cX8_tell 66 = .ok (.iaload, 1) := by decide +kernel
theorem dX8_tell_67 : decode cX8_tell 67 = .ok (.ireturn, 1) := by decide +kernel
theorem dX8_tell_68 : decode cX8_tell 68 = .ok (.aload_n 0, 1) := by decide +kernel
theorem dX8_tell_69 : decode cX8_tell 69 = .ok (.getfield 7, 3) := by decide +kernel
theorem dX8_tell_72 : decode cX8_tell 72 = .ok (.bipush 13, 2) := by decide +kernel
theorem dX8_tell_74 : decode cX8_tell 74 = .ok (.iload_n 1, 1) := by decide +kernel
theorem dX8_tell_75 : decode cX8_tell 75 = .ok (.iadd, 1) := by decide +kernel
theorem dX8_tell_76 : decode cX8_tell 76 = .ok (.iconst 1, 1) := by decide +kernel
theorem dX8_tell_77 : decode cX8_tell 77 = .ok (.isub, 1) := by decide +kernel
theorem dX8_tell_78 : decode cX8_tell 78 = .ok (.iaload, 1) := by decide +kernel
theorem dX8_tell_79 : decode cX8_tell 79 = .ok (.ireturn, 1) := by decide +kernel
theorem dX8_tell_80 : decode cX8_tell 80 = .ok (.aload_n 0, 1) := by decide +kernel
theorem dX8_tell_81 : decode cX8_tell 81 = .ok (.iload_n 1, 1) := by decide +kernel
theorem dX8_tell_82 : decode cX8_tell 82 = .ok (.bipush 8, 2) := by decide +kernel
theorem dX8_tell_84 : decode cX8_tell 84 = .ok (.if_icmp .ne 7, 3) := by decide +kernel
theorem dX8_tell_87 : decode cX8_tell 87 = .ok (.iconst 1, 1) := by decide +kernel
theorem dX8_tell_88 : decode cX8_tell 88 = .ok (.goto 4, 3) := by decide +kernel
theorem dX8_tell_91 : decode cX8_tell 91 = .ok (.iconst 0, 1) := by decide +kernel
theorem dX8_tell_92 : decode cX8_tell 92 = .ok (.invokevirtual 175, 3) := by decide +kernel
theorem dX8_tell_95 : decode cX8_tell 95 = .ok (.ireturn, 1) := by decide +kernel
theorem dX8_tell_96 : decode cX8_tell 96 = .ok (.aload_n 0, 1) := by decide +kernel
theorem dX8_tell_97 : decode cX8_tell 97 = .ok (.getfield 7, 3) := by decide +kernel
theorem dX8_tell_100 : decode cX8_tell 100 = .ok (.bipush 21, 2) := by decide +kernel
theorem dX8_tell_102 : decode cX8_tell 102 = .ok (.iaload, 1) := by decide +kernel
theorem dX8_tell_103 : decode cX8_tell 103 = .ok (.ireturn, 1) := by decide +kernel
theorem dX8_tell_104 : decode cX8_tell 104 = .ok (.aload_n 0, 1) := by decide +kernel
theorem dX8_tell_105 : decode cX8_tell 105 = .ok (.getfield 7, 3) := by decide +kernel
theorem dX8_tell_108 : decode cX8_tell 108 = .ok (.bipush 22, 2) := by decide +kernel
theorem dX8_tell_110 : decode cX8_tell 110 = .ok (.iaload, 1) := by decide +kernel
theorem dX8_tell_111 : decode cX8_tell 111 = .ok (.ireturn, 1) := by decide +kernel
theorem dX8_value_0 : decode cX8_value 0 = .ok (.aload_n 0, 1) := by decide +kernel
theorem dX8_value_1 : decode cX8_value 1 = .ok (.iconst 0, 1) := by decide +kernel
theorem dX8_value_2 : decode cX8_value 2 = .ok (.putfield 38, 3) := by decide +kernel
theorem dX8_value_5 : decode cX8_value 5 = .ok (.iload_n 1, 1) := by decide +kernel
theorem dX8_value_6 : decode cX8_value 6 = .ok (.iconst 0, 1) := by decide +kernel
theorem dX8_value_7 : decode cX8_value 7 = .ok (.bipush 11, 2) := by decide +kernel
theorem dX8_value_9 : decode cX8_value 9 = .ok (.invokestatic 48, 3) := by decide +kernel
theorem dX8_value_12 : decode cX8_value 12 = .ok (.ifCond .eq 11, 3) := by decide +kernel
theorem dX8_value_15 : decode cX8_value 15 = .ok (.aload_n 0, 1) := by decide +kernel
theorem dX8_value_16 : decode cX8_value 16 = .ok (.iload_n 1, 1) := by decide +kernel
theorem dX8_value_17 : decode cX8_value 17 = .ok (.invokevirtual 179, 3) := by decide +kernel
theorem dX8_value_20 : decode cX8_value 20 = .ok (.goto 8, 3) := by decide +kernel
theorem dX8_value_23 : decode cX8_value 23 = .ok (.aload_n 0, 1) := by decide +kernel
theorem dX8_value_24 : decode cX8_value 24 = .ok (.iconst 1, 1) := by decide +kernel
theorem dX8_value_25 : decode cX8_value 25 = .ok (.invokevirtual 165, 3) := by decide +kernel
theorem dX8_value_28 : decode cX8_value 28 = .ok (.ireturn, 1) := by decide +kernel
theorem dX8_setting_0 : decode cX8_setting 0 = .ok (.aload_n 0, 1) := by decide +kernel
theorem dX8_setting_1 : decode cX8_setting 1 = .ok (.iconst 0, 1) := by decide +kernel
theorem dX8_setting_2 : decode cX8_setting 2 = .ok (.putfield 38, 3) := by decide +kernel
theorem dX8_setting_5 : decode cX8_setting 5 = .ok (.iload_n 1, 1) := by decide +kernel
theorem dX8_setting_6 : decode cX8_setting 6 = .ok (.iconst 0, 1) := by decide +kernel
theorem dX8_setting_7 : decode cX8_setting 7 = .ok (.iconst 4, 1) := by decide +kernel
theorem dX8_setting_8 : decode cX8_setting 8 = .ok (.invokestatic 48, 3) := by decide +kernel
theorem dX8_setting_11 : decode cX8_setting 11 = .ok (.ifCond .eq 14, 3) := by decide +kernel
theorem dX8_setting_14 : decode cX8_setting 14 = .ok (.aload_n 0, 1) := by decide +kernel
theorem dX8_setting_15 : decode cX8_setting 15 = .ok (.getfield 7, 3) := by decide +kernel
theorem dX8_setting_18 : decode cX8_setting 18 = .ok (.iconst 0, 1) := by decide +kernel
theorem dX8_setting_19 : decode cX8_setting 19 = .ok (.iload_n 1, 1) := by decide +kernel
theorem dX8_setting_20 : decode cX8_setting 20 = .ok (.iadd, 1) := by decide +kernel
theorem dX8_setting_21 : decode cX8_setting 21 = .ok (.iaload, 1) := by decide +kernel
theorem dX8_setting_22 : decode cX8_setting 22 = .ok (.goto 8, 3) := by decide +kernel
theorem dX8_setting_25 : decode cX8_setting 25 = .ok (.aload_n 0, 1) := by decide +kernel
theorem dX8_setting_26 : decode cX8_setting 26 = .ok (.iconst 1, 1) := by decide +kernel
theorem dX8_setting_27 : decode cX8_setting 27 = .ok (.invokevirtual 165, 3) := by decide +kernel
theorem dX8_setting_30 : decode cX8_setting 30 = .ok (.ireturn, 1) := by decide +kernel
theorem dX8_bend_0 : decode cX8_bend 0 = .ok (.aload_n 0, 1) := by decide +kernel
theorem dX8_bend_1 : decode cX8_bend 1 = .ok (.iconst 0, 1) := by decide +kernel
theorem dX8_bend_2 : decode cX8_bend 2 = .ok (.putfield 38, 3) := by decide +kernel
theorem dX8_bend_5 : decode cX8_bend 5 = .ok (.iload_n 1, 1) := by decide +kernel
theorem dX8_bend_6 : decode cX8_bend 6 = .ok (.iconst 0, 1) := by decide +kernel
theorem dX8_bend_7 : decode cX8_bend 7 = .ok (.iconst 1, 1) := by decide +kernel
theorem dX8_bend_8 : decode cX8_bend 8 = .ok (.invokestatic 48, 3) := by decide +kernel
theorem dX8_bend_11 : decode cX8_bend 11 = .ok (.ifCond .eq 27, 3) := by decide +kernel
theorem dX8_bend_14 : decode cX8_bend 14 = .ok (.iload_n 2, 1) := by decide +kernel
theorem dX8_bend_15 : decode cX8_bend 15 = .ok (.iconst 0, 1) := by decide +kernel
theorem dX8_bend_16 : decode cX8_bend 16 = .ok (.iconst 3, 1) := by decide +kernel
theorem dX8_bend_17 : decode cX8_bend 17 = .ok (.invokestatic 48, 3) := by decide +kernel
theorem dX8_bend_20 : decode cX8_bend 20 = .ok (.ifCond .eq 18, 3) := by decide +kernel
theorem dX8_bend_23 : decode cX8_bend 23 = .ok (.aload_n 0, 1) := by decide +kernel
theorem dX8_bend_24 : decode cX8_bend 24 = .ok (.getfield 7, 3) := by decide +kernel
theorem dX8_bend_27 : decode cX8_bend 27 = .ok (.iconst 5, 1) := by decide +kernel
theorem dX8_bend_28 : decode cX8_bend 28 = .ok (.iconst 4, 1) := by decide +kernel
theorem dX8_bend_29 : decode cX8_bend 29 = .ok (.iload_n 1, 1) := by decide +kernel
theorem dX8_bend_30 : decode cX8_bend 30 = .ok (.imul, 1) := by decide +kernel
theorem dX8_bend_31 : decode cX8_bend 31 = .ok (.iadd, 1) := by decide +kernel
theorem dX8_bend_32 : decode cX8_bend 32 = .ok (.iload_n 2, 1) := by decide +kernel
theorem dX8_bend_33 : decode cX8_bend 33 = .ok (.iadd, 1) := by decide +kernel
theorem dX8_bend_34 : decode cX8_bend 34 = .ok (.iaload, 1) := by decide +kernel
theorem dX8_bend_35 : decode cX8_bend 35 = .ok (.goto 8, 3) := by decide +kernel
theorem dX8_bend_38 : decode cX8_bend 38 = .ok (.aload_n 0, 1) := by decide +kernel
theorem dX8_bend_39 : decode cX8_bend 39 = .ok (.iconst 1, 1) := by decide +kernel
theorem dX8_bend_40 : decode cX8_bend 40 = .ok (.invokevirtual 165, 3) := by decide +kernel
theorem dX8_bend_43 : decode cX8_bend 43 = .ok (.ireturn, 1) := by decide +kernel
theorem dX8_missOf_0 : decode cX8_missOf 0 = .ok (.aload_n 0, 1) := by decide +kernel
theorem dX8_missOf_1 : decode cX8_missOf 1 = .ok (.aload_n 0, 1) := by decide +kernel
theorem dX8_missOf_2 : decode cX8_missOf 2 = .ok (.iload_n 1, 1) := by decide +kernel
theorem dX8_missOf_3 : decode cX8_missOf 3 = .ok (.invokevirtual 120, 3) := by decide +kernel
theorem dX8_missOf_6 : decode cX8_missOf 6 = .ok (.ifCond .eq 7, 3) := by decide +kernel
theorem dX8_missOf_9 : decode cX8_missOf 9 = .ok (.iconst 0, 1) := by decide +kernel
theorem dX8_missOf_10 : decode cX8_missOf 10 = .ok (.goto 4, 3) := by decide +kernel
theorem dX8_missOf_13 : decode cX8_missOf 13 = .ok (.iconst 1, 1) := by decide +kernel
theorem dX8_missOf_14 : decode cX8_missOf 14 = .ok (.putfield 38, 3) := by decide +kernel
theorem dX8_missOf_17 : decode cX8_missOf 17 = .ok (.aload_n 0, 1) := by decide +kernel
theorem dX8_missOf_18 : decode cX8_missOf 18 = .ok (.getfield 38, 3) := by decide +kernel
theorem dX8_missOf_21 : decode cX8_missOf 21 = .ok (.iconst 1, 1) := by decide +kernel
theorem dX8_missOf_22 : decode cX8_missOf 22 = .ok (.if_icmp .ne 5, 3) := by decide +kernel
theorem dX8_missOf_25 : decode cX8_missOf 25 = .ok (.dconst 0, 1) := by decide +kernel
theorem dX8_missOf_26 : decode cX8_missOf 26 = .ok (.dreturn, 1) := by decide +kernel
theorem dX8_missOf_27 : decode cX8_missOf 27 = .ok (.aload_n 0, 1) := by decide +kernel
theorem dX8_missOf_28 : decode cX8_missOf 28 = .ok (.iload_n 1, 1) := by decide +kernel
theorem dX8_missOf_29 : decode cX8_missOf 29 = .ok (.aload_n 0, 1) := by decide +kernel
theorem dX8_missOf_30 : decode cX8_missOf 30 = .ok (.getfield 7, 3) := by decide +kernel
theorem dX8_missOf_33 : decode cX8_missOf 33 = .ok (.bipush 13, 2) := by decide +kernel
theorem dX8_missOf_35 : decode cX8_missOf 35 = .ok (.iaload, 1) := by decide +kernel
theorem dX8_missOf_36 : decode cX8_missOf 36 = .ok (.invokevirtual 105, 3) := by decide +kernel
theorem dX8_missOf_39 : decode cX8_missOf 39 = .ok (.aload_n 0, 1) := by decide +kernel
theorem dX8_missOf_40 : decode cX8_missOf 40 = .ok (.getfield 94, 3) := by decide +kernel
theorem dX8_missOf_43 : decode cX8_missOf 43 = .ok (.aload_n 0, 1) := by decide +kernel
theorem dX8_missOf_44 : decode cX8_missOf 44 = .ok (.getfield 98, 3) := by decide +kernel
theorem dX8_missOf_47 : decode cX8_missOf 47 = .ok (.invokestatic 101, 3) := by decide +kernel
theorem dX8_missOf_50 : decode cX8_missOf 50 = .ok (.dreturn, 1) := by decide +kernel
theorem dX8_slewTo_0 : decode cX8_slewTo 0 = .ok (.aload_n 0, 1) := by decide +kernel
theorem dX8_slewTo_1 : decode cX8_slewTo 1 = .ok (.iconst 0, 1) := by decide +kernel
theorem dX8_slewTo_2 : decode cX8_slewTo 2 = .ok (.putfield 38, 3) := by decide +kernel
theorem dX8_slewTo_5 : decode cX8_slewTo 5 = .ok (.aload_n 0, 1) := by decide +kernel
theorem dX8_slewTo_6 : decode cX8_slewTo 6 = .ok (.iload_n 1, 1) := by decide +kernel
theorem dX8_slewTo_7 : decode cX8_slewTo 7 = .ok (.invokevirtual 120, 3) := by decide +kernel
theorem dX8_slewTo_10 : decode cX8_slewTo 10 = .ok (.ifCond .eq 11, 3) := by decide +kernel
theorem dX8_slewTo_13 : decode cX8_slewTo 13 = .ok (.aload_n 0, 1) := by decide +kernel
theorem dX8_slewTo_14 : decode cX8_slewTo 14 = .ok (.iload_n 1, 1) := by decide +kernel
theorem dX8_slewTo_15 : decode cX8_slewTo 15 = .ok (.invokevirtual 113, 3) := by decide +kernel
theorem dX8_slewTo_18 : decode cX8_slewTo 18 = .ok (.goto 8, 3) := by decide +kernel
theorem dX8_slewTo_21 : decode cX8_slewTo 21 = .ok (.aload_n 0, 1) := by decide +kernel
theorem dX8_slewTo_22 : decode cX8_slewTo 22 = .ok (.iconst 1, 1) := by decide +kernel
theorem dX8_slewTo_23 : decode cX8_slewTo 23 = .ok (.invokevirtual 165, 3) := by decide +kernel
theorem dX8_slewTo_26 : decode cX8_slewTo 26 = .ok (.ireturn, 1) := by decide +kernel
theorem dX8_found_0 : decode cX8_found 0 = .ok (.aload_n 0, 1) := by decide +kernel
theorem dX8_found_1 : decode cX8_found 1 = .ok (.iconst 0, 1) := by decide +kernel
theorem dX8_found_2 : decode cX8_found 2 = .ok (.putfield 38, 3) := by decide +kernel
theorem dX8_found_5 : decode cX8_found 5 = .ok (.iconst 0, 1) := by decide +kernel
theorem dX8_found_6 : decode cX8_found 6 = .ok (.istore_n 1, 1) := by decide +kernel
theorem dX8_found_7 : decode cX8_found 7 = .ok (.iconst 0, 1) := by decide +kernel
theorem dX8_found_8 : decode cX8_found 8 = .ok (.istore_n 2, 1) := by decide +kernel
theorem dX8_found_9 : decode cX8_found 9 = .ok (.iload_n 2, 1) := by decide +kernel
theorem dX8_found_10 : decode cX8_found 10 = .ok (.aload_n 0, 1) := by decide +kernel
theorem dX8_found_11 : decode cX8_found 11 = .ok (.getfield 7, 3) := by decide +kernel
theorem dX8_found_14 : decode cX8_found 14 = .ok (.bipush 20, 2) := by decide +kernel
theorem dX8_found_16 : decode cX8_found 16 = .ok (.iaload, 1) := by decide +kernel
theorem dX8_found_17 : decode cX8_found 17 = .ok (.if_icmp .ge 38, 3) := by decide +kernel
theorem dX8_found_20 : decode cX8_found 20 = .ok (.aload_n 0, 1) := by decide +kernel
theorem dX8_found_21 : decode cX8_found 21 = .ok (.iload_n 2, 1) := by decide +kernel
theorem dX8_found_22 : decode cX8_found 22 = .ok (.aload_n 0, 1) := by decide +kernel
theorem dX8_found_23 : decode cX8_found 23 = .ok (.getfield 7, 3) := by decide +kernel
theorem dX8_found_26 : decode cX8_found 26 = .ok (.bipush 13, 2) := by decide +kernel
theorem dX8_found_28 : decode cX8_found 28 = .ok (.iaload, 1) := by decide +kernel
theorem dX8_found_29 : decode cX8_found 29 = .ok (.invokevirtual 105, 3) := by decide +kernel
theorem dX8_found_32 : decode cX8_found 32 = .ok (.iload_n 1, 1) := by decide +kernel
theorem dX8_found_33 : decode cX8_found 33 = .ok (.aload_n 0, 1) := by decide +kernel
theorem dX8_found_34 : decode cX8_found 34 = .ok (.invokevirtual 116, 3) := by decide +kernel
theorem dX8_found_37 : decode cX8_found 37 = .ok (.ifCond .eq 9, 3) := by decide +kernel
theorem dX8_found_40 : decode cX8_found 40 = .ok (.iconst 1, 1) := by decide +kernel
theorem dX8_found_41 : decode cX8_found 41 = .ok (.iload_n 2, 1) := by decide +kernel
theorem dX8_found_42 : decode cX8_found 42 = .ok (.ishl, 1) := by decide +kernel
theorem dX8_found_43 : decode cX8_found 43 = .ok (.goto 4, 3) := by decide +kernel
theorem dX8_found_46 : decode cX8_found 46 = .ok (.iconst 0, 1) := by decide +kernel
theorem dX8_found_47 : decode cX8_found 47 = .ok (.ior, 1) := by decide +kernel
theorem dX8_found_48 : decode cX8_found 48 = .ok (.istore_n 1, 1) := by decide +kernel
theorem dX8_found_49 : decode cX8_found 49 = .ok (.iinc 2 1, 3) := by decide +kernel
theorem dX8_found_52 : decode cX8_found 52 = .ok (.goto (-43), 3) := by decide +kernel
theorem dX8_found_55 : decode cX8_found 55 = .ok (.iload_n 1, 1) := by decide +kernel
theorem dX8_found_56 : decode cX8_found 56 = .ok (.ireturn, 1) := by decide +kernel
theorem dX8_nearest_0 : decode cX8_nearest 0 = .ok (.aload_n 0, 1) := by decide +kernel
theorem dX8_nearest_1 : decode cX8_nearest 1 = .ok (.iconst 0, 1) := by decide +kernel
theorem dX8_nearest_2 : decode cX8_nearest 2 = .ok (.putfield 38, 3) := by decide +kernel
theorem dX8_nearest_5 : decode cX8_nearest 5 = .ok (.iconst (-1), 1) := by decide +kernel
theorem dX8_nearest_6 : decode cX8_nearest 6 = .ok (.istore_n 1, 1) := by decide +kernel
theorem dX8_nearest_7 : decode cX8_nearest 7 = .ok (.iconst 0, 1) := by decide +kernel
theorem dX8_nearest_8 : decode cX8_nearest 8 = .ok (.istore_n 2, 1) := by decide +kernel
theorem dX8_nearest_9 : decode cX8_nearest 9 = .ok (.iconst 0, 1) := by decide +kernel
theorem dX8_nearest_10 : decode cX8_nearest 10 = .ok (.istore_n 3, 1) := by decide +kernel
theorem dX8_nearest_11 : decode cX8_nearest 11 = .ok (.iload_n 3, 1) := by decide +kernel
theorem dX8_nearest_12 : decode cX8_nearest 12 = .ok (.aload_n 0, 1) := by decide +kernel
theorem dX8_nearest_13 : decode cX8_nearest 13 = .ok (.getfield 7, 3) := by decide +kernel
theorem dX8_nearest_16 : decode cX8_nearest 16 = .ok (.bipush 20, 2) := by decide +kernel
theorem dX8_nearest_18 : decode cX8_nearest 18 = .ok (.iaload, 1) := by decide +kernel
theorem dX8_nearest_19 : decode cX8_nearest 19 = .ok (.if_icmp .ge 64, 3) := by decide +kernel
theorem dX8_nearest_22 : decode cX8_nearest 22 = .ok (.aload_n 0, 1) := by decide +kernel
theorem dX8_nearest_23 : decode cX8_nearest 23 = .ok (.iload_n 3, 1) := by decide +kernel
theorem dX8_nearest_24 : decode cX8_nearest 24 = .ok (.invokevirtual 113, 3) := by decide +kernel
theorem dX8_nearest_27 : decode cX8_nearest 27 = .ok (.istore 4, 2) := by decide +kernel
theorem dX8_nearest_29 : decode cX8_nearest 29 = .ok (.aload_n 0, 1) := by decide +kernel
theorem dX8_nearest_30 : decode cX8_nearest 30 = .ok (.iload_n 3, 1) := by decide +kernel
theorem dX8_nearest_31 : decode cX8_nearest 31 = .ok (.invokevirtual 127, 3) := by decide +kernel
theorem dX8_nearest_34 : decode cX8_nearest 34 = .ok (.ifCond .eq 17, 3) := by decide +kernel
theorem dX8_nearest_37 : decode cX8_nearest 37 = .ok (.iload_n 1, 1) := by decide +kernel
theorem dX8_nearest_38 : decode cX8_nearest 38 = .ok (.ifCond .lt 9, 3) := by decide +kernel
theorem dX8_nearest_41 : decode cX8_nearest 41 = .ok (.iload 4, 2) := by decide +kernel
theorem dX8_nearest_43 : decode cX8_nearest 43 = .ok (.iload_n 2, 1) := by decide +kernel
theorem dX8_nearest_44 : decode cX8_nearest 44 = .ok (.if_icmp .ge 7, 3) := by decide +kernel
theorem dX8_nearest_47 : decode cX8_nearest 47 = .ok (.iconst 1, 1) := by decide +kernel
theorem dX8_nearest_48 : decode cX8_nearest 48 = .ok (.goto 4, 3) := by decide +kernel
theorem dX8_nearest_51 : decode cX8_nearest 51 = .ok (.iconst 0, 1) := by decide +kernel
theorem dX8_nearest_52 : decode cX8_nearest 52 = .ok (.istore 5, 2) := by decide +kernel
theorem dX8_nearest_54 : decode cX8_nearest 54 = .ok (.iload 5, 2) := by decide +kernel
theorem dX8_nearest_56 : decode cX8_nearest 56 = .ok (.ifCond .eq 7, 3) := by decide +kernel
theorem dX8_nearest_59 : decode cX8_nearest 59 = .ok (.iload_n 3, 1) := by decide +kernel
theorem dX8_nearest_60 : decode cX8_nearest 60 = .ok (.goto 4, 3) := by decide +kernel
theorem dX8_nearest_63 : decode cX8_nearest 63 = .ok (.iload_n 1, 1) := by decide +kernel
theorem dX8_nearest_64 : decode cX8_nearest 64 = .ok (.istore_n 1, 1) := by decide +kernel
theorem dX8_nearest_65 : decode cX8_nearest 65 = .ok (.iload 5, 2) := by decide +kernel
theorem dX8_nearest_67 : decode cX8_nearest 67 = .ok (.ifCond .eq 8, 3) := by decide +kernel
theorem dX8_nearest_70 : decode cX8_nearest 70 = .ok (.iload 4, 2) := by decide +kernel
theorem dX8_nearest_72 : decode cX8_nearest 72 = .ok (.goto 4, 3) := by decide +kernel
theorem dX8_nearest_75 : decode cX8_nearest 75 = .ok (.iload_n 2, 1) := by decide +kernel
theorem dX8_nearest_76 : decode cX8_nearest 76 = .ok (.istore_n 2, 1) := by decide +kernel
theorem dX8_nearest_77 : decode cX8_nearest 77 = .ok (.iinc 3 1, 3) := by decide +kernel
theorem dX8_nearest_80 : decode cX8_nearest 80 = .ok (.goto (-69), 3) := by decide +kernel
theorem dX8_nearest_83 : decode cX8_nearest 83 = .ok (.iload_n 1, 1) := by decide +kernel
theorem dX8_nearest_84 : decode cX8_nearest 84 = .ok (.ireturn, 1) := by decide +kernel
theorem dX8_isOrder_0 : decode cX8_isOrder 0 = .ok (.iload_n 1, 1) := by decide +kernel
theorem dX8_isOrder_1 : decode cX8_isOrder 1 = .ok (.istore_n 3, 1) := by decide +kernel
theorem dX8_isOrder_2 : decode cX8_isOrder 2 = .ok (.iconst 0, 1) := by decide +kernel
theorem dX8_isOrder_3 : decode cX8_isOrder 3 = .ok (.istore 4, 2) := by decide +kernel
theorem dX8_isOrder_5 : decode cX8_isOrder 5 = .ok (.iload_n 2, 1) := by decide +kernel
theorem dX8_isOrder_6 : decode cX8_isOrder 6 = .ok (.iconst 1, 1) := by decide +kernel
theorem dX8_isOrder_7 : decode cX8_isOrder 7 = .ok (.isub, 1) := by decide +kernel
theorem dX8_isOrder_8 : decode cX8_isOrder 8 = .ok (.istore 5, 2) := by decide +kernel
theorem dX8_isOrder_10 : decode cX8_isOrder 10 = .ok (.iload 5, 2) := by decide +kernel
theorem dX8_isOrder_12 : decode cX8_isOrder 12 = .ok (.ifCond .lt 37, 3) := by decide +kernel
theorem dX8_isOrder_15 : decode cX8_isOrder 15 = .ok (.aload_n 0, 1) := by decide +kernel
theorem dX8_isOrder_16 : decode cX8_isOrder 16 = .ok (.getfield 32, 3) := by decide +kernel
theorem dX8_isOrder_19 : decode cX8_isOrder 19 = .ok (.iload 5, 2) := by decide +kernel
theorem dX8_isOrder_21 : decode cX8_isOrder 21 = .ok (.iload_n 3, 1) := by decide +kernel
theorem dX8_isOrder_22 : decode cX8_isOrder 22 = .ok (.iload_n 2, 1) := by decide +kernel
theorem dX8_isOrder_23 : decode cX8_isOrder 23 = .ok (.irem, 1) := by decide +kernel
theorem dX8_isOrder_24 : decode cX8_isOrder 24 = .ok (.iastore, 1) := by decide +kernel
theorem dX8_isOrder_25 : decode cX8_isOrder 25 = .ok (.iload 4, 2) := by decide +kernel
theorem dX8_isOrder_27 : decode cX8_isOrder 27 = .ok (.iconst 1, 1) := by decide +kernel
theorem dX8_isOrder_28 : decode cX8_isOrder 28 = .ok (.aload_n 0, 1) := by decide +kernel
theorem dX8_isOrder_29 : decode cX8_isOrder 29 = .ok (.getfield 32, 3) := by decide +kernel
theorem dX8_isOrder_32 : decode cX8_isOrder 32 = .ok (.iload 5, 2) := by decide +kernel
theorem dX8_isOrder_34 : decode cX8_isOrder 34 = .ok (.iaload, 1) := by decide +kernel
theorem dX8_isOrder_35 : decode cX8_isOrder 35 = .ok (.ishl, 1) := by decide +kernel
theorem dX8_isOrder_36 : decode cX8_isOrder 36 = .ok (.ior, 1) := by decide +kernel
theorem dX8_isOrder_37 : decode cX8_isOrder 37 = .ok (.istore 4, 2) := by decide +kernel
theorem dX8_isOrder_39 : decode cX8_isOrder 39 = .ok (.iload_n 3, 1) := by decide +kernel
theorem dX8_isOrder_40 : decode cX8_isOrder 40 = .ok (.iload_n 2, 1) := by decide +kernel
theorem dX8_isOrder_41 : decode cX8_isOrder 41 = .ok (.idiv, 1) := by decide +kernel
theorem dX8_isOrder_42 : decode cX8_isOrder 42 = .ok (.istore_n 3, 1) := by decide +kernel
theorem dX8_isOrder_43 : decode cX8_isOrder 43 = .ok (.iinc 5 (-1), 3) := by decide +kernel
theorem dX8_isOrder_46 : decode cX8_isOrder 46 = .ok (.goto (-36), 3) := by decide +kernel
theorem dX8_isOrder_49 : decode cX8_isOrder 49 = .ok (.iload 4, 2) := by decide +kernel
theorem dX8_isOrder_51 : decode cX8_isOrder 51 = .ok (.iconst 1, 1) := by decide +kernel
theorem dX8_isOrder_52 : decode cX8_isOrder 52 = .ok (.iload_n 2, 1) := by decide +kernel
theorem dX8_isOrder_53 : decode cX8_isOrder 53 = .ok (.ishl, 1) := by decide +kernel
theorem dX8_isOrder_54 : decode cX8_isOrder 54 = .ok (.iconst 1, 1) := by decide +kernel
theorem dX8_isOrder_55 : decode cX8_isOrder 55 = .ok (.isub, 1) := by decide +kernel
theorem dX8_isOrder_56 : decode cX8_isOrder 56 = .ok (.if_icmp .ne 7, 3) := by decide +kernel
theorem dX8_isOrder_59 : decode cX8_isOrder 59 = .ok (.iconst 1, 1) := by decide +kernel
theorem dX8_isOrder_60 : decode cX8_isOrder 60 = .ok (.goto 4, 3) := by decide +kernel
theorem dX8_isOrder_63 : decode cX8_isOrder 63 = .ok (.iconst 0, 1) := by decide +kernel
theorem dX8_isOrder_64 : decode cX8_isOrder 64 = .ok (.ireturn, 1) := by decide +kernel
theorem dX8_timeOfRow_0 : decode cX8_timeOfRow 0 = .ok (.aload_n 0, 1) := by decide +kernel
theorem dX8_timeOfRow_1 : decode cX8_timeOfRow 1 = .ok (.getfield 7, 3) := by decide +kernel
theorem dX8_timeOfRow_4 : decode cX8_timeOfRow 4 = .ok (.bipush 13, 2) := by decide +kernel
theorem dX8_timeOfRow_6 : decode cX8_timeOfRow 6 = .ok (.iaload, 1) := by decide +kernel
theorem dX8_timeOfRow_7 : decode cX8_timeOfRow 7 = .ok (.istore_n 2, 1) := by decide +kernel
theorem dX8_timeOfRow_8 : decode cX8_timeOfRow 8 = .ok (.aload_n 0, 1) := by decide +kernel
theorem dX8_timeOfRow_9 : decode cX8_timeOfRow 9 = .ok (.getfield 7, 3) := by decide +kernel
theorem dX8_timeOfRow_12 : decode cX8_timeOfRow 12 = .ok (.bipush 14, 2) := by decide +kernel
theorem dX8_timeOfRow_14 : decode cX8_timeOfRow 14 = .ok (.iaload, 1) := by decide +kernel
theorem dX8_timeOfRow_15 : decode cX8_timeOfRow 15 = .ok (.istore_n 3, 1) := by decide +kernel
theorem dX8_timeOfRow_16 : decode cX8_timeOfRow 16 = .ok (.aload_n 0, 1) := by decide +kernel
theorem dX8_timeOfRow_17 : decode cX8_timeOfRow 17 = .ok (.getfield 7, 3) := by decide +kernel
theorem dX8_timeOfRow_20 : decode cX8_timeOfRow 20 = .ok (.bipush 15, 2) := by decide +kernel
theorem dX8_timeOfRow_22 : decode cX8_timeOfRow 22 = .ok (.iaload, 1) := by decide +kernel
theorem dX8_timeOfRow_23 : decode cX8_timeOfRow 23 = .ok (.istore 4, 2) := by decide +kernel
theorem dX8_timeOfRow_25 : decode cX8_timeOfRow 25 = .ok (.iconst 0, 1) := by decide +kernel
theorem dX8_timeOfRow_26 : decode cX8_timeOfRow 26 = .ok (.istore 5, 2) := by decide +kernel
theorem dX8_timeOfRow_28 : decode cX8_timeOfRow 28 = .ok (.iconst 0, 1) := by decide +kernel
theorem dX8_timeOfRow_29 : decode cX8_timeOfRow 29 = .ok (.istore 6, 2) := by decide +kernel
theorem dX8_timeOfRow_31 : decode cX8_timeOfRow 31 = .ok (.iload 6, 2) := by decide +kernel
theorem dX8_timeOfRow_33 : decode cX8_timeOfRow 33 = .ok (.iload_n 1, 1) := by decide +kernel
theorem dX8_timeOfRow_34 : decode cX8_timeOfRow 34 = .ok (.if_icmp .ge 63, 3) := by decide +kernel
theorem dX8_timeOfRow_37 : decode cX8_timeOfRow 37 = .ok (.aload_n 0, 1) := by decide +kernel
theorem dX8_timeOfRow_38 : decode cX8_timeOfRow 38 = .ok (.getfield 35, 3) := by decide +kernel
theorem dX8_timeOfRow_41 : decode cX8_timeOfRow 41 = .ok (.aload_n 0, 1) := by decide +kernel
theorem dX8_timeOfRow_42 : decode cX8_timeOfRow 42 = .ok (.getfield 32, 3) := by decide +kernel
theorem dX8_timeOfRow_45 : decode cX8_timeOfRow 45 = .ok (.iload 6, 2) := by decide +kernel
theorem dX8_timeOfRow_47 : decode cX8_timeOfRow 47 = .ok (.iaload, 1) := by decide +kernel
theorem dX8_timeOfRow_48 : decode cX8_timeOfRow 48 = .ok (.iaload, 1) := by decide +kernel
theorem dX8_timeOfRow_49 : decode cX8_timeOfRow 49 = .ok (.istore 7, 2) := by decide +kernel
theorem dX8_timeOfRow_51 : decode cX8_timeOfRow 51 = .ok (.aload_n 0, 1) := by decide +kernel
theorem dX8_timeOfRow_52 : decode cX8_timeOfRow 52 = .ok (.iload 7, 2) := by decide +kernel
theorem dX8_timeOfRow_54 : decode cX8_timeOfRow 54 = .ok (.iload_n 2, 1) := by decide +kernel
theorem dX8_timeOfRow_55 : decode cX8_timeOfRow 55 = .ok (.invokevirtual 105, 3) := by decide +kernel
theorem dX8_timeOfRow_58 : decode cX8_timeOfRow 58 = .ok (.iload 5, 2) := by decide +kernel
theorem dX8_timeOfRow_60 : decode cX8_timeOfRow 60 = .ok (.aload_n 0, 1) := by decide +kernel
theorem dX8_timeOfRow_61 : decode cX8_timeOfRow 61 = .ok (.iload 7, 2) := by decide +kernel
theorem dX8_timeOfRow_63 : decode cX8_timeOfRow 63 = .ok (.iload_n 2, 1) := by decide +kernel
theorem dX8_timeOfRow_64 : decode cX8_timeOfRow 64 = .ok (.iload_n 3, 1) := by decide +kernel
theorem dX8_timeOfRow_65 : decode cX8_timeOfRow 65 = .ok (.iload 4, 2) := by decide +kernel
theorem dX8_timeOfRow_67 : decode cX8_timeOfRow 67 = .ok (.invokevirtual 109, 3) := by decide +kernel
theorem dX8_timeOfRow_70 : decode cX8_timeOfRow 70 = .ok (.iadd, 1) := by decide +kernel
theorem dX8_timeOfRow_71 : decode cX8_timeOfRow 71 = .ok (.istore 5, 2) := by decide +kernel
theorem dX8_timeOfRow_73 : decode cX8_timeOfRow 73 = .ok (.aload_n 0, 1) := by decide +kernel
theorem dX8_timeOfRow_74 : decode cX8_timeOfRow 74 = .ok (.getfield 84, 3) := by decide +kernel
theorem dX8_timeOfRow_77 : decode cX8_timeOfRow 77 = .ok (.istore_n 2, 1) := by decide +kernel
theorem dX8_timeOfRow_78 : decode cX8_timeOfRow 78 = .ok (.aload_n 0, 1) := by decide +kernel
theorem dX8_timeOfRow_79 : decode cX8_timeOfRow 79 = .ok (.getfield 81, 3) := by decide +kernel
theorem dX8_timeOfRow_82 : decode cX8_timeOfRow 82 = .ok (.istore_n 3, 1) := by decide +kernel
theorem dX8_timeOfRow_83 : decode cX8_timeOfRow 83 = .ok (.aload_n 0, 1) := by decide +kernel
theorem dX8_timeOfRow_84 : decode cX8_timeOfRow 84 = .ok (.iload 7, 2) := by decide +kernel
theorem dX8_timeOfRow_86 : decode cX8_timeOfRow 86 = .ok (.invokevirtual 87, 3) := by decide +kernel
theorem dX8_timeOfRow_89 : decode cX8_timeOfRow 89 = .ok (.istore 4, 2) := by decide +kernel
theorem dX8_timeOfRow_91 : decode cX8_timeOfRow 91 = .ok (.iinc 6 1, 3) := by decide +kernel
theorem dX8_timeOfRow_94 : decode cX8_timeOfRow 94 = .ok (.goto (-63), 3) := by decide +kernel
theorem dX8_timeOfRow_97 : decode cX8_timeOfRow 97 = .ok (.iload 5, 2) := by decide +kernel
theorem dX8_timeOfRow_99 : decode cX8_timeOfRow 99 = .ok (.ireturn, 1) := by decide +kernel
theorem dX8_bestOrder_0 : decode cX8_bestOrder 0 = .ok (.iconst 1, 1) := by decide +kernel
theorem dX8_bestOrder_1 : decode cX8_bestOrder 1 = .ok (.istore_n 2, 1) := by decide +kernel
theorem dX8_bestOrder_2 : decode cX8_bestOrder 2 = .ok (.iconst 0, 1) := by decide +kernel
theorem dX8_bestOrder_3 : decode cX8_bestOrder 3 = .ok (.istore_n 3, 1) := by decide +kernel
theorem dX8_bestOrder_4 : decode cX8_bestOrder 4 = .ok (.iload_n 3, 1) := by decide +kernel
theorem dX8_bestOrder_5 : decode cX8_bestOrder 5 = .ok (.iload_n 1, 1) := by decide +kernel
theorem dX8_bestOrder_6 : decode cX8_bestOrder 6 = .ok (.if_icmp .ge 13, 3) := by decide +kernel
theorem dX8_bestOrder_9 : decode cX8_bestOrder 9 = .ok (.iload_n 2, 1) := by decide +kernel
theorem dX8_bestOrder_10 : decode cX8_bestOrder 10 = .ok (.iload_n 1, 1) := by decide +kernel
theorem dX8_bestOrder_11 : decode cX8_bestOrder 11 = .ok (.imul, 1) := by decide +kernel
theorem dX8_bestOrder_12 : decode cX8_bestOrder 12 = .ok (.istore_n 2, 1) := by decide +kernel
theorem dX8_bestOrder_13 : decode cX8_bestOrder 13 = .ok (.iinc 3 1, 3) := by decide +kernel
theorem dX8_bestOrder_16 : decode cX8_bestOrder 16 = .ok (.goto (-12), 3) := by decide +kernel
theorem dX8_bestOrder_19 : decode cX8_bestOrder 19 = .ok (.iconst (-1), 1) := by decide +kernel
theorem dX8_bestOrder_20 : decode cX8_bestOrder 20 = .ok (.istore_n 3, 1) := by decide +kernel
theorem dX8_bestOrder_21 : decode cX8_bestOrder 21 = .ok (.iconst 0, 1) := by decide +kernel
theorem dX8_bestOrder_22 : decode cX8_bestOrder 22 = .ok (.istore 4, 2) := by decide +kernel
theorem dX8_bestOrder_24 : decode cX8_bestOrder 24 = .ok (.iconst 0, 1) := by decide +kernel
theorem dX8_bestOrder_25 : decode cX8_bestOrder 25 = .ok (.istore 5, 2) := by decide +kernel
theorem dX8_bestOrder_27 : decode cX8_bestOrder 27 = .ok (.iload 5, 2) := by decide +kernel
theorem dX8_bestOrder_29 : decode cX8_bestOrder 29 = .ok (.iload_n 2, 1) := by decide +kernel
theorem dX8_bestOrder_30 : decode cX8_bestOrder 30 = .ok (.if_icmp .ge 79, 3) := by decide +kernel
theorem dX8_bestOrder_33 : decode cX8_bestOrder 33 = .ok (.aload_n 0, 1) := by decide +kernel
theorem dX8_bestOrder_34 : decode cX8_bestOrder 34 = .ok (.iload 5, 2) := by decide +kernel
theorem dX8_bestOrder_36 : decode cX8_bestOrder 36 = .ok (.iload_n 1, 1) := by decide +kernel
theorem dX8_bestOrder_37 : decode cX8_bestOrder 37 = .ok (.invokevirtual 182, 3) := by decide +kernel
theorem dX8_bestOrder_40 : decode cX8_bestOrder 40 = .ok (.ifCond .eq 11, 3) := by decide +kernel
theorem dX8_bestOrder_43 : decode cX8_bestOrder 43 = .ok (.aload_n 0, 1) := by decide +kernel
theorem dX8_bestOrder_44 : decode cX8_bestOrder 44 = .ok (.iload_n 1, 1) := by decide +kernel
theorem dX8_bestOrder_45 : decode cX8_bestOrder 45 = .ok (.invokevirtual 186, 3) := by decide +kernel
theorem dX8_bestOrder_48 : decode cX8_bestOrder 48 = .ok (.goto 4, 3) := by decide +kernel
theorem dX8_bestOrder_51 : decode cX8_bestOrder 51 = .ok (.iconst (-1), 1) := by decide +kernel
theorem dX8_bestOrder_52 : decode cX8_bestOrder 52 = .ok (.istore 6, 2) := by decide +kernel
theorem dX8_bestOrder_54 : decode cX8_bestOrder 54 = .ok (.iload 6, 2) := by decide +kernel
theorem dX8_bestOrder_56 : decode cX8_bestOrder 56 = .ok (.ifCond .lt 18, 3) := by decide +kernel
theorem dX8_bestOrder_59 : decode cX8_bestOrder 59 = .ok (.iload_n 3, 1) := by decide +kernel
theorem dX8_bestOrder_60 : decode cX8_bestOrder 60 = .ok (.ifCond .lt 10, 3) := by decide +kernel
theorem dX8_bestOrder_63 : decode cX8_bestOrder 63 = .ok (.iload 6, 2) := by decide +kernel
theorem dX8_bestOrder_65 : decode cX8_bestOrder 65 = .ok (.iload 4, 2) := by decide +kernel
theorem dX8_bestOrder_67 : decode cX8_bestOrder 67 = .ok (.if_icmp .ge 7, 3) := by decide +kernel
theorem dX8_bestOrder_70 : decode cX8_bestOrder 70 = .ok (.iconst 1, 1) := by decide +kernel
theorem dX8_bestOrder_71 : decode cX8_bestOrder 71 = .ok (.goto 4, 3) := by decide +kernel
theorem dX8_bestOrder_74 : decode cX8_bestOrder 74 = .ok (.iconst 0, 1) := by decide +kernel
theorem dX8_bestOrder_75 : decode cX8_bestOrder 75 = .ok (.istore 7, 2) := by decide +kernel
theorem dX8_bestOrder_77 : decode cX8_bestOrder 77 = .ok (.iload 7, 2) := by decide +kernel
theorem dX8_bestOrder_79 : decode cX8_bestOrder 79 = .ok (.ifCond .eq 8, 3) := by decide +kernel
theorem dX8_bestOrder_82 : decode cX8_bestOrder 82 = .ok (.iload 5, 2) := by decide +kernel
theorem dX8_bestOrder_84 : decode cX8_bestOrder 84 = .ok (.goto 4, 3) := by decide +kernel
theorem dX8_bestOrder_87 : decode cX8_bestOrder 87 = .ok (.iload_n 3, 1) := by decide +kernel
theorem dX8_bestOrder_88 : decode cX8_bestOrder 88 = .ok (.istore_n 3, 1) := by decide +kernel
theorem dX8_bestOrder_89 : decode cX8_bestOrder 89 = .ok (.iload 7, 2) := by decide +kernel
theorem dX8_bestOrder_91 : decode cX8_bestOrder 91 = .ok (.ifCond .eq 8, 3) := by decide +kernel
theorem dX8_bestOrder_94 : decode cX8_bestOrder 94 = .ok (.iload 6, 2) := by decide +kernel
theorem dX8_bestOrder_96 : decode cX8_bestOrder 96 = .ok (.goto 5, 3) := by decide +kernel
theorem dX8_bestOrder_99 : decode cX8_bestOrder 99 = .ok (.iload 4, 2) := by decide +kernel
theorem dX8_bestOrder_101 : decode cX8_bestOrder 101 = .ok (.istore 4, 2) := by decide +kernel
theorem dX8_bestOrder_103 : decode cX8_bestOrder 103 = .ok (.iinc 5 1, 3) := by decide +kernel
theorem dX8_bestOrder_106 : decode cX8_bestOrder 106 = .ok (.goto (-79), 3) := by decide +kernel
theorem dX8_bestOrder_109 : decode cX8_bestOrder 109 = .ok (.iload_n 3, 1) := by decide +kernel
theorem dX8_bestOrder_110 : decode cX8_bestOrder 110 = .ok (.ireturn, 1) := by decide +kernel
theorem dX8_tour_0 : decode cX8_tour 0 = .ok (.aload_n 0, 1) := by decide +kernel
theorem dX8_tour_1 : decode cX8_tour 1 = .ok (.iconst 0, 1) := by decide +kernel
theorem dX8_tour_2 : decode cX8_tour 2 = .ok (.putfield 38, 3) := by decide +kernel
theorem dX8_tour_5 : decode cX8_tour 5 = .ok (.iconst 0, 1) := by decide +kernel
theorem dX8_tour_6 : decode cX8_tour 6 = .ok (.istore_n 3, 1) := by decide +kernel
theorem dX8_tour_7 : decode cX8_tour 7 = .ok (.iconst 0, 1) := by decide +kernel
theorem dX8_tour_8 : decode cX8_tour 8 = .ok (.istore 4, 2) := by decide +kernel
theorem dX8_tour_10 : decode cX8_tour 10 = .ok (.iload 4, 2) := by decide +kernel
theorem dX8_tour_12 : decode cX8_tour 12 = .ok (.bipush 32, 2) := by decide +kernel
theorem dX8_tour_14 : decode cX8_tour 14 = .ok (.if_icmp .ge 98, 3) := by decide +kernel
theorem dX8_tour_17 : decode cX8_tour 17 = .ok (.iload_n 1, 1) := by decide +kernel
theorem dX8_tour_18 : decode cX8_tour 18 = .ok (.iload 4, 2) := by decide +kernel
theorem dX8_tour_20 : decode cX8_tour 20 = .ok (.ishr, 1) := by decide +kernel
theorem dX8_tour_21 : decode cX8_tour 21 = .ok (.iconst 1, 1) := by decide +kernel
theorem dX8_tour_22 : decode cX8_tour 22 = .ok (.iand, 1) := by decide +kernel
theorem dX8_tour_23 : decode cX8_tour 23 = .ok (.iconst 1, 1) := by decide +kernel
theorem dX8_tour_24 : decode cX8_tour 24 = .ok (.if_icmp .ne 7, 3) := by decide +kernel
theorem dX8_tour_27 : decode cX8_tour 27 = .ok (.iconst 1, 1) := by decide +kernel
theorem dX8_tour_28 : decode cX8_tour 28 = .ok (.goto 4, 3) := by decide +kernel
theorem dX8_tour_31 : decode cX8_tour 31 = .ok (.iconst 0, 1) := by decide +kernel
theorem dX8_tour_32 : decode cX8_tour 32 = .ok (.istore 5, 2) := by decide +kernel
theorem dX8_tour_34 : decode cX8_tour 34 = .ok (.iload 5, 2) := by decide +kernel
theorem dX8_tour_36 : decode cX8_tour 36 = .ok (.ifCond .eq 26, 3) := by decide +kernel
theorem dX8_tour_39 : decode cX8_tour 39 = .ok (.iload 4, 2) := by decide +kernel
theorem dX8_tour_41 : decode cX8_tour 41 = .ok (.aload_n 0, 1) := by decide +kernel
theorem dX8_tour_42 : decode cX8_tour 42 = .ok (.getfield 7, 3) := by decide +kernel
theorem dX8_tour_45 : decode cX8_tour 45 = .ok (.bipush 20, 2) := by decide +kernel
theorem dX8_tour_47 : decode cX8_tour 47 = .ok (.iaload, 1) := by decide +kernel
theorem dX8_tour_48 : decode cX8_tour 48 = .ok (.if_icmp .ge 8, 3) := by decide +kernel
theorem dX8_tour_51 : decode cX8_tour 51 = .ok (.iload_n 3, 1) := by decide +kernel
theorem dX8_tour_52 : decode cX8_tour 52 = .ok (.iconst 5, 1) := by decide +kernel
theorem dX8_tour_53 : decode cX8_tour 53 = .ok (.if_icmp .ne 9, 3) := by decide +kernel
theorem dX8_tour_56 : decode cX8_tour 56 = .ok (.aload_n 0, 1) := by decide +kernel
theorem dX8_tour_57 : decode cX8_tour 57 = .ok (.iconst 1, 1) := by decide +kernel
theorem dX8_tour_58 : decode cX8_tour 58 = .ok (.invokevirtual 165, 3) := by decide +kernel
theorem dX8_tour_61 : decode cX8_tour 61 = .ok (.ireturn, 1) := by decide +kernel
theorem dX8_tour_62 : decode cX8_tour 62 = .ok (.aload_n 0, 1) := by decide +kernel
theorem dX8_tour_63 : decode cX8_tour 63 = .ok (.getfield 35, 3) := by decide +kernel
theorem dX8_tour_66 : decode cX8_tour 66 = .ok (.iload 5, 2) := by decide +kernel
theorem dX8_tour_68 : decode cX8_tour 68 = .ok (.ifCond .eq 7, 3) := by decide +kernel
theorem dX8_tour_71 : decode cX8_tour 71 = .ok (.iload_n 3, 1) := by decide +kernel
theorem dX8_tour_72 : decode cX8_tour 72 = .ok (.goto 4, 3) := by decide +kernel
theorem dX8_tour_75 : decode cX8_tour 75 = .ok (.iconst 4, 1) := by decide +kernel
theorem dX8_tour_76 : decode cX8_tour 76 = .ok (.iload 5, 2) := by decide +kernel
theorem dX8_tour_78 : decode cX8_tour 78 = .ok (.ifCond .eq 8, 3) := by decide +kernel
theorem dX8_tour_81 : decode cX8_tour 81 = .ok (.iload 4, 2) := by decide +kernel
theorem dX8_tour_83 : decode cX8_tour 83 = .ok (.goto 9, 3) := by decide +kernel
theorem dX8_tour_86 : decode cX8_tour 86 = .ok (.aload_n 0, 1) := by decide +kernel
theorem dX8_tour_87 : decode cX8_tour 87 = .ok (.getfield 35, 3) := by decide +kernel
theorem dX8_tour_90 : decode cX8_tour 90 = .ok (.iconst 4, 1) := by decide +kernel
theorem dX8_tour_91 : decode cX8_tour 91 = .ok (.iaload, 1) := by decide +kernel
theorem dX8_tour_92 : decode cX8_tour 92 = .ok (.iastore, 1) := by decide +kernel
theorem dX8_tour_93 : decode cX8_tour 93 = .ok (.iload_n 3, 1) := by decide +kernel
theorem dX8_tour_94 : decode cX8_tour 94 = .ok (.iload 5, 2) := by decide +kernel
theorem dX8_tour_96 : decode cX8_tour 96 = .ok (.ifCond .eq 7, 3) := by decide +kernel
theorem dX8_tour_99 : decode cX8_tour 99 = .ok (.iconst 1, 1) := by decide +kernel
theorem dX8_tour_100 : decode cX8_tour 100 = .ok (.goto 4, 3) := by decide +kernel
theorem dX8_tour_103 : decode cX8_tour 103 = .ok (.iconst 0, 1) := by decide +kernel
theorem dX8_tour_104 : decode cX8_tour 104 = .ok (.iadd, 1) := by decide +kernel
theorem dX8_tour_105 : decode cX8_tour 105 = .ok (.istore_n 3, 1) := by decide +kernel
theorem dX8_tour_106 : decode cX8_tour 106 = .ok (.iinc 4 1, 3) := by decide +kernel
theorem dX8_tour_109 : decode cX8_tour 109 = .ok (.goto (-99), 3) := by decide +kernel
theorem dX8_tour_112 : decode cX8_tour 112 = .ok (.iload_n 3, 1) := by decide +kernel
theorem dX8_tour_113 : decode cX8_tour 113 = .ok (.ifCond .ne 9, 3) := by decide +kernel
theorem dX8_tour_116 : decode cX8_tour 116 = .ok (.aload_n 0, 1) := by decide +kernel
theorem dX8_tour_117 : decode cX8_tour 117 = .ok (.iconst 1, 1) := by decide +kernel
theorem dX8_tour_118 : decode cX8_tour 118 = .ok (.invokevirtual 165, 3) := by decide +kernel
theorem dX8_tour_121 : decode cX8_tour 121 = .ok (.ireturn, 1) := by decide +kernel
theorem dX8_tour_122 : decode cX8_tour 122 = .ok (.iload_n 2, 1) := by decide +kernel
theorem dX8_tour_123 : decode cX8_tour 123 = .ok (.iconst (-1), 1) := by decide +kernel
theorem dX8_tour_124 : decode cX8_tour 124 = .ok (.if_icmp .eq 20, 3) := by decide +kernel
theorem dX8_tour_127 : decode cX8_tour 127 = .ok (.iload_n 2, 1) := by decide +kernel
theorem dX8_tour_128 : decode cX8_tour 128 = .ok (.iconst 0, 1) := by decide +kernel
theorem dX8_tour_129 : decode cX8_tour 129 = .ok (.iload_n 3, 1) := by decide +kernel
theorem dX8_tour_130 : decode cX8_tour 130 = .ok (.iconst 1, 1) := by decide +kernel
theorem dX8_tour_131 : decode cX8_tour 131 = .ok (.isub, 1) := by decide +kernel
theorem dX8_tour_132 : decode cX8_tour 132 = .ok (.invokestatic 48, 3) := by decide +kernel
theorem dX8_tour_135 : decode cX8_tour 135 = .ok (.ifCond .ne 9, 3) := by decide +kernel
theorem dX8_tour_138 : decode cX8_tour 138 = .ok (.aload_n 0, 1) := by decide +kernel
theorem dX8_tour_139 : decode cX8_tour 139 = .ok (.iconst 2, 1) := by decide +kernel
theorem dX8_tour_140 : decode cX8_tour 140 = .ok (.invokevirtual 165, 3) := by decide +kernel
theorem dX8_tour_143 : decode cX8_tour 143 = .ok (.ireturn, 1) := by decide +kernel
theorem dX8_tour_144 : decode cX8_tour 144 = .ok (.aload_n 0, 1) := by decide +kernel
theorem dX8_tour_145 : decode cX8_tour 145 = .ok (.aload_n 0, 1) := by decide +kernel
theorem dX8_tour_146 : decode cX8_tour 146 = .ok (.iload_n 3, 1) := by decide +kernel
theorem dX8_tour_147 : decode cX8_tour 147 = .ok (.invokevirtual 189, 3) := by decide +kernel
theorem dX8_tour_150 : decode cX8_tour 150 = .ok (.iload_n 3, 1) := by decide +kernel
theorem dX8_tour_151 : decode cX8_tour 151 = .ok (.invokevirtual 182, 3) := by decide +kernel
theorem dX8_tour_154 : decode cX8_tour 154 = .ok (.istore 4, 2) := by decide +kernel
theorem dX8_tour_156 : decode cX8_tour 156 = .ok (.iload_n 2, 1) := by decide +kernel
theorem dX8_tour_157 : decode cX8_tour 157 = .ok (.iconst (-1), 1) := by decide +kernel
theorem dX8_tour_158 : decode cX8_tour 158 = .ok (.if_icmp .ne 11, 3) := by decide +kernel
theorem dX8_tour_161 : decode cX8_tour 161 = .ok (.aload_n 0, 1) := by decide +kernel
theorem dX8_tour_162 : decode cX8_tour 162 = .ok (.iload_n 3, 1) := by decide +kernel
theorem dX8_tour_163 : decode cX8_tour 163 = .ok (.invokevirtual 186, 3) := by decide +kernel
theorem dX8_tour_166 : decode cX8_tour 166 = .ok (.goto 14, 3) := by decide +kernel
theorem dX8_tour_169 : decode cX8_tour 169 = .ok (.aload_n 0, 1) := by decide +kernel
theorem dX8_tour_170 : decode cX8_tour 170 = .ok (.getfield 35, 3) := by decide +kernel
theorem dX8_tour_173 : decode cX8_tour 173 = .ok (.aload_n 0, 1) := by decide +kernel
theorem dX8_tour_174 : decode cX8_tour 174 = .ok (.getfield 32, 3) := by decide +kernel
theorem dX8_tour_177 : decode cX8_tour 177 = .ok (.iload_n 2, 1) := by decide +kernel
theorem dX8_tour_178 : decode cX8_tour 178 = .ok (.iaload, 1) := by decide +kernel
theorem dX8_tour_179 : decode cX8_tour 179 = .ok (.iaload, 1) := by decide +kernel
theorem dX8_tour_180 : decode cX8_tour 180 = .ok (.ireturn, 1) := by decide +kernel
theorem dX8_append_0 : decode cX8_append 0 = .ok (.aload_n 0, 1) := by decide +kernel
theorem dX8_append_1 : decode cX8_append 1 = .ok (.iconst 0, 1) := by decide +kernel
theorem dX8_append_2 : decode cX8_append 2 = .ok (.putfield 38, 3) := by decide +kernel
theorem dX8_append_5 : decode cX8_append 5 = .ok (.iload_n 1, 1) := by decide +kernel
theorem dX8_append_6 : decode cX8_append 6 = .ok (.iconst 0, 1) := by decide +kernel
theorem dX8_append_7 : decode cX8_append 7 = .ok (.bipush 127, 2) := by decide +kernel
theorem dX8_append_9 : decode cX8_append 9 = .ok (.invokestatic 48, 3) := by decide +kernel
theorem dX8_append_12 : decode cX8_append 12 = .ok (.ifCond .ne 9, 3) := by decide +kernel
theorem dX8_append_15 : decode cX8_append 15 = .ok (.aload_n 0, 1) := by decide +kernel
theorem dX8_append_16 : decode cX8_append 16 = .ok (.iconst 1, 1) := by decide +kernel
theorem dX8_append_17 : decode cX8_append 17 = .ok (.invokevirtual 165, 3) := by decide +kernel
theorem dX8_append_20 : decode cX8_append 20 = .ok (.ireturn, 1) := by decide +kernel
theorem dX8_append_21 : decode cX8_append 21 = .ok (.aload_n 0, 1) := by decide +kernel
theorem dX8_append_22 : decode cX8_append 22 = .ok (.getfield 192, 3) := by decide +kernel
theorem dX8_append_25 : decode cX8_append 25 = .ok (.bipush 100, 2) := by decide +kernel
theorem dX8_append_27 : decode cX8_append 27 = .ok (.if_icmp .ne 9, 3) := by decide +kernel
theorem dX8_append_30 : decode cX8_append 30 = .ok (.aload_n 0, 1) := by decide +kernel
theorem dX8_append_31 : decode cX8_append 31 = .ok (.iconst 2, 1) := by decide +kernel
theorem dX8_append_32 : decode cX8_append 32 = .ok (.invokevirtual 165, 3) := by decide +kernel
theorem dX8_append_35 : decode cX8_append 35 = .ok (.ireturn, 1) := by decide +kernel
theorem dX8_append_36 : decode cX8_append 36 = .ok (.aload_n 0, 1) := by decide +kernel
theorem dX8_append_37 : decode cX8_append 37 = .ok (.getfield 29, 3) := by decide +kernel
theorem dX8_append_40 : decode cX8_append 40 = .ok (.aload_n 0, 1) := by decide +kernel
theorem dX8_append_41 : decode cX8_append 41 = .ok (.getfield 192, 3) := by decide +kernel
theorem dX8_append_44 : decode cX8_append 44 = .ok (.iload_n 1, 1) := by decide +kernel
theorem dX8_append_45 : decode cX8_append 45 = .ok (.iastore, 1) := by decide +kernel
theorem dX8_append_46 : decode cX8_append 46 = .ok (.aload_n 0, 1) := by decide +kernel
theorem dX8_append_47 : decode cX8_append 47 = .ok (.dup, 1) := by decide +kernel
theorem dX8_append_48 : decode cX8_append 48 = .ok (.getfield 192, 3) := by decide +kernel
theorem dX8_append_51 : decode cX8_append 51 = .ok (.iconst 1, 1) := by decide +kernel
theorem dX8_append_52 : decode cX8_append 52 = .ok (.iadd, 1) := by decide +kernel
theorem dX8_append_53 : decode cX8_append 53 = .ok (.putfield 192, 3) := by decide +kernel
theorem dX8_append_56 : decode cX8_append 56 = .ok (.aload_n 0, 1) := by decide +kernel
theorem dX8_append_57 : decode cX8_append 57 = .ok (.getfield 192, 3) := by decide +kernel
theorem dX8_append_60 : decode cX8_append 60 = .ok (.ireturn, 1) := by decide +kernel
theorem dX8_clearText_0 : decode cX8_clearText 0 = .ok (.aload_n 0, 1) := by decide +kernel
theorem dX8_clearText_1 : decode cX8_clearText 1 = .ok (.iconst 0, 1) := by decide +kernel
theorem dX8_clearText_2 : decode cX8_clearText 2 = .ok (.putfield 38, 3) := by decide +kernel
theorem dX8_clearText_5 : decode cX8_clearText 5 = .ok (.aload_n 0, 1) := by decide +kernel
theorem dX8_clearText_6 : decode cX8_clearText 6 = .ok (.getfield 192, 3) := by decide +kernel
theorem dX8_clearText_9 : decode cX8_clearText 9 = .ok (.istore_n 1, 1) := by decide +kernel
theorem dX8_clearText_10 : decode cX8_clearText 10 = .ok (.aload_n 0, 1) := by decide +kernel
theorem dX8_clearText_11 : decode cX8_clearText 11 = .ok (.iconst 0, 1) := by decide +kernel
theorem dX8_clearText_12 : decode cX8_clearText 12 = .ok (.putfield 192, 3) := by decide +kernel
theorem dX8_clearText_15 : decode cX8_clearText 15 = .ok (.iload_n 1, 1) := by decide +kernel
theorem dX8_clearText_16 : decode cX8_clearText 16 = .ok (.ireturn, 1) := by decide +kernel
theorem dX8_here_0 : decode cX8_here 0 = .ok (.aload_n 0, 1) := by decide +kernel
theorem dX8_here_1 : decode cX8_here 1 = .ok (.getfield 195, 3) := by decide +kernel
theorem dX8_here_4 : decode cX8_here 4 = .ok (.aload_n 0, 1) := by decide +kernel
theorem dX8_here_5 : decode cX8_here 5 = .ok (.getfield 192, 3) := by decide +kernel
theorem dX8_here_8 : decode cX8_here 8 = .ok (.if_icmp .ge 15, 3) := by decide +kernel
theorem dX8_here_11 : decode cX8_here 11 = .ok (.aload_n 0, 1) := by decide +kernel
theorem dX8_here_12 : decode cX8_here 12 = .ok (.getfield 29, 3) := by decide +kernel
theorem dX8_here_15 : decode cX8_here 15 = .ok (.aload_n 0, 1) := by decide +kernel
theorem dX8_here_16 : decode cX8_here 16 = .ok (.getfield 195, 3) := by decide +kernel
theorem dX8_here_19 : decode cX8_here 19 = .ok (.iaload, 1) := by decide +kernel
theorem dX8_here_20 : decode cX8_here 20 = .ok (.goto 4, 3) := by decide +kernel
theorem dX8_here_23 : decode cX8_here 23 = .ok (.iconst (-1), 1) := by decide +kernel
theorem dX8_here_24 : decode cX8_here 24 = .ok (.ireturn, 1) := by decide +kernel
theorem dX8_isFigure_0 : decode cX8_isFigure 0 = .ok (.iload_n 0, 1) := by decide +kernel
theorem dX8_isFigure_1 : decode cX8_isFigure 1 = .ok (.bipush 48, 2) := by decide +kernel
theorem dX8_isFigure_3 : decode cX8_isFigure 3 = .ok (.bipush 57, 2) := by decide +kernel
theorem dX8_isFigure_5 : decode cX8_isFigure 5 = .ok (.invokestatic 48, 3) := by decide +kernel
theorem dX8_isFigure_8 : decode cX8_isFigure 8 = .ok (.ireturn, 1) := by decide +kernel
theorem dX8_passes_0 : decode cX8_passes 0 = .ok (.aload_n 0, 1) := by decide +kernel
theorem dX8_passes_1 : decode cX8_passes 1 = .ok (.invokevirtual 198, 3) := by decide +kernel
theorem dX8_passes_4 : decode cX8_passes 4 = .ok (.iload_n 1, 1) := by decide +kernel
theorem dX8_passes_5 : decode cX8_passes 5 = .ok (.if_icmp .ne 7, 3) := by decide +kernel
theorem dX8_passes_8 : decode cX8_passes 8 = .ok (.iconst 1, 1) := by decide +kernel
theorem dX8_passes_9 : decode cX8_passes 9 = .ok (.goto 4, 3) := by decide +kernel
theorem dX8_passes_12 : decode cX8_passes 12 = .ok (.iconst 0, 1) := by decide +kernel
theorem dX8_passes_13 : decode cX8_passes 13 = .ok (.istore_n 2, 1) := by decide +kernel
theorem dX8_passes_14 : decode cX8_passes 14 = .ok (.aload_n 0, 1) := by decide +kernel
theorem dX8_passes_15 : decode cX8_passes 15 = .ok (.dup, 1) := by decide +kernel
theorem dX8_passes_16 : decode cX8_passes 16 = .ok (.getfield 195, 3) := by decide +kernel
theorem dX8_passes_19 : decode cX8_passes 19 = .ok (.iload_n 2, 1) := by decide +kernel
theorem dX8_passes_20 : decode cX8_passes 20 = .ok (.ifCond .eq 7, 3) := by decide +kernel
theorem dX8_passes_23 : decode cX8_passes 23 = .ok (.iconst 1, 1) := by decide +kernel
theorem dX8_passes_24 : decode cX8_passes 24 = .ok (.goto 4, 3) := by decide +kernel
theorem dX8_passes_27 : decode cX8_passes 27 = .ok (.iconst 0, 1) := by decide +kernel
theorem dX8_passes_28 : decode cX8_passes 28 = .ok (.iadd, 1) := by decide +kernel
theorem dX8_passes_29 : decode cX8_passes 29 = .ok (.putfield 195, 3) := by decide +kernel
theorem dX8_passes_32 : decode cX8_passes 32 = .ok (.iload_n 2, 1) := by decide +kernel
theorem dX8_passes_33 : decode cX8_passes 33 = .ok (.ireturn, 1) := by decide +kernel
theorem dX8_readDigit_0 : decode cX8_readDigit 0 = .ok (.aload_n 0, 1) := by decide +kernel
theorem dX8_readDigit_1 : decode cX8_readDigit 1 = .ok (.invokevirtual 198, 3) := by decide +kernel
theorem dX8_readDigit_4 : decode cX8_readDigit 4 = .ok (.bipush 48, 2) := by decide +kernel
theorem dX8_readDigit_6 : decode cX8_readDigit 6 = .ok (.iload_n 1, 1) := by decide +kernel
theorem dX8_readDigit_7 : decode cX8_readDigit 7 = .ok (.invokestatic 48, 3) := by decide +kernel
theorem dX8_readDigit_10 : decode cX8_readDigit 10 = .ok (.istore_n 2, 1) := by decide +kernel
theorem dX8_readDigit_11 : decode cX8_readDigit 11 = .ok (.aload_n 0, 1) := by decide +kernel
theorem dX8_readDigit_12 : decode cX8_readDigit 12 = .ok (.aload_n 0, 1) := by decide +kernel
theorem dX8_readDigit_13 : decode cX8_readDigit 13 = .ok (.invokevirtual 198, 3) := by decide +kernel
theorem dX8_readDigit_16 : decode cX8_readDigit 16 = .ok (.bipush 48, 2) := by decide +kernel
theorem dX8_readDigit_18 : decode cX8_readDigit 18 = .ok (.isub, 1) := by decide +kernel
theorem dX8_readDigit_19 : decode cX8_readDigit 19 = .ok (.putfield 201, 3) := by decide +kernel
theorem dX8_readDigit_22 : decode cX8_readDigit 22 = .ok (.aload_n 0, 1) := by decide +kernel
theorem dX8_readDigit_23 : decode cX8_readDigit 23 = .ok (.dup, 1) := by decide +kernel
theorem dX8_readDigit_24 : decode cX8_readDigit 24 = .ok (.getfield 195, 3) := by decide +kernel
theorem dX8_readDigit_27 : decode cX8_readDigit 27 = .ok (.iload_n 2, 1) := by decide +kernel
theorem dX8_readDigit_28 : decode cX8_readDigit 28 = .ok (.ifCond .eq 7, 3) := by decide +kernel
theorem dX8_readDigit_31 : decode cX8_readDigit 31 = .ok (.iconst 1, 1) := by decide +kernel
theorem dX8_readDigit_32 : decode cX8_readDigit 32 = .ok (.goto 4, 3) := by decide +kernel
theorem dX8_readDigit_35 : decode cX8_readDigit 35 = .ok (.iconst 0, 1) := by decide +kernel
theorem dX8_readDigit_36 : decode cX8_readDigit 36 = .ok (.iadd, 1) := by decide +kernel
theorem dX8_readDigit_37 : decode cX8_readDigit 37 = .ok (.putfield 195, 3) := by decide +kernel
theorem dX8_readDigit_40 : decode cX8_readDigit 40 = .ok (.iload_n 2, 1) := by decide +kernel
theorem dX8_readDigit_41 : decode cX8_readDigit 41 = .ok (.ireturn, 1) := by decide +kernel
theorem dX8_readNumber_0 : decode cX8_readNumber 0 = .ok (.aload_n 0, 1) := by decide +kernel
theorem dX8_readNumber_1 : decode cX8_readNumber 1 = .ok (.getfield 195, 3) := by decide +kernel
theorem dX8_readNumber_4 : decode cX8_readNumber 4 = .ok (.istore_n 3, 1) := by decide +kernel
theorem dX8_readNumber_5 : decode cX8_readNumber 5 = .ok (.aload_n 0, 1) := by decide +kernel
theorem dX8_readNumber_6 : decode cX8_readNumber 6 = .ok (.iconst 0, 1) := by decide +kernel
theorem dX8_readNumber_7 : decode cX8_readNumber 7 = .ok (.putfield 204, 3) := by decide +kernel
theorem dX8_readNumber_10 : decode cX8_readNumber 10 = .ok (.aload_n 0, 1) := by decide +kernel
theorem dX8_readNumber_11 : decode cX8_readNumber 11 = .ok (.invokevirtual 198, 3) := by decide +kernel
theorem dX8_readNumber_14 : decode cX8_readNumber 14 = .ok (.invokestatic 207, 3) := by decide +kernel
theorem dX8_readNumber_17 : decode cX8_readNumber 17 = .ok (.ifCond .eq 45, 3) := by decide +kernel
theorem dX8_readNumber_20 : decode cX8_readNumber 20 = .ok (.aload_n 0, 1) := by decide +kernel
theorem dX8_readNumber_21 : decode cX8_readNumber 21 = .ok (.getfield 195, 3) := by decide +kernel
theorem dX8_readNumber_24 : decode cX8_readNumber 24 = .ok (.iload_n 3, 1) := by decide +kernel
theorem dX8_readNumber_25 : decode cX8_readNumber 25 = .ok (.iload_n 1, 1) := by decide +kernel
theorem dX8_readNumber_26 : decode cX8_readNumber 26 = .ok (.iadd, 1) := by decide +kernel
theorem dX8_readNumber_27 : decode cX8_readNumber 27 = .ok (.if_icmp .ge 35, 3) := by decide +kernel
theorem dX8_readNumber_30 : decode cX8_readNumber 30 = .ok (.aload_n 0, 1) := by decide +kernel
theorem dX8_readNumber_31 : decode cX8_readNumber 31 = .ok (.bipush 10, 2) := by decide +kernel
theorem dX8_readNumber_33 : decode cX8_readNumber 33 = .ok (.aload_n 0, 1) := by decide +kernel
theorem dX8_readNumber_34 : decode cX8_readNumber 34 = .ok (.getfield 204, 3) := by decide +kernel
theorem dX8_readNumber_37 : decode cX8_readNumber 37 = .ok (.imul, 1) := by decide +kernel
theorem dX8_readNumber_38 : decode cX8_readNumber 38 = .ok (.aload_n 0, 1) := by decide +kernel
theorem dX8_readNumber_39 : decode cX8_readNumber 39 = .ok (.invokevirtual 198, 3) := by decide +kernel
theorem dX8_readNumber_42 : decode cX8_readNumber 42 = .ok (.iadd, 1) := by decide +kernel
theorem dX8_readNumber_43 : decode cX8_readNumber 43 = .ok (.bipush 48, 2) := by decide +kernel
theorem dX8_readNumber_45 : decode cX8_readNumber 45 = .ok (.isub, 1) := by decide +kernel
theorem dX8_readNumber_46 : decode cX8_readNumber 46 = .ok (.putfield 204, 3) := by decide +kernel
theorem dX8_readNumber_49 : decode cX8_readNumber 49 = .ok (.aload_n 0, 1) := by decide +kernel
theorem dX8_readNumber_50 : decode cX8_readNumber 50 = .ok (.dup, 1) := by decide +kernel
theorem dX8_readNumber_51 : decode cX8_readNumber 51 = .ok (.getfield 195, 3) := by decide +kernel
theorem dX8_readNumber_54 : decode cX8_readNumber 54 = .ok (.iconst 1, 1) := by decide +kernel
theorem dX8_readNumber_55 : decode cX8_readNumber 55 = .ok (.iadd, 1) := by decide +kernel
theorem dX8_readNumber_56 : decode cX8_readNumber 56 = .ok (.putfield 195, 3) := by decide +kernel
theorem dX8_readNumber_59 : decode cX8_readNumber 59 = .ok (.goto (-49), 3) := by decide +kernel
theorem dX8_readNumber_62 : decode cX8_readNumber 62 = .ok (.aload_n 0, 1) := by decide +kernel
theorem dX8_readNumber_63 : decode cX8_readNumber 63 = .ok (.getfield 195, 3) := by decide +kernel
theorem dX8_readNumber_66 : decode cX8_readNumber 66 = .ok (.iload_n 3, 1) := by decide +kernel
theorem dX8_readNumber_67 : decode cX8_readNumber 67 = .ok (.if_icmp .eq 13, 3) := by decide +kernel
theorem dX8_readNumber_70 : decode cX8_readNumber 70 = .ok (.aload_n 0, 1) := by decide +kernel
theorem dX8_readNumber_71 : decode cX8_readNumber 71 = .ok (.invokevirtual 198, 3) := by decide +kernel
theorem dX8_readNumber_74 : decode cX8_readNumber 74 = .ok (.invokestatic 207, 3) := by decide +kernel
theorem dX8_readNumber_77 : decode cX8_readNumber 77 = .ok (.ifCond .eq 5, 3) := by decide +kernel
theorem dX8_readNumber_80 : decode cX8_readNumber 80 = .ok (.iconst 0, 1) := by decide +kernel
theorem dX8_readNumber_81 : decode cX8_readNumber 81 = .ok (.ireturn, 1) := by decide +kernel
theorem dX8_readNumber_82 : decode cX8_readNumber 82 = .ok (.aload_n 0, 1) := by decide +kernel
theorem dX8_readNumber_83 : decode cX8_readNumber 83 = .ok (.aload_n 0, 1) := by decide +kernel
theorem dX8_readNumber_84 : decode cX8_readNumber 84 = .ok (.getfield 204, 3) := by decide +kernel
theorem dX8_readNumber_87 : decode cX8_readNumber 87 = .ok (.iload_n 2, 1) := by decide +kernel
theorem dX8_readNumber_88 : decode cX8_readNumber 88 = .ok (.if_icmp .le 7, 3) := by decide +kernel
theorem dX8_readNumber_91 : decode cX8_readNumber 91 = .ok (.iload_n 3, 1) := by decide +kernel
theorem dX8_readNumber_92 : decode cX8_readNumber 92 = .ok (.goto 7, 3) := by decide +kernel
theorem dX8_readNumber_95 : decode cX8_readNumber 95 = .ok (.aload_n 0, 1) := by decide +kernel
theorem dX8_readNumber_96 : decode cX8_readNumber 96 = .ok (.getfield 195, 3) := by decide +kernel
theorem dX8_readNumber_99 : decode cX8_readNumber 99 = .ok (.putfield 195, 3) := by decide +kernel
theorem dX8_readNumber_102 : decode cX8_readNumber 102 = .ok (.aload_n 0, 1) := by decide +kernel
theorem dX8_readNumber_103 : decode cX8_readNumber 103 = .ok (.getfield 204, 3) := by decide +kernel
theorem dX8_readNumber_106 : decode cX8_readNumber 106 = .ok (.iload_n 2, 1) := by decide +kernel
theorem dX8_readNumber_107 : decode cX8_readNumber 107 = .ok (.if_icmp .gt 7, 3) := by decide +kernel
theorem dX8_readNumber_110 : decode cX8_readNumber 110 = .ok (.iconst 1, 1) := by decide +kernel
theorem dX8_readNumber_111 : decode cX8_readNumber 111 = .ok (.goto 4, 3) := by decide +kernel
theorem dX8_readNumber_114 : decode cX8_readNumber 114 = .ok (.iconst 0, 1) := by decide +kernel
theorem dX8_readNumber_115 : decode cX8_readNumber 115 = .ok (.ireturn, 1) := by decide +kernel
theorem dX8_readPlace_0 : decode cX8_readPlace 0 = .ok (.aload_n 0, 1) := by decide +kernel
theorem dX8_readPlace_1 : decode cX8_readPlace 1 = .ok (.iconst 5, 1) := by decide +kernel
theorem dX8_readPlace_2 : decode cX8_readPlace 2 = .ok (.sipush 21599, 3) := by decide +kernel
theorem dX8_readPlace_5 : decode cX8_readPlace 5 = .ok (.invokevirtual 210, 3) := by decide +kernel
theorem dX8_readPlace_8 : decode cX8_readPlace 8 = .ok (.ifCond .eq 12, 3) := by decide +kernel
theorem dX8_readPlace_11 : decode cX8_readPlace 11 = .ok (.aload_n 0, 1) := by decide +kernel
theorem dX8_readPlace_12 : decode cX8_readPlace 12 = .ok (.bipush 44, 2) := by decide +kernel
theorem dX8_readPlace_14 : decode cX8_readPlace 14 = .ok (.invokevirtual 213, 3) := by decide +kernel
theorem dX8_readPlace_17 : decode cX8_readPlace 17 = .ok (.ifCond .ne 5, 3) := by decide +kernel
theorem dX8_readPlace_20 : decode cX8_readPlace 20 = .ok (.iconst 0, 1) := by decide +kernel
theorem dX8_readPlace_21 : decode cX8_readPlace 21 = .ok (.ireturn, 1) := by decide +kernel
theorem dX8_readPlace_22 : decode cX8_readPlace 22 = .ok (.aload_n 0, 1) := by decide +kernel
theorem dX8_readPlace_23 : decode cX8_readPlace 23 = .ok (.aload_n 0, 1) := by decide +kernel
theorem dX8_readPlace_24 : decode cX8_readPlace 24 = .ok (.getfield 204, 3) := by decide +kernel
theorem dX8_readPlace_27 : decode cX8_readPlace 27 = .ok (.putfield 216, 3) := by decide +kernel
theorem dX8_readPlace_30 : decode cX8_readPlace 30 = .ok (.aload_n 0, 1) := by decide +kernel
theorem dX8_readPlace_31 : decode cX8_readPlace 31 = .ok (.iconst 4, 1) := by decide +kernel
theorem dX8_readPlace_32 : decode cX8_readPlace 32 = .ok (.sipush 5400, 3) := by decide +kernel
theorem dX8_readPlace_35 : decode cX8_readPlace 35 = .ok (.invokevirtual 210, 3) := by decide +kernel
theorem dX8_readPlace_38 : decode cX8_readPlace 38 = .ok (.ireturn, 1) := by decide +kernel
theorem dX8_readBend_0 : decode cX8_readBend 0 = .ok (.aload_n 0, 1) := by decide +kernel
theorem dX8_readBend_1 : decode cX8_readBend 1 = .ok (.bipush 49, 2) := by decide +kernel
theorem dX8_readBend_3 : decode cX8_readBend 3 = .ok (.invokevirtual 219, 3) := by decide +kernel
theorem dX8_readBend_6 : decode cX8_readBend 6 = .ok (.ifCond .ne 5, 3) := by decide +kernel
theorem dX8_readBend_9 : decode cX8_readBend 9 = .ok (.iconst 0, 1) := by decide +kernel
theorem dX8_readBend_10 : decode cX8_readBend 10 = .ok (.ireturn, 1) := by decide +kernel
theorem dX8_readBend_11 : decode cX8_readBend 11 = .ok (.aload_n 0, 1) := by decide +kernel
theorem dX8_readBend_12 : decode cX8_readBend 12 = .ok (.aload_n 0, 1) := by decide +kernel
theorem dX8_readBend_13 : decode cX8_readBend 13 = .ok (.getfield 201, 3) := by decide +kernel
theorem dX8_readBend_16 : decode cX8_readBend 16 = .ok (.putfield 222, 3) := by decide +kernel
theorem dX8_readBend_19 : decode cX8_readBend 19 = .ok (.aload_n 0, 1) := by decide +kernel
theorem dX8_readBend_20 : decode cX8_readBend 20 = .ok (.bipush 51, 2) := by decide +kernel
theorem dX8_readBend_22 : decode cX8_readBend 22 = .ok (.invokevirtual 219, 3) := by decide +kernel
theorem dX8_readBend_25 : decode cX8_readBend 25 = .ok (.ifCond .ne 5, 3) := by decide +kernel
theorem dX8_readBend_28 : decode cX8_readBend 28 = .ok (.iconst 0, 1) := by decide +kernel
theorem dX8_readBend_29 : decode cX8_readBend 29 = .ok (.ireturn, 1) := by decide +kernel
theorem dX8_readBend_30 : decode cX8_readBend 30 = .ok (.aload_n 0, 1) := by decide +kernel
theorem dX8_readBend_31 : decode cX8_readBend 31 = .ok (.aload_n 0, 1) := by decide +kernel
theorem dX8_readBend_32 : decode cX8_readBend 32 = .ok (.getfield 201, 3) := by decide +kernel
theorem dX8_readBend_35 : decode cX8_readBend 35 = .ok (.putfield 225, 3) := by decide +kernel
theorem dX8_readBend_38 : decode cX8_readBend 38 = .ok (.aload_n 0, 1) := by decide +kernel
theorem dX8_readBend_39 : decode cX8_readBend 39 = .ok (.invokevirtual 198, 3) := by decide +kernel
theorem dX8_readBend_42 : decode cX8_readBend 42 = .ok (.bipush 45, 2) := by decide +kernel
theorem dX8_readBend_44 : decode cX8_readBend 44 = .ok (.if_icmp .ne 7, 3) := by decide +kernel
theorem dX8_readBend_47 : decode cX8_readBend 47 = .ok (.iconst 1, 1) := by decide +kernel
theorem dX8_readBend_48 : decode cX8_readBend 48 = .ok (.goto 4, 3) := by decide +kernel
theorem dX8_readBend_51 : decode cX8_readBend 51 = .ok (.iconst 0, 1) := by decide +kernel
theorem dX8_readBend_52 : decode cX8_readBend 52 = .ok (.istore_n 1, 1) := by decide +kernel
theorem dX8_readBend_53 : decode cX8_readBend 53 = .ok (.aload_n 0, 1) := by decide +kernel
theorem dX8_readBend_54 : decode cX8_readBend 54 = .ok (.bipush 43, 2) := by decide +kernel
theorem dX8_readBend_56 : decode cX8_readBend 56 = .ok (.invokevirtual 213, 3) := by decide +kernel
theorem dX8_readBend_59 : decode cX8_readBend 59 = .ok (.ifCond .ne 14, 3) := by decide +kernel
theorem dX8_readBend_62 : decode cX8_readBend 62 = .ok (.aload_n 0, 1) := by decide +kernel
theorem dX8_readBend_63 : decode cX8_readBend 63 = .ok (.bipush 45, 2) := by decide +kernel
theorem dX8_readBend_65 : decode cX8_readBend 65 = .ok (.invokevirtual 213, 3) := by decide +kernel
theorem dX8_readBend_68 : decode cX8_readBend 68 = .ok (.ifCond .ne 5, 3) := by decide +kernel
theorem dX8_readBend_71 : decode cX8_readBend 71 = .ok (.iconst 0, 1) := by decide +kernel
theorem dX8_readBend_72 : decode cX8_readBend 72 = .ok (.ireturn, 1) := by decide +kernel
theorem dX8_readBend_73 : decode cX8_readBend 73 = .ok (.aload_n 0, 1) := by decide +kernel
theorem dX8_readBend_74 : decode cX8_readBend 74 = .ok (.iconst 3, 1) := by decide +kernel
theorem dX8_readBend_75 : decode cX8_readBend 75 = .ok (.bipush 120, 2) := by decide +kernel
theorem dX8_readBend_77 : decode cX8_readBend 77 = .ok (.invokevirtual 210, 3) := by decide +kernel
theorem dX8_readBend_80 : decode cX8_readBend 80 = .ok (.istore_n 2, 1) := by decide +kernel
theorem dX8_readBend_81 : decode cX8_readBend 81 = .ok (.aload_n 0, 1) := by decide +kernel
theorem dX8_readBend_82 : decode cX8_readBend 82 = .ok (.iload_n 1, 1) := by decide +kernel
theorem dX8_readBend_83 : decode cX8_readBend 83 = .ok (.ifCond .eq 11, 3) := by decide +kernel
theorem dX8_readBend_86 : decode cX8_readBend 86 = .ok (.aload_n 0, 1) := by decide +kernel
theorem dX8_readBend_87 : decode cX8_readBend 87 = .ok (.getfield 204, 3) := by decide +kernel
theorem dX8_readBend_90 : decode cX8_readBend 90 = .ok (.ineg, 1) := by decide +kernel
theorem dX8_readBend_91 : decode cX8_readBend 91 = .ok (.goto 7, 3) := by decide +kernel
theorem dX8_readBend_94 : decode cX8_readBend 94 = .ok (.aload_n 0, 1) := by decide +kernel
theorem dX8_readBend_95 : decode cX8_readBend 95 = .ok (.getfield 204, 3) := by decide +kernel
theorem dX8_readBend_98 : decode cX8_readBend 98 = .ok (.putfield 204, 3) := by decide +kernel
theorem dX8_readBend_101 : decode cX8_readBend 101 = .ok (.iload_n 2, 1) := by decide +kernel
theorem dX8_readBend_102 : decode cX8_readBend 102 = .ok (.ireturn, 1) := by decide +kernel
theorem dX8_readOrder_0 : decode cX8_readOrder 0 = .ok (.aload_n 0, 1) := by decide +kernel
theorem dX8_readOrder_1 : decode cX8_readOrder 1 = .ok (.aload_n 0, 1) := by decide +kernel
theorem dX8_readOrder_2 : decode cX8_readOrder 2 = .ok (.invokevirtual 198, 3) := by decide +kernel
theorem dX8_readOrder_5 : decode cX8_readOrder 5 = .ok (.putfield 228, 3) := by decide +kernel
theorem dX8_readOrder_8 : decode cX8_readOrder 8 = .ok (.aload_n 0, 1) := by decide +kernel
theorem dX8_readOrder_9 : decode cX8_readOrder 9 = .ok (.getfield 228, 3) := by decide +kernel
theorem dX8_readOrder_12 : decode cX8_readOrder 12 = .ok (.bipush 115, 2) := by decide +kernel
theorem dX8_readOrder_14 : decode cX8_readOrder 14 = .ok (.if_icmp .eq 30, 3) := by decide +kernel
theorem dX8_readOrder_17 : decode cX8_readOrder 17 = .ok (.aload_n 0, 1) := by decide +kernel
theorem dX8_readOrder_18 : decode cX8_readOrder 18 = .ok (.getfield 228, 3) := by decide +kernel
theorem dX8_readOrder_21 : decode cX8_readOrder 21 = .ok (.bipush 97, 2) := by decide +kernel
theorem dX8_readOrder_23 : decode cX8_readOrder 23 = .ok (.if_icmp .eq 21, 3) := by decide +kernel
theorem dX8_readOrder_26 : decode cX8_readOrder 26 = .ok (.aload_n 0, 1) := by decide +kernel
theorem dX8_readOrder_27 : decode cX8_readOrder 27 = .ok (.getfield 228, 3) := by decide +kernel
theorem dX8_readOrder_30 : decode cX8_readOrder 30 = .ok (.bipush 108, 2) := by decide +kernel
theorem dX8_readOrder_32 : decode cX8_readOrder 32 = .ok (.if_icmp .eq 12, 3) := by decide +kernel
theorem dX8_readOrder_35 : decode cX8_readOrder 35 = .ok (.aload_n 0, 1) := by decide +kernel
theorem dX8_readOrder_36 : decode cX8_readOrder 36 = .ok (.getfield 228, 3) := by decide +kernel
theorem dX8_readOrder_39 : decode cX8_readOrder 39 = .ok (.bipush 98, 2) := by decide +kernel
theorem dX8_readOrder_41 : decode cX8_readOrder 41 = .ok (.if_icmp .ne 7, 3) := by decide +kernel
theorem dX8_readOrder_44 : decode cX8_readOrder 44 = .ok (.iconst 1, 1) := by decide +kernel
theorem dX8_readOrder_45 : decode cX8_readOrder 45 = .ok (.goto 4, 3) := by decide +kernel
theorem dX8_readOrder_48 : decode cX8_readOrder 48 = .ok (.iconst 0, 1) := by decide +kernel
theorem dX8_readOrder_49 : decode cX8_readOrder 49 = .ok (.istore_n 1, 1) := by decide +kernel
theorem dX8_readOrder_50 : decode cX8_readOrder 50 = .ok (.aload_n 0, 1) := by decide +kernel
theorem dX8_readOrder_51 : decode cX8_readOrder 51 = .ok (.dup, 1) := by decide +kernel
theorem dX8_readOrder_52 : decode cX8_readOrder 52 = .ok (.getfield 195, 3) := by decide +kernel
theorem dX8_readOrder_55 : decode cX8_readOrder 55 = .ok (.iload_n 1, 1) := by decide +kernel
theorem dX8_readOrder_56 : decode cX8_readOrder 56 = .ok (.ifCond .eq 7, 3) := by decide +kernel
theorem dX8_readOrder_59 : decode cX8_readOrder 59 = .ok (.iconst 1, 1) := by decide +kernel
theorem dX8_readOrder_60 : decode cX8_readOrder 60 = .ok (.goto 4, 3) := by decide +kernel
theorem dX8_readOrder_63 : decode cX8_readOrder 63 = .ok (.iconst 0, 1) := by decide +kernel
theorem dX8_readOrder_64 : decode cX8_readOrder 64 = .ok (.iadd, 1) := by decide +kernel
theorem dX8_readOrder_65 : decode cX8_readOrder 65 = .ok (.putfield 195, 3) := by decide +kernel
theorem dX8_readOrder_68 : decode cX8_readOrder 68 = .ok (.iload_n 1, 1) := by decide +kernel
theorem dX8_readOrder_69 : decode cX8_readOrder 69 = .ok (.ifCond .eq 64, 3) := by decide +kernel
theorem dX8_readOrder_72 : decode cX8_readOrder 72 = .ok (.aload_n 0, 1) := by decide +kernel
theorem dX8_readOrder_73 : decode cX8_readOrder 73 = .ok (.getfield 228, 3) := by decide +kernel
theorem dX8_readOrder_76 : decode cX8_readOrder 76 = .ok (.bipush 108, 2) := by decide +kernel
theorem dX8_readOrder_78 : decode cX8_readOrder 78 = .ok (.if_icmp .eq 51, 3) := by decide +kernel
theorem dX8_readOrder_81 : decode cX8_readOrder 81 = .ok (.aload_n 0, 1) := by decide +kernel
theorem dX8_readOrder_82 : decode cX8_readOrder 82 = .ok (.getfield 228, 3) := by decide +kernel
theorem dX8_readOrder_85 : decode cX8_readOrder 85 = .ok (.bipush 115, 2) := by decide +kernel
theorem dX8_readOrder_87 : decode cX8_readOrder 87 = .ok (.if_icmp .ne 13, 3) := by decide +kernel
theorem dX8_readOrder_90 : decode cX8_readOrder 90 = .ok (.aload_n 0, 1) := by decide +kernel
theorem dX8_readOrder_91 : decode cX8_readOrder 91 = .ok (.invokevirtual 231, 3) := by decide +kernel
theorem dX8_readOrder_94 : decode cX8_readOrder 94 = .ok (.ifCond .eq 39, 3) := by decide +kernel
theorem dX8_readOrder_97 : decode cX8_readOrder 97 = .ok (.goto 32, 3) := by decide +kernel
theorem dX8_readOrder_100 : decode cX8_readOrder 100 = .ok (.aload_n 0, 1) := by decide +kernel
theorem dX8_readOrder_101 : decode cX8_readOrder 101 = .ok (.getfield 228, 3) := by decide +kernel
theorem dX8_readOrder_104 : decode cX8_readOrder 104 = .ok (.bipush 97, 2) := by decide +kernel
theorem dX8_readOrder_106 : decode cX8_readOrder 106 = .ok (.if_icmp .ne 16, 3) := by decide +kernel
theorem dX8_readOrder_109 : decode cX8_readOrder 109 = .ok (.aload_n 0, 1) := by decide +kernel
theorem dX8_readOrder_110 : decode cX8_readOrder 110 = .ok (.iconst 2, 1) := by decide +kernel
theorem dX8_readOrder_111 : decode cX8_readOrder 111 = .ok (.bipush 99, 2) := by decide +kernel
theorem dX8_readOrder_113 : decode cX8_readOrder 113 = .ok (.invokevirtual 210, 3) := by decide +kernel
theorem dX8_readOrder_116 : decode cX8_readOrder 116 = .ok (.ifCond .eq 17, 3) := by decide +kernel
theorem dX8_readOrder_119 : decode cX8_readOrder 119 = .ok (.goto 10, 3) := by decide +kernel
theorem dX8_readOrder_122 : decode cX8_readOrder 122 = .ok (.aload_n 0, 1) := by decide +kernel
theorem dX8_readOrder_123 : decode cX8_readOrder 123 = .ok (.invokevirtual 234, 3) := by decide +kernel
theorem dX8_readOrder_126 : decode cX8_readOrder 126 = .ok (.ifCond .eq 7, 3) := by decide +kernel
theorem dX8_readOrder_129 : decode cX8_readOrder 129 = .ok (.iconst 1, 1) := by decide +kernel
theorem dX8_readOrder_130 : decode cX8_readOrder 130 = .ok (.goto 4, 3) := by decide +kernel
theorem dX8_readOrder_133 : decode cX8_readOrder 133 = .ok (.iconst 0, 1) := by decide +kernel
theorem dX8_readOrder_134 : decode cX8_readOrder 134 = .ok (.istore_n 1, 1) := by decide +kernel
theorem dX8_readOrder_135 : decode cX8_readOrder 135 = .ok (.iload_n 1, 1) := by decide +kernel
theorem dX8_readOrder_136 : decode cX8_readOrder 136 = .ok (.ifCond .eq 16, 3) := by decide +kernel
theorem dX8_readOrder_139 : decode cX8_readOrder 139 = .ok (.aload_n 0, 1) := by decide +kernel
theorem dX8_readOrder_140 : decode cX8_readOrder 140 = .ok (.bipush 59, 2) := by decide +kernel
theorem dX8_readOrder_142 : decode cX8_readOrder 142 = .ok (.invokevirtual 213, 3) := by decide +kernel
theorem dX8_readOrder_145 : decode cX8_readOrder 145 = .ok (.ifCond .eq 7, 3) := by decide +kernel
theorem dX8_readOrder_148 : decode cX8_readOrder 148 = .ok (.iconst 1, 1) := by decide +kernel
theorem dX8_readOrder_149 : decode cX8_readOrder 149 = .ok (.goto 4, 3) := by decide +kernel
theorem dX8_readOrder_152 : decode cX8_readOrder 152 = .ok (.iconst 0, 1) := by decide +kernel
theorem dX8_readOrder_153 : decode cX8_readOrder 153 = .ok (.ireturn, 1) := by decide +kernel
theorem dX8_does_0 : decode cX8_does 0 = .ok (.aload_n 0, 1) := by decide +kernel
theorem dX8_does_1 : decode cX8_does 1 = .ok (.getfield 228, 3) := by decide +kernel
theorem dX8_does_4 : decode cX8_does 4 = .ok (.lookupswitch 63 #[(97, 49), (108, 58), (115, 36)], 36) := by decide +kernel
theorem dX8_does_40 : decode cX8_does 40 = .ok (.aload_n 0, 1) := by decide +kernel
theorem dX8_does_41 : decode cX8_does 41 = .ok (.aload_n 0, 1) := by decide +kernel
theorem dX8_does_42 : decode cX8_does 42 = .ok (.getfield 216, 3) := by decide +kernel
theorem dX8_does_45 : decode cX8_does 45 = .ok (.aload_n 0, 1) := by decide +kernel
theorem dX8_does_46 : decode cX8_does 46 = .ok (.getfield 204, 3) := by decide +kernel
theorem dX8_does_49 : decode cX8_does 49 = .ok (.invokevirtual 149, 3) := by decide +kernel
theorem dX8_does_52 : decode cX8_does 52 = .ok (.ireturn, 1) := by decide +kernel
theorem dX8_does_53 : decode cX8_does 53 = .ok (.aload_n 0, 1) := by decide +kernel
theorem dX8_does_54 : decode cX8_does 54 = .ok (.aload_n 0, 1) := by decide +kernel
theorem dX8_does_55 : decode cX8_does 55 = .ok (.getfield 204, 3) := by decide +kernel
theorem dX8_does_58 : decode cX8_does 58 = .ok (.invokevirtual 152, 3) := by decide +kernel
theorem dX8_does_61 : decode cX8_does 61 = .ok (.ireturn, 1) := by decide +kernel
theorem dX8_does_62 : decode cX8_does 62 = .ok (.aload_n 0, 1) := by decide +kernel
theorem dX8_does_63 : decode cX8_does 63 = .ok (.invokevirtual 155, 3) := by decide +kernel
theorem dX8_does_66 : decode cX8_does 66 = .ok (.ireturn, 1) := by decide +kernel
theorem dX8_does_67 : decode cX8_does 67 = .ok (.aload_n 0, 1) := by decide +kernel
theorem dX8_does_68 : decode cX8_does 68 = .ok (.aload_n 0, 1) := by decide +kernel
theorem dX8_does_69 : decode cX8_does 69 = .ok (.getfield 222, 3) := by decide +kernel
theorem dX8_does_72 : decode cX8_does 72 = .ok (.aload_n 0, 1) := by decide +kernel
theorem dX8_does_73 : decode cX8_does 73 = .ok (.getfield 225, 3) := by decide +kernel
theorem dX8_does_76 : decode cX8_does 76 = .ok (.aload_n 0, 1) := by decide +kernel
theorem dX8_does_77 : decode cX8_does 77 = .ok (.getfield 204, 3) := by decide +kernel
theorem dX8_does_80 : decode cX8_does 80 = .ok (.invokevirtual 145, 3) := by decide +kernel
theorem dX8_does_83 : decode cX8_does 83 = .ok (.ireturn, 1) := by decide +kernel
theorem dX8_carryOut_0 : decode cX8_carryOut 0 = .ok (.aload_n 0, 1) := by decide +kernel
theorem dX8_carryOut_1 : decode cX8_carryOut 1 = .ok (.iconst 0, 1) := by decide +kernel
theorem dX8_carryOut_2 : decode cX8_carryOut 2 = .ok (.putfield 38, 3) := by decide +kernel
theorem dX8_carryOut_5 : decode cX8_carryOut 5 = .ok (.aload_n 0, 1) := by decide +kernel
theorem dX8_carryOut_6 : decode cX8_carryOut 6 = .ok (.iconst 0, 1) := by decide +kernel
theorem dX8_carryOut_7 : decode cX8_carryOut 7 = .ok (.putfield 195, 3) := by decide +kernel
theorem dX8_carryOut_10 : decode cX8_carryOut 10 = .ok (.aload_n 0, 1) := by decide +kernel
theorem dX8_carryOut_11 : decode cX8_carryOut 11 = .ok (.getfield 195, 3) := by decide +kernel
theorem dX8_carryOut_14 : decode cX8_carryOut 14 = .ok (.aload_n 0, 1) := by decide +kernel
theorem dX8_carryOut_15 : decode cX8_carryOut 15 = .ok (.getfield 192, 3) := by decide +kernel
theorem dX8_carryOut_18 : decode cX8_carryOut 18 = .ok (.if_icmp .ge 18, 3) := by decide +kernel
theorem dX8_carryOut_21 : decode cX8_carryOut 21 = .ok (.aload_n 0, 1) := by decide +kernel
theorem dX8_carryOut_22 : decode cX8_carryOut 22 = .ok (.invokevirtual 237, 3) := by decide +kernel
theorem dX8_carryOut_25 : decode cX8_carryOut 25 = .ok (.ifCond .ne (-15), 3) := by decide +kernel
theorem dX8_carryOut_28 : decode cX8_carryOut 28 = .ok (.bipush (-10), 2) := by decide +kernel
theorem dX8_carryOut_30 : decode cX8_carryOut 30 = .ok (.aload_n 0, 1) := by decide +kernel
theorem dX8_carryOut_31 : decode cX8_carryOut 31 = .ok (.getfield 195, 3) := by decide +kernel
theorem dX8_carryOut_34 : decode cX8_carryOut 34 = .ok (.isub, 1) := by decide +kernel
theorem dX8_carryOut_35 : decode cX8_carryOut 35 = .ok (.ireturn, 1) := by decide +kernel
theorem dX8_carryOut_36 : decode cX8_carryOut 36 = .ok (.aload_n 0, 1) := by decide +kernel
theorem dX8_carryOut_37 : decode cX8_carryOut 37 = .ok (.invokevirtual 136, 3) := by decide +kernel
theorem dX8_carryOut_40 : decode cX8_carryOut 40 = .ok (.aload_n 0, 1) := by decide +kernel
theorem dX8_carryOut_41 : decode cX8_carryOut 41 = .ok (.iconst 0, 1) := by decide +kernel
theorem dX8_carryOut_42 : decode cX8_carryOut 42 = .ok (.putfield 195, 3) := by decide +kernel
theorem dX8_carryOut_45 : decode cX8_carryOut 45 = .ok (.iconst 0, 1) := by decide +kernel
theorem dX8_carryOut_46 : decode cX8_carryOut 46 = .ok (.istore_n 1, 1) := by decide +kernel
theorem dX8_carryOut_47 : decode cX8_carryOut 47 = .ok (.aload_n 0, 1) := by decide +kernel
theorem dX8_carryOut_48 : decode cX8_carryOut 48 = .ok (.getfield 195, 3) := by decide +kernel
theorem dX8_carryOut_51 : decode cX8_carryOut 51 = .ok (.aload_n 0, 1) := by decide +kernel
theorem dX8_carryOut_52 : decode cX8_carryOut 52 = .ok (.getfield 192, 3) := by decide +kernel
theorem dX8_carryOut_55 : decode cX8_carryOut 55 = .ok (.if_icmp .ge 42, 3) := by decide +kernel
theorem dX8_carryOut_58 : decode cX8_carryOut 58 = .ok (.aload_n 0, 1) := by decide +kernel
theorem dX8_carryOut_59 : decode cX8_carryOut 59 = .ok (.getfield 42, 3) := by decide +kernel
theorem dX8_carryOut_62 : decode cX8_carryOut 62 = .ok (.ifCond .ne 35, 3) := by decide +kernel
theorem dX8_carryOut_65 : decode cX8_carryOut 65 = .ok (.aload_n 0, 1) := by decide +kernel
theorem dX8_carryOut_66 : decode cX8_carryOut 66 = .ok (.invokevirtual 237, 3) := by decide +kernel
theorem dX8_carryOut_69 : decode cX8_carryOut 69 = .ok (.istore_n 2, 1) := by decide +kernel
theorem dX8_carryOut_70 : decode cX8_carryOut 70 = .ok (.aload_n 0, 1) := by decide +kernel
theorem dX8_carryOut_71 : decode cX8_carryOut 71 = .ok (.invokevirtual 240, 3) := by decide +kernel
theorem dX8_carryOut_74 : decode cX8_carryOut 74 = .ok (.istore_n 3, 1) := by decide +kernel
theorem dX8_carryOut_75 : decode cX8_carryOut 75 = .ok (.iload_n 1, 1) := by decide +kernel
theorem dX8_carryOut_76 : decode cX8_carryOut 76 = .ok (.iload_n 2, 1) := by decide +kernel
theorem dX8_carryOut_77 : decode cX8_carryOut 77 = .ok (.ifCond .eq 14, 3) := by decide +kernel
theorem dX8_carryOut_80 : decode cX8_carryOut 80 = .ok (.aload_n 0, 1) := by decide +kernel
theorem dX8_carryOut_81 : decode cX8_carryOut 81 = .ok (.getfield 42, 3) := by decide +kernel
theorem dX8_carryOut_84 : decode cX8_carryOut 84 = .ok (.ifCond .ne 7, 3) := by decide +kernel
theorem dX8_carryOut_87 : decode cX8_carryOut 87 = .ok (.iconst 1, 1) := by decide +kernel
theorem dX8_carryOut_88 : decode cX8_carryOut 88 = .ok (.goto 4, 3) := by decide +kernel
theorem dX8_carryOut_91 : decode cX8_carryOut 91 = .ok (.iconst 0, 1) := by decide +kernel
theorem dX8_carryOut_92 : decode cX8_carryOut 92 = .ok (.iadd, 1) := by decide +kernel
theorem dX8_carryOut_93 : decode cX8_carryOut 93 = .ok (.istore_n 1, 1) := by decide +kernel
theorem dX8_carryOut_94 : decode cX8_carryOut 94 = .ok (.goto (-47), 3) := by decide +kernel
theorem dX8_carryOut_97 : decode cX8_carryOut 97 = .ok (.aload_n 0, 1) := by decide +kernel
theorem dX8_carryOut_98 : decode cX8_carryOut 98 = .ok (.iconst 0, 1) := by decide +kernel
theorem dX8_carryOut_99 : decode cX8_carryOut 99 = .ok (.putfield 42, 3) := by decide +kernel
theorem dX8_carryOut_102 : decode cX8_carryOut 102 = .ok (.aload_n 0, 1) := by decide +kernel
theorem dX8_carryOut_103 : decode cX8_carryOut 103 = .ok (.iload_n 1, 1) := by decide +kernel
theorem dX8_carryOut_104 : decode cX8_carryOut 104 = .ok (.invokevirtual 142, 3) := by decide +kernel
theorem dX8_carryOut_107 : decode cX8_carryOut 107 = .ok (.ireturn, 1) := by decide +kernel
theorem dX8_undo_0 : decode cX8_undo 0 = .ok (.aload_n 0, 1) := by decide +kernel
theorem dX8_undo_1 : decode cX8_undo 1 = .ok (.iconst 0, 1) := by decide +kernel
theorem dX8_undo_2 : decode cX8_undo 2 = .ok (.putfield 38, 3) := by decide +kernel
theorem dX8_undo_5 : decode cX8_undo 5 = .ok (.aload_n 0, 1) := by decide +kernel
theorem dX8_undo_6 : decode cX8_undo 6 = .ok (.getfield 45, 3) := by decide +kernel
theorem dX8_undo_9 : decode cX8_undo 9 = .ok (.ifCond .ne 9, 3) := by decide +kernel
theorem dX8_undo_12 : decode cX8_undo 12 = .ok (.aload_n 0, 1) := by decide +kernel
theorem dX8_undo_13 : decode cX8_undo 13 = .ok (.iconst 1, 1) := by decide +kernel
theorem dX8_undo_14 : decode cX8_undo 14 = .ok (.invokevirtual 165, 3) := by decide +kernel
theorem dX8_undo_17 : decode cX8_undo 17 = .ok (.ireturn, 1) := by decide +kernel
theorem dX8_undo_18 : decode cX8_undo 18 = .ok (.aload_n 0, 1) := by decide +kernel
theorem dX8_undo_19 : decode cX8_undo 19 = .ok (.dup, 1) := by decide +kernel
theorem dX8_undo_20 : decode cX8_undo 20 = .ok (.getfield 45, 3) := by decide +kernel
theorem dX8_undo_23 : decode cX8_undo 23 = .ok (.iconst 1, 1) := by decide +kernel
theorem dX8_undo_24 : decode cX8_undo 24 = .ok (.isub, 1) := by decide +kernel
theorem dX8_undo_25 : decode cX8_undo 25 = .ok (.putfield 45, 3) := by decide +kernel
theorem dX8_undo_28 : decode cX8_undo 28 = .ok (.iconst 0, 1) := by decide +kernel
theorem dX8_undo_29 : decode cX8_undo 29 = .ok (.istore_n 1, 1) := by decide +kernel
theorem dX8_undo_30 : decode cX8_undo 30 = .ok (.iload_n 1, 1) := by decide +kernel
theorem dX8_undo_31 : decode cX8_undo 31 = .ok (.bipush 127, 2) := by decide +kernel
theorem dX8_undo_33 : decode cX8_undo 33 = .ok (.if_icmp .ge 29, 3) := by decide +kernel
theorem dX8_undo_36 : decode cX8_undo 36 = .ok (.aload_n 0, 1) := by decide +kernel
theorem dX8_undo_37 : decode cX8_undo 37 = .ok (.getfield 7, 3) := by decide +kernel
theorem dX8_undo_40 : decode cX8_undo 40 = .ok (.iload_n 1, 1) := by decide +kernel
theorem dX8_undo_41 : decode cX8_undo 41 = .ok (.aload_n 0, 1) := by decide +kernel
theorem dX8_undo_42 : decode cX8_undo 42 = .ok (.getfield 23, 3) := by decide +kernel
theorem dX8_undo_45 : decode cX8_undo 45 = .ok (.bipush 127, 2) := by decide +kernel
theorem dX8_undo_47 : decode cX8_undo 47 = .ok (.aload_n 0, 1) := by decide +kernel
theorem dX8_undo_48 : decode cX8_undo 48 = .ok (.getfield 45, 3) := by decide +kernel
theorem dX8_undo_51 : decode cX8_undo 51 = .ok (.imul, 1) := by decide +kernel
theorem dX8_undo_52 : decode cX8_undo 52 = .ok (.iload_n 1, 1) := by decide +kernel
theorem dX8_undo_53 : decode cX8_undo 53 = .ok (.iadd, 1) := by decide +kernel
theorem dX8_undo_54 : decode cX8_undo 54 = .ok (.iaload, 1) := by decide +kernel
theorem dX8_undo_55 : decode cX8_undo 55 = .ok (.iastore, 1) := by decide +kernel
theorem dX8_undo_56 : decode cX8_undo 56 = .ok (.iinc 1 1, 3) := by decide +kernel
theorem dX8_undo_59 : decode cX8_undo 59 = .ok (.goto (-29), 3) := by decide +kernel
theorem dX8_undo_62 : decode cX8_undo 62 = .ok (.iconst 0, 1) := by decide +kernel
theorem dX8_undo_63 : decode cX8_undo 63 = .ok (.istore_n 1, 1) := by decide +kernel
theorem dX8_undo_64 : decode cX8_undo 64 = .ok (.iload_n 1, 1) := by decide +kernel
theorem dX8_undo_65 : decode cX8_undo 65 = .ok (.bipush 52, 2) := by decide +kernel
theorem dX8_undo_67 : decode cX8_undo 67 = .ok (.if_icmp .ge 29, 3) := by decide +kernel
theorem dX8_undo_70 : decode cX8_undo 70 = .ok (.aload_n 0, 1) := by decide +kernel
theorem dX8_undo_71 : decode cX8_undo 71 = .ok (.getfield 13, 3) := by decide +kernel
theorem dX8_undo_74 : decode cX8_undo 74 = .ok (.iload_n 1, 1) := by decide +kernel
theorem dX8_undo_75 : decode cX8_undo 75 = .ok (.aload_n 0, 1) := by decide +kernel
theorem dX8_undo_76 : decode cX8_undo 76 = .ok (.getfield 26, 3) := by decide +kernel
theorem dX8_undo_79 : decode cX8_undo 79 = .ok (.bipush 52, 2) := by decide +kernel
theorem dX8_undo_81 : decode cX8_undo 81 = .ok (.aload_n 0, 1) := by decide +kernel
theorem dX8_undo_82 : decode cX8_undo 82 = .ok (.getfield 45, 3) := by decide +kernel
theorem dX8_undo_85 : decode cX8_undo 85 = .ok (.imul, 1) := by decide +kernel
theorem dX8_undo_86 : decode cX8_undo 86 = .ok (.iload_n 1, 1) := by decide +kernel
theorem dX8_undo_87 : decode cX8_undo 87 = .ok (.iadd, 1) := by decide +kernel
theorem dX8_undo_88 : decode cX8_undo 88 = .ok (.daload, 1) := by decide +kernel
theorem dX8_undo_89 : decode cX8_undo 89 = .ok (.dastore, 1) := by decide +kernel
theorem dX8_undo_90 : decode cX8_undo 90 = .ok (.iinc 1 1, 3) := by decide +kernel
theorem dX8_undo_93 : decode cX8_undo 93 = .ok (.goto (-29), 3) := by decide +kernel
theorem dX8_undo_96 : decode cX8_undo 96 = .ok (.aload_n 0, 1) := by decide +kernel
theorem dX8_undo_97 : decode cX8_undo 97 = .ok (.getfield 45, 3) := by decide +kernel
theorem dX8_undo_100 : decode cX8_undo 100 = .ok (.ireturn, 1) := by decide +kernel
theorem dX8_mix_0 : decode cX8_mix 0 = .ok (.aload_n 0, 1) := by decide +kernel
theorem dX8_mix_1 : decode cX8_mix 1 = .ok (.ldc2_w 243, 3) := by decide +kernel
theorem dX8_mix_4 : decode cX8_mix 4 = .ok (.aload_n 0, 1) := by decide +kernel
theorem dX8_mix_5 : decode cX8_mix 5 = .ok (.getfield 245, 3) := by decide +kernel
theorem dX8_mix_8 : decode cX8_mix 8 = .ok (.lmul, 1) := by decide +kernel
theorem dX8_mix_9 : decode cX8_mix 9 = .ok (.lload_n 1, 1) := by decide +kernel
theorem dX8_mix_10 : decode cX8_mix 10 = .ok (.ladd, 1) := by decide +kernel
theorem dX8_mix_11 : decode cX8_mix 11 = .ok (.putfield 245, 3) := by decide +kernel
theorem dX8_mix_14 : decode cX8_mix 14 = .ok (.return_, 1) := by decide +kernel
theorem dX8_digest_0 : decode cX8_digest 0 = .ok (.aload_n 0, 1) := by decide +kernel
theorem dX8_digest_1 : decode cX8_digest 1 = .ok (.iconst 0, 1) := by decide +kernel
theorem dX8_digest_2 : decode cX8_digest 2 = .ok (.putfield 38, 3) := by decide +kernel
theorem dX8_digest_5 : decode cX8_digest 5 = .ok (.aload_n 0, 1) := by decide +kernel
theorem dX8_digest_6 : decode cX8_digest 6 = .ok (.ldc2_w 249, 3) := by decide +kernel
theorem dX8_digest_9 : decode cX8_digest 9 = .ok (.putfield 245, 3) := by decide +kernel
theorem dX8_digest_12 : decode cX8_digest 12 = .ok (.aload_n 0, 1) := by decide +kernel
theorem dX8_digest_13 : decode cX8_digest 13 = .ok (.aload_n 0, 1) := by decide +kernel
theorem dX8_digest_14 : decode cX8_digest 14 = .ok (.getfield 192, 3) := by decide +kernel
theorem dX8_digest_17 : decode cX8_digest 17 = .ok (.i2l, 1) := by decide +kernel
theorem dX8_digest_18 : decode cX8_digest 18 = .ok (.invokevirtual 251, 3) := by decide +kernel
theorem dX8_digest_21 : decode cX8_digest 21 = .ok (.iconst 0, 1) := by decide +kernel
theorem dX8_digest_22 : decode cX8_digest 22 = .ok (.istore_n 1, 1) := by decide +kernel
theorem dX8_digest_23 : decode cX8_digest 23 = .ok (.iload_n 1, 1) := by decide +kernel
theorem dX8_digest_24 : decode cX8_digest 24 = .ok (.bipush 12, 2) := by decide +kernel
theorem dX8_digest_26 : decode cX8_digest 26 = .ok (.if_icmp .ge 19, 3) := by decide +kernel
theorem dX8_digest_29 : decode cX8_digest 29 = .ok (.aload_n 0, 1) := by decide +kernel
theorem dX8_digest_30 : decode cX8_digest 30 = .ok (.aload_n 0, 1) := by decide +kernel
theorem dX8_digest_31 : decode cX8_digest 31 = .ok (.iload_n 1, 1) := by decide +kernel
theorem dX8_digest_32 : decode cX8_digest 32 = .ok (.invokevirtual 179, 3) := by decide +kernel
theorem dX8_digest_35 : decode cX8_digest 35 = .ok (.i2l, 1) := by decide +kernel
theorem dX8_digest_36 : decode cX8_digest 36 = .ok (.invokevirtual 251, 3) := by decide +kernel
theorem dX8_digest_39 : decode cX8_digest 39 = .ok (.iinc 1 1, 3) := by decide +kernel
theorem dX8_digest_42 : decode cX8_digest 42 = .ok (.goto (-19), 3) := by decide +kernel
theorem dX8_digest_45 : decode cX8_digest 45 = .ok (.iconst 0, 1) := by decide +kernel
theorem dX8_digest_46 : decode cX8_digest 46 = .ok (.istore_n 1, 1) := by decide +kernel
theorem dX8_digest_47 : decode cX8_digest 47 = .ok (.iload_n 1, 1) := by decide +kernel
theorem dX8_digest_48 : decode cX8_digest 48 = .ok (.bipush 13, 2) := by decide +kernel
theorem dX8_digest_50 : decode cX8_digest 50 = .ok (.if_icmp .ge 22, 3) := by decide +kernel
theorem dX8_digest_53 : decode cX8_digest 53 = .ok (.aload_n 0, 1) := by decide +kernel
theorem dX8_digest_54 : decode cX8_digest 54 = .ok (.aload_n 0, 1) := by decide +kernel
theorem dX8_digest_55 : decode cX8_digest 55 = .ok (.getfield 7, 3) := by decide +kernel
theorem dX8_digest_58 : decode cX8_digest 58 = .ok (.iconst 0, 1) := by decide +kernel
theorem dX8_digest_59 : decode cX8_digest 59 = .ok (.iload_n 1, 1) := by decide +kernel
theorem dX8_digest_60 : decode cX8_digest 60 = .ok (.iadd, 1) := by decide +kernel
theorem dX8_digest_61 : decode cX8_digest 61 = .ok (.iaload, 1) := by decide +kernel
theorem dX8_digest_62 : decode cX8_digest 62 = .ok (.i2l, 1) := by decide +kernel
theorem dX8_digest_63 : decode cX8_digest 63 = .ok (.invokevirtual 251, 3) := by decide +kernel
theorem dX8_digest_66 : decode cX8_digest 66 = .ok (.iinc 1 1, 3) := by decide +kernel
theorem dX8_digest_69 : decode cX8_digest 69 = .ok (.goto (-22), 3) := by decide +kernel
theorem dX8_digest_72 : decode cX8_digest 72 = .ok (.iconst 0, 1) := by decide +kernel
theorem dX8_digest_73 : decode cX8_digest 73 = .ok (.istore_n 1, 1) := by decide +kernel
theorem dX8_digest_74 : decode cX8_digest 74 = .ok (.iload_n 1, 1) := by decide +kernel
theorem dX8_digest_75 : decode cX8_digest 75 = .ok (.aload_n 0, 1) := by decide +kernel
theorem dX8_digest_76 : decode cX8_digest 76 = .ok (.getfield 7, 3) := by decide +kernel
theorem dX8_digest_79 : decode cX8_digest 79 = .ok (.bipush 20, 2) := by decide +kernel
theorem dX8_digest_81 : decode cX8_digest 81 = .ok (.iaload, 1) := by decide +kernel
theorem dX8_digest_82 : decode cX8_digest 82 = .ok (.if_icmp .ge 34, 3) := by decide +kernel
theorem dX8_digest_85 : decode cX8_digest 85 = .ok (.iconst 0, 1) := by decide +kernel
theorem dX8_digest_86 : decode cX8_digest 86 = .ok (.istore_n 2, 1) := by decide +kernel
theorem dX8_digest_87 : decode cX8_digest 87 = .ok (.iload_n 2, 1) := by decide +kernel
theorem dX8_digest_88 : decode cX8_digest 88 = .ok (.bipush 7, 2) := by decide +kernel
theorem dX8_digest_90 : decode cX8_digest 90 = .ok (.if_icmp .ge 20, 3) := by decide +kernel
theorem dX8_digest_93 : decode cX8_digest 93 = .ok (.aload_n 0, 1) := by decide +kernel
theorem dX8_digest_94 : decode cX8_digest 94 = .ok (.aload_n 0, 1) := by decide +kernel
theorem dX8_digest_95 : decode cX8_digest 95 = .ok (.iload_n 1, 1) := by decide +kernel
theorem dX8_digest_96 : decode cX8_digest 96 = .ok (.iload_n 2, 1) := by decide +kernel
theorem dX8_digest_97 : decode cX8_digest 97 = .ok (.invokevirtual 168, 3) := by decide +kernel
theorem dX8_digest_100 : decode cX8_digest 100 = .ok (.i2l, 1) := by decide +kernel
theorem dX8_digest_101 : decode cX8_digest 101 = .ok (.invokevirtual 251, 3) := by decide +kernel
theorem dX8_digest_104 : decode cX8_digest 104 = .ok (.iinc 2 1, 3) := by decide +kernel
theorem dX8_digest_107 : decode cX8_digest 107 = .ok (.goto (-20), 3) := by decide +kernel
theorem dX8_digest_110 : decode cX8_digest 110 = .ok (.iinc 1 1, 3) := by decide +kernel
theorem dX8_digest_113 : decode cX8_digest 113 = .ok (.goto (-39), 3) := by decide +kernel
theorem dX8_digest_116 : decode cX8_digest 116 = .ok (.iconst 0, 1) := by decide +kernel
theorem dX8_digest_117 : decode cX8_digest 117 = .ok (.istore_n 1, 1) := by decide +kernel
theorem dX8_digest_118 : decode cX8_digest 118 = .ok (.iload_n 1, 1) := by decide +kernel
theorem dX8_digest_119 : decode cX8_digest 119 = .ok (.bipush 24, 2) := by decide +kernel
theorem dX8_digest_121 : decode cX8_digest 121 = .ok (.if_icmp .ge 49, 3) := by decide +kernel
theorem dX8_digest_124 : decode cX8_digest 124 = .ok (.aload_n 0, 1) := by decide +kernel
theorem dX8_digest_125 : decode cX8_digest 125 = .ok (.aload_n 0, 1) := by decide +kernel
theorem dX8_digest_126 : decode cX8_digest 126 = .ok (.getfield 7, 3) := by decide +kernel
theorem dX8_digest_129 : decode cX8_digest 129 = .ok (.bipush 103, 2) := by decide +kernel
theorem dX8_digest_131 : decode cX8_digest 131 = .ok (.iload_n 1, 1) := by decide +kernel
theorem dX8_digest_132 : decode cX8_digest 132 = .ok (.iadd, 1) := by decide +kernel
theorem dX8_digest_133 : decode cX8_digest 133 = .ok (.iaload, 1) := by decide +kernel
theorem dX8_digest_134 : decode cX8_digest 134 = .ok (.i2l, 1) := by decide +kernel
theorem dX8_digest_135 : decode cX8_digest 135 = .ok (.invokevirtual 251, 3) := by decide +kernel
theorem dX8_digest_138 : decode cX8_digest 138 = .ok (.aload_n 0, 1) := by decide +kernel
theorem dX8_digest_139 : decode cX8_digest 139 = .ok (.aload_n 0, 1) := by decide +kernel
theorem dX8_digest_140 : decode cX8_digest 140 = .ok (.iload_n 1, 1) := by decide +kernel
theorem dX8_digest_141 : decode cX8_digest 141 = .ok (.iconst 0, 1) := by decide +kernel
theorem dX8_digest_142 : decode cX8_digest 142 = .ok (.invokevirtual 73, 3) := by decide +kernel
theorem dX8_digest_145 : decode cX8_digest 145 = .ok (.invokestatic 255, 3) := by decide +kernel
theorem dX8_digest_148 : decode cX8_digest 148 = .ok (.invokevirtual 251, 3) := by decide +kernel
theorem dX8_digest_151 : decode cX8_digest 151 = .ok (.aload_n 0, 1) := by decide +kernel
theorem dX8_digest_152 : decode cX8_digest 152 = .ok (.aload_n 0, 1) := by decide +kernel
theorem dX8_digest_153 : decode cX8_digest 153 = .ok (.iload_n 1, 1) := by decide +kernel
theorem dX8_digest_154 : decode cX8_digest 154 = .ok (.iconst 1, 1) := by decide +kernel
theorem dX8_digest_155 : decode cX8_digest 155 = .ok (.invokevirtual 73, 3) := by decide +kernel
theorem dX8_digest_158 : decode cX8_digest 158 = .ok (.invokestatic 255, 3) := by decide +kernel
theorem dX8_digest_161 : decode cX8_digest 161 = .ok (.invokevirtual 251, 3) := by decide +kernel
theorem dX8_digest_164 : decode cX8_digest 164 = .ok (.iinc 1 1, 3) := by decide +kernel
theorem dX8_digest_167 : decode cX8_digest 167 = .ok (.goto (-49), 3) := by decide +kernel
theorem dX8_digest_170 : decode cX8_digest 170 = .ok (.iconst 0, 1) := by decide +kernel
theorem dX8_digest_171 : decode cX8_digest 171 = .ok (.istore_n 1, 1) := by decide +kernel
theorem dX8_digest_172 : decode cX8_digest 172 = .ok (.iload_n 1, 1) := by decide +kernel
theorem dX8_digest_173 : decode cX8_digest 173 = .ok (.iconst 3, 1) := by decide +kernel
theorem dX8_digest_174 : decode cX8_digest 174 = .ok (.if_icmp .ge 32, 3) := by decide +kernel
theorem dX8_digest_177 : decode cX8_digest 177 = .ok (.aload_n 0, 1) := by decide +kernel
theorem dX8_digest_178 : decode cX8_digest 178 = .ok (.getfield 7, 3) := by decide +kernel
theorem dX8_digest_181 : decode cX8_digest 181 = .ok (.bipush 21, 2) := by decide +kernel
theorem dX8_digest_183 : decode cX8_digest 183 = .ok (.iaload, 1) := by decide +kernel
theorem dX8_digest_184 : decode cX8_digest 184 = .ok (.iconst (-1), 1) := by decide +kernel
theorem dX8_digest_185 : decode cX8_digest 185 = .ok (.if_icmp .eq 21, 3) := by decide +kernel
theorem dX8_digest_188 : decode cX8_digest 188 = .ok (.aload_n 0, 1) := by decide +kernel
theorem dX8_digest_189 : decode cX8_digest 189 = .ok (.aload_n 0, 1) := by decide +kernel
theorem dX8_digest_190 : decode cX8_digest 190 = .ok (.iload_n 1, 1) := by decide +kernel
theorem dX8_digest_191 : decode cX8_digest 191 = .ok (.invokevirtual 171, 3) := by decide +kernel
theorem dX8_digest_194 : decode cX8_digest 194 = .ok (.invokestatic 255, 3) := by decide +kernel
theorem dX8_digest_197 : decode cX8_digest 197 = .ok (.invokevirtual 251, 3) := by decide +kernel
theorem dX8_digest_200 : decode cX8_digest 200 = .ok (.iinc 1 1, 3) := by decide +kernel
theorem dX8_digest_203 : decode cX8_digest 203 = .ok (.goto (-31), 3) := by decide +kernel
theorem dX8_digest_206 : decode cX8_digest 206 = .ok (.aload_n 0, 1) := by decide +kernel
theorem dX8_digest_207 : decode cX8_digest 207 = .ok (.aload_n 0, 1) := by decide +kernel
theorem dX8_digest_208 : decode cX8_digest 208 = .ok (.getfield 45, 3) := by decide +kernel
theorem dX8_digest_211 : decode cX8_digest 211 = .ok (.i2l, 1) := by decide +kernel
theorem dX8_digest_212 : decode cX8_digest 212 = .ok (.invokevirtual 251, 3) := by decide +kernel
theorem dX8_digest_215 : decode cX8_digest 215 = .ok (.aload_n 0, 1) := by decide +kernel
theorem dX8_digest_216 : decode cX8_digest 216 = .ok (.getfield 245, 3) := by decide +kernel
theorem dX8_digest_219 : decode cX8_digest 219 = .ok (.lreturn, 1) := by decide +kernel
