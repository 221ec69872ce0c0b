theorem d_X11_goAlong_44 : decode (gw_mC M_X11_goAlong) 44 = .ok (.invokevirtual 243, 3) := by decide +kernel
theorem d_X11_goAlong_47 : decode (gw_mC M_X11_goAlong) 47 = .ok (.ifCond .ne 32, 3) := by decide +kernel
theorem d_X11_goAlong_50 : decode (gw_mC M_X11_goAlong) 50 = .ok (.aload_n 0, 1) := by decide +kernel
theorem d_X11_goAlong_51 : decode (gw_mC M_X11_goAlong) 51 = .ok (.getfield 47, 3) := by decide +kernel
theorem d_X11_goAlong_54 : decode (gw_mC M_X11_goAlong) 54 = .ok (.iload_n 1, 1) := by decide +kernel
theorem d_X11_goAlong_55 : decode (gw_mC M_X11_goAlong) 55 = .ok (.invokevirtual 247, 3) := by decide +kernel
theorem d_X11_goAlong_58 : decode (gw_mC M_X11_goAlong) 58 = .ok (.aload_n 0, 1) := by decide +kernel
theorem d_X11_goAlong_59 : decode (gw_mC M_X11_goAlong) 59 = .ok (.iload_n 1, 1) := by decide +kernel
theorem d_X11_goAlong_60 : decode (gw_mC M_X11_goAlong) 60 = .ok (.bipush 12, 2) := by decide +kernel
theorem d_X11_goAlong_62 : decode (gw_mC M_X11_goAlong) 62 = .ok (.imul, 1) := by decide +kernel
theorem d_X11_goAlong_63 : decode (gw_mC M_X11_goAlong) 63 = .ok (.invokevirtual 342, 3) := by decide +kernel
theorem d_X11_goAlong_66 : decode (gw_mC M_X11_goAlong) 66 = .ok (.aload_n 0, 1) := by decide +kernel
theorem d_X11_goAlong_67 : decode (gw_mC M_X11_goAlong) 67 = .ok (.iload_n 1, 1) := by decide +kernel
theorem d_X11_goAlong_68 : decode (gw_mC M_X11_goAlong) 68 = .ok (.iconst 1, 1) := by decide +kernel
theorem d_X11_goAlong_69 : decode (gw_mC M_X11_goAlong) 69 = .ok (.iadd, 1) := by decide +kernel
theorem d_X11_goAlong_70 : decode (gw_mC M_X11_goAlong) 70 = .ok (.putfield 61, 3) := by decide +kernel
theorem d_X11_goAlong_73 : decode (gw_mC M_X11_goAlong) 73 = .ok (.iinc 1 1, 3) := by decide +kernel
theorem d_X11_goAlong_76 : decode (gw_mC M_X11_goAlong) 76 = .ok (.goto (-43), 3) := by decide +kernel
theorem d_X11_goAlong_79 : decode (gw_mC M_X11_goAlong) 79 = .ok (.aload_n 0, 1) := by decide +kernel
theorem d_X11_goAlong_80 : decode (gw_mC M_X11_goAlong) 80 = .ok (.iconst 1, 1) := by decide +kernel
theorem d_X11_goAlong_81 : decode (gw_mC M_X11_goAlong) 81 = .ok (.putfield 54, 3) := by decide +kernel
theorem d_X11_goAlong_84 : decode (gw_mC M_X11_goAlong) 84 = .ok (.return_, 1) := by decide +kernel
theorem d_X11_writeTrail_0 : decode (gw_mC M_X11_writeTrail) 0 = .ok (.aload_n 0, 1) := by decide +kernel
theorem d_X11_writeTrail_1 : decode (gw_mC M_X11_writeTrail) 1 = .ok (.getfield 57, 3) := by decide +kernel
theorem d_X11_writeTrail_4 : decode (gw_mC M_X11_writeTrail) 4 = .ok (.iload_n 1, 1) := by decide +kernel
theorem d_X11_writeTrail_5 : decode (gw_mC M_X11_writeTrail) 5 = .ok (.aload_n 0, 1) := by decide +kernel
theorem d_X11_writeTrail_6 : decode (gw_mC M_X11_writeTrail) 6 = .ok (.getfield 47, 3) := by decide +kernel
theorem d_X11_writeTrail_9 : decode (gw_mC M_X11_writeTrail) 9 = .ok (.invokevirtual 345, 3) := by decide +kernel
theorem d_X11_writeTrail_12 : decode (gw_mC M_X11_writeTrail) 12 = .ok (.iastore, 1) := by decide +kernel
theorem d_X11_writeTrail_13 : decode (gw_mC M_X11_writeTrail) 13 = .ok (.aload_n 0, 1) := by decide +kernel
theorem d_X11_writeTrail_14 : decode (gw_mC M_X11_writeTrail) 14 = .ok (.getfield 57, 3) := by decide +kernel
theorem d_X11_writeTrail_17 : decode (gw_mC M_X11_writeTrail) 17 = .ok (.iload_n 1, 1) := by decide +kernel
theorem d_X11_writeTrail_18 : decode (gw_mC M_X11_writeTrail) 18 = .ok (.iconst 1, 1) := by decide +kernel
theorem d_X11_writeTrail_19 : decode (gw_mC M_X11_writeTrail) 19 = .ok (.iadd, 1) := by decide +kernel
theorem d_X11_writeTrail_20 : decode (gw_mC M_X11_writeTrail) 20 = .ok (.aload_n 0, 1) := by decide +kernel
theorem d_X11_writeTrail_21 : decode (gw_mC M_X11_writeTrail) 21 = .ok (.getfield 47, 3) := by decide +kernel
theorem d_X11_writeTrail_24 : decode (gw_mC M_X11_writeTrail) 24 = .ok (.getfield 348, 3) := by decide +kernel
theorem d_X11_writeTrail_27 : decode (gw_mC M_X11_writeTrail) 27 = .ok (.iastore, 1) := by decide +kernel
theorem d_X11_writeTrail_28 : decode (gw_mC M_X11_writeTrail) 28 = .ok (.iconst 0, 1) := by decide +kernel
theorem d_X11_writeTrail_29 : decode (gw_mC M_X11_writeTrail) 29 = .ok (.istore_n 2, 1) := by decide +kernel
theorem d_X11_writeTrail_30 : decode (gw_mC M_X11_writeTrail) 30 = .ok (.iload_n 2, 1) := by decide +kernel
theorem d_X11_writeTrail_31 : decode (gw_mC M_X11_writeTrail) 31 = .ok (.aload_n 0, 1) := by decide +kernel
theorem d_X11_writeTrail_32 : decode (gw_mC M_X11_writeTrail) 32 = .ok (.getfield 47, 3) := by decide +kernel
theorem d_X11_writeTrail_35 : decode (gw_mC M_X11_writeTrail) 35 = .ok (.getfield 239, 3) := by decide +kernel
theorem d_X11_writeTrail_38 : decode (gw_mC M_X11_writeTrail) 38 = .ok (.getfield 180, 3) := by decide +kernel
theorem d_X11_writeTrail_41 : decode (gw_mC M_X11_writeTrail) 41 = .ok (.if_icmp .ge 28, 3) := by decide +kernel
theorem d_X11_writeTrail_44 : decode (gw_mC M_X11_writeTrail) 44 = .ok (.aload_n 0, 1) := by decide +kernel
theorem d_X11_writeTrail_45 : decode (gw_mC M_X11_writeTrail) 45 = .ok (.getfield 57, 3) := by decide +kernel
theorem d_X11_writeTrail_48 : decode (gw_mC M_X11_writeTrail) 48 = .ok (.iload_n 1, 1) := by decide +kernel
theorem d_X11_writeTrail_49 : decode (gw_mC M_X11_writeTrail) 49 = .ok (.iconst 2, 1) := by decide +kernel
theorem d_X11_writeTrail_50 : decode (gw_mC M_X11_writeTrail) 50 = .ok (.iadd, 1) := by decide +kernel
theorem d_X11_writeTrail_51 : decode (gw_mC M_X11_writeTrail) 51 = .ok (.iload_n 2, 1) := by decide +kernel
theorem d_X11_writeTrail_52 : decode (gw_mC M_X11_writeTrail) 52 = .ok (.iadd, 1) := by decide +kernel
theorem d_X11_writeTrail_53 : decode (gw_mC M_X11_writeTrail) 53 = .ok (.aload_n 0, 1) := by decide +kernel
theorem d_X11_writeTrail_54 : decode (gw_mC M_X11_writeTrail) 54 = .ok (.getfield 47, 3) := by decide +kernel
theorem d_X11_writeTrail_57 : decode (gw_mC M_X11_writeTrail) 57 = .ok (.getfield 351, 3) := by decide +kernel
theorem d_X11_writeTrail_60 : decode (gw_mC M_X11_writeTrail) 60 = .ok (.iload_n 2, 1) := by decide +kernel
theorem d_X11_writeTrail_61 : decode (gw_mC M_X11_writeTrail) 61 = .ok (.iaload, 1) := by decide +kernel
theorem d_X11_writeTrail_62 : decode (gw_mC M_X11_writeTrail) 62 = .ok (.iastore, 1) := by decide +kernel
theorem d_X11_writeTrail_63 : decode (gw_mC M_X11_writeTrail) 63 = .ok (.iinc 2 1, 3) := by decide +kernel
theorem d_X11_writeTrail_66 : decode (gw_mC M_X11_writeTrail) 66 = .ok (.goto (-36), 3) := by decide +kernel
theorem d_X11_writeTrail_69 : decode (gw_mC M_X11_writeTrail) 69 = .ok (.return_, 1) := by decide +kernel
theorem d_X11_seekBest_0 : decode (gw_mC M_X11_seekBest) 0 = .ok (.aload_n 0, 1) := by decide +kernel
theorem d_X11_seekBest_1 : decode (gw_mC M_X11_seekBest) 1 = .ok (.getfield 65, 3) := by decide +kernel
theorem d_X11_seekBest_4 : decode (gw_mC M_X11_seekBest) 4 = .ok (.iconst 3, 1) := by decide +kernel
theorem d_X11_seekBest_5 : decode (gw_mC M_X11_seekBest) 5 = .ok (.iconst (-1), 1) := by decide +kernel
theorem d_X11_seekBest_6 : decode (gw_mC M_X11_seekBest) 6 = .ok (.iastore, 1) := by decide +kernel
theorem d_X11_seekBest_7 : decode (gw_mC M_X11_seekBest) 7 = .ok (.aload_n 0, 1) := by decide +kernel
theorem d_X11_seekBest_8 : decode (gw_mC M_X11_seekBest) 8 = .ok (.getfield 51, 3) := by decide +kernel
theorem d_X11_seekBest_11 : decode (gw_mC M_X11_seekBest) 11 = .ok (.aload_n 0, 1) := by decide +kernel
theorem d_X11_seekBest_12 : decode (gw_mC M_X11_seekBest) 12 = .ok (.getfield 10, 3) := by decide +kernel
theorem d_X11_seekBest_15 : decode (gw_mC M_X11_seekBest) 15 = .ok (.invokevirtual 235, 3) := by decide +kernel
theorem d_X11_seekBest_18 : decode (gw_mC M_X11_seekBest) 18 = .ok (.aload_n 0, 1) := by decide +kernel
theorem d_X11_seekBest_19 : decode (gw_mC M_X11_seekBest) 19 = .ok (.getfield 10, 3) := by decide +kernel
theorem d_X11_seekBest_22 : decode (gw_mC M_X11_seekBest) 22 = .ok (.invokevirtual 354, 3) := by decide +kernel
theorem d_X11_seekBest_25 : decode (gw_mC M_X11_seekBest) 25 = .ok (.istore_n 2, 1) := by decide +kernel
theorem d_X11_seekBest_26 : decode (gw_mC M_X11_seekBest) 26 = .ok (.bipush 10, 2) := by decide +kernel
theorem d_X11_seekBest_28 : decode (gw_mC M_X11_seekBest) 28 = .ok (.aload_n 0, 1) := by decide +kernel
theorem d_X11_seekBest_29 : decode (gw_mC M_X11_seekBest) 29 = .ok (.getfield 10, 3) := by decide +kernel
theorem d_X11_seekBest_32 : decode (gw_mC M_X11_seekBest) 32 = .ok (.getfield 128, 3) := by decide +kernel
theorem d_X11_seekBest_35 : decode (gw_mC M_X11_seekBest) 35 = .ok (.getfield 180, 3) := by decide +kernel
theorem d_X11_seekBest_38 : decode (gw_mC M_X11_seekBest) 38 = .ok (.invokestatic 202, 3) := by decide +kernel
theorem d_X11_seekBest_41 : decode (gw_mC M_X11_seekBest) 41 = .ok (.istore_n 3, 1) := by decide +kernel
theorem d_X11_seekBest_42 : decode (gw_mC M_X11_seekBest) 42 = .ok (.getstatic 148, 3) := by decide +kernel
theorem d_X11_seekBest_45 : decode (gw_mC M_X11_seekBest) 45 = .ok (.iconst 0, 1) := by decide +kernel
theorem d_X11_seekBest_46 : decode (gw_mC M_X11_seekBest) 46 = .ok (.iaload, 1) := by decide +kernel
theorem d_X11_seekBest_47 : decode (gw_mC M_X11_seekBest) 47 = .ok (.istore 4, 2) := by decide +kernel
theorem d_X11_seekBest_49 : decode (gw_mC M_X11_seekBest) 49 = .ok (.iload 4, 2) := by decide +kernel
theorem d_X11_seekBest_51 : decode (gw_mC M_X11_seekBest) 51 = .ok (.getstatic 151, 3) := by decide +kernel
theorem d_X11_seekBest_54 : decode (gw_mC M_X11_seekBest) 54 = .ok (.iconst 0, 1) := by decide +kernel
theorem d_X11_seekBest_55 : decode (gw_mC M_X11_seekBest) 55 = .ok (.iaload, 1) := by decide +kernel
theorem d_X11_seekBest_56 : decode (gw_mC M_X11_seekBest) 56 = .ok (.if_icmp .gt 92, 3) := by decide +kernel
theorem d_X11_seekBest_59 : decode (gw_mC M_X11_seekBest) 59 = .ok (.iconst 0, 1) := by decide +kernel
theorem d_X11_seekBest_60 : decode (gw_mC M_X11_seekBest) 60 = .ok (.istore 5, 2) := by decide +kernel
theorem d_X11_seekBest_62 : decode (gw_mC M_X11_seekBest) 62 = .ok (.iload 5, 2) := by decide +kernel
theorem d_X11_seekBest_64 : decode (gw_mC M_X11_seekBest) 64 = .ok (.iload_n 3, 1) := by decide +kernel
theorem d_X11_seekBest_65 : decode (gw_mC M_X11_seekBest) 65 = .ok (.if_icmp .gt 77, 3) := by decide +kernel
theorem d_X11_seekBest_68 : decode (gw_mC M_X11_seekBest) 68 = .ok (.iconst 0, 1) := by decide +kernel
theorem d_X11_seekBest_69 : decode (gw_mC M_X11_seekBest) 69 = .ok (.istore 6, 2) := by decide +kernel
theorem d_X11_seekBest_71 : decode (gw_mC M_X11_seekBest) 71 = .ok (.iload 6, 2) := by decide +kernel
theorem d_X11_seekBest_73 : decode (gw_mC M_X11_seekBest) 73 = .ok (.iconst 4, 1) := by decide +kernel
theorem d_X11_seekBest_74 : decode (gw_mC M_X11_seekBest) 74 = .ok (.if_icmp .gt 62, 3) := by decide +kernel
theorem d_X11_seekBest_77 : decode (gw_mC M_X11_seekBest) 77 = .ok (.aload_n 0, 1) := by decide +kernel
theorem d_X11_seekBest_78 : decode (gw_mC M_X11_seekBest) 78 = .ok (.getfield 51, 3) := by decide +kernel
theorem d_X11_seekBest_81 : decode (gw_mC M_X11_seekBest) 81 = .ok (.iload 4, 2) := by decide +kernel
theorem d_X11_seekBest_83 : decode (gw_mC M_X11_seekBest) 83 = .ok (.iload 5, 2) := by decide +kernel
theorem d_X11_seekBest_85 : decode (gw_mC M_X11_seekBest) 85 = .ok (.iload 6, 2) := by decide +kernel
theorem d_X11_seekBest_87 : decode (gw_mC M_X11_seekBest) 87 = .ok (.invokevirtual 357, 3) := by decide +kernel
theorem d_X11_seekBest_90 : decode (gw_mC M_X11_seekBest) 90 = .ok (.aload_n 0, 1) := by decide +kernel
theorem d_X11_seekBest_91 : decode (gw_mC M_X11_seekBest) 91 = .ok (.getfield 51, 3) := by decide +kernel
theorem d_X11_seekBest_94 : decode (gw_mC M_X11_seekBest) 94 = .ok (.iload_n 1, 1) := by decide +kernel
theorem d_X11_seekBest_95 : decode (gw_mC M_X11_seekBest) 95 = .ok (.invokevirtual 361, 3) := by decide +kernel
theorem d_X11_seekBest_98 : decode (gw_mC M_X11_seekBest) 98 = .ok (.istore 7, 2) := by decide +kernel
theorem d_X11_seekBest_100 : decode (gw_mC M_X11_seekBest) 100 = .ok (.iload 7, 2) := by decide +kernel
theorem d_X11_seekBest_102 : decode (gw_mC M_X11_seekBest) 102 = .ok (.aload_n 0, 1) := by decide +kernel
theorem d_X11_seekBest_103 : decode (gw_mC M_X11_seekBest) 103 = .ok (.getfield 65, 3) := by decide +kernel
theorem d_X11_seekBest_106 : decode (gw_mC M_X11_seekBest) 106 = .ok (.iconst 3, 1) := by decide +kernel
theorem d_X11_seekBest_107 : decode (gw_mC M_X11_seekBest) 107 = .ok (.iaload, 1) := by decide +kernel
theorem d_X11_seekBest_108 : decode (gw_mC M_X11_seekBest) 108 = .ok (.if_icmp .le 15, 3) := by decide +kernel
theorem d_X11_seekBest_111 : decode (gw_mC M_X11_seekBest) 111 = .ok (.aload_n 0, 1) := by decide +kernel
theorem d_X11_seekBest_112 : decode (gw_mC M_X11_seekBest) 112 = .ok (.iload 4, 2) := by decide +kernel
theorem d_X11_seekBest_114 : decode (gw_mC M_X11_seekBest) 114 = .ok (.iload 5, 2) := by decide +kernel
theorem d_X11_seekBest_116 : decode (gw_mC M_X11_seekBest) 116 = .ok (.iload 6, 2) := by decide +kernel
theorem d_X11_seekBest_118 : decode (gw_mC M_X11_seekBest) 118 = .ok (.iload 7, 2) := by decide +kernel
theorem d_X11_seekBest_120 : decode (gw_mC M_X11_seekBest) 120 = .ok (.invokevirtual 365, 3) := by decide +kernel
theorem d_X11_seekBest_123 : decode (gw_mC M_X11_seekBest) 123 = .ok (.iload 7, 2) := by decide +kernel
theorem d_X11_seekBest_125 : decode (gw_mC M_X11_seekBest) 125 = .ok (.iload_n 2, 1) := by decide +kernel
theorem d_X11_seekBest_126 : decode (gw_mC M_X11_seekBest) 126 = .ok (.if_icmp .lt 4, 3) := by decide +kernel
theorem d_X11_seekBest_129 : decode (gw_mC M_X11_seekBest) 129 = .ok (.return_, 1) := by decide +kernel
theorem d_X11_seekBest_130 : decode (gw_mC M_X11_seekBest) 130 = .ok (.iinc 6 1, 3) := by decide +kernel
theorem d_X11_seekBest_133 : decode (gw_mC M_X11_seekBest) 133 = .ok (.goto (-62), 3) := by decide +kernel
theorem d_X11_seekBest_136 : decode (gw_mC M_X11_seekBest) 136 = .ok (.iinc 5 1, 3) := by decide +kernel
theorem d_X11_seekBest_139 : decode (gw_mC M_X11_seekBest) 139 = .ok (.goto (-77), 3) := by decide +kernel
theorem d_X11_seekBest_142 : decode (gw_mC M_X11_seekBest) 142 = .ok (.iinc 4 1, 3) := by decide +kernel
theorem d_X11_seekBest_145 : decode (gw_mC M_X11_seekBest) 145 = .ok (.goto (-96), 3) := by decide +kernel
theorem d_X11_seekBest_148 : decode (gw_mC M_X11_seekBest) 148 = .ok (.return_, 1) := by decide +kernel
theorem d_X11_noteBest_0 : decode (gw_mC M_X11_noteBest) 0 = .ok (.aload_n 0, 1) := by decide +kernel
theorem d_X11_noteBest_1 : decode (gw_mC M_X11_noteBest) 1 = .ok (.getfield 65, 3) := by decide +kernel
theorem d_X11_noteBest_4 : decode (gw_mC M_X11_noteBest) 4 = .ok (.iconst 0, 1) := by decide +kernel
theorem d_X11_noteBest_5 : decode (gw_mC M_X11_noteBest) 5 = .ok (.iload_n 1, 1) := by decide +kernel
theorem d_X11_noteBest_6 : decode (gw_mC M_X11_noteBest) 6 = .ok (.iastore, 1) := by decide +kernel
theorem d_X11_noteBest_7 : decode (gw_mC M_X11_noteBest) 7 = .ok (.aload_n 0, 1) := by decide +kernel
theorem d_X11_noteBest_8 : decode (gw_mC M_X11_noteBest) 8 = .ok (.getfield 65, 3) := by decide +kernel
theorem d_X11_noteBest_11 : decode (gw_mC M_X11_noteBest) 11 = .ok (.iconst 1, 1) := by decide +kernel
theorem d_X11_noteBest_12 : decode (gw_mC M_X11_noteBest) 12 = .ok (.iload_n 2, 1) := by decide +kernel
theorem d_X11_noteBest_13 : decode (gw_mC M_X11_noteBest) 13 = .ok (.iastore, 1) := by decide +kernel
theorem d_X11_noteBest_14 : decode (gw_mC M_X11_noteBest) 14 = .ok (.aload_n 0, 1) := by decide +kernel
theorem d_X11_noteBest_15 : decode (gw_mC M_X11_noteBest) 15 = .ok (.getfield 65, 3) := by decide +kernel
theorem d_X11_noteBest_18 : decode (gw_mC M_X11_noteBest) 18 = .ok (.iconst 2, 1) := by decide +kernel
theorem d_X11_noteBest_19 : decode (gw_mC M_X11_noteBest) 19 = .ok (.iload_n 3, 1) := by decide +kernel
theorem d_X11_noteBest_20 : decode (gw_mC M_X11_noteBest) 20 = .ok (.iastore, 1) := by decide +kernel
theorem d_X11_noteBest_21 : decode (gw_mC M_X11_noteBest) 21 = .ok (.aload_n 0, 1) := by decide +kernel
theorem d_X11_noteBest_22 : decode (gw_mC M_X11_noteBest) 22 = .ok (.getfield 65, 3) := by decide +kernel
theorem d_X11_noteBest_25 : decode (gw_mC M_X11_noteBest) 25 = .ok (.iconst 3, 1) := by decide +kernel
theorem d_X11_noteBest_26 : decode (gw_mC M_X11_noteBest) 26 = .ok (.iload 4, 2) := by decide +kernel
theorem d_X11_noteBest_28 : decode (gw_mC M_X11_noteBest) 28 = .ok (.iastore, 1) := by decide +kernel
theorem d_X11_noteBest_29 : decode (gw_mC M_X11_noteBest) 29 = .ok (.return_, 1) := by decide +kernel
theorem d_X13_cell_0 : decode (gw_mC M_X13_cell) 0 = .ok (.iload_n 1, 1) := by decide +kernel
theorem d_X13_cell_1 : decode (gw_mC M_X13_cell) 1 = .ok (.aload_n 0, 1) := by decide +kernel
theorem d_X13_cell_2 : decode (gw_mC M_X13_cell) 2 = .ok (.arraylength, 1) := by decide +kernel
theorem d_X13_cell_3 : decode (gw_mC M_X13_cell) 3 = .ok (.if_icmp .ge 9, 3) := by decide +kernel
theorem d_X13_cell_6 : decode (gw_mC M_X13_cell) 6 = .ok (.aload_n 0, 1) := by decide +kernel
theorem d_X13_cell_7 : decode (gw_mC M_X13_cell) 7 = .ok (.iload_n 1, 1) := by decide +kernel
theorem d_X13_cell_8 : decode (gw_mC M_X13_cell) 8 = .ok (.iaload, 1) := by decide +kernel
theorem d_X13_cell_9 : decode (gw_mC M_X13_cell) 9 = .ok (.goto 10, 3) := by decide +kernel
theorem d_X13_cell_12 : decode (gw_mC M_X13_cell) 12 = .ok (.ldc 7, 2) := by decide +kernel
theorem d_X13_cell_14 : decode (gw_mC M_X13_cell) 14 = .ok (.iload_n 1, 1) := by decide +kernel
theorem d_X13_cell_15 : decode (gw_mC M_X13_cell) 15 = .ok (.imul, 1) := by decide +kernel
theorem d_X13_cell_16 : decode (gw_mC M_X13_cell) 16 = .ok (.bipush 107, 2) := by decide +kernel
theorem d_X13_cell_18 : decode (gw_mC M_X13_cell) 18 = .ok (.iadd, 1) := by decide +kernel
theorem d_X13_cell_19 : decode (gw_mC M_X13_cell) 19 = .ok (.ldc 8, 2) := by decide +kernel
theorem d_X13_cell_21 : decode (gw_mC M_X13_cell) 21 = .ok (.iand, 1) := by decide +kernel
theorem d_X13_cell_22 : decode (gw_mC M_X13_cell) 22 = .ok (.ireturn, 1) := by decide +kernel
theorem d_X13_end_0 : decode (gw_mC M_X13_end) 0 = .ok (.bipush 10, 2) := by decide +kernel
theorem d_X13_end_2 : decode (gw_mC M_X13_end) 2 = .ok (.aload_n 0, 1) := by decide +kernel
theorem d_X13_end_3 : decode (gw_mC M_X13_end) 3 = .ok (.iconst 0, 1) := by decide +kernel
theorem d_X13_end_4 : decode (gw_mC M_X13_end) 4 = .ok (.invokestatic 9, 3) := by decide +kernel
theorem d_X13_end_7 : decode (gw_mC M_X13_end) 7 = .ok (.bipush 50, 2) := by decide +kernel
theorem d_X13_end_9 : decode (gw_mC M_X13_end) 9 = .ok (.irem, 1) := by decide +kernel
theorem d_X13_end_10 : decode (gw_mC M_X13_end) 10 = .ok (.iadd, 1) := by decide +kernel
theorem d_X13_end_11 : decode (gw_mC M_X13_end) 11 = .ok (.ireturn, 1) := by decide +kernel
theorem d_X13_marks_0 : decode (gw_mC M_X13_marks) 0 = .ok (.aload_n 0, 1) := by decide +kernel
theorem d_X13_marks_1 : decode (gw_mC M_X13_marks) 1 = .ok (.iconst 0, 1) := by decide +kernel
theorem d_X13_marks_2 : decode (gw_mC M_X13_marks) 2 = .ok (.invokestatic 9, 3) := by decide +kernel
theorem d_X13_marks_5 : decode (gw_mC M_X13_marks) 5 = .ok (.bipush 6, 2) := by decide +kernel
theorem d_X13_marks_7 : decode (gw_mC M_X13_marks) 7 = .ok (.iconst 2, 1) := by decide +kernel
theorem d_X13_marks_8 : decode (gw_mC M_X13_marks) 8 = .ok (.iload_n 1, 1) := by decide +kernel
theorem d_X13_marks_9 : decode (gw_mC M_X13_marks) 9 = .ok (.imul, 1) := by decide +kernel
theorem d_X13_marks_10 : decode (gw_mC M_X13_marks) 10 = .ok (.iadd, 1) := by decide +kernel
theorem d_X13_marks_11 : decode (gw_mC M_X13_marks) 11 = .ok (.ishr, 1) := by decide +kernel
theorem d_X13_marks_12 : decode (gw_mC M_X13_marks) 12 = .ok (.iconst 4, 1) := by decide +kernel
theorem d_X13_marks_13 : decode (gw_mC M_X13_marks) 13 = .ok (.irem, 1) := by decide +kernel
theorem d_X13_marks_14 : decode (gw_mC M_X13_marks) 14 = .ok (.ireturn, 1) := by decide +kernel
theorem d_X13_mark_0 : decode (gw_mC M_X13_mark) 0 = .ok (.aload_n 0, 1) := by decide +kernel
theorem d_X13_mark_1 : decode (gw_mC M_X13_mark) 1 = .ok (.iconst 1, 1) := by decide +kernel
theorem d_X13_mark_2 : decode (gw_mC M_X13_mark) 2 = .ok (.iload_n 1, 1) := by decide +kernel
theorem d_X13_mark_3 : decode (gw_mC M_X13_mark) 3 = .ok (.iadd, 1) := by decide +kernel
theorem d_X13_mark_4 : decode (gw_mC M_X13_mark) 4 = .ok (.invokestatic 9, 3) := by decide +kernel
theorem d_X13_mark_7 : decode (gw_mC M_X13_mark) 7 = .ok (.iconst 5, 1) := by decide +kernel
theorem d_X13_mark_8 : decode (gw_mC M_X13_mark) 8 = .ok (.iload_n 2, 1) := by decide +kernel
theorem d_X13_mark_9 : decode (gw_mC M_X13_mark) 9 = .ok (.imul, 1) := by decide +kernel
theorem d_X13_mark_10 : decode (gw_mC M_X13_mark) 10 = .ok (.ishr, 1) := by decide +kernel
theorem d_X13_mark_11 : decode (gw_mC M_X13_mark) 11 = .ok (.istore 4, 2) := by decide +kernel
theorem d_X13_mark_13 : decode (gw_mC M_X13_mark) 13 = .ok (.iload 4, 2) := by decide +kernel
theorem d_X13_mark_15 : decode (gw_mC M_X13_mark) 15 = .ok (.iconst 3, 1) := by decide +kernel
theorem d_X13_mark_16 : decode (gw_mC M_X13_mark) 16 = .ok (.ishr, 1) := by decide +kernel
theorem d_X13_mark_17 : decode (gw_mC M_X13_mark) 17 = .ok (.iload_n 1, 1) := by decide +kernel
theorem d_X13_mark_18 : decode (gw_mC M_X13_mark) 18 = .ok (.iconst 3, 1) := by decide +kernel
theorem d_X13_mark_19 : decode (gw_mC M_X13_mark) 19 = .ok (.if_icmp .ne 8, 3) := by decide +kernel
theorem d_X13_mark_22 : decode (gw_mC M_X13_mark) 22 = .ok (.bipush 25, 2) := by decide +kernel
theorem d_X13_mark_24 : decode (gw_mC M_X13_mark) 24 = .ok (.goto 5, 3) := by decide +kernel
theorem d_X13_mark_27 : decode (gw_mC M_X13_mark) 27 = .ok (.bipush 8, 2) := by decide +kernel
theorem d_X13_mark_29 : decode (gw_mC M_X13_mark) 29 = .ok (.irem, 1) := by decide +kernel
theorem d_X13_mark_30 : decode (gw_mC M_X13_mark) 30 = .ok (.istore 5, 2) := by decide +kernel
theorem d_X13_mark_32 : decode (gw_mC M_X13_mark) 32 = .ok (.iload_n 3, 1) := by decide +kernel
theorem d_X13_mark_33 : decode (gw_mC M_X13_mark) 33 = .ok (.ifCond .ne 15, 3) := by decide +kernel
theorem d_X13_mark_36 : decode (gw_mC M_X13_mark) 36 = .ok (.iconst 3, 1) := by decide +kernel
theorem d_X13_mark_37 : decode (gw_mC M_X13_mark) 37 = .ok (.iload 4, 2) := by decide +kernel
theorem d_X13_mark_39 : decode (gw_mC M_X13_mark) 39 = .ok (.bipush 20, 2) := by decide +kernel
theorem d_X13_mark_41 : decode (gw_mC M_X13_mark) 41 = .ok (.irem, 1) := by decide +kernel
theorem d_X13_mark_42 : decode (gw_mC M_X13_mark) 42 = .ok (.imul, 1) := by decide +kernel
theorem d_X13_mark_43 : decode (gw_mC M_X13_mark) 43 = .ok (.iload_n 2, 1) := by decide +kernel
theorem d_X13_mark_44 : decode (gw_mC M_X13_mark) 44 = .ok (.iadd, 1) := by decide +kernel
theorem d_X13_mark_45 : decode (gw_mC M_X13_mark) 45 = .ok (.goto 19, 3) := by decide +kernel
theorem d_X13_mark_48 : decode (gw_mC M_X13_mark) 48 = .ok (.iload_n 1, 1) := by decide +kernel
theorem d_X13_mark_49 : decode (gw_mC M_X13_mark) 49 = .ok (.iconst 1, 1) := by decide +kernel
theorem d_X13_mark_50 : decode (gw_mC M_X13_mark) 50 = .ok (.if_icmp .ne 10, 3) := by decide +kernel
theorem d_X13_mark_53 : decode (gw_mC M_X13_mark) 53 = .ok (.iconst 2, 1) := by decide +kernel
theorem d_X13_mark_54 : decode (gw_mC M_X13_mark) 54 = .ok (.iload 5, 2) := by decide +kernel
theorem d_X13_mark_56 : decode (gw_mC M_X13_mark) 56 = .ok (.iadd, 1) := by decide +kernel
theorem d_X13_mark_57 : decode (gw_mC M_X13_mark) 57 = .ok (.goto 7, 3) := by decide +kernel
theorem d_X13_mark_60 : decode (gw_mC M_X13_mark) 60 = .ok (.iconst 1, 1) := by decide +kernel
theorem d_X13_mark_61 : decode (gw_mC M_X13_mark) 61 = .ok (.iload 5, 2) := by decide +kernel
theorem d_X13_mark_63 : decode (gw_mC M_X13_mark) 63 = .ok (.iadd, 1) := by decide +kernel
theorem d_X13_mark_64 : decode (gw_mC M_X13_mark) 64 = .ok (.ireturn, 1) := by decide +kernel
theorem d_X13_people_0 : decode (gw_mC M_X13_people) 0 = .ok (.iconst 1, 1) := by decide +kernel
theorem d_X13_people_1 : decode (gw_mC M_X13_people) 1 = .ok (.aload_n 0, 1) := by decide +kernel
theorem d_X13_people_2 : decode (gw_mC M_X13_people) 2 = .ok (.iconst 0, 1) := by decide +kernel
theorem d_X13_people_3 : decode (gw_mC M_X13_people) 3 = .ok (.invokestatic 9, 3) := by decide +kernel
theorem d_X13_people_6 : decode (gw_mC M_X13_people) 6 = .ok (.bipush 15, 2) := by decide +kernel
theorem d_X13_people_8 : decode (gw_mC M_X13_people) 8 = .ok (.ishr, 1) := by decide +kernel
theorem d_X13_people_9 : decode (gw_mC M_X13_people) 9 = .ok (.iload_n 1, 1) := by decide +kernel
theorem d_X13_people_10 : decode (gw_mC M_X13_people) 10 = .ok (.irem, 1) := by decide +kernel
theorem d_X13_people_11 : decode (gw_mC M_X13_people) 11 = .ok (.iadd, 1) := by decide +kernel
theorem d_X13_people_12 : decode (gw_mC M_X13_people) 12 = .ok (.ireturn, 1) := by decide +kernel
theorem d_X13_one_0 : decode (gw_mC M_X13_one) 0 = .ok (.aload_n 0, 1) := by decide +kernel
theorem d_X13_one_1 : decode (gw_mC M_X13_one) 1 = .ok (.iconst 5, 1) := by decide +kernel
theorem d_X13_one_2 : decode (gw_mC M_X13_one) 2 = .ok (.invokestatic 9, 3) := by decide +kernel
theorem d_X13_one_5 : decode (gw_mC M_X13_one) 5 = .ok (.iconst 3, 1) := by decide +kernel
theorem d_X13_one_6 : decode (gw_mC M_X13_one) 6 = .ok (.iload_n 1, 1) := by decide +kernel
theorem d_X13_one_7 : decode (gw_mC M_X13_one) 7 = .ok (.imul, 1) := by decide +kernel
theorem d_X13_one_8 : decode (gw_mC M_X13_one) 8 = .ok (.ishr, 1) := by decide +kernel
theorem d_X13_one_9 : decode (gw_mC M_X13_one) 9 = .ok (.istore_n 3, 1) := by decide +kernel
theorem d_X13_one_10 : decode (gw_mC M_X13_one) 10 = .ok (.iload_n 3, 1) := by decide +kernel
theorem d_X13_one_11 : decode (gw_mC M_X13_one) 11 = .ok (.iconst 4, 1) := by decide +kernel
theorem d_X13_one_12 : decode (gw_mC M_X13_one) 12 = .ok (.irem, 1) := by decide +kernel
theorem d_X13_one_13 : decode (gw_mC M_X13_one) 13 = .ok (.istore 4, 2) := by decide +kernel
theorem d_X13_one_15 : decode (gw_mC M_X13_one) 15 = .ok (.iconst 0, 1) := by decide +kernel
theorem d_X13_one_16 : decode (gw_mC M_X13_one) 16 = .ok (.istore 5, 2) := by decide +kernel
theorem d_X13_one_18 : decode (gw_mC M_X13_one) 18 = .ok (.iload 5, 2) := by decide +kernel
theorem d_X13_one_20 : decode (gw_mC M_X13_one) 20 = .ok (.iload_n 1, 1) := by decide +kernel
theorem d_X13_one_21 : decode (gw_mC M_X13_one) 21 = .ok (.if_icmp .ge 39, 3) := by decide +kernel
theorem d_X13_one_24 : decode (gw_mC M_X13_one) 24 = .ok (.iload 4, 2) := by decide +kernel
theorem d_X13_one_26 : decode (gw_mC M_X13_one) 26 = .ok (.iconst 3, 1) := by decide +kernel
theorem d_X13_one_27 : decode (gw_mC M_X13_one) 27 = .ok (.if_icmp .ne 23, 3) := by decide +kernel
theorem d_X13_one_30 : decode (gw_mC M_X13_one) 30 = .ok (.aload_n 0, 1) := by decide +kernel
theorem d_X13_one_31 : decode (gw_mC M_X13_one) 31 = .ok (.iconst 5, 1) := by decide +kernel
theorem d_X13_one_32 : decode (gw_mC M_X13_one) 32 = .ok (.invokestatic 9, 3) := by decide +kernel
theorem d_X13_one_35 : decode (gw_mC M_X13_one) 35 = .ok (.iconst 3, 1) := by decide +kernel
theorem d_X13_one_36 : decode (gw_mC M_X13_one) 36 = .ok (.iload 5, 2) := by decide +kernel
theorem d_X13_one_38 : decode (gw_mC M_X13_one) 38 = .ok (.imul, 1) := by decide +kernel
theorem d_X13_one_39 : decode (gw_mC M_X13_one) 39 = .ok (.ishr, 1) := by decide +kernel
theorem d_X13_one_40 : decode (gw_mC M_X13_one) 40 = .ok (.iconst 4, 1) := by decide +kernel
theorem d_X13_one_41 : decode (gw_mC M_X13_one) 41 = .ok (.irem, 1) := by decide +kernel
theorem d_X13_one_42 : decode (gw_mC M_X13_one) 42 = .ok (.iconst 3, 1) := by decide +kernel
theorem d_X13_one_43 : decode (gw_mC M_X13_one) 43 = .ok (.if_icmp .ne 7, 3) := by decide +kernel
theorem d_X13_one_46 : decode (gw_mC M_X13_one) 46 = .ok (.iconst 0, 1) := by decide +kernel
theorem d_X13_one_47 : decode (gw_mC M_X13_one) 47 = .ok (.goto 5, 3) := by decide +kernel
theorem d_X13_one_50 : decode (gw_mC M_X13_one) 50 = .ok (.iload 4, 2) := by decide +kernel
theorem d_X13_one_52 : decode (gw_mC M_X13_one) 52 = .ok (.istore 4, 2) := by decide +kernel
theorem d_X13_one_54 : decode (gw_mC M_X13_one) 54 = .ok (.iinc 5 1, 3) := by decide +kernel
theorem d_X13_one_57 : decode (gw_mC M_X13_one) 57 = .ok (.goto (-39), 3) := by decide +kernel
theorem d_X13_one_60 : decode (gw_mC M_X13_one) 60 = .ok (.iload_n 2, 1) := by decide +kernel
theorem d_X13_one_61 : decode (gw_mC M_X13_one) 61 = .ok (.ifCond .ne 8, 3) := by decide +kernel
theorem d_X13_one_64 : decode (gw_mC M_X13_one) 64 = .ok (.iload 4, 2) := by decide +kernel
theorem d_X13_one_66 : decode (gw_mC M_X13_one) 66 = .ok (.goto 23, 3) := by decide +kernel
theorem d_X13_one_69 : decode (gw_mC M_X13_one) 69 = .ok (.iload_n 2, 1) := by decide +kernel
theorem d_X13_one_70 : decode (gw_mC M_X13_one) 70 = .ok (.iconst 1, 1) := by decide +kernel
theorem d_X13_one_71 : decode (gw_mC M_X13_one) 71 = .ok (.if_icmp .ne 13, 3) := by decide +kernel
theorem d_X13_one_74 : decode (gw_mC M_X13_one) 74 = .ok (.iconst 1, 1) := by decide +kernel
theorem d_X13_one_75 : decode (gw_mC M_X13_one) 75 = .ok (.iload_n 3, 1) := by decide +kernel
theorem d_X13_one_76 : decode (gw_mC M_X13_one) 76 = .ok (.iconst 2, 1) := by decide +kernel
theorem d_X13_one_77 : decode (gw_mC M_X13_one) 77 = .ok (.ishr, 1) := by decide +kernel
theorem d_X13_one_78 : decode (gw_mC M_X13_one) 78 = .ok (.iconst 4, 1) := by decide +kernel
theorem d_X13_one_79 : decode (gw_mC M_X13_one) 79 = .ok (.irem, 1) := by decide +kernel
theorem d_X13_one_80 : decode (gw_mC M_X13_one) 80 = .ok (.iadd, 1) := by decide +kernel
theorem d_X13_one_81 : decode (gw_mC M_X13_one) 81 = .ok (.goto 8, 3) := by decide +kernel
theorem d_X13_one_84 : decode (gw_mC M_X13_one) 84 = .ok (.iload_n 3, 1) := by decide +kernel
theorem d_X13_one_85 : decode (gw_mC M_X13_one) 85 = .ok (.iconst 4, 1) := by decide +kernel
theorem d_X13_one_86 : decode (gw_mC M_X13_one) 86 = .ok (.ishr, 1) := by decide +kernel
theorem d_X13_one_87 : decode (gw_mC M_X13_one) 87 = .ok (.iconst 1, 1) := by decide +kernel
theorem d_X13_one_88 : decode (gw_mC M_X13_one) 88 = .ok (.iand, 1) := by decide +kernel
theorem d_X13_one_89 : decode (gw_mC M_X13_one) 89 = .ok (.ireturn, 1) := by decide +kernel
theorem d_X13_rule_0 : decode (gw_mC M_X13_rule) 0 = .ok (.aload_n 0, 1) := by decide +kernel
theorem d_X13_rule_1 : decode (gw_mC M_X13_rule) 1 = .ok (.bipush 6, 2) := by decide +kernel
theorem d_X13_rule_3 : decode (gw_mC M_X13_rule) 3 = .ok (.invokestatic 9, 3) := by decide +kernel
theorem d_X13_rule_6 : decode (gw_mC M_X13_rule) 6 = .ok (.istore_n 2, 1) := by decide +kernel
theorem d_X13_rule_7 : decode (gw_mC M_X13_rule) 7 = .ok (.iload_n 1, 1) := by decide +kernel
theorem d_X13_rule_8 : decode (gw_mC M_X13_rule) 8 = .ok (.ifCond .ne 11, 3) := by decide +kernel
theorem d_X13_rule_11 : decode (gw_mC M_X13_rule) 11 = .ok (.iconst 1, 1) := by decide +kernel
theorem d_X13_rule_12 : decode (gw_mC M_X13_rule) 12 = .ok (.iload_n 2, 1) := by decide +kernel
theorem d_X13_rule_13 : decode (gw_mC M_X13_rule) 13 = .ok (.iconst 4, 1) := by decide +kernel
theorem d_X13_rule_14 : decode (gw_mC M_X13_rule) 14 = .ok (.irem, 1) := by decide +kernel
theorem d_X13_rule_15 : decode (gw_mC M_X13_rule) 15 = .ok (.iadd, 1) := by decide +kernel
theorem d_X13_rule_16 : decode (gw_mC M_X13_rule) 16 = .ok (.goto 55, 3) := by decide +kernel
theorem d_X13_rule_19 : decode (gw_mC M_X13_rule) 19 = .ok (.iload_n 1, 1) := by decide +kernel
theorem d_X13_rule_20 : decode (gw_mC M_X13_rule) 20 = .ok (.iconst 1, 1) := by decide +kernel
theorem d_X13_rule_21 : decode (gw_mC M_X13_rule) 21 = .ok (.if_icmp .ne 12, 3) := by decide +kernel
theorem d_X13_rule_24 : decode (gw_mC M_X13_rule) 24 = .ok (.iload_n 2, 1) := by decide +kernel
theorem d_X13_rule_25 : decode (gw_mC M_X13_rule) 25 = .ok (.iconst 2, 1) := by decide +kernel
theorem d_X13_rule_26 : decode (gw_mC M_X13_rule) 26 = .ok (.ishr, 1) := by decide +kernel
theorem d_X13_rule_27 : decode (gw_mC M_X13_rule) 27 = .ok (.bipush 11, 2) := by decide +kernel
theorem d_X13_rule_29 : decode (gw_mC M_X13_rule) 29 = .ok (.irem, 1) := by decide +kernel
theorem d_X13_rule_30 : decode (gw_mC M_X13_rule) 30 = .ok (.goto 41, 3) := by decide +kernel
theorem d_X13_rule_33 : decode (gw_mC M_X13_rule) 33 = .ok (.iload_n 1, 1) := by decide +kernel
theorem d_X13_rule_34 : decode (gw_mC M_X13_rule) 34 = .ok (.iconst 2, 1) := by decide +kernel
theorem d_X13_rule_35 : decode (gw_mC M_X13_rule) 35 = .ok (.if_icmp .ne 12, 3) := by decide +kernel
theorem d_X13_rule_38 : decode (gw_mC M_X13_rule) 38 = .ok (.iload_n 2, 1) := by decide +kernel
theorem d_X13_rule_39 : decode (gw_mC M_X13_rule) 39 = .ok (.bipush 6, 2) := by decide +kernel
theorem d_X13_rule_41 : decode (gw_mC M_X13_rule) 41 = .ok (.ishr, 1) := by decide +kernel
theorem d_X13_rule_42 : decode (gw_mC M_X13_rule) 42 = .ok (.iconst 5, 1) := by decide +kernel
theorem d_X13_rule_43 : decode (gw_mC M_X13_rule) 43 = .ok (.irem, 1) := by decide +kernel
theorem d_X13_rule_44 : decode (gw_mC M_X13_rule) 44 = .ok (.goto 27, 3) := by decide +kernel
theorem d_X13_rule_47 : decode (gw_mC M_X13_rule) 47 = .ok (.iload_n 1, 1) := by decide +kernel
theorem d_X13_rule_48 : decode (gw_mC M_X13_rule) 48 = .ok (.iconst 3, 1) := by decide +kernel
theorem d_X13_rule_49 : decode (gw_mC M_X13_rule) 49 = .ok (.if_icmp .ne 13, 3) := by decide +kernel
theorem d_X13_rule_52 : decode (gw_mC M_X13_rule) 52 = .ok (.iload_n 2, 1) := by decide +kernel
theorem d_X13_rule_53 : decode (gw_mC M_X13_rule) 53 = .ok (.bipush 9, 2) := by decide +kernel
theorem d_X13_rule_55 : decode (gw_mC M_X13_rule) 55 = .ok (.ishr, 1) := by decide +kernel
theorem d_X13_rule_56 : decode (gw_mC M_X13_rule) 56 = .ok (.bipush 16, 2) := by decide +kernel
theorem d_X13_rule_58 : decode (gw_mC M_X13_rule) 58 = .ok (.irem, 1) := by decide +kernel
theorem d_X13_rule_59 : decode (gw_mC M_X13_rule) 59 = .ok (.goto 12, 3) := by decide +kernel
theorem d_X13_rule_62 : decode (gw_mC M_X13_rule) 62 = .ok (.iconst 1, 1) := by decide +kernel
theorem d_X13_rule_63 : decode (gw_mC M_X13_rule) 63 = .ok (.iload_n 2, 1) := by decide +kernel
theorem d_X13_rule_64 : decode (gw_mC M_X13_rule) 64 = .ok (.bipush 13, 2) := by decide +kernel
theorem d_X13_rule_66 : decode (gw_mC M_X13_rule) 66 = .ok (.ishr, 1) := by decide +kernel
theorem d_X13_rule_67 : decode (gw_mC M_X13_rule) 67 = .ok (.bipush 8, 2) := by decide +kernel
theorem d_X13_rule_69 : decode (gw_mC M_X13_rule) 69 = .ok (.irem, 1) := by decide +kernel
theorem d_X13_rule_70 : decode (gw_mC M_X13_rule) 70 = .ok (.iadd, 1) := by decide +kernel
theorem d_X13_rule_71 : decode (gw_mC M_X13_rule) 71 = .ok (.ireturn, 1) := by decide +kernel
theorem d_X13_lays_0 : decode (gw_mC M_X13_lays) 0 = .ok (.aload_n 0, 1) := by decide +kernel
theorem d_X13_lays_1 : decode (gw_mC M_X13_lays) 1 = .ok (.aload_n 1, 1) := by decide +kernel
theorem d_X13_lays_2 : decode (gw_mC M_X13_lays) 2 = .ok (.invokestatic 15, 3) := by decide +kernel
theorem d_X13_lays_5 : decode (gw_mC M_X13_lays) 5 = .ok (.invokevirtual 19, 3) := by decide +kernel
theorem d_X13_lays_8 : decode (gw_mC M_X13_lays) 8 = .ok (.bipush 40, 2) := by decide +kernel
theorem d_X13_lays_10 : decode (gw_mC M_X13_lays) 10 = .ok (.if_icmp .ne 7, 3) := by decide +kernel
theorem d_X13_lays_13 : decode (gw_mC M_X13_lays) 13 = .ok (.iconst 1, 1) := by decide +kernel
theorem d_X13_lays_14 : decode (gw_mC M_X13_lays) 14 = .ok (.goto 4, 3) := by decide +kernel
theorem d_X13_lays_17 : decode (gw_mC M_X13_lays) 17 = .ok (.iconst 0, 1) := by decide +kernel
theorem d_X13_lays_18 : decode (gw_mC M_X13_lays) 18 = .ok (.istore_n 3, 1) := by decide +kernel
theorem d_X13_lays_19 : decode (gw_mC M_X13_lays) 19 = .ok (.iconst 0, 1) := by decide +kernel
theorem d_X13_lays_20 : decode (gw_mC M_X13_lays) 20 = .ok (.istore 4, 2) := by decide +kernel
theorem d_X13_lays_22 : decode (gw_mC M_X13_lays) 22 = .ok (.iload 4, 2) := by decide +kernel
theorem d_X13_lays_24 : decode (gw_mC M_X13_lays) 24 = .ok (.iconst 4, 1) := by decide +kernel
theorem d_X13_lays_25 : decode (gw_mC M_X13_lays) 25 = .ok (.if_icmp .ge 72, 3) := by decide +kernel
theorem d_X13_lays_28 : decode (gw_mC M_X13_lays) 28 = .ok (.iload_n 3, 1) := by decide +kernel
theorem d_X13_lays_29 : decode (gw_mC M_X13_lays) 29 = .ok (.ifCond .eq 68, 3) := by decide +kernel
theorem d_X13_lays_32 : decode (gw_mC M_X13_lays) 32 = .ok (.iconst 0, 1) := by decide +kernel
theorem d_X13_lays_33 : decode (gw_mC M_X13_lays) 33 = .ok (.istore 5, 2) := by decide +kernel
theorem d_X13_lays_35 : decode (gw_mC M_X13_lays) 35 = .ok (.iload 5, 2) := by decide +kernel
theorem d_X13_lays_37 : decode (gw_mC M_X13_lays) 37 = .ok (.aload_n 1, 1) := by decide +kernel
theorem d_X13_lays_38 : decode (gw_mC M_X13_lays) 38 = .ok (.iload 4, 2) := by decide +kernel
theorem d_X13_lays_40 : decode (gw_mC M_X13_lays) 40 = .ok (.invokestatic 24, 3) := by decide +kernel
theorem d_X13_lays_43 : decode (gw_mC M_X13_lays) 43 = .ok (.if_icmp .ge 48, 3) := by decide +kernel
theorem d_X13_lays_46 : decode (gw_mC M_X13_lays) 46 = .ok (.iload_n 3, 1) := by decide +kernel
theorem d_X13_lays_47 : decode (gw_mC M_X13_lays) 47 = .ok (.ifCond .eq 44, 3) := by decide +kernel
theorem d_X13_lays_50 : decode (gw_mC M_X13_lays) 50 = .ok (.aload_n 0, 1) := by decide +kernel
theorem d_X13_lays_51 : decode (gw_mC M_X13_lays) 51 = .ok (.iload 4, 2) := by decide +kernel
theorem d_X13_lays_53 : decode (gw_mC M_X13_lays) 53 = .ok (.aload_n 1, 1) := by decide +kernel
theorem d_X13_lays_54 : decode (gw_mC M_X13_lays) 54 = .ok (.iload 4, 2) := by decide +kernel
theorem d_X13_lays_56 : decode (gw_mC M_X13_lays) 56 = .ok (.iload 5, 2) := by decide +kernel
theorem d_X13_lays_58 : decode (gw_mC M_X13_lays) 58 = .ok (.iconst 0, 1) := by decide +kernel
theorem d_X13_lays_59 : decode (gw_mC M_X13_lays) 59 = .ok (.invokestatic 27, 3) := by decide +kernel
theorem d_X13_lays_62 : decode (gw_mC M_X13_lays) 62 = .ok (.aload_n 1, 1) := by decide +kernel
theorem d_X13_lays_63 : decode (gw_mC M_X13_lays) 63 = .ok (.iload 4, 2) := by decide +kernel
theorem d_X13_lays_65 : decode (gw_mC M_X13_lays) 65 = .ok (.iload 5, 2) := by decide +kernel
theorem d_X13_lays_67 : decode (gw_mC M_X13_lays) 67 = .ok (.iconst 1, 1) := by decide +kernel
theorem d_X13_lays_68 : decode (gw_mC M_X13_lays) 68 = .ok (.invokestatic 27, 3) := by decide +kernel
theorem d_X13_lays_71 : decode (gw_mC M_X13_lays) 71 = .ok (.invokevirtual 31, 3) := by decide +kernel
theorem d_X13_lays_74 : decode (gw_mC M_X13_lays) 74 = .ok (.iload 5, 2) := by decide +kernel
theorem d_X13_lays_76 : decode (gw_mC M_X13_lays) 76 = .ok (.if_icmp .ne 7, 3) := by decide +kernel
theorem d_X13_lays_79 : decode (gw_mC M_X13_lays) 79 = .ok (.iconst 1, 1) := by decide +kernel
theorem d_X13_lays_80 : decode (gw_mC M_X13_lays) 80 = .ok (.goto 4, 3) := by decide +kernel
theorem d_X13_lays_83 : decode (gw_mC M_X13_lays) 83 = .ok (.iconst 0, 1) := by decide +kernel
theorem d_X13_lays_84 : decode (gw_mC M_X13_lays) 84 = .ok (.istore_n 3, 1) := by decide +kernel
theorem d_X13_lays_85 : decode (gw_mC M_X13_lays) 85 = .ok (.iinc 5 1, 3) := by decide +kernel
theorem d_X13_lays_88 : decode (gw_mC M_X13_lays) 88 = .ok (.goto (-53), 3) := by decide +kernel
theorem d_X13_lays_91 : decode (gw_mC M_X13_lays) 91 = .ok (.iinc 4 1, 3) := by decide +kernel
theorem d_X13_lays_94 : decode (gw_mC M_X13_lays) 94 = .ok (.goto (-72), 3) := by decide +kernel
theorem d_X13_lays_97 : decode (gw_mC M_X13_lays) 97 = .ok (.iconst 0, 1) := by decide +kernel
theorem d_X13_lays_98 : decode (gw_mC M_X13_lays) 98 = .ok (.istore 4, 2) := by decide +kernel
theorem d_X13_lays_100 : decode (gw_mC M_X13_lays) 100 = .ok (.iload 4, 2) := by decide +kernel
theorem d_X13_lays_102 : decode (gw_mC M_X13_lays) 102 = .ok (.iconst 5, 1) := by decide +kernel
theorem d_X13_lays_103 : decode (gw_mC M_X13_lays) 103 = .ok (.if_icmp .ge 34, 3) := by decide +kernel
theorem d_X13_lays_106 : decode (gw_mC M_X13_lays) 106 = .ok (.iload_n 3, 1) := by decide +kernel
theorem d_X13_lays_107 : decode (gw_mC M_X13_lays) 107 = .ok (.ifCond .eq 30, 3) := by decide +kernel
theorem d_X13_lays_110 : decode (gw_mC M_X13_lays) 110 = .ok (.aload_n 0, 1) := by decide +kernel
theorem d_X13_lays_111 : decode (gw_mC M_X13_lays) 111 = .ok (.iload 4, 2) := by decide +kernel
theorem d_X13_lays_113 : decode (gw_mC M_X13_lays) 113 = .ok (.aload_n 1, 1) := by decide +kernel
theorem d_X13_lays_114 : decode (gw_mC M_X13_lays) 114 = .ok (.iload 4, 2) := by decide +kernel
theorem d_X13_lays_116 : decode (gw_mC M_X13_lays) 116 = .ok (.invokestatic 34, 3) := by decide +kernel
theorem d_X13_lays_119 : decode (gw_mC M_X13_lays) 119 = .ok (.invokevirtual 37, 3) := by decide +kernel
theorem d_X13_lays_122 : decode (gw_mC M_X13_lays) 122 = .ok (.ifCond .lt 7, 3) := by decide +kernel
theorem d_X13_lays_125 : decode (gw_mC M_X13_lays) 125 = .ok (.iconst 1, 1) := by decide +kernel
theorem d_X13_lays_126 : decode (gw_mC M_X13_lays) 126 = .ok (.goto 4, 3) := by decide +kernel
theorem d_X13_lays_129 : decode (gw_mC M_X13_lays) 129 = .ok (.iconst 0, 1) := by decide +kernel
theorem d_X13_lays_130 : decode (gw_mC M_X13_lays) 130 = .ok (.istore_n 3, 1) := by decide +kernel
theorem d_X13_lays_131 : decode (gw_mC M_X13_lays) 131 = .ok (.iinc 4 1, 3) := by decide +kernel
theorem d_X13_lays_134 : decode (gw_mC M_X13_lays) 134 = .ok (.goto (-34), 3) := by decide +kernel
theorem d_X13_lays_137 : decode (gw_mC M_X13_lays) 137 = .ok (.iconst 0, 1) := by decide +kernel
theorem d_X13_lays_138 : decode (gw_mC M_X13_lays) 138 = .ok (.istore 4, 2) := by decide +kernel
theorem d_X13_lays_140 : decode (gw_mC M_X13_lays) 140 = .ok (.iload 4, 2) := by decide +kernel
theorem d_X13_lays_142 : decode (gw_mC M_X13_lays) 142 = .ok (.aload_n 1, 1) := by decide +kernel
theorem d_X13_lays_143 : decode (gw_mC M_X13_lays) 143 = .ok (.iload_n 2, 1) := by decide +kernel
theorem d_X13_lays_144 : decode (gw_mC M_X13_lays) 144 = .ok (.invokestatic 40, 3) := by decide +kernel
theorem d_X13_lays_147 : decode (gw_mC M_X13_lays) 147 = .ok (.if_icmp .ge 58, 3) := by decide +kernel
theorem d_X13_lays_150 : decode (gw_mC M_X13_lays) 150 = .ok (.iload_n 3, 1) := by decide +kernel
theorem d_X13_lays_151 : decode (gw_mC M_X13_lays) 151 = .ok (.ifCond .eq 54, 3) := by decide +kernel
theorem d_X13_lays_154 : decode (gw_mC M_X13_lays) 154 = .ok (.aload_n 0, 1) := by decide +kernel
theorem d_X13_lays_155 : decode (gw_mC M_X13_lays) 155 = .ok (.aload_n 1, 1) := by decide +kernel
theorem d_X13_lays_156 : decode (gw_mC M_X13_lays) 156 = .ok (.iload 4, 2) := by decide +kernel
theorem d_X13_lays_158 : decode (gw_mC M_X13_lays) 158 = .ok (.iconst 0, 1) := by decide +kernel
theorem d_X13_lays_159 : decode (gw_mC M_X13_lays) 159 = .ok (.invokestatic 43, 3) := by decide +kernel
theorem d_X13_lays_162 : decode (gw_mC M_X13_lays) 162 = .ok (.aload_n 1, 1) := by decide +kernel
theorem d_X13_lays_163 : decode (gw_mC M_X13_lays) 163 = .ok (.iload 4, 2) := by decide +kernel
theorem d_X13_lays_165 : decode (gw_mC M_X13_lays) 165 = .ok (.iconst 1, 1) := by decide +kernel
theorem d_X13_lays_166 : decode (gw_mC M_X13_lays) 166 = .ok (.invokestatic 43, 3) := by decide +kernel
theorem d_X13_lays_169 : decode (gw_mC M_X13_lays) 169 = .ok (.aload_n 1, 1) := by decide +kernel
theorem d_X13_lays_170 : decode (gw_mC M_X13_lays) 170 = .ok (.iload 4, 2) := by decide +kernel
theorem d_X13_lays_172 : decode (gw_mC M_X13_lays) 172 = .ok (.iconst 2, 1) := by decide +kernel
theorem d_X13_lays_173 : decode (gw_mC M_X13_lays) 173 = .ok (.invokestatic 43, 3) := by decide +kernel
theorem d_X13_lays_176 : decode (gw_mC M_X13_lays) 176 = .ok (.iconst 1, 1) := by decide +kernel
theorem d_X13_lays_177 : decode (gw_mC M_X13_lays) 177 = .ok (.if_icmp .ne 7, 3) := by decide +kernel
theorem d_X13_lays_180 : decode (gw_mC M_X13_lays) 180 = .ok (.iconst 1, 1) := by decide +kernel
theorem d_X13_lays_181 : decode (gw_mC M_X13_lays) 181 = .ok (.goto 4, 3) := by decide +kernel
theorem d_X13_lays_184 : decode (gw_mC M_X13_lays) 184 = .ok (.iconst 0, 1) := by decide +kernel
theorem d_X13_lays_185 : decode (gw_mC M_X13_lays) 185 = .ok (.invokevirtual 47, 3) := by decide +kernel
theorem d_X13_lays_188 : decode (gw_mC M_X13_lays) 188 = .ok (.iload 4, 2) := by decide +kernel
theorem d_X13_lays_190 : decode (gw_mC M_X13_lays) 190 = .ok (.if_icmp .ne 7, 3) := by decide +kernel
theorem d_X13_lays_193 : decode (gw_mC M_X13_lays) 193 = .ok (.iconst 1, 1) := by decide +kernel
theorem d_X13_lays_194 : decode (gw_mC M_X13_lays) 194 = .ok (.goto 4, 3) := by decide +kernel
theorem d_X13_lays_197 : decode (gw_mC M_X13_lays) 197 = .ok (.iconst 0, 1) := by decide +kernel
theorem d_X13_lays_198 : decode (gw_mC M_X13_lays) 198 = .ok (.istore_n 3, 1) := by decide +kernel
theorem d_X13_lays_199 : decode (gw_mC M_X13_lays) 199 = .ok (.iinc 4 1, 3) := by decide +kernel
theorem d_X13_lays_202 : decode (gw_mC M_X13_lays) 202 = .ok (.goto (-62), 3) := by decide +kernel
theorem d_X13_lays_205 : decode (gw_mC M_X13_lays) 205 = .ok (.iload_n 3, 1) := by decide +kernel
theorem d_X13_lays_206 : decode (gw_mC M_X13_lays) 206 = .ok (.ireturn, 1) := by decide +kernel
theorem d_X13_law_0 : decode (gw_mC M_X13_law) 0 = .ok (.new 20, 3) := by decide +kernel
theorem d_X13_law_3 : decode (gw_mC M_X13_law) 3 = .ok (.dup, 1) := by decide +kernel
theorem d_X13_law_4 : decode (gw_mC M_X13_law) 4 = .ok (.invokespecial 51, 3) := by decide +kernel
theorem d_X13_law_7 : decode (gw_mC M_X13_law) 7 = .ok (.astore_n 1, 1) := by decide +kernel
theorem d_X13_law_8 : decode (gw_mC M_X13_law) 8 = .ok (.aload_n 1, 1) := by decide +kernel
theorem d_X13_law_9 : decode (gw_mC M_X13_law) 9 = .ok (.aload_n 0, 1) := by decide +kernel
theorem d_X13_law_10 : decode (gw_mC M_X13_law) 10 = .ok (.bipush 7, 2) := by decide +kernel
theorem d_X13_law_12 : decode (gw_mC M_X13_law) 12 = .ok (.invokestatic 52, 3) := by decide +kernel
theorem d_X13_law_15 : decode (gw_mC M_X13_law) 15 = .ok (.istore_n 2, 1) := by decide +kernel
theorem d_X13_law_16 : decode (gw_mC M_X13_law) 16 = .ok (.aload_n 0, 1) := by decide +kernel
theorem d_X13_law_17 : decode (gw_mC M_X13_law) 17 = .ok (.bipush 7, 2) := by decide +kernel
theorem d_X13_law_19 : decode (gw_mC M_X13_law) 19 = .ok (.invokestatic 40, 3) := by decide +kernel
theorem d_X13_law_22 : decode (gw_mC M_X13_law) 22 = .ok (.istore_n 3, 1) := by decide +kernel
theorem d_X13_law_23 : decode (gw_mC M_X13_law) 23 = .ok (.aload_n 0, 1) := by decide +kernel
theorem d_X13_law_24 : decode (gw_mC M_X13_law) 24 = .ok (.invokestatic 15, 3) := by decide +kernel
theorem d_X13_law_27 : decode (gw_mC M_X13_law) 27 = .ok (.istore 4, 2) := by decide +kernel
theorem d_X13_law_29 : decode (gw_mC M_X13_law) 29 = .ok (.bipush 8, 2) := by decide +kernel
theorem d_X13_law_31 : decode (gw_mC M_X13_law) 31 = .ok (.newarray .int, 2) := by decide +kernel
theorem d_X13_law_33 : decode (gw_mC M_X13_law) 33 = .ok (.astore 5, 2) := by decide +kernel
theorem d_X13_law_35 : decode (gw_mC M_X13_law) 35 = .ok (.iconst (-1), 1) := by decide +kernel
theorem d_X13_law_36 : decode (gw_mC M_X13_law) 36 = .ok (.istore 6, 2) := by decide +kernel
theorem d_X13_law_38 : decode (gw_mC M_X13_law) 38 = .ok (.iconst 0, 1) := by decide +kernel
theorem d_X13_law_39 : decode (gw_mC M_X13_law) 39 = .ok (.istore 7, 2) := by decide +kernel
theorem d_X13_law_41 : decode (gw_mC M_X13_law) 41 = .ok (.iload 7, 2) := by decide +kernel
theorem d_X13_law_43 : decode (gw_mC M_X13_law) 43 = .ok (.iload_n 3, 1) := by decide +kernel
theorem d_X13_law_44 : decode (gw_mC M_X13_law) 44 = .ok (.if_icmp .ge 29, 3) := by decide +kernel
theorem d_X13_law_47 : decode (gw_mC M_X13_law) 47 = .ok (.aload_n 0, 1) := by decide +kernel
theorem d_X13_law_48 : decode (gw_mC M_X13_law) 48 = .ok (.iload 7, 2) := by decide +kernel
theorem d_X13_law_50 : decode (gw_mC M_X13_law) 50 = .ok (.iconst 0, 1) := by decide +kernel
theorem d_X13_law_51 : decode (gw_mC M_X13_law) 51 = .ok (.invokestatic 43, 3) := by decide +kernel
theorem d_X13_law_54 : decode (gw_mC M_X13_law) 54 = .ok (.iconst 3, 1) := by decide +kernel
theorem d_X13_law_55 : decode (gw_mC M_X13_law) 55 = .ok (.if_icmp .ne 8, 3) := by decide +kernel
theorem d_X13_law_58 : decode (gw_mC M_X13_law) 58 = .ok (.iload 7, 2) := by decide +kernel
theorem d_X13_law_60 : decode (gw_mC M_X13_law) 60 = .ok (.goto 5, 3) := by decide +kernel
theorem d_X13_law_63 : decode (gw_mC M_X13_law) 63 = .ok (.iload 6, 2) := by decide +kernel
theorem d_X13_law_65 : decode (gw_mC M_X13_law) 65 = .ok (.istore 6, 2) := by decide +kernel
theorem d_X13_law_67 : decode (gw_mC M_X13_law) 67 = .ok (.iinc 7 1, 3) := by decide +kernel
theorem d_X13_law_70 : decode (gw_mC M_X13_law) 70 = .ok (.goto (-29), 3) := by decide +kernel
theorem d_X13_law_73 : decode (gw_mC M_X13_law) 73 = .ok (.bipush (-4), 2) := by decide +kernel
theorem d_X13_law_75 : decode (gw_mC M_X13_law) 75 = .ok (.istore 7, 2) := by decide +kernel
theorem d_X13_law_77 : decode (gw_mC M_X13_law) 77 = .ok (.iconst 0, 1) := by decide +kernel
theorem d_X13_law_78 : decode (gw_mC M_X13_law) 78 = .ok (.istore 8, 2) := by decide +kernel
theorem d_X13_law_80 : decode (gw_mC M_X13_law) 80 = .ok (.iload 8, 2) := by decide +kernel
theorem d_X13_law_82 : decode (gw_mC M_X13_law) 82 = .ok (.bipush 60, 2) := by decide +kernel
theorem d_X13_law_84 : decode (gw_mC M_X13_law) 84 = .ok (.if_icmp .ge 283, 3) := by decide +kernel
theorem d_X13_law_87 : decode (gw_mC M_X13_law) 87 = .ok (.iload_n 2, 1) := by decide +kernel
theorem d_X13_law_88 : decode (gw_mC M_X13_law) 88 = .ok (.ifCond .eq 279, 3) := by decide +kernel
theorem d_X13_law_91 : decode (gw_mC M_X13_law) 91 = .ok (.aload_n 1, 1) := by decide +kernel
theorem d_X13_law_92 : decode (gw_mC M_X13_law) 92 = .ok (.iload 8, 2) := by decide +kernel
theorem d_X13_law_94 : decode (gw_mC M_X13_law) 94 = .ok (.iconst (-1), 1) := by decide +kernel
theorem d_X13_law_95 : decode (gw_mC M_X13_law) 95 = .ok (.invokevirtual 56, 3) := by decide +kernel
theorem d_X13_law_98 : decode (gw_mC M_X13_law) 98 = .ok (.istore 9, 2) := by decide +kernel
theorem d_X13_law_100 : decode (gw_mC M_X13_law) 100 = .ok (.sipush 1000, 3) := by decide +kernel
theorem d_X13_law_103 : decode (gw_mC M_X13_law) 103 = .ok (.istore 10, 2) := by decide +kernel
theorem d_X13_law_105 : decode (gw_mC M_X13_law) 105 = .ok (.iload 9, 2) := by decide +kernel
theorem d_X13_law_107 : decode (gw_mC M_X13_law) 107 = .ok (.aload 5, 2) := by decide +kernel
theorem d_X13_law_109 : decode (gw_mC M_X13_law) 109 = .ok (.bipush 7, 2) := by decide +kernel
theorem d_X13_law_111 : decode (gw_mC M_X13_law) 111 = .ok (.iaload, 1) := by decide +kernel
theorem d_X13_law_112 : decode (gw_mC M_X13_law) 112 = .ok (.if_icmp .lt 30, 3) := by decide +kernel
theorem d_X13_law_115 : decode (gw_mC M_X13_law) 115 = .ok (.iload 9, 2) := by decide +kernel
theorem d_X13_law_117 : decode (gw_mC M_X13_law) 117 = .ok (.aload 5, 2) := by decide +kernel
theorem d_X13_law_119 : decode (gw_mC M_X13_law) 119 = .ok (.bipush 7, 2) := by decide +kernel
theorem d_X13_law_121 : decode (gw_mC M_X13_law) 121 = .ok (.iaload, 1) := by decide +kernel
theorem d_X13_law_122 : decode (gw_mC M_X13_law) 122 = .ok (.isub, 1) := by decide +kernel
theorem d_X13_law_123 : decode (gw_mC M_X13_law) 123 = .ok (.aload_n 0, 1) := by decide +kernel
theorem d_X13_law_124 : decode (gw_mC M_X13_law) 124 = .ok (.iconst 0, 1) := by decide +kernel
theorem d_X13_law_125 : decode (gw_mC M_X13_law) 125 = .ok (.invokestatic 34, 3) := by decide +kernel
theorem d_X13_law_128 : decode (gw_mC M_X13_law) 128 = .ok (.if_icmp .gt 14, 3) := by decide +kernel
theorem d_X13_law_131 : decode (gw_mC M_X13_law) 131 = .ok (.iload 9, 2) := by decide +kernel
theorem d_X13_law_133 : decode (gw_mC M_X13_law) 133 = .ok (.iload 4, 2) := by decide +kernel
theorem d_X13_law_135 : decode (gw_mC M_X13_law) 135 = .ok (.if_icmp .gt 7, 3) := by decide +kernel
theorem d_X13_law_138 : decode (gw_mC M_X13_law) 138 = .ok (.iconst 1, 1) := by decide +kernel
theorem d_X13_law_139 : decode (gw_mC M_X13_law) 139 = .ok (.goto 4, 3) := by decide +kernel
theorem d_X13_law_142 : decode (gw_mC M_X13_law) 142 = .ok (.iconst 0, 1) := by decide +kernel
theorem d_X13_law_143 : decode (gw_mC M_X13_law) 143 = .ok (.istore_n 2, 1) := by decide +kernel
theorem d_X13_law_144 : decode (gw_mC M_X13_law) 144 = .ok (.iconst 0, 1) := by decide +kernel
theorem d_X13_law_145 : decode (gw_mC M_X13_law) 145 = .ok (.istore 11, 2) := by decide +kernel
theorem d_X13_law_147 : decode (gw_mC M_X13_law) 147 = .ok (.iload 11, 2) := by decide +kernel
theorem d_X13_law_149 : decode (gw_mC M_X13_law) 149 = .ok (.iload_n 3, 1) := by decide +kernel
theorem d_X13_law_150 : decode (gw_mC M_X13_law) 150 = .ok (.if_icmp .ge 149, 3) := by decide +kernel
theorem d_X13_law_153 : decode (gw_mC M_X13_law) 153 = .ok (.iload_n 2, 1) := by decide +kernel
theorem d_X13_law_154 : decode (gw_mC M_X13_law) 154 = .ok (.ifCond .eq 145, 3) := by decide +kernel
theorem d_X13_law_157 : decode (gw_mC M_X13_law) 157 = .ok (.aload_n 1, 1) := by decide +kernel
theorem d_X13_law_158 : decode (gw_mC M_X13_law) 158 = .ok (.iload 8, 2) := by decide +kernel
theorem d_X13_law_160 : decode (gw_mC M_X13_law) 160 = .ok (.iload 11, 2) := by decide +kernel
theorem d_X13_law_162 : decode (gw_mC M_X13_law) 162 = .ok (.invokevirtual 56, 3) := by decide +kernel
theorem d_X13_law_165 : decode (gw_mC M_X13_law) 165 = .ok (.istore 12, 2) := by decide +kernel
theorem d_X13_law_167 : decode (gw_mC M_X13_law) 167 = .ok (.aload_n 1, 1) := by decide +kernel
theorem d_X13_law_168 : decode (gw_mC M_X13_law) 168 = .ok (.iload 11, 2) := by decide +kernel
theorem d_X13_law_170 : decode (gw_mC M_X13_law) 170 = .ok (.iconst 3, 1) := by decide +kernel
theorem d_X13_law_171 : decode (gw_mC M_X13_law) 171 = .ok (.invokevirtual 59, 3) := by decide +kernel
theorem d_X13_law_174 : decode (gw_mC M_X13_law) 174 = .ok (.ifCond .lt 19, 3) := by decide +kernel
theorem d_X13_law_177 : decode (gw_mC M_X13_law) 177 = .ok (.aload_n 1, 1) := by decide +kernel
theorem d_X13_law_178 : decode (gw_mC M_X13_law) 178 = .ok (.iload 11, 2) := by decide +kernel
theorem d_X13_law_180 : decode (gw_mC M_X13_law) 180 = .ok (.iconst 3, 1) := by decide +kernel
theorem d_X13_law_181 : decode (gw_mC M_X13_law) 181 = .ok (.invokevirtual 59, 3) := by decide +kernel
theorem d_X13_law_184 : decode (gw_mC M_X13_law) 184 = .ok (.iload 12, 2) := by decide +kernel
theorem d_X13_law_186 : decode (gw_mC M_X13_law) 186 = .ok (.if_icmp .ne 7, 3) := by decide +kernel
theorem d_X13_law_189 : decode (gw_mC M_X13_law) 189 = .ok (.iconst 1, 1) := by decide +kernel
theorem d_X13_law_190 : decode (gw_mC M_X13_law) 190 = .ok (.goto 4, 3) := by decide +kernel
theorem d_X13_law_193 : decode (gw_mC M_X13_law) 193 = .ok (.iconst 0, 1) := by decide +kernel
theorem d_X13_law_194 : decode (gw_mC M_X13_law) 194 = .ok (.istore 13, 2) := by decide +kernel
theorem d_X13_law_196 : decode (gw_mC M_X13_law) 196 = .ok (.iload 12, 2) := by decide +kernel
theorem d_X13_law_198 : decode (gw_mC M_X13_law) 198 = .ok (.iload 9, 2) := by decide +kernel
theorem d_X13_law_200 : decode (gw_mC M_X13_law) 200 = .ok (.if_icmp .gt 63, 3) := by decide +kernel
theorem d_X13_law_203 : decode (gw_mC M_X13_law) 203 = .ok (.iload 12, 2) := by decide +kernel
theorem d_X13_law_205 : decode (gw_mC M_X13_law) 205 = .ok (.aload 5, 2) := by decide +kernel
theorem d_X13_law_207 : decode (gw_mC M_X13_law) 207 = .ok (.iload 11, 2) := by decide +kernel
theorem d_X13_law_209 : decode (gw_mC M_X13_law) 209 = .ok (.iaload, 1) := by decide +kernel
theorem d_X13_law_210 : decode (gw_mC M_X13_law) 210 = .ok (.if_icmp .lt 53, 3) := by decide +kernel
theorem d_X13_law_213 : decode (gw_mC M_X13_law) 213 = .ok (.iload 12, 2) := by decide +kernel
theorem d_X13_law_215 : decode (gw_mC M_X13_law) 215 = .ok (.aload 5, 2) := by decide +kernel
theorem d_X13_law_217 : decode (gw_mC M_X13_law) 217 = .ok (.iload 11, 2) := by decide +kernel
theorem d_X13_law_219 : decode (gw_mC M_X13_law) 219 = .ok (.iaload, 1) := by decide +kernel
theorem d_X13_law_220 : decode (gw_mC M_X13_law) 220 = .ok (.isub, 1) := by decide +kernel
theorem d_X13_law_221 : decode (gw_mC M_X13_law) 221 = .ok (.aload_n 0, 1) := by decide +kernel
theorem d_X13_law_222 : decode (gw_mC M_X13_law) 222 = .ok (.iload 11, 2) := by decide +kernel
theorem d_X13_law_224 : decode (gw_mC M_X13_law) 224 = .ok (.iconst 1, 1) := by decide +kernel
theorem d_X13_law_225 : decode (gw_mC M_X13_law) 225 = .ok (.invokestatic 43, 3) := by decide +kernel
theorem d_X13_law_228 : decode (gw_mC M_X13_law) 228 = .ok (.if_icmp .gt 35, 3) := by decide +kernel
theorem d_X13_law_231 : decode (gw_mC M_X13_law) 231 = .ok (.aload_n 0, 1) := by decide +kernel
theorem d_X13_law_232 : decode (gw_mC M_X13_law) 232 = .ok (.iload 11, 2) := by decide +kernel
theorem d_X13_law_234 : decode (gw_mC M_X13_law) 234 = .ok (.iconst 0, 1) := by decide +kernel
theorem d_X13_law_235 : decode (gw_mC M_X13_law) 235 = .ok (.invokestatic 43, 3) := by decide +kernel
theorem d_X13_law_238 : decode (gw_mC M_X13_law) 238 = .ok (.iconst 2, 1) := by decide +kernel
theorem d_X13_law_239 : decode (gw_mC M_X13_law) 239 = .ok (.if_icmp .ne 20, 3) := by decide +kernel
theorem d_X13_law_242 : decode (gw_mC M_X13_law) 242 = .ok (.iload 8, 2) := by decide +kernel
theorem d_X13_law_244 : decode (gw_mC M_X13_law) 244 = .ok (.iconst 2, 1) := by decide +kernel
theorem d_X13_law_245 : decode (gw_mC M_X13_law) 245 = .ok (.irem, 1) := by decide +kernel
theorem d_X13_law_246 : decode (gw_mC M_X13_law) 246 = .ok (.ifCond .eq 13, 3) := by decide +kernel
theorem d_X13_law_249 : decode (gw_mC M_X13_law) 249 = .ok (.iload 12, 2) := by decide +kernel
theorem d_X13_law_251 : decode (gw_mC M_X13_law) 251 = .ok (.aload 5, 2) := by decide +kernel
theorem d_X13_law_253 : decode (gw_mC M_X13_law) 253 = .ok (.iload 11, 2) := by decide +kernel
theorem d_X13_law_255 : decode (gw_mC M_X13_law) 255 = .ok (.iaload, 1) := by decide +kernel
theorem d_X13_law_256 : decode (gw_mC M_X13_law) 256 = .ok (.if_icmp .ne 7, 3) := by decide +kernel
theorem d_X13_law_259 : decode (gw_mC M_X13_law) 259 = .ok (.iconst 1, 1) := by decide +kernel
theorem d_X13_law_260 : decode (gw_mC M_X13_law) 260 = .ok (.goto 4, 3) := by decide +kernel
theorem d_X13_law_263 : decode (gw_mC M_X13_law) 263 = .ok (.iconst 0, 1) := by decide +kernel
theorem d_X13_law_264 : decode (gw_mC M_X13_law) 264 = .ok (.istore_n 2, 1) := by decide +kernel
theorem d_X13_law_265 : decode (gw_mC M_X13_law) 265 = .ok (.aload 5, 2) := by decide +kernel
theorem d_X13_law_267 : decode (gw_mC M_X13_law) 267 = .ok (.iload 11, 2) := by decide +kernel
theorem d_X13_law_269 : decode (gw_mC M_X13_law) 269 = .ok (.iload 12, 2) := by decide +kernel
theorem d_X13_law_271 : decode (gw_mC M_X13_law) 271 = .ok (.iastore, 1) := by decide +kernel
theorem d_X13_law_272 : decode (gw_mC M_X13_law) 272 = .ok (.iload 13, 2) := by decide +kernel
theorem d_X13_law_274 : decode (gw_mC M_X13_law) 274 = .ok (.ifCond .ne 15, 3) := by decide +kernel
theorem d_X13_law_277 : decode (gw_mC M_X13_law) 277 = .ok (.iload 12, 2) := by decide +kernel
theorem d_X13_law_279 : decode (gw_mC M_X13_law) 279 = .ok (.iload 10, 2) := by decide +kernel
theorem d_X13_law_281 : decode (gw_mC M_X13_law) 281 = .ok (.if_icmp .ge 8, 3) := by decide +kernel
theorem d_X13_law_284 : decode (gw_mC M_X13_law) 284 = .ok (.iload 12, 2) := by decide +kernel
theorem d_X13_law_286 : decode (gw_mC M_X13_law) 286 = .ok (.goto 5, 3) := by decide +kernel
theorem d_X13_law_289 : decode (gw_mC M_X13_law) 289 = .ok (.iload 10, 2) := by decide +kernel
theorem d_X13_law_291 : decode (gw_mC M_X13_law) 291 = .ok (.istore 10, 2) := by decide +kernel
theorem d_X13_law_293 : decode (gw_mC M_X13_law) 293 = .ok (.iinc 11 1, 3) := by decide +kernel
theorem d_X13_law_296 : decode (gw_mC M_X13_law) 296 = .ok (.goto (-149), 3) := by decide +kernel
theorem d_X13_law_299 : decode (gw_mC M_X13_law) 299 = .ok (.aload_n 1, 1) := by decide +kernel
theorem d_X13_law_300 : decode (gw_mC M_X13_law) 300 = .ok (.iload 8, 2) := by decide +kernel
theorem d_X13_law_302 : decode (gw_mC M_X13_law) 302 = .ok (.bipush (-2), 2) := by decide +kernel
theorem d_X13_law_304 : decode (gw_mC M_X13_law) 304 = .ok (.invokevirtual 56, 3) := by decide +kernel
theorem d_X13_law_307 : decode (gw_mC M_X13_law) 307 = .ok (.istore 11, 2) := by decide +kernel
theorem d_X13_law_309 : decode (gw_mC M_X13_law) 309 = .ok (.iload_n 2, 1) := by decide +kernel
theorem d_X13_law_310 : decode (gw_mC M_X13_law) 310 = .ok (.ifCond .eq 26, 3) := by decide +kernel
theorem d_X13_law_313 : decode (gw_mC M_X13_law) 313 = .ok (.iload 11, 2) := by decide +kernel
theorem d_X13_law_315 : decode (gw_mC M_X13_law) 315 = .ok (.bipush (-4), 2) := by decide +kernel
theorem d_X13_law_317 : decode (gw_mC M_X13_law) 317 = .ok (.if_icmp .eq 15, 3) := by decide +kernel
theorem d_X13_law_320 : decode (gw_mC M_X13_law) 320 = .ok (.iload 11, 2) := by decide +kernel
theorem d_X13_law_322 : decode (gw_mC M_X13_law) 322 = .ok (.ifCond .lt 14, 3) := by decide +kernel
theorem d_X13_law_325 : decode (gw_mC M_X13_law) 325 = .ok (.iload 11, 2) := by decide +kernel
theorem d_X13_law_327 : decode (gw_mC M_X13_law) 327 = .ok (.iload 9, 2) := by decide +kernel
theorem d_X13_law_329 : decode (gw_mC M_X13_law) 329 = .ok (.if_icmp .gt 7, 3) := by decide +kernel
theorem d_X13_law_332 : decode (gw_mC M_X13_law) 332 = .ok (.iconst 1, 1) := by decide +kernel
theorem d_X13_law_333 : decode (gw_mC M_X13_law) 333 = .ok (.goto 4, 3) := by decide +kernel
theorem d_X13_law_336 : decode (gw_mC M_X13_law) 336 = .ok (.iconst 0, 1) := by decide +kernel
theorem d_X13_law_337 : decode (gw_mC M_X13_law) 337 = .ok (.istore_n 2, 1) := by decide +kernel
theorem d_X13_law_338 : decode (gw_mC M_X13_law) 338 = .ok (.iload 11, 2) := by decide +kernel
theorem d_X13_law_340 : decode (gw_mC M_X13_law) 340 = .ok (.iload 7, 2) := by decide +kernel
theorem d_X13_law_342 : decode (gw_mC M_X13_law) 342 = .ok (.if_icmp .le 8, 3) := by decide +kernel
theorem d_X13_law_345 : decode (gw_mC M_X13_law) 345 = .ok (.iload 11, 2) := by decide +kernel
theorem d_X13_law_347 : decode (gw_mC M_X13_law) 347 = .ok (.goto 5, 3) := by decide +kernel
theorem d_X13_law_350 : decode (gw_mC M_X13_law) 350 = .ok (.iload 7, 2) := by decide +kernel
theorem d_X13_law_352 : decode (gw_mC M_X13_law) 352 = .ok (.istore 7, 2) := by decide +kernel
theorem d_X13_law_354 : decode (gw_mC M_X13_law) 354 = .ok (.aload 5, 2) := by decide +kernel
theorem d_X13_law_356 : decode (gw_mC M_X13_law) 356 = .ok (.bipush 7, 2) := by decide +kernel
theorem d_X13_law_358 : decode (gw_mC M_X13_law) 358 = .ok (.iload 9, 2) := by decide +kernel
theorem d_X13_law_360 : decode (gw_mC M_X13_law) 360 = .ok (.iastore, 1) := by decide +kernel
theorem d_X13_law_361 : decode (gw_mC M_X13_law) 361 = .ok (.iinc 8 1, 3) := by decide +kernel
theorem d_X13_law_364 : decode (gw_mC M_X13_law) 364 = .ok (.goto (-284), 3) := by decide +kernel
theorem d_X13_law_367 : decode (gw_mC M_X13_law) 367 = .ok (.iconst 0, 1) := by decide +kernel
theorem d_X13_law_368 : decode (gw_mC M_X13_law) 368 = .ok (.istore 8, 2) := by decide +kernel
theorem d_X13_law_370 : decode (gw_mC M_X13_law) 370 = .ok (.iconst 0, 1) := by decide +kernel
theorem d_X13_law_371 : decode (gw_mC M_X13_law) 371 = .ok (.istore 9, 2) := by decide +kernel
theorem d_X13_law_373 : decode (gw_mC M_X13_law) 373 = .ok (.iload 9, 2) := by decide +kernel
theorem d_X13_law_375 : decode (gw_mC M_X13_law) 375 = .ok (.aload_n 0, 1) := by decide +kernel
theorem d_X13_law_376 : decode (gw_mC M_X13_law) 376 = .ok (.iconst 0, 1) := by decide +kernel
theorem d_X13_law_377 : decode (gw_mC M_X13_law) 377 = .ok (.invokestatic 24, 3) := by decide +kernel
theorem d_X13_law_380 : decode (gw_mC M_X13_law) 380 = .ok (.if_icmp .ge 39, 3) := by decide +kernel
theorem d_X13_law_383 : decode (gw_mC M_X13_law) 383 = .ok (.iload 8, 2) := by decide +kernel
theorem d_X13_law_385 : decode (gw_mC M_X13_law) 385 = .ok (.aload_n 0, 1) := by decide +kernel
theorem d_X13_law_386 : decode (gw_mC M_X13_law) 386 = .ok (.iconst 0, 1) := by decide +kernel
theorem d_X13_law_387 : decode (gw_mC M_X13_law) 387 = .ok (.iload 9, 2) := by decide +kernel
theorem d_X13_law_389 : decode (gw_mC M_X13_law) 389 = .ok (.iconst 0, 1) := by decide +kernel
theorem d_X13_law_390 : decode (gw_mC M_X13_law) 390 = .ok (.invokestatic 27, 3) := by decide +kernel
theorem d_X13_law_393 : decode (gw_mC M_X13_law) 393 = .ok (.iload 4, 2) := by decide +kernel
theorem d_X13_law_395 : decode (gw_mC M_X13_law) 395 = .ok (.if_icmp .ge 14, 3) := by decide +kernel
theorem d_X13_law_398 : decode (gw_mC M_X13_law) 398 = .ok (.aload_n 0, 1) := by decide +kernel
theorem d_X13_law_399 : decode (gw_mC M_X13_law) 399 = .ok (.iconst 0, 1) := by decide +kernel
theorem d_X13_law_400 : decode (gw_mC M_X13_law) 400 = .ok (.iload 9, 2) := by decide +kernel
theorem d_X13_law_402 : decode (gw_mC M_X13_law) 402 = .ok (.iconst 1, 1) := by decide +kernel
theorem d_X13_law_403 : decode (gw_mC M_X13_law) 403 = .ok (.invokestatic 27, 3) := by decide +kernel
theorem d_X13_law_406 : decode (gw_mC M_X13_law) 406 = .ok (.goto 4, 3) := by decide +kernel
theorem d_X13_law_409 : decode (gw_mC M_X13_law) 409 = .ok (.iconst 0, 1) := by decide +kernel
theorem d_X13_law_410 : decode (gw_mC M_X13_law) 410 = .ok (.iadd, 1) := by decide +kernel
theorem d_X13_law_411 : decode (gw_mC M_X13_law) 411 = .ok (.istore 8, 2) := by decide +kernel
theorem d_X13_law_413 : decode (gw_mC M_X13_law) 413 = .ok (.iinc 9 1, 3) := by decide +kernel
theorem d_X13_law_416 : decode (gw_mC M_X13_law) 416 = .ok (.goto (-43), 3) := by decide +kernel
theorem d_X13_law_419 : decode (gw_mC M_X13_law) 419 = .ok (.iconst 0, 1) := by decide +kernel
theorem d_X13_law_420 : decode (gw_mC M_X13_law) 420 = .ok (.istore 9, 2) := by decide +kernel
theorem d_X13_law_422 : decode (gw_mC M_X13_law) 422 = .ok (.sipush 1000, 3) := by decide +kernel
theorem d_X13_law_425 : decode (gw_mC M_X13_law) 425 = .ok (.istore 10, 2) := by decide +kernel
theorem d_X13_law_427 : decode (gw_mC M_X13_law) 427 = .ok (.iconst 0, 1) := by decide +kernel
theorem d_X13_law_428 : decode (gw_mC M_X13_law) 428 = .ok (.istore 11, 2) := by decide +kernel
theorem d_X13_law_430 : decode (gw_mC M_X13_law) 430 = .ok (.iconst 0, 1) := by decide +kernel
theorem d_X13_law_431 : decode (gw_mC M_X13_law) 431 = .ok (.istore 12, 2) := by decide +kernel
theorem d_X13_law_433 : decode (gw_mC M_X13_law) 433 = .ok (.iload 12, 2) := by decide +kernel
theorem d_X13_law_435 : decode (gw_mC M_X13_law) 435 = .ok (.iload_n 3, 1) := by decide +kernel
theorem d_X13_law_436 : decode (gw_mC M_X13_law) 436 = .ok (.if_icmp .ge 240, 3) := by decide +kernel
theorem d_X13_law_439 : decode (gw_mC M_X13_law) 439 = .ok (.iload_n 2, 1) := by decide +kernel
theorem d_X13_law_440 : decode (gw_mC M_X13_law) 440 = .ok (.ifCond .eq 236, 3) := by decide +kernel
theorem d_X13_law_443 : decode (gw_mC M_X13_law) 443 = .ok (.aload_n 1, 1) := by decide +kernel
theorem d_X13_law_444 : decode (gw_mC M_X13_law) 444 = .ok (.iload 12, 2) := by decide +kernel
theorem d_X13_law_446 : decode (gw_mC M_X13_law) 446 = .ok (.iconst 0, 1) := by decide +kernel
theorem d_X13_law_447 : decode (gw_mC M_X13_law) 447 = .ok (.invokevirtual 59, 3) := by decide +kernel
theorem d_X13_law_450 : decode (gw_mC M_X13_law) 450 = .ok (.istore 13, 2) := by decide +kernel
theorem d_X13_law_452 : decode (gw_mC M_X13_law) 452 = .ok (.iload 9, 2) := by decide +kernel
theorem d_X13_law_454 : decode (gw_mC M_X13_law) 454 = .ok (.iload 13, 2) := by decide +kernel
theorem d_X13_law_456 : decode (gw_mC M_X13_law) 456 = .ok (.iadd, 1) := by decide +kernel
theorem d_X13_law_457 : decode (gw_mC M_X13_law) 457 = .ok (.istore 9, 2) := by decide +kernel
theorem d_X13_law_459 : decode (gw_mC M_X13_law) 459 = .ok (.iload 13, 2) := by decide +kernel
theorem d_X13_law_461 : decode (gw_mC M_X13_law) 461 = .ok (.iload 10, 2) := by decide +kernel
theorem d_X13_law_463 : decode (gw_mC M_X13_law) 463 = .ok (.if_icmp .ge 8, 3) := by decide +kernel
theorem d_X13_law_466 : decode (gw_mC M_X13_law) 466 = .ok (.iload 13, 2) := by decide +kernel
theorem d_X13_law_468 : decode (gw_mC M_X13_law) 468 = .ok (.goto 5, 3) := by decide +kernel
theorem d_X13_law_471 : decode (gw_mC M_X13_law) 471 = .ok (.iload 10, 2) := by decide +kernel
theorem d_X13_law_473 : decode (gw_mC M_X13_law) 473 = .ok (.istore 10, 2) := by decide +kernel
theorem d_X13_law_475 : decode (gw_mC M_X13_law) 475 = .ok (.iload 11, 2) := by decide +kernel
theorem d_X13_law_477 : decode (gw_mC M_X13_law) 477 = .ok (.aload_n 1, 1) := by decide +kernel
theorem d_X13_law_478 : decode (gw_mC M_X13_law) 478 = .ok (.iload 12, 2) := by decide +kernel
theorem d_X13_law_480 : decode (gw_mC M_X13_law) 480 = .ok (.iconst 3, 1) := by decide +kernel
theorem d_X13_law_481 : decode (gw_mC M_X13_law) 481 = .ok (.invokevirtual 59, 3) := by decide +kernel
theorem d_X13_law_484 : decode (gw_mC M_X13_law) 484 = .ok (.ifCond .lt 10, 3) := by decide +kernel
theorem d_X13_law_487 : decode (gw_mC M_X13_law) 487 = .ok (.iconst 1, 1) := by decide +kernel
theorem d_X13_law_488 : decode (gw_mC M_X13_law) 488 = .ok (.iload 12, 2) := by decide +kernel
theorem d_X13_law_490 : decode (gw_mC M_X13_law) 490 = .ok (.ishl, 1) := by decide +kernel
theorem d_X13_law_491 : decode (gw_mC M_X13_law) 491 = .ok (.goto 4, 3) := by decide +kernel
theorem d_X13_law_494 : decode (gw_mC M_X13_law) 494 = .ok (.iconst 0, 1) := by decide +kernel
theorem d_X13_law_495 : decode (gw_mC M_X13_law) 495 = .ok (.ior, 1) := by decide +kernel
theorem d_X13_law_496 : decode (gw_mC M_X13_law) 496 = .ok (.istore 11, 2) := by decide +kernel
theorem d_X13_law_498 : decode (gw_mC M_X13_law) 498 = .ok (.aload_n 1, 1) := by decide +kernel
theorem d_X13_law_499 : decode (gw_mC M_X13_law) 499 = .ok (.iload 12, 2) := by decide +kernel
theorem d_X13_law_501 : decode (gw_mC M_X13_law) 501 = .ok (.iconst 2, 1) := by decide +kernel
theorem d_X13_law_502 : decode (gw_mC M_X13_law) 502 = .ok (.invokevirtual 59, 3) := by decide +kernel
theorem d_X13_law_505 : decode (gw_mC M_X13_law) 505 = .ok (.istore 14, 2) := by decide +kernel
theorem d_X13_law_507 : decode (gw_mC M_X13_law) 507 = .ok (.iload 13, 2) := by decide +kernel
theorem d_X13_law_509 : decode (gw_mC M_X13_law) 509 = .ok (.ifCond .lt 103, 3) := by decide +kernel
theorem d_X13_law_512 : decode (gw_mC M_X13_law) 512 = .ok (.iload 13, 2) := by decide +kernel
theorem d_X13_law_514 : decode (gw_mC M_X13_law) 514 = .ok (.iload 8, 2) := by decide +kernel
theorem d_X13_law_516 : decode (gw_mC M_X13_law) 516 = .ok (.if_icmp .gt 96, 3) := by decide +kernel
theorem d_X13_law_519 : decode (gw_mC M_X13_law) 519 = .ok (.aload_n 1, 1) := by decide +kernel
theorem d_X13_law_520 : decode (gw_mC M_X13_law) 520 = .ok (.iload 12, 2) := by decide +kernel
theorem d_X13_law_522 : decode (gw_mC M_X13_law) 522 = .ok (.iconst 1, 1) := by decide +kernel
theorem d_X13_law_523 : decode (gw_mC M_X13_law) 523 = .ok (.invokevirtual 59, 3) := by decide +kernel
theorem d_X13_law_526 : decode (gw_mC M_X13_law) 526 = .ok (.ifCond .lt 86, 3) := by decide +kernel
theorem d_X13_law_529 : decode (gw_mC M_X13_law) 529 = .ok (.iload 14, 2) := by decide +kernel
theorem d_X13_law_531 : decode (gw_mC M_X13_law) 531 = .ok (.bipush (-4), 2) := by decide +kernel
theorem d_X13_law_533 : decode (gw_mC M_X13_law) 533 = .ok (.if_icmp .eq 56, 3) := by decide +kernel
theorem d_X13_law_536 : decode (gw_mC M_X13_law) 536 = .ok (.iload 14, 2) := by decide +kernel
theorem d_X13_law_538 : decode (gw_mC M_X13_law) 538 = .ok (.sipush 300, 3) := by decide +kernel
theorem d_X13_law_541 : decode (gw_mC M_X13_law) 541 = .ok (.if_icmp .ge 71, 3) := by decide +kernel
theorem d_X13_law_544 : decode (gw_mC M_X13_law) 544 = .ok (.aload_n 1, 1) := by decide +kernel
theorem d_X13_law_545 : decode (gw_mC M_X13_law) 545 = .ok (.iload 14, 2) := by decide +kernel
theorem d_X13_law_547 : decode (gw_mC M_X13_law) 547 = .ok (.iload 12, 2) := by decide +kernel
theorem d_X13_law_549 : decode (gw_mC M_X13_law) 549 = .ok (.invokevirtual 56, 3) := by decide +kernel
theorem d_X13_law_552 : decode (gw_mC M_X13_law) 552 = .ok (.iload 4, 2) := by decide +kernel
theorem d_X13_law_554 : decode (gw_mC M_X13_law) 554 = .ok (.if_icmp .ne 58, 3) := by decide +kernel
theorem d_X13_law_557 : decode (gw_mC M_X13_law) 557 = .ok (.iload 14, 2) := by decide +kernel
theorem d_X13_law_559 : decode (gw_mC M_X13_law) 559 = .ok (.ifCond .eq 18, 3) := by decide +kernel
theorem d_X13_law_562 : decode (gw_mC M_X13_law) 562 = .ok (.aload_n 1, 1) := by decide +kernel
theorem d_X13_law_563 : decode (gw_mC M_X13_law) 563 = .ok (.iload 14, 2) := by decide +kernel
theorem d_X13_law_565 : decode (gw_mC M_X13_law) 565 = .ok (.iconst 1, 1) := by decide +kernel
theorem d_X13_law_566 : decode (gw_mC M_X13_law) 566 = .ok (.isub, 1) := by decide +kernel
theorem d_X13_law_567 : decode (gw_mC M_X13_law) 567 = .ok (.iload 12, 2) := by decide +kernel
theorem d_X13_law_569 : decode (gw_mC M_X13_law) 569 = .ok (.invokevirtual 56, 3) := by decide +kernel
theorem d_X13_law_572 : decode (gw_mC M_X13_law) 572 = .ok (.iload 4, 2) := by decide +kernel
theorem d_X13_law_574 : decode (gw_mC M_X13_law) 574 = .ok (.if_icmp .ge 38, 3) := by decide +kernel
theorem d_X13_law_577 : decode (gw_mC M_X13_law) 577 = .ok (.aload_n 1, 1) := by decide +kernel
theorem d_X13_law_578 : decode (gw_mC M_X13_law) 578 = .ok (.iload 12, 2) := by decide +kernel
theorem d_X13_law_580 : decode (gw_mC M_X13_law) 580 = .ok (.iconst 3, 1) := by decide +kernel
theorem d_X13_law_581 : decode (gw_mC M_X13_law) 581 = .ok (.invokevirtual 59, 3) := by decide +kernel
theorem d_X13_law_584 : decode (gw_mC M_X13_law) 584 = .ok (.bipush (-4), 2) := by decide +kernel
theorem d_X13_law_586 : decode (gw_mC M_X13_law) 586 = .ok (.if_icmp .ne 26, 3) := by decide +kernel
theorem d_X13_law_589 : decode (gw_mC M_X13_law) 589 = .ok (.iload 14, 2) := by decide +kernel
theorem d_X13_law_591 : decode (gw_mC M_X13_law) 591 = .ok (.ifCond .ge 17, 3) := by decide +kernel
theorem d_X13_law_594 : decode (gw_mC M_X13_law) 594 = .ok (.aload_n 1, 1) := by decide +kernel
theorem d_X13_law_595 : decode (gw_mC M_X13_law) 595 = .ok (.sipush 299, 3) := by decide +kernel
theorem d_X13_law_598 : decode (gw_mC M_X13_law) 598 = .ok (.iload 12, 2) := by decide +kernel
theorem d_X13_law_600 : decode (gw_mC M_X13_law) 600 = .ok (.invokevirtual 56, 3) := by decide +kernel
theorem d_X13_law_603 : decode (gw_mC M_X13_law) 603 = .ok (.iload 4, 2) := by decide +kernel
theorem d_X13_law_605 : decode (gw_mC M_X13_law) 605 = .ok (.if_icmp .ge 7, 3) := by decide +kernel
theorem d_X13_law_608 : decode (gw_mC M_X13_law) 608 = .ok (.iconst 1, 1) := by decide +kernel
theorem d_X13_law_609 : decode (gw_mC M_X13_law) 609 = .ok (.goto 4, 3) := by decide +kernel
theorem d_X13_law_612 : decode (gw_mC M_X13_law) 612 = .ok (.iconst 0, 1) := by decide +kernel
theorem d_X13_law_613 : decode (gw_mC M_X13_law) 613 = .ok (.istore_n 2, 1) := by decide +kernel
theorem d_X13_law_614 : decode (gw_mC M_X13_law) 614 = .ok (.aload_n 1, 1) := by decide +kernel
theorem d_X13_law_615 : decode (gw_mC M_X13_law) 615 = .ok (.iload 12, 2) := by decide +kernel
theorem d_X13_law_617 : decode (gw_mC M_X13_law) 617 = .ok (.invokevirtual 62, 3) := by decide +kernel
theorem d_X13_law_620 : decode (gw_mC M_X13_law) 620 = .ok (.istore 15, 2) := by decide +kernel
theorem d_X13_law_622 : decode (gw_mC M_X13_law) 622 = .ok (.iload_n 2, 1) := by decide +kernel
theorem d_X13_law_623 : decode (gw_mC M_X13_law) 623 = .ok (.ifCond .eq 45, 3) := by decide +kernel
theorem d_X13_law_626 : decode (gw_mC M_X13_law) 626 = .ok (.aload_n 0, 1) := by decide +kernel
theorem d_X13_law_627 : decode (gw_mC M_X13_law) 627 = .ok (.iload 12, 2) := by decide +kernel
theorem d_X13_law_629 : decode (gw_mC M_X13_law) 629 = .ok (.iconst 0, 1) := by decide +kernel
theorem d_X13_law_630 : decode (gw_mC M_X13_law) 630 = .ok (.invokestatic 43, 3) := by decide +kernel
theorem d_X13_law_633 : decode (gw_mC M_X13_law) 633 = .ok (.iconst 3, 1) := by decide +kernel
theorem d_X13_law_634 : decode (gw_mC M_X13_law) 634 = .ok (.if_icmp .eq 23, 3) := by decide +kernel
theorem d_X13_law_637 : decode (gw_mC M_X13_law) 637 = .ok (.aload_n 0, 1) := by decide +kernel
theorem d_X13_law_638 : decode (gw_mC M_X13_law) 638 = .ok (.iload 12, 2) := by decide +kernel
theorem d_X13_law_640 : decode (gw_mC M_X13_law) 640 = .ok (.iconst 2, 1) := by decide +kernel
theorem d_X13_law_641 : decode (gw_mC M_X13_law) 641 = .ok (.invokestatic 43, 3) := by decide +kernel
theorem d_X13_law_644 : decode (gw_mC M_X13_law) 644 = .ok (.ifCond .ne 13, 3) := by decide +kernel
theorem d_X13_law_647 : decode (gw_mC M_X13_law) 647 = .ok (.iload 15, 2) := by decide +kernel
theorem d_X13_law_649 : decode (gw_mC M_X13_law) 649 = .ok (.ldc 65, 2) := by decide +kernel
theorem d_X13_law_651 : decode (gw_mC M_X13_law) 651 = .ok (.if_icmp .ne 17, 3) := by decide +kernel
theorem d_X13_law_654 : decode (gw_mC M_X13_law) 654 = .ok (.goto 10, 3) := by decide +kernel
theorem d_X13_law_657 : decode (gw_mC M_X13_law) 657 = .ok (.iload 15, 2) := by decide +kernel
theorem d_X13_law_659 : decode (gw_mC M_X13_law) 659 = .ok (.ldc 66, 2) := by decide +kernel
theorem d_X13_law_661 : decode (gw_mC M_X13_law) 661 = .ok (.if_icmp .le 7, 3) := by decide +kernel
theorem d_X13_law_664 : decode (gw_mC M_X13_law) 664 = .ok (.iconst 1, 1) := by decide +kernel
theorem d_X13_law_665 : decode (gw_mC M_X13_law) 665 = .ok (.goto 4, 3) := by decide +kernel
theorem d_X13_law_668 : decode (gw_mC M_X13_law) 668 = .ok (.iconst 0, 1) := by decide +kernel
theorem d_X13_law_669 : decode (gw_mC M_X13_law) 669 = .ok (.istore_n 2, 1) := by decide +kernel
theorem d_X13_law_670 : decode (gw_mC M_X13_law) 670 = .ok (.iinc 12 1, 3) := by decide +kernel
theorem d_X13_law_673 : decode (gw_mC M_X13_law) 673 = .ok (.goto (-240), 3) := by decide +kernel
theorem d_X13_law_676 : decode (gw_mC M_X13_law) 676 = .ok (.iload_n 2, 1) := by decide +kernel
theorem d_X13_law_677 : decode (gw_mC M_X13_law) 677 = .ok (.ifCond .eq 62, 3) := by decide +kernel
theorem d_X13_law_680 : decode (gw_mC M_X13_law) 680 = .ok (.aload_n 1, 1) := by decide +kernel
theorem d_X13_law_681 : decode (gw_mC M_X13_law) 681 = .ok (.iconst 0, 1) := by decide +kernel
theorem d_X13_law_682 : decode (gw_mC M_X13_law) 682 = .ok (.invokevirtual 67, 3) := by decide +kernel
theorem d_X13_law_685 : decode (gw_mC M_X13_law) 685 = .ok (.iload 9, 2) := by decide +kernel
theorem d_X13_law_687 : decode (gw_mC M_X13_law) 687 = .ok (.if_icmp .ne 52, 3) := by decide +kernel
theorem d_X13_law_690 : decode (gw_mC M_X13_law) 690 = .ok (.aload_n 1, 1) := by decide +kernel
theorem d_X13_law_691 : decode (gw_mC M_X13_law) 691 = .ok (.iconst 1, 1) := by decide +kernel
theorem d_X13_law_692 : decode (gw_mC M_X13_law) 692 = .ok (.invokevirtual 67, 3) := by decide +kernel
theorem d_X13_law_695 : decode (gw_mC M_X13_law) 695 = .ok (.iload 10, 2) := by decide +kernel
theorem d_X13_law_697 : decode (gw_mC M_X13_law) 697 = .ok (.if_icmp .ne 42, 3) := by decide +kernel
theorem d_X13_law_700 : decode (gw_mC M_X13_law) 700 = .ok (.aload_n 1, 1) := by decide +kernel
theorem d_X13_law_701 : decode (gw_mC M_X13_law) 701 = .ok (.iconst 5, 1) := by decide +kernel
theorem d_X13_law_702 : decode (gw_mC M_X13_law) 702 = .ok (.invokevirtual 67, 3) := by decide +kernel
theorem d_X13_law_705 : decode (gw_mC M_X13_law) 705 = .ok (.iload 11, 2) := by decide +kernel
theorem d_X13_law_707 : decode (gw_mC M_X13_law) 707 = .ok (.if_icmp .ne 32, 3) := by decide +kernel
theorem d_X13_law_710 : decode (gw_mC M_X13_law) 710 = .ok (.iload 6, 2) := by decide +kernel
theorem d_X13_law_712 : decode (gw_mC M_X13_law) 712 = .ok (.ifCond .lt 13, 3) := by decide +kernel
theorem d_X13_law_715 : decode (gw_mC M_X13_law) 715 = .ok (.iload 11, 2) := by decide +kernel
theorem d_X13_law_717 : decode (gw_mC M_X13_law) 717 = .ok (.iload 6, 2) := by decide +kernel
theorem d_X13_law_719 : decode (gw_mC M_X13_law) 719 = .ok (.ishr, 1) := by decide +kernel
theorem d_X13_law_720 : decode (gw_mC M_X13_law) 720 = .ok (.iconst 1, 1) := by decide +kernel
theorem d_X13_law_721 : decode (gw_mC M_X13_law) 721 = .ok (.iand, 1) := by decide +kernel
theorem d_X13_law_722 : decode (gw_mC M_X13_law) 722 = .ok (.ifCond .ne 17, 3) := by decide +kernel
theorem d_X13_law_725 : decode (gw_mC M_X13_law) 725 = .ok (.aload_n 1, 1) := by decide +kernel
theorem d_X13_law_726 : decode (gw_mC M_X13_law) 726 = .ok (.iconst 4, 1) := by decide +kernel
theorem d_X13_law_727 : decode (gw_mC M_X13_law) 727 = .ok (.invokevirtual 67, 3) := by decide +kernel
theorem d_X13_law_730 : decode (gw_mC M_X13_law) 730 = .ok (.iload 7, 2) := by decide +kernel
theorem d_X13_law_732 : decode (gw_mC M_X13_law) 732 = .ok (.if_icmp .lt 7, 3) := by decide +kernel
theorem d_X13_law_735 : decode (gw_mC M_X13_law) 735 = .ok (.iconst 1, 1) := by decide +kernel
theorem d_X13_law_736 : decode (gw_mC M_X13_law) 736 = .ok (.goto 4, 3) := by decide +kernel
theorem d_X13_law_739 : decode (gw_mC M_X13_law) 739 = .ok (.iconst 0, 1) := by decide +kernel
theorem d_X13_law_740 : decode (gw_mC M_X13_law) 740 = .ok (.istore_n 2, 1) := by decide +kernel
theorem d_X13_law_741 : decode (gw_mC M_X13_law) 741 = .ok (.aload_n 1, 1) := by decide +kernel
theorem d_X13_law_742 : decode (gw_mC M_X13_law) 742 = .ok (.iconst 3, 1) := by decide +kernel
theorem d_X13_law_743 : decode (gw_mC M_X13_law) 743 = .ok (.invokevirtual 67, 3) := by decide +kernel
theorem d_X13_law_746 : decode (gw_mC M_X13_law) 746 = .ok (.istore 12, 2) := by decide +kernel
theorem d_X13_law_748 : decode (gw_mC M_X13_law) 748 = .ok (.iload 12, 2) := by decide +kernel
theorem d_X13_law_750 : decode (gw_mC M_X13_law) 750 = .ok (.ifCond .lt 220, 3) := by decide +kernel
theorem d_X13_law_753 : decode (gw_mC M_X13_law) 753 = .ok (.aload_n 0, 1) := by decide +kernel
theorem d_X13_law_754 : decode (gw_mC M_X13_law) 754 = .ok (.iconst 2, 1) := by decide +kernel
theorem d_X13_law_755 : decode (gw_mC M_X13_law) 755 = .ok (.invokestatic 34, 3) := by decide +kernel
theorem d_X13_law_758 : decode (gw_mC M_X13_law) 758 = .ok (.iconst 5, 1) := by decide +kernel
theorem d_X13_law_759 : decode (gw_mC M_X13_law) 759 = .ok (.if_icmp .ge 211, 3) := by decide +kernel
theorem d_X13_law_762 : decode (gw_mC M_X13_law) 762 = .ok (.iload_n 2, 1) := by decide +kernel
theorem d_X13_law_763 : decode (gw_mC M_X13_law) 763 = .ok (.ifCond .eq 207, 3) := by decide +kernel
theorem d_X13_law_766 : decode (gw_mC M_X13_law) 766 = .ok (.iload 11, 2) := by decide +kernel
theorem d_X13_law_768 : decode (gw_mC M_X13_law) 768 = .ok (.ifCond .ne 55, 3) := by decide +kernel
theorem d_X13_law_771 : decode (gw_mC M_X13_law) 771 = .ok (.aload_n 1, 1) := by decide +kernel
theorem d_X13_law_772 : decode (gw_mC M_X13_law) 772 = .ok (.iconst 2, 1) := by decide +kernel
theorem d_X13_law_773 : decode (gw_mC M_X13_law) 773 = .ok (.invokevirtual 67, 3) := by decide +kernel
theorem d_X13_law_776 : decode (gw_mC M_X13_law) 776 = .ok (.ifCond .lt 47, 3) := by decide +kernel
theorem d_X13_law_779 : decode (gw_mC M_X13_law) 779 = .ok (.aload_n 1, 1) := by decide +kernel
theorem d_X13_law_780 : decode (gw_mC M_X13_law) 780 = .ok (.iconst 2, 1) := by decide +kernel
theorem d_X13_law_781 : decode (gw_mC M_X13_law) 781 = .ok (.invokevirtual 67, 3) := by decide +kernel
theorem d_X13_law_784 : decode (gw_mC M_X13_law) 784 = .ok (.iload 12, 2) := by decide +kernel
theorem d_X13_law_786 : decode (gw_mC M_X13_law) 786 = .ok (.if_icmp .gt 37, 3) := by decide +kernel
theorem d_X13_law_789 : decode (gw_mC M_X13_law) 789 = .ok (.aload_n 1, 1) := by decide +kernel
theorem d_X13_law_790 : decode (gw_mC M_X13_law) 790 = .ok (.iload 12, 2) := by decide +kernel
theorem d_X13_law_792 : decode (gw_mC M_X13_law) 792 = .ok (.iconst 3, 1) := by decide +kernel
theorem d_X13_law_793 : decode (gw_mC M_X13_law) 793 = .ok (.invokevirtual 70, 3) := by decide +kernel
theorem d_X13_law_796 : decode (gw_mC M_X13_law) 796 = .ok (.iload 10, 2) := by decide +kernel
theorem d_X13_law_798 : decode (gw_mC M_X13_law) 798 = .ok (.if_icmp .lt 25, 3) := by decide +kernel
theorem d_X13_law_801 : decode (gw_mC M_X13_law) 801 = .ok (.aload_n 1, 1) := by decide +kernel
theorem d_X13_law_802 : decode (gw_mC M_X13_law) 802 = .ok (.sipush 299, 3) := by decide +kernel
theorem d_X13_law_805 : decode (gw_mC M_X13_law) 805 = .ok (.iconst 3, 1) := by decide +kernel
theorem d_X13_law_806 : decode (gw_mC M_X13_law) 806 = .ok (.invokevirtual 70, 3) := by decide +kernel
theorem d_X13_law_809 : decode (gw_mC M_X13_law) 809 = .ok (.aload_n 1, 1) := by decide +kernel
theorem d_X13_law_810 : decode (gw_mC M_X13_law) 810 = .ok (.iload 12, 2) := by decide +kernel
theorem d_X13_law_812 : decode (gw_mC M_X13_law) 812 = .ok (.iconst 3, 1) := by decide +kernel
theorem d_X13_law_813 : decode (gw_mC M_X13_law) 813 = .ok (.invokevirtual 70, 3) := by decide +kernel
theorem d_X13_law_816 : decode (gw_mC M_X13_law) 816 = .ok (.if_icmp .lt 7, 3) := by decide +kernel
theorem d_X13_law_819 : decode (gw_mC M_X13_law) 819 = .ok (.iconst 1, 1) := by decide +kernel
theorem d_X13_law_820 : decode (gw_mC M_X13_law) 820 = .ok (.goto 4, 3) := by decide +kernel
theorem d_X13_law_823 : decode (gw_mC M_X13_law) 823 = .ok (.iconst 0, 1) := by decide +kernel
theorem d_X13_law_824 : decode (gw_mC M_X13_law) 824 = .ok (.istore_n 2, 1) := by decide +kernel
theorem d_X13_law_825 : decode (gw_mC M_X13_law) 825 = .ok (.aload_n 1, 1) := by decide +kernel
theorem d_X13_law_826 : decode (gw_mC M_X13_law) 826 = .ok (.iload 12, 2) := by decide +kernel
theorem d_X13_law_828 : decode (gw_mC M_X13_law) 828 = .ok (.iconst 0, 1) := by decide +kernel
theorem d_X13_law_829 : decode (gw_mC M_X13_law) 829 = .ok (.invokevirtual 70, 3) := by decide +kernel
theorem d_X13_law_832 : decode (gw_mC M_X13_law) 832 = .ok (.istore 13, 2) := by decide +kernel
theorem d_X13_law_834 : decode (gw_mC M_X13_law) 834 = .ok (.aload_n 1, 1) := by decide +kernel
theorem d_X13_law_835 : decode (gw_mC M_X13_law) 835 = .ok (.iload 12, 2) := by decide +kernel
theorem d_X13_law_837 : decode (gw_mC M_X13_law) 837 = .ok (.iconst 1, 1) := by decide +kernel
theorem d_X13_law_838 : decode (gw_mC M_X13_law) 838 = .ok (.invokevirtual 70, 3) := by decide +kernel
theorem d_X13_law_841 : decode (gw_mC M_X13_law) 841 = .ok (.istore 14, 2) := by decide +kernel
theorem d_X13_law_843 : decode (gw_mC M_X13_law) 843 = .ok (.aload_n 1, 1) := by decide +kernel
theorem d_X13_law_844 : decode (gw_mC M_X13_law) 844 = .ok (.iload 12, 2) := by decide +kernel
theorem d_X13_law_846 : decode (gw_mC M_X13_law) 846 = .ok (.iconst 2, 1) := by decide +kernel
theorem d_X13_law_847 : decode (gw_mC M_X13_law) 847 = .ok (.invokevirtual 70, 3) := by decide +kernel
theorem d_X13_law_850 : decode (gw_mC M_X13_law) 850 = .ok (.istore 15, 2) := by decide +kernel
theorem d_X13_law_852 : decode (gw_mC M_X13_law) 852 = .ok (.aload_n 1, 1) := by decide +kernel
theorem d_X13_law_853 : decode (gw_mC M_X13_law) 853 = .ok (.iload 12, 2) := by decide +kernel
theorem d_X13_law_855 : decode (gw_mC M_X13_law) 855 = .ok (.iconst 3, 1) := by decide +kernel
theorem d_X13_law_856 : decode (gw_mC M_X13_law) 856 = .ok (.invokevirtual 70, 3) := by decide +kernel
theorem d_X13_law_859 : decode (gw_mC M_X13_law) 859 = .ok (.istore 16, 2) := by decide +kernel
theorem d_X13_law_861 : decode (gw_mC M_X13_law) 861 = .ok (.iload_n 2, 1) := by decide +kernel
theorem d_X13_law_862 : decode (gw_mC M_X13_law) 862 = .ok (.ifCond .eq 106, 3) := by decide +kernel
theorem d_X13_law_865 : decode (gw_mC M_X13_law) 865 = .ok (.aload_n 1, 1) := by decide +kernel
theorem d_X13_law_866 : decode (gw_mC M_X13_law) 866 = .ok (.invokevirtual 73, 3) := by decide +kernel
theorem d_X13_law_869 : decode (gw_mC M_X13_law) 869 = .ok (.iconst 1, 1) := by decide +kernel
theorem d_X13_law_870 : decode (gw_mC M_X13_law) 870 = .ok (.if_icmp .ne 98, 3) := by decide +kernel
theorem d_X13_law_873 : decode (gw_mC M_X13_law) 873 = .ok (.aload_n 1, 1) := by decide +kernel
theorem d_X13_law_874 : decode (gw_mC M_X13_law) 874 = .ok (.iconst 0, 1) := by decide +kernel
theorem d_X13_law_875 : decode (gw_mC M_X13_law) 875 = .ok (.iload 13, 2) := by decide +kernel
theorem d_X13_law_877 : decode (gw_mC M_X13_law) 877 = .ok (.invokevirtual 37, 3) := by decide +kernel
theorem d_X13_law_880 : decode (gw_mC M_X13_law) 880 = .ok (.aload_n 0, 1) := by decide +kernel
theorem d_X13_law_881 : decode (gw_mC M_X13_law) 881 = .ok (.iconst 0, 1) := by decide +kernel
theorem d_X13_law_882 : decode (gw_mC M_X13_law) 882 = .ok (.invokestatic 34, 3) := by decide +kernel
theorem d_X13_law_885 : decode (gw_mC M_X13_law) 885 = .ok (.if_icmp .ne 83, 3) := by decide +kernel
theorem d_X13_law_888 : decode (gw_mC M_X13_law) 888 = .ok (.aload_n 1, 1) := by decide +kernel
theorem d_X13_law_889 : decode (gw_mC M_X13_law) 889 = .ok (.iconst 1, 1) := by decide +kernel
theorem d_X13_law_890 : decode (gw_mC M_X13_law) 890 = .ok (.iload 14, 2) := by decide +kernel
theorem d_X13_law_892 : decode (gw_mC M_X13_law) 892 = .ok (.invokevirtual 37, 3) := by decide +kernel
theorem d_X13_law_895 : decode (gw_mC M_X13_law) 895 = .ok (.aload_n 0, 1) := by decide +kernel
theorem d_X13_law_896 : decode (gw_mC M_X13_law) 896 = .ok (.iconst 1, 1) := by decide +kernel
theorem d_X13_law_897 : decode (gw_mC M_X13_law) 897 = .ok (.invokestatic 34, 3) := by decide +kernel
theorem d_X13_law_900 : decode (gw_mC M_X13_law) 900 = .ok (.if_icmp .ne 68, 3) := by decide +kernel
theorem d_X13_law_903 : decode (gw_mC M_X13_law) 903 = .ok (.aload_n 1, 1) := by decide +kernel
theorem d_X13_law_904 : decode (gw_mC M_X13_law) 904 = .ok (.iconst 2, 1) := by decide +kernel
theorem d_X13_law_905 : decode (gw_mC M_X13_law) 905 = .ok (.iload 15, 2) := by decide +kernel
theorem d_X13_law_907 : decode (gw_mC M_X13_law) 907 = .ok (.invokevirtual 37, 3) := by decide +kernel
theorem d_X13_law_910 : decode (gw_mC M_X13_law) 910 = .ok (.aload_n 0, 1) := by decide +kernel
theorem d_X13_law_911 : decode (gw_mC M_X13_law) 911 = .ok (.iconst 2, 1) := by decide +kernel
theorem d_X13_law_912 : decode (gw_mC M_X13_law) 912 = .ok (.invokestatic 34, 3) := by decide +kernel
theorem d_X13_law_915 : decode (gw_mC M_X13_law) 915 = .ok (.if_icmp .ne 53, 3) := by decide +kernel
theorem d_X13_law_918 : decode (gw_mC M_X13_law) 918 = .ok (.aload_n 1, 1) := by decide +kernel
theorem d_X13_law_919 : decode (gw_mC M_X13_law) 919 = .ok (.iconst 1, 1) := by decide +kernel
theorem d_X13_law_920 : decode (gw_mC M_X13_law) 920 = .ok (.invokevirtual 67, 3) := by decide +kernel
theorem d_X13_law_923 : decode (gw_mC M_X13_law) 923 = .ok (.iload 16, 2) := by decide +kernel
theorem d_X13_law_925 : decode (gw_mC M_X13_law) 925 = .ok (.if_icmp .ne 43, 3) := by decide +kernel
theorem d_X13_law_928 : decode (gw_mC M_X13_law) 928 = .ok (.aload_n 1, 1) := by decide +kernel
theorem d_X13_law_929 : decode (gw_mC M_X13_law) 929 = .ok (.iconst 3, 1) := by decide +kernel
theorem d_X13_law_930 : decode (gw_mC M_X13_law) 930 = .ok (.invokevirtual 67, 3) := by decide +kernel
theorem d_X13_law_933 : decode (gw_mC M_X13_law) 933 = .ok (.ifCond .lt 35, 3) := by decide +kernel
theorem d_X13_law_936 : decode (gw_mC M_X13_law) 936 = .ok (.aload_n 1, 1) := by decide +kernel
theorem d_X13_law_937 : decode (gw_mC M_X13_law) 937 = .ok (.iconst 3, 1) := by decide +kernel
theorem d_X13_law_938 : decode (gw_mC M_X13_law) 938 = .ok (.invokevirtual 67, 3) := by decide +kernel
theorem d_X13_law_941 : decode (gw_mC M_X13_law) 941 = .ok (.iload 12, 2) := by decide +kernel
theorem d_X13_law_943 : decode (gw_mC M_X13_law) 943 = .ok (.if_icmp .gt 25, 3) := by decide +kernel
theorem d_X13_law_946 : decode (gw_mC M_X13_law) 946 = .ok (.aload_n 1, 1) := by decide +kernel
theorem d_X13_law_947 : decode (gw_mC M_X13_law) 947 = .ok (.invokevirtual 77, 3) := by decide +kernel
theorem d_X13_law_950 : decode (gw_mC M_X13_law) 950 = .ok (.iconst 1, 1) := by decide +kernel
theorem d_X13_law_951 : decode (gw_mC M_X13_law) 951 = .ok (.if_icmp .ne 17, 3) := by decide +kernel
theorem d_X13_law_954 : decode (gw_mC M_X13_law) 954 = .ok (.aload_n 1, 1) := by decide +kernel
theorem d_X13_law_955 : decode (gw_mC M_X13_law) 955 = .ok (.iconst 1, 1) := by decide +kernel
theorem d_X13_law_956 : decode (gw_mC M_X13_law) 956 = .ok (.invokevirtual 67, 3) := by decide +kernel
theorem d_X13_law_959 : decode (gw_mC M_X13_law) 959 = .ok (.iload 10, 2) := by decide +kernel
theorem d_X13_law_961 : decode (gw_mC M_X13_law) 961 = .ok (.if_icmp .ne 7, 3) := by decide +kernel
theorem d_X13_law_964 : decode (gw_mC M_X13_law) 964 = .ok (.iconst 1, 1) := by decide +kernel
theorem d_X13_law_965 : decode (gw_mC M_X13_law) 965 = .ok (.goto 4, 3) := by decide +kernel
theorem d_X13_law_968 : decode (gw_mC M_X13_law) 968 = .ok (.iconst 0, 1) := by decide +kernel
theorem d_X13_law_969 : decode (gw_mC M_X13_law) 969 = .ok (.istore_n 2, 1) := by decide +kernel
theorem d_X13_law_970 : decode (gw_mC M_X13_law) 970 = .ok (.iconst (-1), 1) := by decide +kernel
theorem d_X13_law_971 : decode (gw_mC M_X13_law) 971 = .ok (.istore 13, 2) := by decide +kernel
theorem d_X13_law_973 : decode (gw_mC M_X13_law) 973 = .ok (.iconst 0, 1) := by decide +kernel
theorem d_X13_law_974 : decode (gw_mC M_X13_law) 974 = .ok (.istore 14, 2) := by decide +kernel
theorem d_X13_law_976 : decode (gw_mC M_X13_law) 976 = .ok (.iload 14, 2) := by decide +kernel
theorem d_X13_law_978 : decode (gw_mC M_X13_law) 978 = .ok (.bipush 120, 2) := by decide +kernel
theorem d_X13_law_980 : decode (gw_mC M_X13_law) 980 = .ok (.if_icmp .ge 160, 3) := by decide +kernel
theorem d_X13_law_983 : decode (gw_mC M_X13_law) 983 = .ok (.iload_n 2, 1) := by decide +kernel
theorem d_X13_law_984 : decode (gw_mC M_X13_law) 984 = .ok (.ifCond .eq 156, 3) := by decide +kernel
theorem d_X13_law_987 : decode (gw_mC M_X13_law) 987 = .ok (.aload_n 1, 1) := by decide +kernel
theorem d_X13_law_988 : decode (gw_mC M_X13_law) 988 = .ok (.iload 14, 2) := by decide +kernel
theorem d_X13_law_990 : decode (gw_mC M_X13_law) 990 = .ok (.iconst 1, 1) := by decide +kernel
theorem d_X13_law_991 : decode (gw_mC M_X13_law) 991 = .ok (.invokevirtual 80, 3) := by decide +kernel
theorem d_X13_law_994 : decode (gw_mC M_X13_law) 994 = .ok (.istore 15, 2) := by decide +kernel
theorem d_X13_law_996 : decode (gw_mC M_X13_law) 996 = .ok (.aload_n 1, 1) := by decide +kernel
theorem d_X13_law_997 : decode (gw_mC M_X13_law) 997 = .ok (.iload 14, 2) := by decide +kernel
theorem d_X13_law_999 : decode (gw_mC M_X13_law) 999 = .ok (.iconst 0, 1) := by decide +kernel
theorem d_X13_law_1000 : decode (gw_mC M_X13_law) 1000 = .ok (.invokevirtual 80, 3) := by decide +kernel
theorem d_X13_law_1003 : decode (gw_mC M_X13_law) 1003 = .ok (.istore 16, 2) := by decide +kernel
theorem d_X13_law_1005 : decode (gw_mC M_X13_law) 1005 = .ok (.iload 4, 2) := by decide +kernel
theorem d_X13_law_1007 : decode (gw_mC M_X13_law) 1007 = .ok (.aload_n 0, 1) := by decide +kernel
theorem d_X13_law_1008 : decode (gw_mC M_X13_law) 1008 = .ok (.iconst 0, 1) := by decide +kernel
theorem d_X13_law_1009 : decode (gw_mC M_X13_law) 1009 = .ok (.invokestatic 34, 3) := by decide +kernel
theorem d_X13_law_1012 : decode (gw_mC M_X13_law) 1012 = .ok (.iadd, 1) := by decide +kernel
theorem d_X13_law_1013 : decode (gw_mC M_X13_law) 1013 = .ok (.iconst 1, 1) := by decide +kernel
theorem d_X13_law_1014 : decode (gw_mC M_X13_law) 1014 = .ok (.isub, 1) := by decide +kernel
theorem d_X13_law_1015 : decode (gw_mC M_X13_law) 1015 = .ok (.aload_n 0, 1) := by decide +kernel
theorem d_X13_law_1016 : decode (gw_mC M_X13_law) 1016 = .ok (.iconst 0, 1) := by decide +kernel
theorem d_X13_law_1017 : decode (gw_mC M_X13_law) 1017 = .ok (.invokestatic 34, 3) := by decide +kernel
theorem d_X13_law_1020 : decode (gw_mC M_X13_law) 1020 = .ok (.idiv, 1) := by decide +kernel
theorem d_X13_law_1021 : decode (gw_mC M_X13_law) 1021 = .ok (.istore 17, 2) := by decide +kernel
theorem d_X13_law_1023 : decode (gw_mC M_X13_law) 1023 = .ok (.iconst 0, 1) := by decide +kernel
theorem d_X13_law_1024 : decode (gw_mC M_X13_law) 1024 = .ok (.istore 18, 2) := by decide +kernel
theorem d_X13_law_1026 : decode (gw_mC M_X13_law) 1026 = .ok (.iload 18, 2) := by decide +kernel
theorem d_X13_law_1028 : decode (gw_mC M_X13_law) 1028 = .ok (.aload_n 0, 1) := by decide +kernel
theorem d_X13_law_1029 : decode (gw_mC M_X13_law) 1029 = .ok (.iconst 0, 1) := by decide +kernel
theorem d_X13_law_1030 : decode (gw_mC M_X13_law) 1030 = .ok (.invokestatic 24, 3) := by decide +kernel
theorem d_X13_law_1033 : decode (gw_mC M_X13_law) 1033 = .ok (.if_icmp .ge 42, 3) := by decide +kernel
theorem d_X13_law_1036 : decode (gw_mC M_X13_law) 1036 = .ok (.iload 17, 2) := by decide +kernel
theorem d_X13_law_1038 : decode (gw_mC M_X13_law) 1038 = .ok (.iload 16, 2) := by decide +kernel
theorem d_X13_law_1040 : decode (gw_mC M_X13_law) 1040 = .ok (.ifCond .lt 25, 3) := by decide +kernel
theorem d_X13_law_1043 : decode (gw_mC M_X13_law) 1043 = .ok (.iload 16, 2) := by decide +kernel
theorem d_X13_law_1045 : decode (gw_mC M_X13_law) 1045 = .ok (.iload 18, 2) := by decide +kernel
theorem d_X13_law_1047 : decode (gw_mC M_X13_law) 1047 = .ok (.ishr, 1) := by decide +kernel
theorem d_X13_law_1048 : decode (gw_mC M_X13_law) 1048 = .ok (.iconst 1, 1) := by decide +kernel
theorem d_X13_law_1049 : decode (gw_mC M_X13_law) 1049 = .ok (.iand, 1) := by decide +kernel
theorem d_X13_law_1050 : decode (gw_mC M_X13_law) 1050 = .ok (.iconst 1, 1) := by decide +kernel
theorem d_X13_law_1051 : decode (gw_mC M_X13_law) 1051 = .ok (.if_icmp .ne 14, 3) := by decide +kernel
theorem d_X13_law_1054 : decode (gw_mC M_X13_law) 1054 = .ok (.aload_n 0, 1) := by decide +kernel
theorem d_X13_law_1055 : decode (gw_mC M_X13_law) 1055 = .ok (.iconst 0, 1) := by decide +kernel
theorem d_X13_law_1056 : decode (gw_mC M_X13_law) 1056 = .ok (.iload 18, 2) := by decide +kernel
theorem d_X13_law_1058 : decode (gw_mC M_X13_law) 1058 = .ok (.iconst 1, 1) := by decide +kernel
theorem d_X13_law_1059 : decode (gw_mC M_X13_law) 1059 = .ok (.invokestatic 27, 3) := by decide +kernel
theorem d_X13_law_1062 : decode (gw_mC M_X13_law) 1062 = .ok (.goto 4, 3) := by decide +kernel
theorem d_X13_law_1065 : decode (gw_mC M_X13_law) 1065 = .ok (.iconst 0, 1) := by decide +kernel
theorem d_X13_law_1066 : decode (gw_mC M_X13_law) 1066 = .ok (.iadd, 1) := by decide +kernel
theorem d_X13_law_1067 : decode (gw_mC M_X13_law) 1067 = .ok (.istore 17, 2) := by decide +kernel
theorem d_X13_law_1069 : decode (gw_mC M_X13_law) 1069 = .ok (.iinc 18 1, 3) := by decide +kernel
theorem d_X13_law_1072 : decode (gw_mC M_X13_law) 1072 = .ok (.goto (-46), 3) := by decide +kernel
theorem d_X13_law_1075 : decode (gw_mC M_X13_law) 1075 = .ok (.iload 16, 2) := by decide +kernel
theorem d_X13_law_1077 : decode (gw_mC M_X13_law) 1077 = .ok (.ifCond .ge 7, 3) := by decide +kernel
theorem d_X13_law_1080 : decode (gw_mC M_X13_law) 1080 = .ok (.iconst 1, 1) := by decide +kernel
theorem d_X13_law_1081 : decode (gw_mC M_X13_law) 1081 = .ok (.goto 4, 3) := by decide +kernel
theorem d_X13_law_1084 : decode (gw_mC M_X13_law) 1084 = .ok (.iconst 0, 1) := by decide +kernel
theorem d_X13_law_1085 : decode (gw_mC M_X13_law) 1085 = .ok (.iload 15, 2) := by decide +kernel
theorem d_X13_law_1087 : decode (gw_mC M_X13_law) 1087 = .ok (.ifCond .ge 7, 3) := by decide +kernel
theorem d_X13_law_1090 : decode (gw_mC M_X13_law) 1090 = .ok (.iconst 1, 1) := by decide +kernel
theorem d_X13_law_1091 : decode (gw_mC M_X13_law) 1091 = .ok (.goto 4, 3) := by decide +kernel
theorem d_X13_law_1094 : decode (gw_mC M_X13_law) 1094 = .ok (.iconst 0, 1) := by decide +kernel
theorem d_X13_law_1095 : decode (gw_mC M_X13_law) 1095 = .ok (.if_icmp .ne 33, 3) := by decide +kernel
theorem d_X13_law_1098 : decode (gw_mC M_X13_law) 1098 = .ok (.iload 15, 2) := by decide +kernel
theorem d_X13_law_1100 : decode (gw_mC M_X13_law) 1100 = .ok (.iload 13, 2) := by decide +kernel
theorem d_X13_law_1102 : decode (gw_mC M_X13_law) 1102 = .ok (.if_icmp .ge 10, 3) := by decide +kernel
theorem d_X13_law_1105 : decode (gw_mC M_X13_law) 1105 = .ok (.iload 15, 2) := by decide +kernel
theorem d_X13_law_1107 : decode (gw_mC M_X13_law) 1107 = .ok (.bipush (-4), 2) := by decide +kernel
theorem d_X13_law_1109 : decode (gw_mC M_X13_law) 1109 = .ok (.if_icmp .ne 19, 3) := by decide +kernel
theorem d_X13_law_1112 : decode (gw_mC M_X13_law) 1112 = .ok (.iload 16, 2) := by decide +kernel
theorem d_X13_law_1114 : decode (gw_mC M_X13_law) 1114 = .ok (.ifCond .lt 10, 3) := by decide +kernel
theorem d_X13_law_1117 : decode (gw_mC M_X13_law) 1117 = .ok (.iload 17, 2) := by decide +kernel
theorem d_X13_law_1119 : decode (gw_mC M_X13_law) 1119 = .ok (.iload 14, 2) := by decide +kernel
theorem d_X13_law_1121 : decode (gw_mC M_X13_law) 1121 = .ok (.if_icmp .gt 7, 3) := by decide +kernel
theorem d_X13_law_1124 : decode (gw_mC M_X13_law) 1124 = .ok (.iconst 1, 1) := by decide +kernel
theorem d_X13_law_1125 : decode (gw_mC M_X13_law) 1125 = .ok (.goto 4, 3) := by decide +kernel
theorem d_X13_law_1128 : decode (gw_mC M_X13_law) 1128 = .ok (.iconst 0, 1) := by decide +kernel
theorem d_X13_law_1129 : decode (gw_mC M_X13_law) 1129 = .ok (.istore_n 2, 1) := by decide +kernel
theorem d_X13_law_1130 : decode (gw_mC M_X13_law) 1130 = .ok (.iload 15, 2) := by decide +kernel
theorem d_X13_law_1132 : decode (gw_mC M_X13_law) 1132 = .ok (.istore 13, 2) := by decide +kernel
theorem d_X13_law_1134 : decode (gw_mC M_X13_law) 1134 = .ok (.iinc 14 11, 3) := by decide +kernel
theorem d_X13_law_1137 : decode (gw_mC M_X13_law) 1137 = .ok (.goto (-161), 3) := by decide +kernel
theorem d_X13_law_1140 : decode (gw_mC M_X13_law) 1140 = .ok (.iconst 3, 1) := by decide +kernel
theorem d_X13_law_1141 : decode (gw_mC M_X13_law) 1141 = .ok (.aload_n 0, 1) := by decide +kernel
theorem d_X13_law_1142 : decode (gw_mC M_X13_law) 1142 = .ok (.bipush 8, 2) := by decide +kernel
theorem d_X13_law_1144 : decode (gw_mC M_X13_law) 1144 = .ok (.invokestatic 9, 3) := by decide +kernel
theorem d_X13_law_1147 : decode (gw_mC M_X13_law) 1147 = .ok (.iconst 5, 1) := by decide +kernel
theorem d_X13_law_1148 : decode (gw_mC M_X13_law) 1148 = .ok (.irem, 1) := by decide +kernel
theorem d_X13_law_1149 : decode (gw_mC M_X13_law) 1149 = .ok (.iadd, 1) := by decide +kernel
theorem d_X13_law_1150 : decode (gw_mC M_X13_law) 1150 = .ok (.istore 14, 2) := by decide +kernel
theorem d_X13_law_1152 : decode (gw_mC M_X13_law) 1152 = .ok (.iconst 0, 1) := by decide +kernel
theorem d_X13_law_1153 : decode (gw_mC M_X13_law) 1153 = .ok (.istore 15, 2) := by decide +kernel
theorem d_X13_law_1155 : decode (gw_mC M_X13_law) 1155 = .ok (.iconst 0, 1) := by decide +kernel
theorem d_X13_law_1156 : decode (gw_mC M_X13_law) 1156 = .ok (.istore 16, 2) := by decide +kernel
theorem d_X13_law_1158 : decode (gw_mC M_X13_law) 1158 = .ok (.iconst 0, 1) := by decide +kernel
theorem d_X13_law_1159 : decode (gw_mC M_X13_law) 1159 = .ok (.istore 17, 2) := by decide +kernel
theorem d_X13_law_1161 : decode (gw_mC M_X13_law) 1161 = .ok (.iconst 0, 1) := by decide +kernel
theorem d_X13_law_1162 : decode (gw_mC M_X13_law) 1162 = .ok (.istore 18, 2) := by decide +kernel
theorem d_X13_law_1164 : decode (gw_mC M_X13_law) 1164 = .ok (.iload 18, 2) := by decide +kernel
theorem d_X13_law_1166 : decode (gw_mC M_X13_law) 1166 = .ok (.iload 14, 2) := by decide +kernel
theorem d_X13_law_1168 : decode (gw_mC M_X13_law) 1168 = .ok (.if_icmp .ge 85, 3) := by decide +kernel
theorem d_X13_law_1171 : decode (gw_mC M_X13_law) 1171 = .ok (.iload 18, 2) := by decide +kernel
theorem d_X13_law_1173 : decode (gw_mC M_X13_law) 1173 = .ok (.iconst 1, 1) := by decide +kernel
theorem d_X13_law_1174 : decode (gw_mC M_X13_law) 1174 = .ok (.iadd, 1) := by decide +kernel
theorem d_X13_law_1175 : decode (gw_mC M_X13_law) 1175 = .ok (.istore 19, 2) := by decide +kernel
theorem d_X13_law_1177 : decode (gw_mC M_X13_law) 1177 = .ok (.iload 19, 2) := by decide +kernel
theorem d_X13_law_1179 : decode (gw_mC M_X13_law) 1179 = .ok (.iload 14, 2) := by decide +kernel
theorem d_X13_law_1181 : decode (gw_mC M_X13_law) 1181 = .ok (.if_icmp .ge 66, 3) := by decide +kernel
theorem d_X13_law_1184 : decode (gw_mC M_X13_law) 1184 = .ok (.iload 15, 2) := by decide +kernel
theorem d_X13_law_1186 : decode (gw_mC M_X13_law) 1186 = .ok (.iload 19, 2) := by decide +kernel
theorem d_X13_law_1188 : decode (gw_mC M_X13_law) 1188 = .ok (.iload 18, 2) := by decide +kernel
theorem d_X13_law_1190 : decode (gw_mC M_X13_law) 1190 = .ok (.iconst 1, 1) := by decide +kernel
theorem d_X13_law_1191 : decode (gw_mC M_X13_law) 1191 = .ok (.iadd, 1) := by decide +kernel
theorem d_X13_law_1192 : decode (gw_mC M_X13_law) 1192 = .ok (.if_icmp .eq 17, 3) := by decide +kernel
theorem d_X13_law_1195 : decode (gw_mC M_X13_law) 1195 = .ok (.iload 18, 2) := by decide +kernel
theorem d_X13_law_1197 : decode (gw_mC M_X13_law) 1197 = .ok (.ifCond .ne 19, 3) := by decide +kernel
theorem d_X13_law_1200 : decode (gw_mC M_X13_law) 1200 = .ok (.iload 19, 2) := by decide +kernel
theorem d_X13_law_1202 : decode (gw_mC M_X13_law) 1202 = .ok (.iload 14, 2) := by decide +kernel
theorem d_X13_law_1204 : decode (gw_mC M_X13_law) 1204 = .ok (.iconst 1, 1) := by decide +kernel
theorem d_X13_law_1205 : decode (gw_mC M_X13_law) 1205 = .ok (.isub, 1) := by decide +kernel
theorem d_X13_law_1206 : decode (gw_mC M_X13_law) 1206 = .ok (.if_icmp .ne 10, 3) := by decide +kernel
theorem d_X13_law_1209 : decode (gw_mC M_X13_law) 1209 = .ok (.iconst 1, 1) := by decide +kernel
theorem d_X13_law_1210 : decode (gw_mC M_X13_law) 1210 = .ok (.iload 17, 2) := by decide +kernel
theorem d_X13_law_1212 : decode (gw_mC M_X13_law) 1212 = .ok (.ishl, 1) := by decide +kernel
theorem d_X13_law_1213 : decode (gw_mC M_X13_law) 1213 = .ok (.goto 4, 3) := by decide +kernel
theorem d_X13_law_1216 : decode (gw_mC M_X13_law) 1216 = .ok (.iconst 0, 1) := by decide +kernel
theorem d_X13_law_1217 : decode (gw_mC M_X13_law) 1217 = .ok (.ior, 1) := by decide +kernel
theorem d_X13_law_1218 : decode (gw_mC M_X13_law) 1218 = .ok (.istore 15, 2) := by decide +kernel
theorem d_X13_law_1220 : decode (gw_mC M_X13_law) 1220 = .ok (.iload 16, 2) := by decide +kernel
theorem d_X13_law_1222 : decode (gw_mC M_X13_law) 1222 = .ok (.iload 18, 2) := by decide +kernel
theorem d_X13_law_1224 : decode (gw_mC M_X13_law) 1224 = .ok (.ifCond .ne 10, 3) := by decide +kernel
theorem d_X13_law_1227 : decode (gw_mC M_X13_law) 1227 = .ok (.iconst 1, 1) := by decide +kernel
theorem d_X13_law_1228 : decode (gw_mC M_X13_law) 1228 = .ok (.iload 17, 2) := by decide +kernel
theorem d_X13_law_1230 : decode (gw_mC M_X13_law) 1230 = .ok (.ishl, 1) := by decide +kernel
theorem d_X13_law_1231 : decode (gw_mC M_X13_law) 1231 = .ok (.goto 4, 3) := by decide +kernel
theorem d_X13_law_1234 : decode (gw_mC M_X13_law) 1234 = .ok (.iconst 0, 1) := by decide +kernel
theorem d_X13_law_1235 : decode (gw_mC M_X13_law) 1235 = .ok (.ior, 1) := by decide +kernel
theorem d_X13_law_1236 : decode (gw_mC M_X13_law) 1236 = .ok (.istore 16, 2) := by decide +kernel
theorem d_X13_law_1238 : decode (gw_mC M_X13_law) 1238 = .ok (.iinc 17 1, 3) := by decide +kernel
theorem d_X13_law_1241 : decode (gw_mC M_X13_law) 1241 = .ok (.iinc 19 1, 3) := by decide +kernel
theorem d_X13_law_1244 : decode (gw_mC M_X13_law) 1244 = .ok (.goto (-67), 3) := by decide +kernel
theorem d_X13_law_1247 : decode (gw_mC M_X13_law) 1247 = .ok (.iinc 18 1, 3) := by decide +kernel
theorem d_X13_law_1250 : decode (gw_mC M_X13_law) 1250 = .ok (.goto (-86), 3) := by decide +kernel
theorem d_X13_law_1253 : decode (gw_mC M_X13_law) 1253 = .ok (.iload_n 2, 1) := by decide +kernel
theorem d_X13_law_1254 : decode (gw_mC M_X13_law) 1254 = .ok (.ifCond .eq 113, 3) := by decide +kernel
theorem d_X13_law_1257 : decode (gw_mC M_X13_law) 1257 = .ok (.aload_n 1, 1) := by decide +kernel
theorem d_X13_law_1258 : decode (gw_mC M_X13_law) 1258 = .ok (.iload 14, 2) := by decide +kernel
theorem d_X13_law_1260 : decode (gw_mC M_X13_law) 1260 = .ok (.iload 15, 2) := by decide +kernel
theorem d_X13_law_1262 : decode (gw_mC M_X13_law) 1262 = .ok (.iconst (-1), 1) := by decide +kernel
theorem d_X13_law_1263 : decode (gw_mC M_X13_law) 1263 = .ok (.invokevirtual 83, 3) := by decide +kernel
theorem d_X13_law_1266 : decode (gw_mC M_X13_law) 1266 = .ok (.iload 14, 2) := by decide +kernel
theorem d_X13_law_1268 : decode (gw_mC M_X13_law) 1268 = .ok (.iconst 2, 1) := by decide +kernel
theorem d_X13_law_1269 : decode (gw_mC M_X13_law) 1269 = .ok (.irem, 1) := by decide +kernel
theorem d_X13_law_1270 : decode (gw_mC M_X13_law) 1270 = .ok (.ifCond .ne 7, 3) := by decide +kernel
theorem d_X13_law_1273 : decode (gw_mC M_X13_law) 1273 = .ok (.iconst 2, 1) := by decide +kernel
theorem d_X13_law_1274 : decode (gw_mC M_X13_law) 1274 = .ok (.goto 4, 3) := by decide +kernel
theorem d_X13_law_1277 : decode (gw_mC M_X13_law) 1277 = .ok (.iconst 3, 1) := by decide +kernel
theorem d_X13_law_1278 : decode (gw_mC M_X13_law) 1278 = .ok (.if_icmp .ne 89, 3) := by decide +kernel
theorem d_X13_law_1281 : decode (gw_mC M_X13_law) 1281 = .ok (.aload_n 1, 1) := by decide +kernel
theorem d_X13_law_1282 : decode (gw_mC M_X13_law) 1282 = .ok (.iload 14, 2) := by decide +kernel
theorem d_X13_law_1284 : decode (gw_mC M_X13_law) 1284 = .ok (.iload 16, 2) := by decide +kernel
theorem d_X13_law_1286 : decode (gw_mC M_X13_law) 1286 = .ok (.iconst (-1), 1) := by decide +kernel
theorem d_X13_law_1287 : decode (gw_mC M_X13_law) 1287 = .ok (.invokevirtual 83, 3) := by decide +kernel
theorem d_X13_law_1290 : decode (gw_mC M_X13_law) 1290 = .ok (.iconst 2, 1) := by decide +kernel
theorem d_X13_law_1291 : decode (gw_mC M_X13_law) 1291 = .ok (.if_icmp .ne 76, 3) := by decide +kernel
theorem d_X13_law_1294 : decode (gw_mC M_X13_law) 1294 = .ok (.aload_n 1, 1) := by decide +kernel
theorem d_X13_law_1295 : decode (gw_mC M_X13_law) 1295 = .ok (.iload 14, 2) := by decide +kernel
theorem d_X13_law_1297 : decode (gw_mC M_X13_law) 1297 = .ok (.iconst 1, 1) := by decide +kernel
theorem d_X13_law_1298 : decode (gw_mC M_X13_law) 1298 = .ok (.iload 17, 2) := by decide +kernel
theorem d_X13_law_1300 : decode (gw_mC M_X13_law) 1300 = .ok (.ishl, 1) := by decide +kernel
theorem d_X13_law_1301 : decode (gw_mC M_X13_law) 1301 = .ok (.iconst 1, 1) := by decide +kernel
theorem d_X13_law_1302 : decode (gw_mC M_X13_law) 1302 = .ok (.isub, 1) := by decide +kernel
theorem d_X13_law_1303 : decode (gw_mC M_X13_law) 1303 = .ok (.iconst (-1), 1) := by decide +kernel
theorem d_X13_law_1304 : decode (gw_mC M_X13_law) 1304 = .ok (.invokevirtual 83, 3) := by decide +kernel
theorem d_X13_law_1307 : decode (gw_mC M_X13_law) 1307 = .ok (.iload 14, 2) := by decide +kernel
theorem d_X13_law_1309 : decode (gw_mC M_X13_law) 1309 = .ok (.if_icmp .ne 58, 3) := by decide +kernel
theorem d_X13_law_1312 : decode (gw_mC M_X13_law) 1312 = .ok (.aload_n 1, 1) := by decide +kernel
theorem d_X13_law_1313 : decode (gw_mC M_X13_law) 1313 = .ok (.iload 14, 2) := by decide +kernel
theorem d_X13_law_1315 : decode (gw_mC M_X13_law) 1315 = .ok (.iconst 1, 1) := by decide +kernel
theorem d_X13_law_1316 : decode (gw_mC M_X13_law) 1316 = .ok (.iload 17, 2) := by decide +kernel
theorem d_X13_law_1318 : decode (gw_mC M_X13_law) 1318 = .ok (.ishl, 1) := by decide +kernel
theorem d_X13_law_1319 : decode (gw_mC M_X13_law) 1319 = .ok (.iconst 1, 1) := by decide +kernel
theorem d_X13_law_1320 : decode (gw_mC M_X13_law) 1320 = .ok (.isub, 1) := by decide +kernel
theorem d_X13_law_1321 : decode (gw_mC M_X13_law) 1321 = .ok (.iload 14, 2) := by decide +kernel
theorem d_X13_law_1323 : decode (gw_mC M_X13_law) 1323 = .ok (.iconst 1, 1) := by decide +kernel
theorem d_X13_law_1324 : decode (gw_mC M_X13_law) 1324 = .ok (.isub, 1) := by decide +kernel
theorem d_X13_law_1325 : decode (gw_mC M_X13_law) 1325 = .ok (.invokevirtual 83, 3) := by decide +kernel
theorem d_X13_law_1328 : decode (gw_mC M_X13_law) 1328 = .ok (.iload 14, 2) := by decide +kernel
theorem d_X13_law_1330 : decode (gw_mC M_X13_law) 1330 = .ok (.iconst 1, 1) := by decide +kernel
theorem d_X13_law_1331 : decode (gw_mC M_X13_law) 1331 = .ok (.isub, 1) := by decide +kernel
theorem d_X13_law_1332 : decode (gw_mC M_X13_law) 1332 = .ok (.if_icmp .ne 35, 3) := by decide +kernel
theorem d_X13_law_1335 : decode (gw_mC M_X13_law) 1335 = .ok (.aload_n 1, 1) := by decide +kernel
theorem d_X13_law_1336 : decode (gw_mC M_X13_law) 1336 = .ok (.iload 14, 2) := by decide +kernel
theorem d_X13_law_1338 : decode (gw_mC M_X13_law) 1338 = .ok (.iconst 0, 1) := by decide +kernel
theorem d_X13_law_1339 : decode (gw_mC M_X13_law) 1339 = .ok (.iconst (-1), 1) := by decide +kernel
theorem d_X13_law_1340 : decode (gw_mC M_X13_law) 1340 = .ok (.invokevirtual 83, 3) := by decide +kernel
theorem d_X13_law_1343 : decode (gw_mC M_X13_law) 1343 = .ok (.iconst 1, 1) := by decide +kernel
theorem d_X13_law_1344 : decode (gw_mC M_X13_law) 1344 = .ok (.if_icmp .ne 23, 3) := by decide +kernel
theorem d_X13_law_1347 : decode (gw_mC M_X13_law) 1347 = .ok (.aload_n 1, 1) := by decide +kernel
theorem d_X13_law_1348 : decode (gw_mC M_X13_law) 1348 = .ok (.iload 14, 2) := by decide +kernel
theorem d_X13_law_1350 : decode (gw_mC M_X13_law) 1350 = .ok (.iload 16, 2) := by decide +kernel
theorem d_X13_law_1352 : decode (gw_mC M_X13_law) 1352 = .ok (.iload 14, 2) := by decide +kernel
theorem d_X13_law_1354 : decode (gw_mC M_X13_law) 1354 = .ok (.iconst 1, 1) := by decide +kernel
theorem d_X13_law_1355 : decode (gw_mC M_X13_law) 1355 = .ok (.isub, 1) := by decide +kernel
theorem d_X13_law_1356 : decode (gw_mC M_X13_law) 1356 = .ok (.invokevirtual 83, 3) := by decide +kernel
theorem d_X13_law_1359 : decode (gw_mC M_X13_law) 1359 = .ok (.iconst 1, 1) := by decide +kernel
theorem d_X13_law_1360 : decode (gw_mC M_X13_law) 1360 = .ok (.if_icmp .ne 7, 3) := by decide +kernel
theorem d_X13_law_1363 : decode (gw_mC M_X13_law) 1363 = .ok (.iconst 1, 1) := by decide +kernel
theorem d_X13_law_1364 : decode (gw_mC M_X13_law) 1364 = .ok (.goto 4, 3) := by decide +kernel
theorem d_X13_law_1367 : decode (gw_mC M_X13_law) 1367 = .ok (.iconst 0, 1) := by decide +kernel
theorem d_X13_law_1368 : decode (gw_mC M_X13_law) 1368 = .ok (.ireturn, 1) := by decide +kernel
