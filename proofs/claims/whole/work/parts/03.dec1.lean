theorem d_X0_init_0 : decode (gw_mC M_X0_init) 0 = .ok (.aload_n 0, 1) := by decide +kernel
theorem d_X0_init_1 : decode (gw_mC M_X0_init) 1 = .ok (.invokespecial 3, 3) := by decide +kernel
theorem d_X0_init_4 : decode (gw_mC M_X0_init) 4 = .ok (.aload_n 0, 1) := by decide +kernel
theorem d_X0_init_5 : decode (gw_mC M_X0_init) 5 = .ok (.iconst 0, 1) := by decide +kernel
theorem d_X0_init_6 : decode (gw_mC M_X0_init) 6 = .ok (.putfield 9, 3) := by decide +kernel
theorem d_X0_init_9 : decode (gw_mC M_X0_init) 9 = .ok (.aload_n 0, 1) := by decide +kernel
theorem d_X0_init_10 : decode (gw_mC M_X0_init) 10 = .ok (.bipush 6, 2) := by decide +kernel
theorem d_X0_init_12 : decode (gw_mC M_X0_init) 12 = .ok (.newarray .int, 2) := by decide +kernel
theorem d_X0_init_14 : decode (gw_mC M_X0_init) 14 = .ok (.putfield 15, 3) := by decide +kernel
theorem d_X0_init_17 : decode (gw_mC M_X0_init) 17 = .ok (.aload_n 0, 1) := by decide +kernel
theorem d_X0_init_18 : decode (gw_mC M_X0_init) 18 = .ok (.bipush 6, 2) := by decide +kernel
theorem d_X0_init_20 : decode (gw_mC M_X0_init) 20 = .ok (.newarray .int, 2) := by decide +kernel
theorem d_X0_init_22 : decode (gw_mC M_X0_init) 22 = .ok (.putfield 19, 3) := by decide +kernel
theorem d_X0_init_25 : decode (gw_mC M_X0_init) 25 = .ok (.aload_n 0, 1) := by decide +kernel
theorem d_X0_init_26 : decode (gw_mC M_X0_init) 26 = .ok (.bipush 6, 2) := by decide +kernel
theorem d_X0_init_28 : decode (gw_mC M_X0_init) 28 = .ok (.newarray .int, 2) := by decide +kernel
theorem d_X0_init_30 : decode (gw_mC M_X0_init) 30 = .ok (.putfield 22, 3) := by decide +kernel
theorem d_X0_init_33 : decode (gw_mC M_X0_init) 33 = .ok (.aload_n 0, 1) := by decide +kernel
theorem d_X0_init_34 : decode (gw_mC M_X0_init) 34 = .ok (.bipush 6, 2) := by decide +kernel
theorem d_X0_init_36 : decode (gw_mC M_X0_init) 36 = .ok (.newarray .int, 2) := by decide +kernel
theorem d_X0_init_38 : decode (gw_mC M_X0_init) 38 = .ok (.putfield 25, 3) := by decide +kernel
theorem d_X0_init_41 : decode (gw_mC M_X0_init) 41 = .ok (.aload_n 0, 1) := by decide +kernel
theorem d_X0_init_42 : decode (gw_mC M_X0_init) 42 = .ok (.iconst 0, 1) := by decide +kernel
theorem d_X0_init_43 : decode (gw_mC M_X0_init) 43 = .ok (.putfield 28, 3) := by decide +kernel
theorem d_X0_init_46 : decode (gw_mC M_X0_init) 46 = .ok (.return_, 1) := by decide +kernel
theorem d_X0_load_0 : decode (gw_mC M_X0_load) 0 = .ok (.aload_n 0, 1) := by decide +kernel
theorem d_X0_load_1 : decode (gw_mC M_X0_load) 1 = .ok (.iload_n 3, 1) := by decide +kernel
theorem d_X0_load_2 : decode (gw_mC M_X0_load) 2 = .ok (.putfield 9, 3) := by decide +kernel
theorem d_X0_load_5 : decode (gw_mC M_X0_load) 5 = .ok (.iconst 0, 1) := by decide +kernel
theorem d_X0_load_6 : decode (gw_mC M_X0_load) 6 = .ok (.istore 4, 2) := by decide +kernel
theorem d_X0_load_8 : decode (gw_mC M_X0_load) 8 = .ok (.iload 4, 2) := by decide +kernel
theorem d_X0_load_10 : decode (gw_mC M_X0_load) 10 = .ok (.iload_n 3, 1) := by decide +kernel
theorem d_X0_load_11 : decode (gw_mC M_X0_load) 11 = .ok (.if_icmp .ge 76, 3) := by decide +kernel
theorem d_X0_load_14 : decode (gw_mC M_X0_load) 14 = .ok (.aload_n 0, 1) := by decide +kernel
theorem d_X0_load_15 : decode (gw_mC M_X0_load) 15 = .ok (.getfield 15, 3) := by decide +kernel
theorem d_X0_load_18 : decode (gw_mC M_X0_load) 18 = .ok (.iload 4, 2) := by decide +kernel
theorem d_X0_load_20 : decode (gw_mC M_X0_load) 20 = .ok (.aload_n 1, 1) := by decide +kernel
theorem d_X0_load_21 : decode (gw_mC M_X0_load) 21 = .ok (.iload_n 2, 1) := by decide +kernel
theorem d_X0_load_22 : decode (gw_mC M_X0_load) 22 = .ok (.iconst 2, 1) := by decide +kernel
theorem d_X0_load_23 : decode (gw_mC M_X0_load) 23 = .ok (.iload 4, 2) := by decide +kernel
theorem d_X0_load_25 : decode (gw_mC M_X0_load) 25 = .ok (.imul, 1) := by decide +kernel
theorem d_X0_load_26 : decode (gw_mC M_X0_load) 26 = .ok (.iadd, 1) := by decide +kernel
theorem d_X0_load_27 : decode (gw_mC M_X0_load) 27 = .ok (.iaload, 1) := by decide +kernel
theorem d_X0_load_28 : decode (gw_mC M_X0_load) 28 = .ok (.iastore, 1) := by decide +kernel
theorem d_X0_load_29 : decode (gw_mC M_X0_load) 29 = .ok (.aload_n 0, 1) := by decide +kernel
theorem d_X0_load_30 : decode (gw_mC M_X0_load) 30 = .ok (.getfield 19, 3) := by decide +kernel
theorem d_X0_load_33 : decode (gw_mC M_X0_load) 33 = .ok (.iload 4, 2) := by decide +kernel
theorem d_X0_load_35 : decode (gw_mC M_X0_load) 35 = .ok (.aload_n 1, 1) := by decide +kernel
theorem d_X0_load_36 : decode (gw_mC M_X0_load) 36 = .ok (.iload_n 2, 1) := by decide +kernel
theorem d_X0_load_37 : decode (gw_mC M_X0_load) 37 = .ok (.iconst 2, 1) := by decide +kernel
theorem d_X0_load_38 : decode (gw_mC M_X0_load) 38 = .ok (.iload 4, 2) := by decide +kernel
theorem d_X0_load_40 : decode (gw_mC M_X0_load) 40 = .ok (.imul, 1) := by decide +kernel
theorem d_X0_load_41 : decode (gw_mC M_X0_load) 41 = .ok (.iadd, 1) := by decide +kernel
theorem d_X0_load_42 : decode (gw_mC M_X0_load) 42 = .ok (.iconst 1, 1) := by decide +kernel
theorem d_X0_load_43 : decode (gw_mC M_X0_load) 43 = .ok (.iadd, 1) := by decide +kernel
theorem d_X0_load_44 : decode (gw_mC M_X0_load) 44 = .ok (.iaload, 1) := by decide +kernel
theorem d_X0_load_45 : decode (gw_mC M_X0_load) 45 = .ok (.iastore, 1) := by decide +kernel
theorem d_X0_load_46 : decode (gw_mC M_X0_load) 46 = .ok (.aload_n 0, 1) := by decide +kernel
theorem d_X0_load_47 : decode (gw_mC M_X0_load) 47 = .ok (.getfield 15, 3) := by decide +kernel
theorem d_X0_load_50 : decode (gw_mC M_X0_load) 50 = .ok (.iload 4, 2) := by decide +kernel
theorem d_X0_load_52 : decode (gw_mC M_X0_load) 52 = .ok (.iaload, 1) := by decide +kernel
theorem d_X0_load_53 : decode (gw_mC M_X0_load) 53 = .ok (.iconst 0, 1) := by decide +kernel
theorem d_X0_load_54 : decode (gw_mC M_X0_load) 54 = .ok (.sipush 999, 3) := by decide +kernel
theorem d_X0_load_57 : decode (gw_mC M_X0_load) 57 = .ok (.invokestatic 31, 3) := by decide +kernel
theorem d_X0_load_60 : decode (gw_mC M_X0_load) 60 = .ok (.ifCond .eq 19, 3) := by decide +kernel
theorem d_X0_load_63 : decode (gw_mC M_X0_load) 63 = .ok (.aload_n 0, 1) := by decide +kernel
theorem d_X0_load_64 : decode (gw_mC M_X0_load) 64 = .ok (.getfield 19, 3) := by decide +kernel
theorem d_X0_load_67 : decode (gw_mC M_X0_load) 67 = .ok (.iload 4, 2) := by decide +kernel
theorem d_X0_load_69 : decode (gw_mC M_X0_load) 69 = .ok (.iaload, 1) := by decide +kernel
theorem d_X0_load_70 : decode (gw_mC M_X0_load) 70 = .ok (.iconst 1, 1) := by decide +kernel
theorem d_X0_load_71 : decode (gw_mC M_X0_load) 71 = .ok (.bipush 99, 2) := by decide +kernel
theorem d_X0_load_73 : decode (gw_mC M_X0_load) 73 = .ok (.invokestatic 31, 3) := by decide +kernel
theorem d_X0_load_76 : decode (gw_mC M_X0_load) 76 = .ok (.ifCond .ne 5, 3) := by decide +kernel
theorem d_X0_load_79 : decode (gw_mC M_X0_load) 79 = .ok (.iconst 0, 1) := by decide +kernel
theorem d_X0_load_80 : decode (gw_mC M_X0_load) 80 = .ok (.ireturn, 1) := by decide +kernel
theorem d_X0_load_81 : decode (gw_mC M_X0_load) 81 = .ok (.iinc 4 1, 3) := by decide +kernel
theorem d_X0_load_84 : decode (gw_mC M_X0_load) 84 = .ok (.goto (-76), 3) := by decide +kernel
theorem d_X0_load_87 : decode (gw_mC M_X0_load) 87 = .ok (.iconst 1, 1) := by decide +kernel
theorem d_X0_load_88 : decode (gw_mC M_X0_load) 88 = .ok (.ireturn, 1) := by decide +kernel
theorem d_X0_seek_0 : decode (gw_mC M_X0_seek) 0 = .ok (.aload_n 0, 1) := by decide +kernel
theorem d_X0_seek_1 : decode (gw_mC M_X0_seek) 1 = .ok (.ldc 35, 2) := by decide +kernel
theorem d_X0_seek_3 : decode (gw_mC M_X0_seek) 3 = .ok (.putfield 28, 3) := by decide +kernel
theorem d_X0_seek_6 : decode (gw_mC M_X0_seek) 6 = .ok (.aload_n 0, 1) := by decide +kernel
theorem d_X0_seek_7 : decode (gw_mC M_X0_seek) 7 = .ok (.iconst 0, 1) := by decide +kernel
theorem d_X0_seek_8 : decode (gw_mC M_X0_seek) 8 = .ok (.iconst 0, 1) := by decide +kernel
theorem d_X0_seek_9 : decode (gw_mC M_X0_seek) 9 = .ok (.iconst 0, 1) := by decide +kernel
theorem d_X0_seek_10 : decode (gw_mC M_X0_seek) 10 = .ok (.iconst 0, 1) := by decide +kernel
theorem d_X0_seek_11 : decode (gw_mC M_X0_seek) 11 = .ok (.invokestatic 36, 3) := by decide +kernel
theorem d_X0_seek_14 : decode (gw_mC M_X0_seek) 14 = .ok (.return_, 1) := by decide +kernel
theorem d_X0_sendFrom_0 : decode (gw_mC M_X0_sendFrom) 0 = .ok (.iload 4, 2) := by decide +kernel
theorem d_X0_sendFrom_2 : decode (gw_mC M_X0_sendFrom) 2 = .ok (.aload_n 0, 1) := by decide +kernel
theorem d_X0_sendFrom_3 : decode (gw_mC M_X0_sendFrom) 3 = .ok (.getfield 28, 3) := by decide +kernel
theorem d_X0_sendFrom_6 : decode (gw_mC M_X0_sendFrom) 6 = .ok (.if_icmp .lt 4, 3) := by decide +kernel
theorem d_X0_sendFrom_9 : decode (gw_mC M_X0_sendFrom) 9 = .ok (.return_, 1) := by decide +kernel
theorem d_X0_sendFrom_10 : decode (gw_mC M_X0_sendFrom) 10 = .ok (.iload_n 1, 1) := by decide +kernel
theorem d_X0_sendFrom_11 : decode (gw_mC M_X0_sendFrom) 11 = .ok (.aload_n 0, 1) := by decide +kernel
theorem d_X0_sendFrom_12 : decode (gw_mC M_X0_sendFrom) 12 = .ok (.getfield 9, 3) := by decide +kernel
theorem d_X0_sendFrom_15 : decode (gw_mC M_X0_sendFrom) 15 = .ok (.if_icmp .lt 25, 3) := by decide +kernel
theorem d_X0_sendFrom_18 : decode (gw_mC M_X0_sendFrom) 18 = .ok (.aload_n 0, 1) := by decide +kernel
theorem d_X0_sendFrom_19 : decode (gw_mC M_X0_sendFrom) 19 = .ok (.iload 4, 2) := by decide +kernel
theorem d_X0_sendFrom_21 : decode (gw_mC M_X0_sendFrom) 21 = .ok (.putfield 28, 3) := by decide +kernel
theorem d_X0_sendFrom_24 : decode (gw_mC M_X0_sendFrom) 24 = .ok (.aload_n 0, 1) := by decide +kernel
theorem d_X0_sendFrom_25 : decode (gw_mC M_X0_sendFrom) 25 = .ok (.getfield 22, 3) := by decide +kernel
theorem d_X0_sendFrom_28 : decode (gw_mC M_X0_sendFrom) 28 = .ok (.iconst 0, 1) := by decide +kernel
theorem d_X0_sendFrom_29 : decode (gw_mC M_X0_sendFrom) 29 = .ok (.aload_n 0, 1) := by decide +kernel
theorem d_X0_sendFrom_30 : decode (gw_mC M_X0_sendFrom) 30 = .ok (.getfield 25, 3) := by decide +kernel
theorem d_X0_sendFrom_33 : decode (gw_mC M_X0_sendFrom) 33 = .ok (.iconst 0, 1) := by decide +kernel
theorem d_X0_sendFrom_34 : decode (gw_mC M_X0_sendFrom) 34 = .ok (.bipush 6, 2) := by decide +kernel
theorem d_X0_sendFrom_36 : decode (gw_mC M_X0_sendFrom) 36 = .ok (.invokestatic 40, 3) := by decide +kernel
theorem d_X0_sendFrom_39 : decode (gw_mC M_X0_sendFrom) 39 = .ok (.return_, 1) := by decide +kernel
theorem d_X0_sendFrom_40 : decode (gw_mC M_X0_sendFrom) 40 = .ok (.iconst 0, 1) := by decide +kernel
theorem d_X0_sendFrom_41 : decode (gw_mC M_X0_sendFrom) 41 = .ok (.istore 5, 2) := by decide +kernel
theorem d_X0_sendFrom_43 : decode (gw_mC M_X0_sendFrom) 43 = .ok (.iload 5, 2) := by decide +kernel
theorem d_X0_sendFrom_45 : decode (gw_mC M_X0_sendFrom) 45 = .ok (.aload_n 0, 1) := by decide +kernel
theorem d_X0_sendFrom_46 : decode (gw_mC M_X0_sendFrom) 46 = .ok (.getfield 9, 3) := by decide +kernel
theorem d_X0_sendFrom_49 : decode (gw_mC M_X0_sendFrom) 49 = .ok (.if_icmp .ge 75, 3) := by decide +kernel
theorem d_X0_sendFrom_52 : decode (gw_mC M_X0_sendFrom) 52 = .ok (.iload_n 2, 1) := by decide +kernel
theorem d_X0_sendFrom_53 : decode (gw_mC M_X0_sendFrom) 53 = .ok (.iload 5, 2) := by decide +kernel
theorem d_X0_sendFrom_55 : decode (gw_mC M_X0_sendFrom) 55 = .ok (.ishr, 1) := by decide +kernel
theorem d_X0_sendFrom_56 : decode (gw_mC M_X0_sendFrom) 56 = .ok (.iconst 1, 1) := by decide +kernel
theorem d_X0_sendFrom_57 : decode (gw_mC M_X0_sendFrom) 57 = .ok (.iand, 1) := by decide +kernel
theorem d_X0_sendFrom_58 : decode (gw_mC M_X0_sendFrom) 58 = .ok (.ifCond .ne 60, 3) := by decide +kernel
theorem d_X0_sendFrom_61 : decode (gw_mC M_X0_sendFrom) 61 = .ok (.iload_n 3, 1) := by decide +kernel
theorem d_X0_sendFrom_62 : decode (gw_mC M_X0_sendFrom) 62 = .ok (.aload_n 0, 1) := by decide +kernel
theorem d_X0_sendFrom_63 : decode (gw_mC M_X0_sendFrom) 63 = .ok (.getfield 15, 3) := by decide +kernel
theorem d_X0_sendFrom_66 : decode (gw_mC M_X0_sendFrom) 66 = .ok (.iload 5, 2) := by decide +kernel
theorem d_X0_sendFrom_68 : decode (gw_mC M_X0_sendFrom) 68 = .ok (.iaload, 1) := by decide +kernel
theorem d_X0_sendFrom_69 : decode (gw_mC M_X0_sendFrom) 69 = .ok (.invokestatic 46, 3) := by decide +kernel
theorem d_X0_sendFrom_72 : decode (gw_mC M_X0_sendFrom) 72 = .ok (.istore 6, 2) := by decide +kernel
theorem d_X0_sendFrom_74 : decode (gw_mC M_X0_sendFrom) 74 = .ok (.aload_n 0, 1) := by decide +kernel
theorem d_X0_sendFrom_75 : decode (gw_mC M_X0_sendFrom) 75 = .ok (.getfield 22, 3) := by decide +kernel
theorem d_X0_sendFrom_78 : decode (gw_mC M_X0_sendFrom) 78 = .ok (.iload_n 1, 1) := by decide +kernel
theorem d_X0_sendFrom_79 : decode (gw_mC M_X0_sendFrom) 79 = .ok (.iload 5, 2) := by decide +kernel
theorem d_X0_sendFrom_81 : decode (gw_mC M_X0_sendFrom) 81 = .ok (.iastore, 1) := by decide +kernel
theorem d_X0_sendFrom_82 : decode (gw_mC M_X0_sendFrom) 82 = .ok (.aload_n 0, 1) := by decide +kernel
theorem d_X0_sendFrom_83 : decode (gw_mC M_X0_sendFrom) 83 = .ok (.iload_n 1, 1) := by decide +kernel
theorem d_X0_sendFrom_84 : decode (gw_mC M_X0_sendFrom) 84 = .ok (.iconst 1, 1) := by decide +kernel
theorem d_X0_sendFrom_85 : decode (gw_mC M_X0_sendFrom) 85 = .ok (.iadd, 1) := by decide +kernel
theorem d_X0_sendFrom_86 : decode (gw_mC M_X0_sendFrom) 86 = .ok (.iload_n 2, 1) := by decide +kernel
theorem d_X0_sendFrom_87 : decode (gw_mC M_X0_sendFrom) 87 = .ok (.iconst 1, 1) := by decide +kernel
theorem d_X0_sendFrom_88 : decode (gw_mC M_X0_sendFrom) 88 = .ok (.iload 5, 2) := by decide +kernel
theorem d_X0_sendFrom_90 : decode (gw_mC M_X0_sendFrom) 90 = .ok (.ishl, 1) := by decide +kernel
theorem d_X0_sendFrom_91 : decode (gw_mC M_X0_sendFrom) 91 = .ok (.ior, 1) := by decide +kernel
theorem d_X0_sendFrom_92 : decode (gw_mC M_X0_sendFrom) 92 = .ok (.iload 6, 2) := by decide +kernel
theorem d_X0_sendFrom_94 : decode (gw_mC M_X0_sendFrom) 94 = .ok (.aload_n 0, 1) := by decide +kernel
theorem d_X0_sendFrom_95 : decode (gw_mC M_X0_sendFrom) 95 = .ok (.getfield 19, 3) := by decide +kernel
theorem d_X0_sendFrom_98 : decode (gw_mC M_X0_sendFrom) 98 = .ok (.iload 5, 2) := by decide +kernel
theorem d_X0_sendFrom_100 : decode (gw_mC M_X0_sendFrom) 100 = .ok (.iaload, 1) := by decide +kernel
theorem d_X0_sendFrom_101 : decode (gw_mC M_X0_sendFrom) 101 = .ok (.iadd, 1) := by decide +kernel
theorem d_X0_sendFrom_102 : decode (gw_mC M_X0_sendFrom) 102 = .ok (.iload 4, 2) := by decide +kernel
theorem d_X0_sendFrom_104 : decode (gw_mC M_X0_sendFrom) 104 = .ok (.iload 6, 2) := by decide +kernel
theorem d_X0_sendFrom_106 : decode (gw_mC M_X0_sendFrom) 106 = .ok (.iadd, 1) := by decide +kernel
theorem d_X0_sendFrom_107 : decode (gw_mC M_X0_sendFrom) 107 = .ok (.aload_n 0, 1) := by decide +kernel
theorem d_X0_sendFrom_108 : decode (gw_mC M_X0_sendFrom) 108 = .ok (.getfield 15, 3) := by decide +kernel
theorem d_X0_sendFrom_111 : decode (gw_mC M_X0_sendFrom) 111 = .ok (.iload 5, 2) := by decide +kernel
theorem d_X0_sendFrom_113 : decode (gw_mC M_X0_sendFrom) 113 = .ok (.iaload, 1) := by decide +kernel
theorem d_X0_sendFrom_114 : decode (gw_mC M_X0_sendFrom) 114 = .ok (.isub, 1) := by decide +kernel
theorem d_X0_sendFrom_115 : decode (gw_mC M_X0_sendFrom) 115 = .ok (.invokestatic 36, 3) := by decide +kernel
theorem d_X0_sendFrom_118 : decode (gw_mC M_X0_sendFrom) 118 = .ok (.iinc 5 1, 3) := by decide +kernel
theorem d_X0_sendFrom_121 : decode (gw_mC M_X0_sendFrom) 121 = .ok (.goto (-78), 3) := by decide +kernel
theorem d_X0_sendFrom_124 : decode (gw_mC M_X0_sendFrom) 124 = .ok (.return_, 1) := by decide +kernel
theorem d_X1_init_0 : decode (gw_mC M_X1_init) 0 = .ok (.aload_n 0, 1) := by decide +kernel
theorem d_X1_init_1 : decode (gw_mC M_X1_init) 1 = .ok (.invokespecial 3, 3) := by decide +kernel
theorem d_X1_init_4 : decode (gw_mC M_X1_init) 4 = .ok (.aload_n 0, 1) := by decide +kernel
theorem d_X1_init_5 : decode (gw_mC M_X1_init) 5 = .ok (.iconst 0, 1) := by decide +kernel
theorem d_X1_init_6 : decode (gw_mC M_X1_init) 6 = .ok (.putfield 9, 3) := by decide +kernel
theorem d_X1_init_9 : decode (gw_mC M_X1_init) 9 = .ok (.aload_n 0, 1) := by decide +kernel
theorem d_X1_init_10 : decode (gw_mC M_X1_init) 10 = .ok (.bipush 8, 2) := by decide +kernel
theorem d_X1_init_12 : decode (gw_mC M_X1_init) 12 = .ok (.newarray .int, 2) := by decide +kernel
theorem d_X1_init_14 : decode (gw_mC M_X1_init) 14 = .ok (.putfield 15, 3) := by decide +kernel
theorem d_X1_init_17 : decode (gw_mC M_X1_init) 17 = .ok (.aload_n 0, 1) := by decide +kernel
theorem d_X1_init_18 : decode (gw_mC M_X1_init) 18 = .ok (.bipush 8, 2) := by decide +kernel
theorem d_X1_init_20 : decode (gw_mC M_X1_init) 20 = .ok (.newarray .int, 2) := by decide +kernel
theorem d_X1_init_22 : decode (gw_mC M_X1_init) 22 = .ok (.putfield 19, 3) := by decide +kernel
theorem d_X1_init_25 : decode (gw_mC M_X1_init) 25 = .ok (.return_, 1) := by decide +kernel
theorem d_X1_load_0 : decode (gw_mC M_X1_load) 0 = .ok (.aload_n 0, 1) := by decide +kernel
theorem d_X1_load_1 : decode (gw_mC M_X1_load) 1 = .ok (.iload_n 1, 1) := by decide +kernel
theorem d_X1_load_2 : decode (gw_mC M_X1_load) 2 = .ok (.putfield 9, 3) := by decide +kernel
theorem d_X1_load_5 : decode (gw_mC M_X1_load) 5 = .ok (.iconst 0, 1) := by decide +kernel
theorem d_X1_load_6 : decode (gw_mC M_X1_load) 6 = .ok (.istore_n 3, 1) := by decide +kernel
theorem d_X1_load_7 : decode (gw_mC M_X1_load) 7 = .ok (.iload_n 3, 1) := by decide +kernel
theorem d_X1_load_8 : decode (gw_mC M_X1_load) 8 = .ok (.iload_n 1, 1) := by decide +kernel
theorem d_X1_load_9 : decode (gw_mC M_X1_load) 9 = .ok (.if_icmp .ge 16, 3) := by decide +kernel
theorem d_X1_load_12 : decode (gw_mC M_X1_load) 12 = .ok (.aload_n 0, 1) := by decide +kernel
theorem d_X1_load_13 : decode (gw_mC M_X1_load) 13 = .ok (.getfield 15, 3) := by decide +kernel
theorem d_X1_load_16 : decode (gw_mC M_X1_load) 16 = .ok (.iload_n 3, 1) := by decide +kernel
theorem d_X1_load_17 : decode (gw_mC M_X1_load) 17 = .ok (.iconst 0, 1) := by decide +kernel
theorem d_X1_load_18 : decode (gw_mC M_X1_load) 18 = .ok (.iastore, 1) := by decide +kernel
theorem d_X1_load_19 : decode (gw_mC M_X1_load) 19 = .ok (.iinc 3 1, 3) := by decide +kernel
theorem d_X1_load_22 : decode (gw_mC M_X1_load) 22 = .ok (.goto (-15), 3) := by decide +kernel
theorem d_X1_load_25 : decode (gw_mC M_X1_load) 25 = .ok (.iconst 0, 1) := by decide +kernel
theorem d_X1_load_26 : decode (gw_mC M_X1_load) 26 = .ok (.istore_n 3, 1) := by decide +kernel
theorem d_X1_load_27 : decode (gw_mC M_X1_load) 27 = .ok (.iconst 0, 1) := by decide +kernel
theorem d_X1_load_28 : decode (gw_mC M_X1_load) 28 = .ok (.istore 4, 2) := by decide +kernel
theorem d_X1_load_30 : decode (gw_mC M_X1_load) 30 = .ok (.iload 4, 2) := by decide +kernel
theorem d_X1_load_32 : decode (gw_mC M_X1_load) 32 = .ok (.iload_n 1, 1) := by decide +kernel
theorem d_X1_load_33 : decode (gw_mC M_X1_load) 33 = .ok (.if_icmp .ge 53, 3) := by decide +kernel
theorem d_X1_load_36 : decode (gw_mC M_X1_load) 36 = .ok (.iload 4, 2) := by decide +kernel
theorem d_X1_load_38 : decode (gw_mC M_X1_load) 38 = .ok (.iconst 1, 1) := by decide +kernel
theorem d_X1_load_39 : decode (gw_mC M_X1_load) 39 = .ok (.iadd, 1) := by decide +kernel
theorem d_X1_load_40 : decode (gw_mC M_X1_load) 40 = .ok (.istore 5, 2) := by decide +kernel
theorem d_X1_load_42 : decode (gw_mC M_X1_load) 42 = .ok (.iload 5, 2) := by decide +kernel
theorem d_X1_load_44 : decode (gw_mC M_X1_load) 44 = .ok (.iload_n 1, 1) := by decide +kernel
theorem d_X1_load_45 : decode (gw_mC M_X1_load) 45 = .ok (.if_icmp .ge 35, 3) := by decide +kernel
theorem d_X1_load_48 : decode (gw_mC M_X1_load) 48 = .ok (.iload_n 2, 1) := by decide +kernel
theorem d_X1_load_49 : decode (gw_mC M_X1_load) 49 = .ok (.iload_n 3, 1) := by decide +kernel
theorem d_X1_load_50 : decode (gw_mC M_X1_load) 50 = .ok (.ishr, 1) := by decide +kernel
theorem d_X1_load_51 : decode (gw_mC M_X1_load) 51 = .ok (.iconst 1, 1) := by decide +kernel
theorem d_X1_load_52 : decode (gw_mC M_X1_load) 52 = .ok (.iand, 1) := by decide +kernel
theorem d_X1_load_53 : decode (gw_mC M_X1_load) 53 = .ok (.iconst 1, 1) := by decide +kernel
theorem d_X1_load_54 : decode (gw_mC M_X1_load) 54 = .ok (.if_icmp .ne 17, 3) := by decide +kernel
theorem d_X1_load_57 : decode (gw_mC M_X1_load) 57 = .ok (.aload_n 0, 1) := by decide +kernel
theorem d_X1_load_58 : decode (gw_mC M_X1_load) 58 = .ok (.getfield 15, 3) := by decide +kernel
theorem d_X1_load_61 : decode (gw_mC M_X1_load) 61 = .ok (.iload 5, 2) := by decide +kernel
theorem d_X1_load_63 : decode (gw_mC M_X1_load) 63 = .ok (.dup2, 1) := by decide +kernel
theorem d_X1_load_64 : decode (gw_mC M_X1_load) 64 = .ok (.iaload, 1) := by decide +kernel
theorem d_X1_load_65 : decode (gw_mC M_X1_load) 65 = .ok (.iconst 1, 1) := by decide +kernel
theorem d_X1_load_66 : decode (gw_mC M_X1_load) 66 = .ok (.iload 4, 2) := by decide +kernel
theorem d_X1_load_68 : decode (gw_mC M_X1_load) 68 = .ok (.ishl, 1) := by decide +kernel
theorem d_X1_load_69 : decode (gw_mC M_X1_load) 69 = .ok (.ior, 1) := by decide +kernel
theorem d_X1_load_70 : decode (gw_mC M_X1_load) 70 = .ok (.iastore, 1) := by decide +kernel
theorem d_X1_load_71 : decode (gw_mC M_X1_load) 71 = .ok (.iinc 3 1, 3) := by decide +kernel
theorem d_X1_load_74 : decode (gw_mC M_X1_load) 74 = .ok (.iinc 5 1, 3) := by decide +kernel
theorem d_X1_load_77 : decode (gw_mC M_X1_load) 77 = .ok (.goto (-35), 3) := by decide +kernel
theorem d_X1_load_80 : decode (gw_mC M_X1_load) 80 = .ok (.iinc 4 1, 3) := by decide +kernel
theorem d_X1_load_83 : decode (gw_mC M_X1_load) 83 = .ok (.goto (-53), 3) := by decide +kernel
theorem d_X1_load_86 : decode (gw_mC M_X1_load) 86 = .ok (.return_, 1) := by decide +kernel
theorem d_X1_paint_0 : decode (gw_mC M_X1_paint) 0 = .ok (.iconst 1, 1) := by decide +kernel
theorem d_X1_paint_1 : decode (gw_mC M_X1_paint) 1 = .ok (.istore_n 1, 1) := by decide +kernel
theorem d_X1_paint_2 : decode (gw_mC M_X1_paint) 2 = .ok (.iload_n 1, 1) := by decide +kernel
theorem d_X1_paint_3 : decode (gw_mC M_X1_paint) 3 = .ok (.aload_n 0, 1) := by decide +kernel
theorem d_X1_paint_4 : decode (gw_mC M_X1_paint) 4 = .ok (.getfield 9, 3) := by decide +kernel
theorem d_X1_paint_7 : decode (gw_mC M_X1_paint) 7 = .ok (.if_icmp .ge 21, 3) := by decide +kernel
theorem d_X1_paint_10 : decode (gw_mC M_X1_paint) 10 = .ok (.aload_n 0, 1) := by decide +kernel
theorem d_X1_paint_11 : decode (gw_mC M_X1_paint) 11 = .ok (.iconst 0, 1) := by decide +kernel
theorem d_X1_paint_12 : decode (gw_mC M_X1_paint) 12 = .ok (.iconst 0, 1) := by decide +kernel
theorem d_X1_paint_13 : decode (gw_mC M_X1_paint) 13 = .ok (.iload_n 1, 1) := by decide +kernel
theorem d_X1_paint_14 : decode (gw_mC M_X1_paint) 14 = .ok (.invokestatic 22, 3) := by decide +kernel
theorem d_X1_paint_17 : decode (gw_mC M_X1_paint) 17 = .ok (.ifCond .eq 5, 3) := by decide +kernel
theorem d_X1_paint_20 : decode (gw_mC M_X1_paint) 20 = .ok (.iload_n 1, 1) := by decide +kernel
theorem d_X1_paint_21 : decode (gw_mC M_X1_paint) 21 = .ok (.ireturn, 1) := by decide +kernel
theorem d_X1_paint_22 : decode (gw_mC M_X1_paint) 22 = .ok (.iinc 1 1, 3) := by decide +kernel
theorem d_X1_paint_25 : decode (gw_mC M_X1_paint) 25 = .ok (.goto (-23), 3) := by decide +kernel
theorem d_X1_paint_28 : decode (gw_mC M_X1_paint) 28 = .ok (.aload_n 0, 1) := by decide +kernel
theorem d_X1_paint_29 : decode (gw_mC M_X1_paint) 29 = .ok (.iconst 0, 1) := by decide +kernel
theorem d_X1_paint_30 : decode (gw_mC M_X1_paint) 30 = .ok (.iconst 0, 1) := by decide +kernel
theorem d_X1_paint_31 : decode (gw_mC M_X1_paint) 31 = .ok (.aload_n 0, 1) := by decide +kernel
theorem d_X1_paint_32 : decode (gw_mC M_X1_paint) 32 = .ok (.getfield 9, 3) := by decide +kernel
theorem d_X1_paint_35 : decode (gw_mC M_X1_paint) 35 = .ok (.invokestatic 22, 3) := by decide +kernel
theorem d_X1_paint_38 : decode (gw_mC M_X1_paint) 38 = .ok (.pop, 1) := by decide +kernel
theorem d_X1_paint_39 : decode (gw_mC M_X1_paint) 39 = .ok (.aload_n 0, 1) := by decide +kernel
theorem d_X1_paint_40 : decode (gw_mC M_X1_paint) 40 = .ok (.getfield 9, 3) := by decide +kernel
theorem d_X1_paint_43 : decode (gw_mC M_X1_paint) 43 = .ok (.ireturn, 1) := by decide +kernel
theorem d_X1_paintFrom_0 : decode (gw_mC M_X1_paintFrom) 0 = .ok (.iload_n 1, 1) := by decide +kernel
theorem d_X1_paintFrom_1 : decode (gw_mC M_X1_paintFrom) 1 = .ok (.aload_n 0, 1) := by decide +kernel
theorem d_X1_paintFrom_2 : decode (gw_mC M_X1_paintFrom) 2 = .ok (.getfield 9, 3) := by decide +kernel
theorem d_X1_paintFrom_5 : decode (gw_mC M_X1_paintFrom) 5 = .ok (.if_icmp .lt 5, 3) := by decide +kernel
theorem d_X1_paintFrom_8 : decode (gw_mC M_X1_paintFrom) 8 = .ok (.iconst 1, 1) := by decide +kernel
theorem d_X1_paintFrom_9 : decode (gw_mC M_X1_paintFrom) 9 = .ok (.ireturn, 1) := by decide +kernel
theorem d_X1_paintFrom_10 : decode (gw_mC M_X1_paintFrom) 10 = .ok (.iconst 0, 1) := by decide +kernel
theorem d_X1_paintFrom_11 : decode (gw_mC M_X1_paintFrom) 11 = .ok (.istore 4, 2) := by decide +kernel
theorem d_X1_paintFrom_13 : decode (gw_mC M_X1_paintFrom) 13 = .ok (.iload 4, 2) := by decide +kernel
theorem d_X1_paintFrom_15 : decode (gw_mC M_X1_paintFrom) 15 = .ok (.iload_n 2, 1) := by decide +kernel
theorem d_X1_paintFrom_16 : decode (gw_mC M_X1_paintFrom) 16 = .ok (.if_icmp .gt 54, 3) := by decide +kernel
theorem d_X1_paintFrom_19 : decode (gw_mC M_X1_paintFrom) 19 = .ok (.iload 4, 2) := by decide +kernel
theorem d_X1_paintFrom_21 : decode (gw_mC M_X1_paintFrom) 21 = .ok (.iload_n 3, 1) := by decide +kernel
theorem d_X1_paintFrom_22 : decode (gw_mC M_X1_paintFrom) 22 = .ok (.if_icmp .ge 48, 3) := by decide +kernel
theorem d_X1_paintFrom_25 : decode (gw_mC M_X1_paintFrom) 25 = .ok (.aload_n 0, 1) := by decide +kernel
theorem d_X1_paintFrom_26 : decode (gw_mC M_X1_paintFrom) 26 = .ok (.iload_n 1, 1) := by decide +kernel
theorem d_X1_paintFrom_27 : decode (gw_mC M_X1_paintFrom) 27 = .ok (.iload 4, 2) := by decide +kernel
theorem d_X1_paintFrom_29 : decode (gw_mC M_X1_paintFrom) 29 = .ok (.invokevirtual 26, 3) := by decide +kernel
theorem d_X1_paintFrom_32 : decode (gw_mC M_X1_paintFrom) 32 = .ok (.ifCond .eq 32, 3) := by decide +kernel
theorem d_X1_paintFrom_35 : decode (gw_mC M_X1_paintFrom) 35 = .ok (.aload_n 0, 1) := by decide +kernel
theorem d_X1_paintFrom_36 : decode (gw_mC M_X1_paintFrom) 36 = .ok (.getfield 19, 3) := by decide +kernel
theorem d_X1_paintFrom_39 : decode (gw_mC M_X1_paintFrom) 39 = .ok (.iload_n 1, 1) := by decide +kernel
theorem d_X1_paintFrom_40 : decode (gw_mC M_X1_paintFrom) 40 = .ok (.iload 4, 2) := by decide +kernel
theorem d_X1_paintFrom_42 : decode (gw_mC M_X1_paintFrom) 42 = .ok (.iastore, 1) := by decide +kernel
theorem d_X1_paintFrom_43 : decode (gw_mC M_X1_paintFrom) 43 = .ok (.aload_n 0, 1) := by decide +kernel
theorem d_X1_paintFrom_44 : decode (gw_mC M_X1_paintFrom) 44 = .ok (.iload_n 1, 1) := by decide +kernel
theorem d_X1_paintFrom_45 : decode (gw_mC M_X1_paintFrom) 45 = .ok (.iconst 1, 1) := by decide +kernel
theorem d_X1_paintFrom_46 : decode (gw_mC M_X1_paintFrom) 46 = .ok (.iadd, 1) := by decide +kernel
theorem d_X1_paintFrom_47 : decode (gw_mC M_X1_paintFrom) 47 = .ok (.iload_n 2, 1) := by decide +kernel
theorem d_X1_paintFrom_48 : decode (gw_mC M_X1_paintFrom) 48 = .ok (.iload 4, 2) := by decide +kernel
theorem d_X1_paintFrom_50 : decode (gw_mC M_X1_paintFrom) 50 = .ok (.iconst 1, 1) := by decide +kernel
theorem d_X1_paintFrom_51 : decode (gw_mC M_X1_paintFrom) 51 = .ok (.iadd, 1) := by decide +kernel
theorem d_X1_paintFrom_52 : decode (gw_mC M_X1_paintFrom) 52 = .ok (.invokestatic 30, 3) := by decide +kernel
theorem d_X1_paintFrom_55 : decode (gw_mC M_X1_paintFrom) 55 = .ok (.iload_n 3, 1) := by decide +kernel
theorem d_X1_paintFrom_56 : decode (gw_mC M_X1_paintFrom) 56 = .ok (.invokestatic 22, 3) := by decide +kernel
theorem d_X1_paintFrom_59 : decode (gw_mC M_X1_paintFrom) 59 = .ok (.ifCond .eq 5, 3) := by decide +kernel
theorem d_X1_paintFrom_62 : decode (gw_mC M_X1_paintFrom) 62 = .ok (.iconst 1, 1) := by decide +kernel
theorem d_X1_paintFrom_63 : decode (gw_mC M_X1_paintFrom) 63 = .ok (.ireturn, 1) := by decide +kernel
theorem d_X1_paintFrom_64 : decode (gw_mC M_X1_paintFrom) 64 = .ok (.iinc 4 1, 3) := by decide +kernel
theorem d_X1_paintFrom_67 : decode (gw_mC M_X1_paintFrom) 67 = .ok (.goto (-54), 3) := by decide +kernel
theorem d_X1_paintFrom_70 : decode (gw_mC M_X1_paintFrom) 70 = .ok (.iconst 0, 1) := by decide +kernel
theorem d_X1_paintFrom_71 : decode (gw_mC M_X1_paintFrom) 71 = .ok (.ireturn, 1) := by decide +kernel
theorem d_X1_isFree_0 : decode (gw_mC M_X1_isFree) 0 = .ok (.iconst 0, 1) := by decide +kernel
theorem d_X1_isFree_1 : decode (gw_mC M_X1_isFree) 1 = .ok (.istore_n 3, 1) := by decide +kernel
theorem d_X1_isFree_2 : decode (gw_mC M_X1_isFree) 2 = .ok (.iload_n 3, 1) := by decide +kernel
theorem d_X1_isFree_3 : decode (gw_mC M_X1_isFree) 3 = .ok (.iload_n 1, 1) := by decide +kernel
theorem d_X1_isFree_4 : decode (gw_mC M_X1_isFree) 4 = .ok (.if_icmp .ge 35, 3) := by decide +kernel
theorem d_X1_isFree_7 : decode (gw_mC M_X1_isFree) 7 = .ok (.aload_n 0, 1) := by decide +kernel
theorem d_X1_isFree_8 : decode (gw_mC M_X1_isFree) 8 = .ok (.getfield 15, 3) := by decide +kernel
theorem d_X1_isFree_11 : decode (gw_mC M_X1_isFree) 11 = .ok (.iload_n 1, 1) := by decide +kernel
theorem d_X1_isFree_12 : decode (gw_mC M_X1_isFree) 12 = .ok (.iaload, 1) := by decide +kernel
theorem d_X1_isFree_13 : decode (gw_mC M_X1_isFree) 13 = .ok (.iload_n 3, 1) := by decide +kernel
theorem d_X1_isFree_14 : decode (gw_mC M_X1_isFree) 14 = .ok (.ishr, 1) := by decide +kernel
theorem d_X1_isFree_15 : decode (gw_mC M_X1_isFree) 15 = .ok (.iconst 1, 1) := by decide +kernel
theorem d_X1_isFree_16 : decode (gw_mC M_X1_isFree) 16 = .ok (.iand, 1) := by decide +kernel
theorem d_X1_isFree_17 : decode (gw_mC M_X1_isFree) 17 = .ok (.iconst 1, 1) := by decide +kernel
theorem d_X1_isFree_18 : decode (gw_mC M_X1_isFree) 18 = .ok (.if_icmp .ne 15, 3) := by decide +kernel
theorem d_X1_isFree_21 : decode (gw_mC M_X1_isFree) 21 = .ok (.aload_n 0, 1) := by decide +kernel
theorem d_X1_isFree_22 : decode (gw_mC M_X1_isFree) 22 = .ok (.getfield 19, 3) := by decide +kernel
theorem d_X1_isFree_25 : decode (gw_mC M_X1_isFree) 25 = .ok (.iload_n 3, 1) := by decide +kernel
theorem d_X1_isFree_26 : decode (gw_mC M_X1_isFree) 26 = .ok (.iaload, 1) := by decide +kernel
theorem d_X1_isFree_27 : decode (gw_mC M_X1_isFree) 27 = .ok (.iload_n 2, 1) := by decide +kernel
theorem d_X1_isFree_28 : decode (gw_mC M_X1_isFree) 28 = .ok (.if_icmp .ne 5, 3) := by decide +kernel
theorem d_X1_isFree_31 : decode (gw_mC M_X1_isFree) 31 = .ok (.iconst 0, 1) := by decide +kernel
theorem d_X1_isFree_32 : decode (gw_mC M_X1_isFree) 32 = .ok (.ireturn, 1) := by decide +kernel
theorem d_X1_isFree_33 : decode (gw_mC M_X1_isFree) 33 = .ok (.iinc 3 1, 3) := by decide +kernel
theorem d_X1_isFree_36 : decode (gw_mC M_X1_isFree) 36 = .ok (.goto (-34), 3) := by decide +kernel
theorem d_X1_isFree_39 : decode (gw_mC M_X1_isFree) 39 = .ok (.iconst 1, 1) := by decide +kernel
theorem d_X1_isFree_40 : decode (gw_mC M_X1_isFree) 40 = .ok (.ireturn, 1) := by decide +kernel
theorem d_X2_init_0 : decode (gw_mC M_X2_init) 0 = .ok (.aload_n 0, 1) := by decide +kernel
theorem d_X2_init_1 : decode (gw_mC M_X2_init) 1 = .ok (.invokespecial 1, 3) := by decide +kernel
theorem d_X2_init_4 : decode (gw_mC M_X2_init) 4 = .ok (.aload_n 0, 1) := by decide +kernel
theorem d_X2_init_5 : decode (gw_mC M_X2_init) 5 = .ok (.iconst 0, 1) := by decide +kernel
theorem d_X2_init_6 : decode (gw_mC M_X2_init) 6 = .ok (.putfield 7, 3) := by decide +kernel
theorem d_X2_init_9 : decode (gw_mC M_X2_init) 9 = .ok (.aload_n 0, 1) := by decide +kernel
theorem d_X2_init_10 : decode (gw_mC M_X2_init) 10 = .ok (.iconst 0, 1) := by decide +kernel
theorem d_X2_init_11 : decode (gw_mC M_X2_init) 11 = .ok (.putfield 13, 3) := by decide +kernel
theorem d_X2_init_14 : decode (gw_mC M_X2_init) 14 = .ok (.aload_n 0, 1) := by decide +kernel
theorem d_X2_init_15 : decode (gw_mC M_X2_init) 15 = .ok (.iconst 0, 1) := by decide +kernel
theorem d_X2_init_16 : decode (gw_mC M_X2_init) 16 = .ok (.putfield 16, 3) := by decide +kernel
theorem d_X2_init_19 : decode (gw_mC M_X2_init) 19 = .ok (.aload_n 0, 1) := by decide +kernel
theorem d_X2_init_20 : decode (gw_mC M_X2_init) 20 = .ok (.iconst 0, 1) := by decide +kernel
theorem d_X2_init_21 : decode (gw_mC M_X2_init) 21 = .ok (.putfield 20, 3) := by decide +kernel
theorem d_X2_init_24 : decode (gw_mC M_X2_init) 24 = .ok (.aload_n 0, 1) := by decide +kernel
theorem d_X2_init_25 : decode (gw_mC M_X2_init) 25 = .ok (.iconst 0, 1) := by decide +kernel
theorem d_X2_init_26 : decode (gw_mC M_X2_init) 26 = .ok (.putfield 23, 3) := by decide +kernel
theorem d_X2_init_29 : decode (gw_mC M_X2_init) 29 = .ok (.aload_n 0, 1) := by decide +kernel
theorem d_X2_init_30 : decode (gw_mC M_X2_init) 30 = .ok (.iconst 0, 1) := by decide +kernel
theorem d_X2_init_31 : decode (gw_mC M_X2_init) 31 = .ok (.putfield 26, 3) := by decide +kernel
theorem d_X2_init_34 : decode (gw_mC M_X2_init) 34 = .ok (.return_, 1) := by decide +kernel
theorem d_X2_clear_0 : decode (gw_mC M_X2_clear) 0 = .ok (.aload_n 0, 1) := by decide +kernel
theorem d_X2_clear_1 : decode (gw_mC M_X2_clear) 1 = .ok (.iconst 0, 1) := by decide +kernel
theorem d_X2_clear_2 : decode (gw_mC M_X2_clear) 2 = .ok (.putfield 7, 3) := by decide +kernel
theorem d_X2_clear_5 : decode (gw_mC M_X2_clear) 5 = .ok (.aload_n 0, 1) := by decide +kernel
theorem d_X2_clear_6 : decode (gw_mC M_X2_clear) 6 = .ok (.iconst 0, 1) := by decide +kernel
theorem d_X2_clear_7 : decode (gw_mC M_X2_clear) 7 = .ok (.putfield 13, 3) := by decide +kernel
theorem d_X2_clear_10 : decode (gw_mC M_X2_clear) 10 = .ok (.aload_n 0, 1) := by decide +kernel
theorem d_X2_clear_11 : decode (gw_mC M_X2_clear) 11 = .ok (.iconst 0, 1) := by decide +kernel
theorem d_X2_clear_12 : decode (gw_mC M_X2_clear) 12 = .ok (.putfield 16, 3) := by decide +kernel
theorem d_X2_clear_15 : decode (gw_mC M_X2_clear) 15 = .ok (.aload_n 0, 1) := by decide +kernel
theorem d_X2_clear_16 : decode (gw_mC M_X2_clear) 16 = .ok (.iconst 0, 1) := by decide +kernel
theorem d_X2_clear_17 : decode (gw_mC M_X2_clear) 17 = .ok (.putfield 20, 3) := by decide +kernel
theorem d_X2_clear_20 : decode (gw_mC M_X2_clear) 20 = .ok (.aload_n 0, 1) := by decide +kernel
theorem d_X2_clear_21 : decode (gw_mC M_X2_clear) 21 = .ok (.iconst 0, 1) := by decide +kernel
theorem d_X2_clear_22 : decode (gw_mC M_X2_clear) 22 = .ok (.putfield 23, 3) := by decide +kernel
theorem d_X2_clear_25 : decode (gw_mC M_X2_clear) 25 = .ok (.aload_n 0, 1) := by decide +kernel
theorem d_X2_clear_26 : decode (gw_mC M_X2_clear) 26 = .ok (.iconst 0, 1) := by decide +kernel
theorem d_X2_clear_27 : decode (gw_mC M_X2_clear) 27 = .ok (.putfield 26, 3) := by decide +kernel
theorem d_X2_clear_30 : decode (gw_mC M_X2_clear) 30 = .ok (.return_, 1) := by decide +kernel
theorem d_X3_init_0 : decode (gw_mC M_X3_init) 0 = .ok (.aload_n 0, 1) := by decide +kernel
theorem d_X3_init_1 : decode (gw_mC M_X3_init) 1 = .ok (.invokespecial 3, 3) := by decide +kernel
theorem d_X3_init_4 : decode (gw_mC M_X3_init) 4 = .ok (.aload_n 0, 1) := by decide +kernel
theorem d_X3_init_5 : decode (gw_mC M_X3_init) 5 = .ok (.iconst 4, 1) := by decide +kernel
theorem d_X3_init_6 : decode (gw_mC M_X3_init) 6 = .ok (.newarray .int, 2) := by decide +kernel
theorem d_X3_init_8 : decode (gw_mC M_X3_init) 8 = .ok (.putfield 9, 3) := by decide +kernel
theorem d_X3_init_11 : decode (gw_mC M_X3_init) 11 = .ok (.aload_n 0, 1) := by decide +kernel
theorem d_X3_init_12 : decode (gw_mC M_X3_init) 12 = .ok (.iconst 4, 1) := by decide +kernel
theorem d_X3_init_13 : decode (gw_mC M_X3_init) 13 = .ok (.bipush 8, 2) := by decide +kernel
theorem d_X3_init_15 : decode (gw_mC M_X3_init) 15 = .ok (.multianewarray 15 2, 4) := by decide +kernel
theorem d_X3_init_19 : decode (gw_mC M_X3_init) 19 = .ok (.putfield 17, 3) := by decide +kernel
theorem d_X3_init_22 : decode (gw_mC M_X3_init) 22 = .ok (.aload_n 0, 1) := by decide +kernel
theorem d_X3_init_23 : decode (gw_mC M_X3_init) 23 = .ok (.iconst 4, 1) := by decide +kernel
theorem d_X3_init_24 : decode (gw_mC M_X3_init) 24 = .ok (.bipush 8, 2) := by decide +kernel
theorem d_X3_init_26 : decode (gw_mC M_X3_init) 26 = .ok (.multianewarray 15 2, 4) := by decide +kernel
theorem d_X3_init_30 : decode (gw_mC M_X3_init) 30 = .ok (.putfield 20, 3) := by decide +kernel
theorem d_X3_init_33 : decode (gw_mC M_X3_init) 33 = .ok (.aload_n 0, 1) := by decide +kernel
theorem d_X3_init_34 : decode (gw_mC M_X3_init) 34 = .ok (.bipush 8, 2) := by decide +kernel
theorem d_X3_init_36 : decode (gw_mC M_X3_init) 36 = .ok (.newarray .int, 2) := by decide +kernel
theorem d_X3_init_38 : decode (gw_mC M_X3_init) 38 = .ok (.putfield 23, 3) := by decide +kernel
theorem d_X3_init_41 : decode (gw_mC M_X3_init) 41 = .ok (.return_, 1) := by decide +kernel
theorem d_X3_clear_0 : decode (gw_mC M_X3_clear) 0 = .ok (.iconst 0, 1) := by decide +kernel
theorem d_X3_clear_1 : decode (gw_mC M_X3_clear) 1 = .ok (.istore_n 1, 1) := by decide +kernel
theorem d_X3_clear_2 : decode (gw_mC M_X3_clear) 2 = .ok (.iload_n 1, 1) := by decide +kernel
theorem d_X3_clear_3 : decode (gw_mC M_X3_clear) 3 = .ok (.iconst 3, 1) := by decide +kernel
theorem d_X3_clear_4 : decode (gw_mC M_X3_clear) 4 = .ok (.if_icmp .gt 16, 3) := by decide +kernel
theorem d_X3_clear_7 : decode (gw_mC M_X3_clear) 7 = .ok (.aload_n 0, 1) := by decide +kernel
theorem d_X3_clear_8 : decode (gw_mC M_X3_clear) 8 = .ok (.getfield 9, 3) := by decide +kernel
theorem d_X3_clear_11 : decode (gw_mC M_X3_clear) 11 = .ok (.iload_n 1, 1) := by decide +kernel
theorem d_X3_clear_12 : decode (gw_mC M_X3_clear) 12 = .ok (.iconst 0, 1) := by decide +kernel
theorem d_X3_clear_13 : decode (gw_mC M_X3_clear) 13 = .ok (.iastore, 1) := by decide +kernel
theorem d_X3_clear_14 : decode (gw_mC M_X3_clear) 14 = .ok (.iinc 1 1, 3) := by decide +kernel
theorem d_X3_clear_17 : decode (gw_mC M_X3_clear) 17 = .ok (.goto (-15), 3) := by decide +kernel
theorem d_X3_clear_20 : decode (gw_mC M_X3_clear) 20 = .ok (.return_, 1) := by decide +kernel
theorem d_X3_isTaken_0 : decode (gw_mC M_X3_isTaken) 0 = .ok (.iconst 0, 1) := by decide +kernel
theorem d_X3_isTaken_1 : decode (gw_mC M_X3_isTaken) 1 = .ok (.istore_n 3, 1) := by decide +kernel
theorem d_X3_isTaken_2 : decode (gw_mC M_X3_isTaken) 2 = .ok (.iload_n 3, 1) := by decide +kernel
theorem d_X3_isTaken_3 : decode (gw_mC M_X3_isTaken) 3 = .ok (.aload_n 0, 1) := by decide +kernel
theorem d_X3_isTaken_4 : decode (gw_mC M_X3_isTaken) 4 = .ok (.getfield 9, 3) := by decide +kernel
theorem d_X3_isTaken_7 : decode (gw_mC M_X3_isTaken) 7 = .ok (.iload_n 1, 1) := by decide +kernel
theorem d_X3_isTaken_8 : decode (gw_mC M_X3_isTaken) 8 = .ok (.iaload, 1) := by decide +kernel
theorem d_X3_isTaken_9 : decode (gw_mC M_X3_isTaken) 9 = .ok (.if_icmp .ge 23, 3) := by decide +kernel
theorem d_X3_isTaken_12 : decode (gw_mC M_X3_isTaken) 12 = .ok (.aload_n 0, 1) := by decide +kernel
theorem d_X3_isTaken_13 : decode (gw_mC M_X3_isTaken) 13 = .ok (.getfield 17, 3) := by decide +kernel
theorem d_X3_isTaken_16 : decode (gw_mC M_X3_isTaken) 16 = .ok (.iload_n 1, 1) := by decide +kernel
theorem d_X3_isTaken_17 : decode (gw_mC M_X3_isTaken) 17 = .ok (.aaload, 1) := by decide +kernel
theorem d_X3_isTaken_18 : decode (gw_mC M_X3_isTaken) 18 = .ok (.iload_n 3, 1) := by decide +kernel
theorem d_X3_isTaken_19 : decode (gw_mC M_X3_isTaken) 19 = .ok (.iaload, 1) := by decide +kernel
theorem d_X3_isTaken_20 : decode (gw_mC M_X3_isTaken) 20 = .ok (.iload_n 2, 1) := by decide +kernel
theorem d_X3_isTaken_21 : decode (gw_mC M_X3_isTaken) 21 = .ok (.if_icmp .ne 5, 3) := by decide +kernel
theorem d_X3_isTaken_24 : decode (gw_mC M_X3_isTaken) 24 = .ok (.iconst 1, 1) := by decide +kernel
theorem d_X3_isTaken_25 : decode (gw_mC M_X3_isTaken) 25 = .ok (.ireturn, 1) := by decide +kernel
theorem d_X3_isTaken_26 : decode (gw_mC M_X3_isTaken) 26 = .ok (.iinc 3 1, 3) := by decide +kernel
theorem d_X3_isTaken_29 : decode (gw_mC M_X3_isTaken) 29 = .ok (.goto (-27), 3) := by decide +kernel
theorem d_X3_isTaken_32 : decode (gw_mC M_X3_isTaken) 32 = .ok (.iconst 0, 1) := by decide +kernel
theorem d_X3_isTaken_33 : decode (gw_mC M_X3_isTaken) 33 = .ok (.ireturn, 1) := by decide +kernel
theorem d_X3_add_0 : decode (gw_mC M_X3_add) 0 = .ok (.aload_n 0, 1) := by decide +kernel
theorem d_X3_add_1 : decode (gw_mC M_X3_add) 1 = .ok (.iload_n 1, 1) := by decide +kernel
theorem d_X3_add_2 : decode (gw_mC M_X3_add) 2 = .ok (.iload_n 2, 1) := by decide +kernel
theorem d_X3_add_3 : decode (gw_mC M_X3_add) 3 = .ok (.invokevirtual 26, 3) := by decide +kernel
theorem d_X3_add_6 : decode (gw_mC M_X3_add) 6 = .ok (.ifCond .eq 6, 3) := by decide +kernel
theorem d_X3_add_9 : decode (gw_mC M_X3_add) 9 = .ok (.bipush (-2), 2) := by decide +kernel
theorem d_X3_add_11 : decode (gw_mC M_X3_add) 11 = .ok (.ireturn, 1) := by decide +kernel
theorem d_X3_add_12 : decode (gw_mC M_X3_add) 12 = .ok (.aload_n 0, 1) := by decide +kernel
theorem d_X3_add_13 : decode (gw_mC M_X3_add) 13 = .ok (.getfield 9, 3) := by decide +kernel
theorem d_X3_add_16 : decode (gw_mC M_X3_add) 16 = .ok (.iload_n 1, 1) := by decide +kernel
theorem d_X3_add_17 : decode (gw_mC M_X3_add) 17 = .ok (.iaload, 1) := by decide +kernel
theorem d_X3_add_18 : decode (gw_mC M_X3_add) 18 = .ok (.istore 4, 2) := by decide +kernel
theorem d_X3_add_20 : decode (gw_mC M_X3_add) 20 = .ok (.iload 4, 2) := by decide +kernel
theorem d_X3_add_22 : decode (gw_mC M_X3_add) 22 = .ok (.bipush 8, 2) := by decide +kernel
theorem d_X3_add_24 : decode (gw_mC M_X3_add) 24 = .ok (.if_icmp .lt 6, 3) := by decide +kernel
theorem d_X3_add_27 : decode (gw_mC M_X3_add) 27 = .ok (.bipush (-3), 2) := by decide +kernel
theorem d_X3_add_29 : decode (gw_mC M_X3_add) 29 = .ok (.ireturn, 1) := by decide +kernel
theorem d_X3_add_30 : decode (gw_mC M_X3_add) 30 = .ok (.aload_n 0, 1) := by decide +kernel
theorem d_X3_add_31 : decode (gw_mC M_X3_add) 31 = .ok (.getfield 17, 3) := by decide +kernel
theorem d_X3_add_34 : decode (gw_mC M_X3_add) 34 = .ok (.iload_n 1, 1) := by decide +kernel
theorem d_X3_add_35 : decode (gw_mC M_X3_add) 35 = .ok (.aaload, 1) := by decide +kernel
theorem d_X3_add_36 : decode (gw_mC M_X3_add) 36 = .ok (.iload 4, 2) := by decide +kernel
theorem d_X3_add_38 : decode (gw_mC M_X3_add) 38 = .ok (.iload_n 2, 1) := by decide +kernel
theorem d_X3_add_39 : decode (gw_mC M_X3_add) 39 = .ok (.iastore, 1) := by decide +kernel
theorem d_X3_add_40 : decode (gw_mC M_X3_add) 40 = .ok (.aload_n 0, 1) := by decide +kernel
theorem d_X3_add_41 : decode (gw_mC M_X3_add) 41 = .ok (.getfield 20, 3) := by decide +kernel
theorem d_X3_add_44 : decode (gw_mC M_X3_add) 44 = .ok (.iload_n 1, 1) := by decide +kernel
theorem d_X3_add_45 : decode (gw_mC M_X3_add) 45 = .ok (.aaload, 1) := by decide +kernel
theorem d_X3_add_46 : decode (gw_mC M_X3_add) 46 = .ok (.iload 4, 2) := by decide +kernel
theorem d_X3_add_48 : decode (gw_mC M_X3_add) 48 = .ok (.iload_n 3, 1) := by decide +kernel
theorem d_X3_add_49 : decode (gw_mC M_X3_add) 49 = .ok (.iastore, 1) := by decide +kernel
theorem d_X3_add_50 : decode (gw_mC M_X3_add) 50 = .ok (.iload_n 1, 1) := by decide +kernel
theorem d_X3_add_51 : decode (gw_mC M_X3_add) 51 = .ok (.ifCond .ne 12, 3) := by decide +kernel
theorem d_X3_add_54 : decode (gw_mC M_X3_add) 54 = .ok (.aload_n 0, 1) := by decide +kernel
theorem d_X3_add_55 : decode (gw_mC M_X3_add) 55 = .ok (.getfield 23, 3) := by decide +kernel
theorem d_X3_add_58 : decode (gw_mC M_X3_add) 58 = .ok (.iload 4, 2) := by decide +kernel
theorem d_X3_add_60 : decode (gw_mC M_X3_add) 60 = .ok (.bipush 10, 2) := by decide +kernel
theorem d_X3_add_62 : decode (gw_mC M_X3_add) 62 = .ok (.iastore, 1) := by decide +kernel
theorem d_X3_add_63 : decode (gw_mC M_X3_add) 63 = .ok (.aload_n 0, 1) := by decide +kernel
theorem d_X3_add_64 : decode (gw_mC M_X3_add) 64 = .ok (.getfield 9, 3) := by decide +kernel
theorem d_X3_add_67 : decode (gw_mC M_X3_add) 67 = .ok (.iload_n 1, 1) := by decide +kernel
theorem d_X3_add_68 : decode (gw_mC M_X3_add) 68 = .ok (.iload 4, 2) := by decide +kernel
theorem d_X3_add_70 : decode (gw_mC M_X3_add) 70 = .ok (.iconst 1, 1) := by decide +kernel
theorem d_X3_add_71 : decode (gw_mC M_X3_add) 71 = .ok (.iadd, 1) := by decide +kernel
theorem d_X3_add_72 : decode (gw_mC M_X3_add) 72 = .ok (.iastore, 1) := by decide +kernel
theorem d_X3_add_73 : decode (gw_mC M_X3_add) 73 = .ok (.iload 4, 2) := by decide +kernel
theorem d_X3_add_75 : decode (gw_mC M_X3_add) 75 = .ok (.ireturn, 1) := by decide +kernel
theorem d_X3_take_0 : decode (gw_mC M_X3_take) 0 = .ok (.iconst 0, 1) := by decide +kernel
theorem d_X3_take_1 : decode (gw_mC M_X3_take) 1 = .ok (.istore_n 2, 1) := by decide +kernel
theorem d_X3_take_2 : decode (gw_mC M_X3_take) 2 = .ok (.iload_n 2, 1) := by decide +kernel
theorem d_X3_take_3 : decode (gw_mC M_X3_take) 3 = .ok (.iconst 3, 1) := by decide +kernel
theorem d_X3_take_4 : decode (gw_mC M_X3_take) 4 = .ok (.if_icmp .gt 59, 3) := by decide +kernel
theorem d_X3_take_7 : decode (gw_mC M_X3_take) 7 = .ok (.aload_n 0, 1) := by decide +kernel
theorem d_X3_take_8 : decode (gw_mC M_X3_take) 8 = .ok (.getfield 9, 3) := by decide +kernel
theorem d_X3_take_11 : decode (gw_mC M_X3_take) 11 = .ok (.iload_n 2, 1) := by decide +kernel
theorem d_X3_take_12 : decode (gw_mC M_X3_take) 12 = .ok (.aload_n 1, 1) := by decide +kernel
theorem d_X3_take_13 : decode (gw_mC M_X3_take) 13 = .ok (.getfield 9, 3) := by decide +kernel
theorem d_X3_take_16 : decode (gw_mC M_X3_take) 16 = .ok (.iload_n 2, 1) := by decide +kernel
theorem d_X3_take_17 : decode (gw_mC M_X3_take) 17 = .ok (.iaload, 1) := by decide +kernel
theorem d_X3_take_18 : decode (gw_mC M_X3_take) 18 = .ok (.iastore, 1) := by decide +kernel
theorem d_X3_take_19 : decode (gw_mC M_X3_take) 19 = .ok (.aload_n 1, 1) := by decide +kernel
theorem d_X3_take_20 : decode (gw_mC M_X3_take) 20 = .ok (.getfield 17, 3) := by decide +kernel
theorem d_X3_take_23 : decode (gw_mC M_X3_take) 23 = .ok (.iload_n 2, 1) := by decide +kernel
theorem d_X3_take_24 : decode (gw_mC M_X3_take) 24 = .ok (.aaload, 1) := by decide +kernel
theorem d_X3_take_25 : decode (gw_mC M_X3_take) 25 = .ok (.iconst 0, 1) := by decide +kernel
theorem d_X3_take_26 : decode (gw_mC M_X3_take) 26 = .ok (.aload_n 0, 1) := by decide +kernel
theorem d_X3_take_27 : decode (gw_mC M_X3_take) 27 = .ok (.getfield 17, 3) := by decide +kernel
theorem d_X3_take_30 : decode (gw_mC M_X3_take) 30 = .ok (.iload_n 2, 1) := by decide +kernel
theorem d_X3_take_31 : decode (gw_mC M_X3_take) 31 = .ok (.aaload, 1) := by decide +kernel
theorem d_X3_take_32 : decode (gw_mC M_X3_take) 32 = .ok (.iconst 0, 1) := by decide +kernel
theorem d_X3_take_33 : decode (gw_mC M_X3_take) 33 = .ok (.bipush 8, 2) := by decide +kernel
theorem d_X3_take_35 : decode (gw_mC M_X3_take) 35 = .ok (.invokestatic 30, 3) := by decide +kernel
theorem d_X3_take_38 : decode (gw_mC M_X3_take) 38 = .ok (.aload_n 1, 1) := by decide +kernel
theorem d_X3_take_39 : decode (gw_mC M_X3_take) 39 = .ok (.getfield 20, 3) := by decide +kernel
theorem d_X3_take_42 : decode (gw_mC M_X3_take) 42 = .ok (.iload_n 2, 1) := by decide +kernel
theorem d_X3_take_43 : decode (gw_mC M_X3_take) 43 = .ok (.aaload, 1) := by decide +kernel
theorem d_X3_take_44 : decode (gw_mC M_X3_take) 44 = .ok (.iconst 0, 1) := by decide +kernel
theorem d_X3_take_45 : decode (gw_mC M_X3_take) 45 = .ok (.aload_n 0, 1) := by decide +kernel
theorem d_X3_take_46 : decode (gw_mC M_X3_take) 46 = .ok (.getfield 20, 3) := by decide +kernel
theorem d_X3_take_49 : decode (gw_mC M_X3_take) 49 = .ok (.iload_n 2, 1) := by decide +kernel
theorem d_X3_take_50 : decode (gw_mC M_X3_take) 50 = .ok (.aaload, 1) := by decide +kernel
theorem d_X3_take_51 : decode (gw_mC M_X3_take) 51 = .ok (.iconst 0, 1) := by decide +kernel
theorem d_X3_take_52 : decode (gw_mC M_X3_take) 52 = .ok (.bipush 8, 2) := by decide +kernel
theorem d_X3_take_54 : decode (gw_mC M_X3_take) 54 = .ok (.invokestatic 30, 3) := by decide +kernel
theorem d_X3_take_57 : decode (gw_mC M_X3_take) 57 = .ok (.iinc 2 1, 3) := by decide +kernel
theorem d_X3_take_60 : decode (gw_mC M_X3_take) 60 = .ok (.goto (-58), 3) := by decide +kernel
theorem d_X3_take_63 : decode (gw_mC M_X3_take) 63 = .ok (.aload_n 1, 1) := by decide +kernel
theorem d_X3_take_64 : decode (gw_mC M_X3_take) 64 = .ok (.getfield 23, 3) := by decide +kernel
theorem d_X3_take_67 : decode (gw_mC M_X3_take) 67 = .ok (.iconst 0, 1) := by decide +kernel
theorem d_X3_take_68 : decode (gw_mC M_X3_take) 68 = .ok (.aload_n 0, 1) := by decide +kernel
theorem d_X3_take_69 : decode (gw_mC M_X3_take) 69 = .ok (.getfield 23, 3) := by decide +kernel
theorem d_X3_take_72 : decode (gw_mC M_X3_take) 72 = .ok (.iconst 0, 1) := by decide +kernel
theorem d_X3_take_73 : decode (gw_mC M_X3_take) 73 = .ok (.bipush 8, 2) := by decide +kernel
theorem d_X3_take_75 : decode (gw_mC M_X3_take) 75 = .ok (.invokestatic 30, 3) := by decide +kernel
theorem d_X3_take_78 : decode (gw_mC M_X3_take) 78 = .ok (.return_, 1) := by decide +kernel
theorem d_X4_init_0 : decode (gw_mC M_X4_init) 0 = .ok (.aload_n 0, 1) := by decide +kernel
theorem d_X4_init_1 : decode (gw_mC M_X4_init) 1 = .ok (.invokespecial 3, 3) := by decide +kernel
theorem d_X4_init_4 : decode (gw_mC M_X4_init) 4 = .ok (.aload_n 0, 1) := by decide +kernel
theorem d_X4_init_5 : decode (gw_mC M_X4_init) 5 = .ok (.iconst 0, 1) := by decide +kernel
theorem d_X4_init_6 : decode (gw_mC M_X4_init) 6 = .ok (.putfield 9, 3) := by decide +kernel
theorem d_X4_init_9 : decode (gw_mC M_X4_init) 9 = .ok (.aload_n 0, 1) := by decide +kernel
theorem d_X4_init_10 : decode (gw_mC M_X4_init) 10 = .ok (.bipush 100, 2) := by decide +kernel
theorem d_X4_init_12 : decode (gw_mC M_X4_init) 12 = .ok (.newarray .int, 2) := by decide +kernel
theorem d_X4_init_14 : decode (gw_mC M_X4_init) 14 = .ok (.putfield 15, 3) := by decide +kernel
theorem d_X4_init_17 : decode (gw_mC M_X4_init) 17 = .ok (.aload_n 0, 1) := by decide +kernel
theorem d_X4_init_18 : decode (gw_mC M_X4_init) 18 = .ok (.bipush 100, 2) := by decide +kernel
theorem d_X4_init_20 : decode (gw_mC M_X4_init) 20 = .ok (.newarray .int, 2) := by decide +kernel
theorem d_X4_init_22 : decode (gw_mC M_X4_init) 22 = .ok (.putfield 19, 3) := by decide +kernel
theorem d_X4_init_25 : decode (gw_mC M_X4_init) 25 = .ok (.aload_n 0, 1) := by decide +kernel
theorem d_X4_init_26 : decode (gw_mC M_X4_init) 26 = .ok (.bipush 100, 2) := by decide +kernel
theorem d_X4_init_28 : decode (gw_mC M_X4_init) 28 = .ok (.newarray .int, 2) := by decide +kernel
theorem d_X4_init_30 : decode (gw_mC M_X4_init) 30 = .ok (.putfield 22, 3) := by decide +kernel
theorem d_X4_init_33 : decode (gw_mC M_X4_init) 33 = .ok (.aload_n 0, 1) := by decide +kernel
theorem d_X4_init_34 : decode (gw_mC M_X4_init) 34 = .ok (.bipush 100, 2) := by decide +kernel
theorem d_X4_init_36 : decode (gw_mC M_X4_init) 36 = .ok (.newarray .int, 2) := by decide +kernel
theorem d_X4_init_38 : decode (gw_mC M_X4_init) 38 = .ok (.putfield 25, 3) := by decide +kernel
theorem d_X4_init_41 : decode (gw_mC M_X4_init) 41 = .ok (.return_, 1) := by decide +kernel
theorem d_X4_lay_0 : decode (gw_mC M_X4_lay) 0 = .ok (.aload_n 0, 1) := by decide +kernel
theorem d_X4_lay_1 : decode (gw_mC M_X4_lay) 1 = .ok (.iload_n 2, 1) := by decide +kernel
theorem d_X4_lay_2 : decode (gw_mC M_X4_lay) 2 = .ok (.putfield 9, 3) := by decide +kernel
theorem d_X4_lay_5 : decode (gw_mC M_X4_lay) 5 = .ok (.aload_n 0, 1) := by decide +kernel
theorem d_X4_lay_6 : decode (gw_mC M_X4_lay) 6 = .ok (.aload_n 0, 1) := by decide +kernel
theorem d_X4_lay_7 : decode (gw_mC M_X4_lay) 7 = .ok (.getfield 15, 3) := by decide +kernel
theorem d_X4_lay_10 : decode (gw_mC M_X4_lay) 10 = .ok (.aload_n 1, 1) := by decide +kernel
theorem d_X4_lay_11 : decode (gw_mC M_X4_lay) 11 = .ok (.iconst 0, 1) := by decide +kernel
theorem d_X4_lay_12 : decode (gw_mC M_X4_lay) 12 = .ok (.invokevirtual 28, 3) := by decide +kernel
theorem d_X4_lay_15 : decode (gw_mC M_X4_lay) 15 = .ok (.aload_n 0, 1) := by decide +kernel
theorem d_X4_lay_16 : decode (gw_mC M_X4_lay) 16 = .ok (.aload_n 0, 1) := by decide +kernel
theorem d_X4_lay_17 : decode (gw_mC M_X4_lay) 17 = .ok (.getfield 19, 3) := by decide +kernel
theorem d_X4_lay_20 : decode (gw_mC M_X4_lay) 20 = .ok (.aload_n 1, 1) := by decide +kernel
theorem d_X4_lay_21 : decode (gw_mC M_X4_lay) 21 = .ok (.iconst 1, 1) := by decide +kernel
theorem d_X4_lay_22 : decode (gw_mC M_X4_lay) 22 = .ok (.invokevirtual 28, 3) := by decide +kernel
theorem d_X4_lay_25 : decode (gw_mC M_X4_lay) 25 = .ok (.aload_n 0, 1) := by decide +kernel
theorem d_X4_lay_26 : decode (gw_mC M_X4_lay) 26 = .ok (.aload_n 0, 1) := by decide +kernel
theorem d_X4_lay_27 : decode (gw_mC M_X4_lay) 27 = .ok (.getfield 22, 3) := by decide +kernel
theorem d_X4_lay_30 : decode (gw_mC M_X4_lay) 30 = .ok (.aload_n 1, 1) := by decide +kernel
theorem d_X4_lay_31 : decode (gw_mC M_X4_lay) 31 = .ok (.iconst 2, 1) := by decide +kernel
theorem d_X4_lay_32 : decode (gw_mC M_X4_lay) 32 = .ok (.invokevirtual 28, 3) := by decide +kernel
theorem d_X4_lay_35 : decode (gw_mC M_X4_lay) 35 = .ok (.aload_n 0, 1) := by decide +kernel
theorem d_X4_lay_36 : decode (gw_mC M_X4_lay) 36 = .ok (.aload_n 0, 1) := by decide +kernel
theorem d_X4_lay_37 : decode (gw_mC M_X4_lay) 37 = .ok (.getfield 25, 3) := by decide +kernel
theorem d_X4_lay_40 : decode (gw_mC M_X4_lay) 40 = .ok (.aload_n 1, 1) := by decide +kernel
theorem d_X4_lay_41 : decode (gw_mC M_X4_lay) 41 = .ok (.iconst 3, 1) := by decide +kernel
theorem d_X4_lay_42 : decode (gw_mC M_X4_lay) 42 = .ok (.invokevirtual 28, 3) := by decide +kernel
theorem d_X4_lay_45 : decode (gw_mC M_X4_lay) 45 = .ok (.return_, 1) := by decide +kernel
theorem d_X4_layKind_0 : decode (gw_mC M_X4_layKind) 0 = .ok (.iconst 0, 1) := by decide +kernel
theorem d_X4_layKind_1 : decode (gw_mC M_X4_layKind) 1 = .ok (.istore 4, 2) := by decide +kernel
theorem d_X4_layKind_3 : decode (gw_mC M_X4_layKind) 3 = .ok (.iload 4, 2) := by decide +kernel
theorem d_X4_layKind_5 : decode (gw_mC M_X4_layKind) 5 = .ok (.bipush 100, 2) := by decide +kernel
theorem d_X4_layKind_7 : decode (gw_mC M_X4_layKind) 7 = .ok (.if_icmp .ge 14, 3) := by decide +kernel
theorem d_X4_layKind_10 : decode (gw_mC M_X4_layKind) 10 = .ok (.aload_n 1, 1) := by decide +kernel
theorem d_X4_layKind_11 : decode (gw_mC M_X4_layKind) 11 = .ok (.iload 4, 2) := by decide +kernel
theorem d_X4_layKind_13 : decode (gw_mC M_X4_layKind) 13 = .ok (.iconst 0, 1) := by decide +kernel
theorem d_X4_layKind_14 : decode (gw_mC M_X4_layKind) 14 = .ok (.iastore, 1) := by decide +kernel
theorem d_X4_layKind_15 : decode (gw_mC M_X4_layKind) 15 = .ok (.iinc 4 1, 3) := by decide +kernel
theorem d_X4_layKind_18 : decode (gw_mC M_X4_layKind) 18 = .ok (.goto (-15), 3) := by decide +kernel
theorem d_X4_layKind_21 : decode (gw_mC M_X4_layKind) 21 = .ok (.iconst 0, 1) := by decide +kernel
theorem d_X4_layKind_22 : decode (gw_mC M_X4_layKind) 22 = .ok (.istore 4, 2) := by decide +kernel
theorem d_X4_layKind_24 : decode (gw_mC M_X4_layKind) 24 = .ok (.iload 4, 2) := by decide +kernel
theorem d_X4_layKind_26 : decode (gw_mC M_X4_layKind) 26 = .ok (.aload_n 2, 1) := by decide +kernel
theorem d_X4_layKind_27 : decode (gw_mC M_X4_layKind) 27 = .ok (.getfield 32, 3) := by decide +kernel
theorem d_X4_layKind_30 : decode (gw_mC M_X4_layKind) 30 = .ok (.iload_n 3, 1) := by decide +kernel
theorem d_X4_layKind_31 : decode (gw_mC M_X4_layKind) 31 = .ok (.iaload, 1) := by decide +kernel
theorem d_X4_layKind_32 : decode (gw_mC M_X4_layKind) 32 = .ok (.if_icmp .ge 48, 3) := by decide +kernel
theorem d_X4_layKind_35 : decode (gw_mC M_X4_layKind) 35 = .ok (.aload_n 2, 1) := by decide +kernel
theorem d_X4_layKind_36 : decode (gw_mC M_X4_layKind) 36 = .ok (.getfield 37, 3) := by decide +kernel
theorem d_X4_layKind_39 : decode (gw_mC M_X4_layKind) 39 = .ok (.iload_n 3, 1) := by decide +kernel
theorem d_X4_layKind_40 : decode (gw_mC M_X4_layKind) 40 = .ok (.aaload, 1) := by decide +kernel
theorem d_X4_layKind_41 : decode (gw_mC M_X4_layKind) 41 = .ok (.iload 4, 2) := by decide +kernel
theorem d_X4_layKind_43 : decode (gw_mC M_X4_layKind) 43 = .ok (.iaload, 1) := by decide +kernel
theorem d_X4_layKind_44 : decode (gw_mC M_X4_layKind) 44 = .ok (.istore 5, 2) := by decide +kernel
theorem d_X4_layKind_46 : decode (gw_mC M_X4_layKind) 46 = .ok (.iload 5, 2) := by decide +kernel
theorem d_X4_layKind_48 : decode (gw_mC M_X4_layKind) 48 = .ok (.iconst 0, 1) := by decide +kernel
theorem d_X4_layKind_49 : decode (gw_mC M_X4_layKind) 49 = .ok (.aload_n 0, 1) := by decide +kernel
theorem d_X4_layKind_50 : decode (gw_mC M_X4_layKind) 50 = .ok (.getfield 9, 3) := by decide +kernel
theorem d_X4_layKind_53 : decode (gw_mC M_X4_layKind) 53 = .ok (.iconst 1, 1) := by decide +kernel
theorem d_X4_layKind_54 : decode (gw_mC M_X4_layKind) 54 = .ok (.isub, 1) := by decide +kernel
theorem d_X4_layKind_55 : decode (gw_mC M_X4_layKind) 55 = .ok (.invokestatic 41, 3) := by decide +kernel
theorem d_X4_layKind_58 : decode (gw_mC M_X4_layKind) 58 = .ok (.ifCond .eq 16, 3) := by decide +kernel
theorem d_X4_layKind_61 : decode (gw_mC M_X4_layKind) 61 = .ok (.aload_n 1, 1) := by decide +kernel
theorem d_X4_layKind_62 : decode (gw_mC M_X4_layKind) 62 = .ok (.iload 5, 2) := by decide +kernel
theorem d_X4_layKind_64 : decode (gw_mC M_X4_layKind) 64 = .ok (.aload_n 2, 1) := by decide +kernel
theorem d_X4_layKind_65 : decode (gw_mC M_X4_layKind) 65 = .ok (.getfield 45, 3) := by decide +kernel
theorem d_X4_layKind_68 : decode (gw_mC M_X4_layKind) 68 = .ok (.iload_n 3, 1) := by decide +kernel
theorem d_X4_layKind_69 : decode (gw_mC M_X4_layKind) 69 = .ok (.aaload, 1) := by decide +kernel
theorem d_X4_layKind_70 : decode (gw_mC M_X4_layKind) 70 = .ok (.iload 4, 2) := by decide +kernel
theorem d_X4_layKind_72 : decode (gw_mC M_X4_layKind) 72 = .ok (.iaload, 1) := by decide +kernel
theorem d_X4_layKind_73 : decode (gw_mC M_X4_layKind) 73 = .ok (.iastore, 1) := by decide +kernel
theorem d_X4_layKind_74 : decode (gw_mC M_X4_layKind) 74 = .ok (.iinc 4 1, 3) := by decide +kernel
theorem d_X4_layKind_77 : decode (gw_mC M_X4_layKind) 77 = .ok (.goto (-53), 3) := by decide +kernel
theorem d_X4_layKind_80 : decode (gw_mC M_X4_layKind) 80 = .ok (.return_, 1) := by decide +kernel
theorem d_X4_isRed_0 : decode (gw_mC M_X4_isRed) 0 = .ok (.aload_n 0, 1) := by decide +kernel
theorem d_X4_isRed_1 : decode (gw_mC M_X4_isRed) 1 = .ok (.getfield 19, 3) := by decide +kernel
theorem d_X4_isRed_4 : decode (gw_mC M_X4_isRed) 4 = .ok (.iload_n 1, 1) := by decide +kernel
theorem d_X4_isRed_5 : decode (gw_mC M_X4_isRed) 5 = .ok (.iaload, 1) := by decide +kernel
theorem d_X4_isRed_6 : decode (gw_mC M_X4_isRed) 6 = .ok (.istore_n 3, 1) := by decide +kernel
theorem d_X4_isRed_7 : decode (gw_mC M_X4_isRed) 7 = .ok (.iload_n 3, 1) := by decide +kernel
theorem d_X4_isRed_8 : decode (gw_mC M_X4_isRed) 8 = .ok (.ifCond .le 16, 3) := by decide +kernel
theorem d_X4_isRed_11 : decode (gw_mC M_X4_isRed) 11 = .ok (.iload_n 2, 1) := by decide +kernel
theorem d_X4_isRed_12 : decode (gw_mC M_X4_isRed) 12 = .ok (.iload_n 3, 1) := by decide +kernel
theorem d_X4_isRed_13 : decode (gw_mC M_X4_isRed) 13 = .ok (.irem, 1) := by decide +kernel
theorem d_X4_isRed_14 : decode (gw_mC M_X4_isRed) 14 = .ok (.iload_n 3, 1) := by decide +kernel
theorem d_X4_isRed_15 : decode (gw_mC M_X4_isRed) 15 = .ok (.iconst 2, 1) := by decide +kernel
theorem d_X4_isRed_16 : decode (gw_mC M_X4_isRed) 16 = .ok (.idiv, 1) := by decide +kernel
theorem d_X4_isRed_17 : decode (gw_mC M_X4_isRed) 17 = .ok (.if_icmp .ge 7, 3) := by decide +kernel
theorem d_X4_isRed_20 : decode (gw_mC M_X4_isRed) 20 = .ok (.iconst 1, 1) := by decide +kernel
theorem d_X4_isRed_21 : decode (gw_mC M_X4_isRed) 21 = .ok (.goto 4, 3) := by decide +kernel
theorem d_X4_isRed_24 : decode (gw_mC M_X4_isRed) 24 = .ok (.iconst 0, 1) := by decide +kernel
theorem d_X4_isRed_25 : decode (gw_mC M_X4_isRed) 25 = .ok (.ireturn, 1) := by decide +kernel
theorem d_X5_init_0 : decode (gw_mC M_X5_init) 0 = .ok (.aload_n 0, 1) := by decide +kernel
theorem d_X5_init_1 : decode (gw_mC M_X5_init) 1 = .ok (.invokespecial 3, 3) := by decide +kernel
theorem d_X5_init_4 : decode (gw_mC M_X5_init) 4 = .ok (.aload_n 0, 1) := by decide +kernel
theorem d_X5_init_5 : decode (gw_mC M_X5_init) 5 = .ok (.iconst 0, 1) := by decide +kernel
theorem d_X5_init_6 : decode (gw_mC M_X5_init) 6 = .ok (.putfield 9, 3) := by decide +kernel
theorem d_X5_init_9 : decode (gw_mC M_X5_init) 9 = .ok (.aload_n 0, 1) := by decide +kernel
theorem d_X5_init_10 : decode (gw_mC M_X5_init) 10 = .ok (.bipush 10, 2) := by decide +kernel
theorem d_X5_init_12 : decode (gw_mC M_X5_init) 12 = .ok (.newarray .int, 2) := by decide +kernel
theorem d_X5_init_14 : decode (gw_mC M_X5_init) 14 = .ok (.putfield 15, 3) := by decide +kernel
theorem d_X5_init_17 : decode (gw_mC M_X5_init) 17 = .ok (.aload_n 0, 1) := by decide +kernel
theorem d_X5_init_18 : decode (gw_mC M_X5_init) 18 = .ok (.bipush 10, 2) := by decide +kernel
theorem d_X5_init_20 : decode (gw_mC M_X5_init) 20 = .ok (.newarray .int, 2) := by decide +kernel
theorem d_X5_init_22 : decode (gw_mC M_X5_init) 22 = .ok (.putfield 19, 3) := by decide +kernel
theorem d_X5_init_25 : decode (gw_mC M_X5_init) 25 = .ok (.aload_n 0, 1) := by decide +kernel
theorem d_X5_init_26 : decode (gw_mC M_X5_init) 26 = .ok (.bipush 10, 2) := by decide +kernel
theorem d_X5_init_28 : decode (gw_mC M_X5_init) 28 = .ok (.newarray .boolean, 2) := by decide +kernel
theorem d_X5_init_30 : decode (gw_mC M_X5_init) 30 = .ok (.putfield 22, 3) := by decide +kernel
theorem d_X5_init_33 : decode (gw_mC M_X5_init) 33 = .ok (.return_, 1) := by decide +kernel
theorem d_X5_tailNumber_0 : decode (gw_mC M_X5_tailNumber) 0 = .ok (.iconst 0, 1) := by decide +kernel
theorem d_X5_tailNumber_1 : decode (gw_mC M_X5_tailNumber) 1 = .ok (.istore_n 1, 1) := by decide +kernel
theorem d_X5_tailNumber_2 : decode (gw_mC M_X5_tailNumber) 2 = .ok (.iload_n 1, 1) := by decide +kernel
theorem d_X5_tailNumber_3 : decode (gw_mC M_X5_tailNumber) 3 = .ok (.aload_n 0, 1) := by decide +kernel
theorem d_X5_tailNumber_4 : decode (gw_mC M_X5_tailNumber) 4 = .ok (.getfield 9, 3) := by decide +kernel
theorem d_X5_tailNumber_7 : decode (gw_mC M_X5_tailNumber) 7 = .ok (.if_icmp .ge 21, 3) := by decide +kernel
theorem d_X5_tailNumber_10 : decode (gw_mC M_X5_tailNumber) 10 = .ok (.aload_n 0, 1) := by decide +kernel
theorem d_X5_tailNumber_11 : decode (gw_mC M_X5_tailNumber) 11 = .ok (.getfield 15, 3) := by decide +kernel
theorem d_X5_tailNumber_14 : decode (gw_mC M_X5_tailNumber) 14 = .ok (.iload_n 1, 1) := by decide +kernel
theorem d_X5_tailNumber_15 : decode (gw_mC M_X5_tailNumber) 15 = .ok (.iaload, 1) := by decide +kernel
theorem d_X5_tailNumber_16 : decode (gw_mC M_X5_tailNumber) 16 = .ok (.iconst 3, 1) := by decide +kernel
theorem d_X5_tailNumber_17 : decode (gw_mC M_X5_tailNumber) 17 = .ok (.if_icmp .ne 5, 3) := by decide +kernel
theorem d_X5_tailNumber_20 : decode (gw_mC M_X5_tailNumber) 20 = .ok (.iload_n 1, 1) := by decide +kernel
theorem d_X5_tailNumber_21 : decode (gw_mC M_X5_tailNumber) 21 = .ok (.ireturn, 1) := by decide +kernel
theorem d_X5_tailNumber_22 : decode (gw_mC M_X5_tailNumber) 22 = .ok (.iinc 1 1, 3) := by decide +kernel
theorem d_X5_tailNumber_25 : decode (gw_mC M_X5_tailNumber) 25 = .ok (.goto (-23), 3) := by decide +kernel
theorem d_X5_tailNumber_28 : decode (gw_mC M_X5_tailNumber) 28 = .ok (.iconst (-1), 1) := by decide +kernel
theorem d_X5_tailNumber_29 : decode (gw_mC M_X5_tailNumber) 29 = .ok (.ireturn, 1) := by decide +kernel
theorem d_X5_add_0 : decode (gw_mC M_X5_add) 0 = .ok (.iload_n 1, 1) := by decide +kernel
theorem d_X5_add_1 : decode (gw_mC M_X5_add) 1 = .ok (.iconst 3, 1) := by decide +kernel
theorem d_X5_add_2 : decode (gw_mC M_X5_add) 2 = .ok (.if_icmp .ne 13, 3) := by decide +kernel
theorem d_X5_add_5 : decode (gw_mC M_X5_add) 5 = .ok (.aload_n 0, 1) := by decide +kernel
theorem d_X5_add_6 : decode (gw_mC M_X5_add) 6 = .ok (.invokevirtual 26, 3) := by decide +kernel
theorem d_X5_add_9 : decode (gw_mC M_X5_add) 9 = .ok (.ifCond .lt 6, 3) := by decide +kernel
theorem d_X5_add_12 : decode (gw_mC M_X5_add) 12 = .ok (.bipush (-2), 2) := by decide +kernel
theorem d_X5_add_14 : decode (gw_mC M_X5_add) 14 = .ok (.ireturn, 1) := by decide +kernel
theorem d_X5_add_15 : decode (gw_mC M_X5_add) 15 = .ok (.aload_n 0, 1) := by decide +kernel
theorem d_X5_add_16 : decode (gw_mC M_X5_add) 16 = .ok (.getfield 9, 3) := by decide +kernel
theorem d_X5_add_19 : decode (gw_mC M_X5_add) 19 = .ok (.bipush 10, 2) := by decide +kernel
theorem d_X5_add_21 : decode (gw_mC M_X5_add) 21 = .ok (.if_icmp .lt 6, 3) := by decide +kernel
theorem d_X5_add_24 : decode (gw_mC M_X5_add) 24 = .ok (.bipush (-3), 2) := by decide +kernel
theorem d_X5_add_26 : decode (gw_mC M_X5_add) 26 = .ok (.ireturn, 1) := by decide +kernel
theorem d_X5_add_27 : decode (gw_mC M_X5_add) 27 = .ok (.aload_n 0, 1) := by decide +kernel
theorem d_X5_add_28 : decode (gw_mC M_X5_add) 28 = .ok (.getfield 15, 3) := by decide +kernel
theorem d_X5_add_31 : decode (gw_mC M_X5_add) 31 = .ok (.aload_n 0, 1) := by decide +kernel
theorem d_X5_add_32 : decode (gw_mC M_X5_add) 32 = .ok (.getfield 9, 3) := by decide +kernel
theorem d_X5_add_35 : decode (gw_mC M_X5_add) 35 = .ok (.iload_n 1, 1) := by decide +kernel
theorem d_X5_add_36 : decode (gw_mC M_X5_add) 36 = .ok (.iastore, 1) := by decide +kernel
theorem d_X5_add_37 : decode (gw_mC M_X5_add) 37 = .ok (.aload_n 0, 1) := by decide +kernel
theorem d_X5_add_38 : decode (gw_mC M_X5_add) 38 = .ok (.getfield 19, 3) := by decide +kernel
theorem d_X5_add_41 : decode (gw_mC M_X5_add) 41 = .ok (.aload_n 0, 1) := by decide +kernel
theorem d_X5_add_42 : decode (gw_mC M_X5_add) 42 = .ok (.getfield 9, 3) := by decide +kernel
theorem d_X5_add_45 : decode (gw_mC M_X5_add) 45 = .ok (.iload_n 2, 1) := by decide +kernel
theorem d_X5_add_46 : decode (gw_mC M_X5_add) 46 = .ok (.iastore, 1) := by decide +kernel
theorem d_X5_add_47 : decode (gw_mC M_X5_add) 47 = .ok (.aload_n 0, 1) := by decide +kernel
theorem d_X5_add_48 : decode (gw_mC M_X5_add) 48 = .ok (.getfield 22, 3) := by decide +kernel
theorem d_X5_add_51 : decode (gw_mC M_X5_add) 51 = .ok (.aload_n 0, 1) := by decide +kernel
theorem d_X5_add_52 : decode (gw_mC M_X5_add) 52 = .ok (.getfield 9, 3) := by decide +kernel
theorem d_X5_add_55 : decode (gw_mC M_X5_add) 55 = .ok (.iload_n 3, 1) := by decide +kernel
theorem d_X5_add_56 : decode (gw_mC M_X5_add) 56 = .ok (.bastore, 1) := by decide +kernel
theorem d_X5_add_57 : decode (gw_mC M_X5_add) 57 = .ok (.aload_n 0, 1) := by decide +kernel
theorem d_X5_add_58 : decode (gw_mC M_X5_add) 58 = .ok (.dup, 1) := by decide +kernel
theorem d_X5_add_59 : decode (gw_mC M_X5_add) 59 = .ok (.getfield 9, 3) := by decide +kernel
theorem d_X5_add_62 : decode (gw_mC M_X5_add) 62 = .ok (.iconst 1, 1) := by decide +kernel
theorem d_X5_add_63 : decode (gw_mC M_X5_add) 63 = .ok (.iadd, 1) := by decide +kernel
theorem d_X5_add_64 : decode (gw_mC M_X5_add) 64 = .ok (.putfield 9, 3) := by decide +kernel
theorem d_X5_add_67 : decode (gw_mC M_X5_add) 67 = .ok (.aload_n 0, 1) := by decide +kernel
theorem d_X5_add_68 : decode (gw_mC M_X5_add) 68 = .ok (.getfield 9, 3) := by decide +kernel
theorem d_X5_add_71 : decode (gw_mC M_X5_add) 71 = .ok (.iconst 1, 1) := by decide +kernel
theorem d_X5_add_72 : decode (gw_mC M_X5_add) 72 = .ok (.isub, 1) := by decide +kernel
theorem d_X5_add_73 : decode (gw_mC M_X5_add) 73 = .ok (.ireturn, 1) := by decide +kernel
theorem d_X5_take_0 : decode (gw_mC M_X5_take) 0 = .ok (.aload_n 0, 1) := by decide +kernel
theorem d_X5_take_1 : decode (gw_mC M_X5_take) 1 = .ok (.aload_n 1, 1) := by decide +kernel
theorem d_X5_take_2 : decode (gw_mC M_X5_take) 2 = .ok (.getfield 9, 3) := by decide +kernel
theorem d_X5_take_5 : decode (gw_mC M_X5_take) 5 = .ok (.putfield 9, 3) := by decide +kernel
theorem d_X5_take_8 : decode (gw_mC M_X5_take) 8 = .ok (.aload_n 1, 1) := by decide +kernel
theorem d_X5_take_9 : decode (gw_mC M_X5_take) 9 = .ok (.getfield 15, 3) := by decide +kernel
theorem d_X5_take_12 : decode (gw_mC M_X5_take) 12 = .ok (.iconst 0, 1) := by decide +kernel
theorem d_X5_take_13 : decode (gw_mC M_X5_take) 13 = .ok (.aload_n 0, 1) := by decide +kernel
theorem d_X5_take_14 : decode (gw_mC M_X5_take) 14 = .ok (.getfield 15, 3) := by decide +kernel
theorem d_X5_take_17 : decode (gw_mC M_X5_take) 17 = .ok (.iconst 0, 1) := by decide +kernel
theorem d_X5_take_18 : decode (gw_mC M_X5_take) 18 = .ok (.bipush 10, 2) := by decide +kernel
theorem d_X5_take_20 : decode (gw_mC M_X5_take) 20 = .ok (.invokestatic 30, 3) := by decide +kernel
theorem d_X5_take_23 : decode (gw_mC M_X5_take) 23 = .ok (.aload_n 1, 1) := by decide +kernel
theorem d_X5_take_24 : decode (gw_mC M_X5_take) 24 = .ok (.getfield 19, 3) := by decide +kernel
theorem d_X5_take_27 : decode (gw_mC M_X5_take) 27 = .ok (.iconst 0, 1) := by decide +kernel
theorem d_X5_take_28 : decode (gw_mC M_X5_take) 28 = .ok (.aload_n 0, 1) := by decide +kernel
theorem d_X5_take_29 : decode (gw_mC M_X5_take) 29 = .ok (.getfield 19, 3) := by decide +kernel
theorem d_X5_take_32 : decode (gw_mC M_X5_take) 32 = .ok (.iconst 0, 1) := by decide +kernel
theorem d_X5_take_33 : decode (gw_mC M_X5_take) 33 = .ok (.bipush 10, 2) := by decide +kernel
theorem d_X5_take_35 : decode (gw_mC M_X5_take) 35 = .ok (.invokestatic 30, 3) := by decide +kernel
theorem d_X5_take_38 : decode (gw_mC M_X5_take) 38 = .ok (.aload_n 1, 1) := by decide +kernel
theorem d_X5_take_39 : decode (gw_mC M_X5_take) 39 = .ok (.getfield 22, 3) := by decide +kernel
theorem d_X5_take_42 : decode (gw_mC M_X5_take) 42 = .ok (.iconst 0, 1) := by decide +kernel
theorem d_X5_take_43 : decode (gw_mC M_X5_take) 43 = .ok (.aload_n 0, 1) := by decide +kernel
theorem d_X5_take_44 : decode (gw_mC M_X5_take) 44 = .ok (.getfield 22, 3) := by decide +kernel
theorem d_X5_take_47 : decode (gw_mC M_X5_take) 47 = .ok (.iconst 0, 1) := by decide +kernel
theorem d_X5_take_48 : decode (gw_mC M_X5_take) 48 = .ok (.bipush 10, 2) := by decide +kernel
theorem d_X5_take_50 : decode (gw_mC M_X5_take) 50 = .ok (.invokestatic 30, 3) := by decide +kernel
theorem d_X5_take_53 : decode (gw_mC M_X5_take) 53 = .ok (.return_, 1) := by decide +kernel
theorem d_X6_init_0 : decode (gw_mC M_X6_init) 0 = .ok (.aload_n 0, 1) := by decide +kernel
theorem d_X6_init_1 : decode (gw_mC M_X6_init) 1 = .ok (.invokespecial 3, 3) := by decide +kernel
theorem d_X6_init_4 : decode (gw_mC M_X6_init) 4 = .ok (.aload_n 0, 1) := by decide +kernel
theorem d_X6_init_5 : decode (gw_mC M_X6_init) 5 = .ok (.bipush 40, 2) := by decide +kernel
theorem d_X6_init_7 : decode (gw_mC M_X6_init) 7 = .ok (.putfield 9, 3) := by decide +kernel
theorem d_X6_init_10 : decode (gw_mC M_X6_init) 10 = .ok (.aload_n 0, 1) := by decide +kernel
theorem d_X6_init_11 : decode (gw_mC M_X6_init) 11 = .ok (.new 15, 3) := by decide +kernel
theorem d_X6_init_14 : decode (gw_mC M_X6_init) 14 = .ok (.dup, 1) := by decide +kernel
theorem d_X6_init_15 : decode (gw_mC M_X6_init) 15 = .ok (.invokespecial 17, 3) := by decide +kernel
theorem d_X6_init_18 : decode (gw_mC M_X6_init) 18 = .ok (.putfield 18, 3) := by decide +kernel
theorem d_X6_init_21 : decode (gw_mC M_X6_init) 21 = .ok (.aload_n 0, 1) := by decide +kernel
theorem d_X6_init_22 : decode (gw_mC M_X6_init) 22 = .ok (.new 22, 3) := by decide +kernel
theorem d_X6_init_25 : decode (gw_mC M_X6_init) 25 = .ok (.dup, 1) := by decide +kernel
theorem d_X6_init_26 : decode (gw_mC M_X6_init) 26 = .ok (.invokespecial 24, 3) := by decide +kernel
theorem d_X6_init_29 : decode (gw_mC M_X6_init) 29 = .ok (.putfield 25, 3) := by decide +kernel
theorem d_X6_init_32 : decode (gw_mC M_X6_init) 32 = .ok (.aload_n 0, 1) := by decide +kernel
theorem d_X6_init_33 : decode (gw_mC M_X6_init) 33 = .ok (.getstatic 29, 3) := by decide +kernel
theorem d_X6_init_36 : decode (gw_mC M_X6_init) 36 = .ok (.invokevirtual 33, 3) := by decide +kernel
theorem d_X6_init_39 : decode (gw_mC M_X6_init) 39 = .ok (.checkcast 34, 3) := by decide +kernel
theorem d_X6_init_42 : decode (gw_mC M_X6_init) 42 = .ok (.putfield 38, 3) := by decide +kernel
theorem d_X6_init_45 : decode (gw_mC M_X6_init) 45 = .ok (.aload_n 0, 1) := by decide +kernel
theorem d_X6_init_46 : decode (gw_mC M_X6_init) 46 = .ok (.new 41, 3) := by decide +kernel
theorem d_X6_init_49 : decode (gw_mC M_X6_init) 49 = .ok (.dup, 1) := by decide +kernel
theorem d_X6_init_50 : decode (gw_mC M_X6_init) 50 = .ok (.invokespecial 43, 3) := by decide +kernel
theorem d_X6_init_53 : decode (gw_mC M_X6_init) 53 = .ok (.putfield 44, 3) := by decide +kernel
theorem d_X6_init_56 : decode (gw_mC M_X6_init) 56 = .ok (.return_, 1) := by decide +kernel
theorem d_X6_take_0 : decode (gw_mC M_X6_take) 0 = .ok (.aload_n 0, 1) := by decide +kernel
theorem d_X6_take_1 : decode (gw_mC M_X6_take) 1 = .ok (.aload_n 1, 1) := by decide +kernel
theorem d_X6_take_2 : decode (gw_mC M_X6_take) 2 = .ok (.getfield 9, 3) := by decide +kernel
theorem d_X6_take_5 : decode (gw_mC M_X6_take) 5 = .ok (.putfield 9, 3) := by decide +kernel
theorem d_X6_take_8 : decode (gw_mC M_X6_take) 8 = .ok (.aload_n 0, 1) := by decide +kernel
theorem d_X6_take_9 : decode (gw_mC M_X6_take) 9 = .ok (.getfield 18, 3) := by decide +kernel
theorem d_X6_take_12 : decode (gw_mC M_X6_take) 12 = .ok (.aload_n 1, 1) := by decide +kernel
theorem d_X6_take_13 : decode (gw_mC M_X6_take) 13 = .ok (.getfield 18, 3) := by decide +kernel
theorem d_X6_take_16 : decode (gw_mC M_X6_take) 16 = .ok (.invokevirtual 48, 3) := by decide +kernel
theorem d_X6_take_19 : decode (gw_mC M_X6_take) 19 = .ok (.aload_n 0, 1) := by decide +kernel
theorem d_X6_take_20 : decode (gw_mC M_X6_take) 20 = .ok (.getfield 25, 3) := by decide +kernel
theorem d_X6_take_23 : decode (gw_mC M_X6_take) 23 = .ok (.aload_n 1, 1) := by decide +kernel
theorem d_X6_take_24 : decode (gw_mC M_X6_take) 24 = .ok (.getfield 25, 3) := by decide +kernel
theorem d_X6_take_27 : decode (gw_mC M_X6_take) 27 = .ok (.invokevirtual 52, 3) := by decide +kernel
theorem d_X6_take_30 : decode (gw_mC M_X6_take) 30 = .ok (.aload_n 1, 1) := by decide +kernel
theorem d_X6_take_31 : decode (gw_mC M_X6_take) 31 = .ok (.getfield 38, 3) := by decide +kernel
theorem d_X6_take_34 : decode (gw_mC M_X6_take) 34 = .ok (.iconst 0, 1) := by decide +kernel
theorem d_X6_take_35 : decode (gw_mC M_X6_take) 35 = .ok (.aload_n 0, 1) := by decide +kernel
theorem d_X6_take_36 : decode (gw_mC M_X6_take) 36 = .ok (.getfield 38, 3) := by decide +kernel
theorem d_X6_take_39 : decode (gw_mC M_X6_take) 39 = .ok (.iconst 0, 1) := by decide +kernel
theorem d_X6_take_40 : decode (gw_mC M_X6_take) 40 = .ok (.aload_n 0, 1) := by decide +kernel
theorem d_X6_take_41 : decode (gw_mC M_X6_take) 41 = .ok (.getfield 38, 3) := by decide +kernel
theorem d_X6_take_44 : decode (gw_mC M_X6_take) 44 = .ok (.arraylength, 1) := by decide +kernel
theorem d_X6_take_45 : decode (gw_mC M_X6_take) 45 = .ok (.invokestatic 55, 3) := by decide +kernel
theorem d_X6_take_48 : decode (gw_mC M_X6_take) 48 = .ok (.aload_n 1, 1) := by decide +kernel
theorem d_X6_take_49 : decode (gw_mC M_X6_take) 49 = .ok (.getfield 44, 3) := by decide +kernel
theorem d_X6_take_52 : decode (gw_mC M_X6_take) 52 = .ok (.getfield 61, 3) := by decide +kernel
theorem d_X6_take_55 : decode (gw_mC M_X6_take) 55 = .ok (.iconst 0, 1) := by decide +kernel
theorem d_X6_take_56 : decode (gw_mC M_X6_take) 56 = .ok (.aload_n 0, 1) := by decide +kernel
theorem d_X6_take_57 : decode (gw_mC M_X6_take) 57 = .ok (.getfield 44, 3) := by decide +kernel
theorem d_X6_take_60 : decode (gw_mC M_X6_take) 60 = .ok (.getfield 61, 3) := by decide +kernel
theorem d_X6_take_63 : decode (gw_mC M_X6_take) 63 = .ok (.iconst 0, 1) := by decide +kernel
theorem d_X6_take_64 : decode (gw_mC M_X6_take) 64 = .ok (.sipush 144, 3) := by decide +kernel
theorem d_X6_take_67 : decode (gw_mC M_X6_take) 67 = .ok (.invokestatic 55, 3) := by decide +kernel
theorem d_X6_take_70 : decode (gw_mC M_X6_take) 70 = .ok (.return_, 1) := by decide +kernel
theorem d_X6_isMet_0 : decode (gw_mC M_X6_isMet) 0 = .ok (.aload_n 0, 1) := by decide +kernel
theorem d_X6_isMet_1 : decode (gw_mC M_X6_isMet) 1 = .ok (.getfield 18, 3) := by decide +kernel
theorem d_X6_isMet_4 : decode (gw_mC M_X6_isMet) 4 = .ok (.getfield 64, 3) := by decide +kernel
theorem d_X6_isMet_7 : decode (gw_mC M_X6_isMet) 7 = .ok (.iconst 0, 1) := by decide +kernel
theorem d_X6_isMet_8 : decode (gw_mC M_X6_isMet) 8 = .ok (.aaload, 1) := by decide +kernel
theorem d_X6_isMet_9 : decode (gw_mC M_X6_isMet) 9 = .ok (.iload_n 1, 1) := by decide +kernel
theorem d_X6_isMet_10 : decode (gw_mC M_X6_isMet) 10 = .ok (.iaload, 1) := by decide +kernel
theorem d_X6_isMet_11 : decode (gw_mC M_X6_isMet) 11 = .ok (.aload_n 0, 1) := by decide +kernel
theorem d_X6_isMet_12 : decode (gw_mC M_X6_isMet) 12 = .ok (.getfield 9, 3) := by decide +kernel
theorem d_X6_isMet_15 : decode (gw_mC M_X6_isMet) 15 = .ok (.if_icmp .ge 7, 3) := by decide +kernel
theorem d_X6_isMet_18 : decode (gw_mC M_X6_isMet) 18 = .ok (.iconst 1, 1) := by decide +kernel
theorem d_X6_isMet_19 : decode (gw_mC M_X6_isMet) 19 = .ok (.goto 4, 3) := by decide +kernel
theorem d_X6_isMet_22 : decode (gw_mC M_X6_isMet) 22 = .ok (.iconst 0, 1) := by decide +kernel
theorem d_X6_isMet_23 : decode (gw_mC M_X6_isMet) 23 = .ok (.ireturn, 1) := by decide +kernel
theorem d_X6_stopsMet_0 : decode (gw_mC M_X6_stopsMet) 0 = .ok (.iconst 0, 1) := by decide +kernel
theorem d_X6_stopsMet_1 : decode (gw_mC M_X6_stopsMet) 1 = .ok (.istore_n 1, 1) := by decide +kernel
theorem d_X6_stopsMet_2 : decode (gw_mC M_X6_stopsMet) 2 = .ok (.iconst 0, 1) := by decide +kernel
theorem d_X6_stopsMet_3 : decode (gw_mC M_X6_stopsMet) 3 = .ok (.istore_n 2, 1) := by decide +kernel
theorem d_X6_stopsMet_4 : decode (gw_mC M_X6_stopsMet) 4 = .ok (.iload_n 2, 1) := by decide +kernel
theorem d_X6_stopsMet_5 : decode (gw_mC M_X6_stopsMet) 5 = .ok (.aload_n 0, 1) := by decide +kernel
theorem d_X6_stopsMet_6 : decode (gw_mC M_X6_stopsMet) 6 = .ok (.getfield 18, 3) := by decide +kernel
theorem d_X6_stopsMet_9 : decode (gw_mC M_X6_stopsMet) 9 = .ok (.getfield 68, 3) := by decide +kernel
theorem d_X6_stopsMet_12 : decode (gw_mC M_X6_stopsMet) 12 = .ok (.iconst 0, 1) := by decide +kernel
theorem d_X6_stopsMet_13 : decode (gw_mC M_X6_stopsMet) 13 = .ok (.iaload, 1) := by decide +kernel
theorem d_X6_stopsMet_14 : decode (gw_mC M_X6_stopsMet) 14 = .ok (.if_icmp .ge 25, 3) := by decide +kernel
theorem d_X6_stopsMet_17 : decode (gw_mC M_X6_stopsMet) 17 = .ok (.iload_n 1, 1) := by decide +kernel
theorem d_X6_stopsMet_18 : decode (gw_mC M_X6_stopsMet) 18 = .ok (.aload_n 0, 1) := by decide +kernel
theorem d_X6_stopsMet_19 : decode (gw_mC M_X6_stopsMet) 19 = .ok (.iload_n 2, 1) := by decide +kernel
theorem d_X6_stopsMet_20 : decode (gw_mC M_X6_stopsMet) 20 = .ok (.invokevirtual 71, 3) := by decide +kernel
theorem d_X6_stopsMet_23 : decode (gw_mC M_X6_stopsMet) 23 = .ok (.ifCond .eq 7, 3) := by decide +kernel
theorem d_X6_stopsMet_26 : decode (gw_mC M_X6_stopsMet) 26 = .ok (.iconst 1, 1) := by decide +kernel
theorem d_X6_stopsMet_27 : decode (gw_mC M_X6_stopsMet) 27 = .ok (.goto 4, 3) := by decide +kernel
theorem d_X6_stopsMet_30 : decode (gw_mC M_X6_stopsMet) 30 = .ok (.iconst 0, 1) := by decide +kernel
theorem d_X6_stopsMet_31 : decode (gw_mC M_X6_stopsMet) 31 = .ok (.iadd, 1) := by decide +kernel
theorem d_X6_stopsMet_32 : decode (gw_mC M_X6_stopsMet) 32 = .ok (.istore_n 1, 1) := by decide +kernel
theorem d_X6_stopsMet_33 : decode (gw_mC M_X6_stopsMet) 33 = .ok (.iinc 2 1, 3) := by decide +kernel
theorem d_X6_stopsMet_36 : decode (gw_mC M_X6_stopsMet) 36 = .ok (.goto (-32), 3) := by decide +kernel
theorem d_X6_stopsMet_39 : decode (gw_mC M_X6_stopsMet) 39 = .ok (.iload_n 1, 1) := by decide +kernel
theorem d_X6_stopsMet_40 : decode (gw_mC M_X6_stopsMet) 40 = .ok (.ireturn, 1) := by decide +kernel
theorem d_X6_minutesSpoken_0 : decode (gw_mC M_X6_minutesSpoken) 0 = .ok (.iconst 0, 1) := by decide +kernel
theorem d_X6_minutesSpoken_1 : decode (gw_mC M_X6_minutesSpoken) 1 = .ok (.istore_n 1, 1) := by decide +kernel
theorem d_X6_minutesSpoken_2 : decode (gw_mC M_X6_minutesSpoken) 2 = .ok (.iconst 0, 1) := by decide +kernel
theorem d_X6_minutesSpoken_3 : decode (gw_mC M_X6_minutesSpoken) 3 = .ok (.istore_n 2, 1) := by decide +kernel
theorem d_X6_minutesSpoken_4 : decode (gw_mC M_X6_minutesSpoken) 4 = .ok (.iload_n 2, 1) := by decide +kernel
theorem d_X6_minutesSpoken_5 : decode (gw_mC M_X6_minutesSpoken) 5 = .ok (.aload_n 0, 1) := by decide +kernel
theorem d_X6_minutesSpoken_6 : decode (gw_mC M_X6_minutesSpoken) 6 = .ok (.getfield 18, 3) := by decide +kernel
theorem d_X6_minutesSpoken_9 : decode (gw_mC M_X6_minutesSpoken) 9 = .ok (.getfield 68, 3) := by decide +kernel
theorem d_X6_minutesSpoken_12 : decode (gw_mC M_X6_minutesSpoken) 12 = .ok (.iconst 0, 1) := by decide +kernel
theorem d_X6_minutesSpoken_13 : decode (gw_mC M_X6_minutesSpoken) 13 = .ok (.iaload, 1) := by decide +kernel
theorem d_X6_minutesSpoken_14 : decode (gw_mC M_X6_minutesSpoken) 14 = .ok (.if_icmp .ge 35, 3) := by decide +kernel
theorem d_X6_minutesSpoken_17 : decode (gw_mC M_X6_minutesSpoken) 17 = .ok (.iload_n 1, 1) := by decide +kernel
theorem d_X6_minutesSpoken_18 : decode (gw_mC M_X6_minutesSpoken) 18 = .ok (.aload_n 0, 1) := by decide +kernel
theorem d_X6_minutesSpoken_19 : decode (gw_mC M_X6_minutesSpoken) 19 = .ok (.iload_n 2, 1) := by decide +kernel
theorem d_X6_minutesSpoken_20 : decode (gw_mC M_X6_minutesSpoken) 20 = .ok (.invokevirtual 71, 3) := by decide +kernel
theorem d_X6_minutesSpoken_23 : decode (gw_mC M_X6_minutesSpoken) 23 = .ok (.ifCond .eq 17, 3) := by decide +kernel
theorem d_X6_minutesSpoken_26 : decode (gw_mC M_X6_minutesSpoken) 26 = .ok (.aload_n 0, 1) := by decide +kernel
theorem d_X6_minutesSpoken_27 : decode (gw_mC M_X6_minutesSpoken) 27 = .ok (.getfield 18, 3) := by decide +kernel
theorem d_X6_minutesSpoken_30 : decode (gw_mC M_X6_minutesSpoken) 30 = .ok (.getfield 75, 3) := by decide +kernel
theorem d_X6_minutesSpoken_33 : decode (gw_mC M_X6_minutesSpoken) 33 = .ok (.iconst 0, 1) := by decide +kernel
theorem d_X6_minutesSpoken_34 : decode (gw_mC M_X6_minutesSpoken) 34 = .ok (.aaload, 1) := by decide +kernel
theorem d_X6_minutesSpoken_35 : decode (gw_mC M_X6_minutesSpoken) 35 = .ok (.iload_n 2, 1) := by decide +kernel
theorem d_X6_minutesSpoken_36 : decode (gw_mC M_X6_minutesSpoken) 36 = .ok (.iaload, 1) := by decide +kernel
theorem d_X6_minutesSpoken_37 : decode (gw_mC M_X6_minutesSpoken) 37 = .ok (.goto 4, 3) := by decide +kernel
theorem d_X6_minutesSpoken_40 : decode (gw_mC M_X6_minutesSpoken) 40 = .ok (.iconst 0, 1) := by decide +kernel
theorem d_X6_minutesSpoken_41 : decode (gw_mC M_X6_minutesSpoken) 41 = .ok (.iadd, 1) := by decide +kernel
theorem d_X6_minutesSpoken_42 : decode (gw_mC M_X6_minutesSpoken) 42 = .ok (.istore_n 1, 1) := by decide +kernel
theorem d_X6_minutesSpoken_43 : decode (gw_mC M_X6_minutesSpoken) 43 = .ok (.iinc 2 1, 3) := by decide +kernel
theorem d_X6_minutesSpoken_46 : decode (gw_mC M_X6_minutesSpoken) 46 = .ok (.goto (-42), 3) := by decide +kernel
theorem d_X6_minutesSpoken_49 : decode (gw_mC M_X6_minutesSpoken) 49 = .ok (.iload_n 1, 1) := by decide +kernel
theorem d_X6_minutesSpoken_50 : decode (gw_mC M_X6_minutesSpoken) 50 = .ok (.ireturn, 1) := by decide +kernel
theorem d_X6_valueIfFits_0 : decode (gw_mC M_X6_valueIfFits) 0 = .ok (.iload_n 2, 1) := by decide +kernel
theorem d_X6_valueIfFits_1 : decode (gw_mC M_X6_valueIfFits) 1 = .ok (.istore_n 3, 1) := by decide +kernel
theorem d_X6_valueIfFits_2 : decode (gw_mC M_X6_valueIfFits) 2 = .ok (.iconst 0, 1) := by decide +kernel
theorem d_X6_valueIfFits_3 : decode (gw_mC M_X6_valueIfFits) 3 = .ok (.istore 4, 2) := by decide +kernel
theorem d_X6_valueIfFits_5 : decode (gw_mC M_X6_valueIfFits) 5 = .ok (.iconst 0, 1) := by decide +kernel
theorem d_X6_valueIfFits_6 : decode (gw_mC M_X6_valueIfFits) 6 = .ok (.istore 5, 2) := by decide +kernel
theorem d_X6_valueIfFits_8 : decode (gw_mC M_X6_valueIfFits) 8 = .ok (.iload 5, 2) := by decide +kernel
theorem d_X6_valueIfFits_10 : decode (gw_mC M_X6_valueIfFits) 10 = .ok (.aload_n 0, 1) := by decide +kernel
theorem d_X6_valueIfFits_11 : decode (gw_mC M_X6_valueIfFits) 11 = .ok (.getfield 18, 3) := by decide +kernel
theorem d_X6_valueIfFits_14 : decode (gw_mC M_X6_valueIfFits) 14 = .ok (.getfield 68, 3) := by decide +kernel
theorem d_X6_valueIfFits_17 : decode (gw_mC M_X6_valueIfFits) 17 = .ok (.iconst 0, 1) := by decide +kernel
theorem d_X6_valueIfFits_18 : decode (gw_mC M_X6_valueIfFits) 18 = .ok (.iaload, 1) := by decide +kernel
theorem d_X6_valueIfFits_19 : decode (gw_mC M_X6_valueIfFits) 19 = .ok (.if_icmp .ge 60, 3) := by decide +kernel
theorem d_X6_valueIfFits_22 : decode (gw_mC M_X6_valueIfFits) 22 = .ok (.iload_n 1, 1) := by decide +kernel
theorem d_X6_valueIfFits_23 : decode (gw_mC M_X6_valueIfFits) 23 = .ok (.iload 5, 2) := by decide +kernel
theorem d_X6_valueIfFits_25 : decode (gw_mC M_X6_valueIfFits) 25 = .ok (.ishr, 1) := by decide +kernel
theorem d_X6_valueIfFits_26 : decode (gw_mC M_X6_valueIfFits) 26 = .ok (.iconst 1, 1) := by decide +kernel
theorem d_X6_valueIfFits_27 : decode (gw_mC M_X6_valueIfFits) 27 = .ok (.iand, 1) := by decide +kernel
theorem d_X6_valueIfFits_28 : decode (gw_mC M_X6_valueIfFits) 28 = .ok (.iconst 1, 1) := by decide +kernel
theorem d_X6_valueIfFits_29 : decode (gw_mC M_X6_valueIfFits) 29 = .ok (.if_icmp .ne 44, 3) := by decide +kernel
theorem d_X6_valueIfFits_32 : decode (gw_mC M_X6_valueIfFits) 32 = .ok (.aload_n 0, 1) := by decide +kernel
theorem d_X6_valueIfFits_33 : decode (gw_mC M_X6_valueIfFits) 33 = .ok (.iload 5, 2) := by decide +kernel
theorem d_X6_valueIfFits_35 : decode (gw_mC M_X6_valueIfFits) 35 = .ok (.invokevirtual 71, 3) := by decide +kernel
theorem d_X6_valueIfFits_38 : decode (gw_mC M_X6_valueIfFits) 38 = .ok (.ifCond .ne 5, 3) := by decide +kernel
theorem d_X6_valueIfFits_41 : decode (gw_mC M_X6_valueIfFits) 41 = .ok (.iconst (-1), 1) := by decide +kernel
theorem d_X6_valueIfFits_42 : decode (gw_mC M_X6_valueIfFits) 42 = .ok (.ireturn, 1) := by decide +kernel
theorem d_X6_valueIfFits_43 : decode (gw_mC M_X6_valueIfFits) 43 = .ok (.iload_n 3, 1) := by decide +kernel
theorem d_X6_valueIfFits_44 : decode (gw_mC M_X6_valueIfFits) 44 = .ok (.aload_n 0, 1) := by decide +kernel
theorem d_X6_valueIfFits_45 : decode (gw_mC M_X6_valueIfFits) 45 = .ok (.getfield 18, 3) := by decide +kernel
theorem d_X6_valueIfFits_48 : decode (gw_mC M_X6_valueIfFits) 48 = .ok (.getfield 75, 3) := by decide +kernel
theorem d_X6_valueIfFits_51 : decode (gw_mC M_X6_valueIfFits) 51 = .ok (.iconst 0, 1) := by decide +kernel
theorem d_X6_valueIfFits_52 : decode (gw_mC M_X6_valueIfFits) 52 = .ok (.aaload, 1) := by decide +kernel
theorem d_X6_valueIfFits_53 : decode (gw_mC M_X6_valueIfFits) 53 = .ok (.iload 5, 2) := by decide +kernel
theorem d_X6_valueIfFits_55 : decode (gw_mC M_X6_valueIfFits) 55 = .ok (.iaload, 1) := by decide +kernel
theorem d_X6_valueIfFits_56 : decode (gw_mC M_X6_valueIfFits) 56 = .ok (.isub, 1) := by decide +kernel
theorem d_X6_valueIfFits_57 : decode (gw_mC M_X6_valueIfFits) 57 = .ok (.istore_n 3, 1) := by decide +kernel
theorem d_X6_valueIfFits_58 : decode (gw_mC M_X6_valueIfFits) 58 = .ok (.iload 4, 2) := by decide +kernel
theorem d_X6_valueIfFits_60 : decode (gw_mC M_X6_valueIfFits) 60 = .ok (.aload_n 0, 1) := by decide +kernel
theorem d_X6_valueIfFits_61 : decode (gw_mC M_X6_valueIfFits) 61 = .ok (.getfield 18, 3) := by decide +kernel
theorem d_X6_valueIfFits_64 : decode (gw_mC M_X6_valueIfFits) 64 = .ok (.getfield 78, 3) := by decide +kernel
theorem d_X6_valueIfFits_67 : decode (gw_mC M_X6_valueIfFits) 67 = .ok (.iload 5, 2) := by decide +kernel
theorem d_X6_valueIfFits_69 : decode (gw_mC M_X6_valueIfFits) 69 = .ok (.iaload, 1) := by decide +kernel
theorem d_X6_valueIfFits_70 : decode (gw_mC M_X6_valueIfFits) 70 = .ok (.iadd, 1) := by decide +kernel
theorem d_X6_valueIfFits_71 : decode (gw_mC M_X6_valueIfFits) 71 = .ok (.istore 4, 2) := by decide +kernel
theorem d_X6_valueIfFits_73 : decode (gw_mC M_X6_valueIfFits) 73 = .ok (.iinc 5 1, 3) := by decide +kernel
theorem d_X6_valueIfFits_76 : decode (gw_mC M_X6_valueIfFits) 76 = .ok (.goto (-68), 3) := by decide +kernel
theorem d_X6_valueIfFits_79 : decode (gw_mC M_X6_valueIfFits) 79 = .ok (.iload_n 3, 1) := by decide +kernel
theorem d_X6_valueIfFits_80 : decode (gw_mC M_X6_valueIfFits) 80 = .ok (.ifCond .ge 7, 3) := by decide +kernel
theorem d_X6_valueIfFits_83 : decode (gw_mC M_X6_valueIfFits) 83 = .ok (.iconst (-1), 1) := by decide +kernel
theorem d_X6_valueIfFits_84 : decode (gw_mC M_X6_valueIfFits) 84 = .ok (.goto 5, 3) := by decide +kernel
theorem d_X6_valueIfFits_87 : decode (gw_mC M_X6_valueIfFits) 87 = .ok (.iload 4, 2) := by decide +kernel
theorem d_X6_valueIfFits_89 : decode (gw_mC M_X6_valueIfFits) 89 = .ok (.ireturn, 1) := by decide +kernel
theorem d_X7_init_0 : decode (gw_mC M_X7_init) 0 = .ok (.aload_n 0, 1) := by decide +kernel
theorem d_X7_init_1 : decode (gw_mC M_X7_init) 1 = .ok (.invokespecial 3, 3) := by decide +kernel
theorem d_X7_init_4 : decode (gw_mC M_X7_init) 4 = .ok (.aload_n 0, 1) := by decide +kernel
theorem d_X7_init_5 : decode (gw_mC M_X7_init) 5 = .ok (.iconst (-1), 1) := by decide +kernel
theorem d_X7_init_6 : decode (gw_mC M_X7_init) 6 = .ok (.putfield 9, 3) := by decide +kernel
theorem d_X7_init_9 : decode (gw_mC M_X7_init) 9 = .ok (.aload_n 0, 1) := by decide +kernel
theorem d_X7_init_10 : decode (gw_mC M_X7_init) 10 = .ok (.iconst 0, 1) := by decide +kernel
theorem d_X7_init_11 : decode (gw_mC M_X7_init) 11 = .ok (.putfield 15, 3) := by decide +kernel
theorem d_X7_init_14 : decode (gw_mC M_X7_init) 14 = .ok (.aload_n 0, 1) := by decide +kernel
theorem d_X7_init_15 : decode (gw_mC M_X7_init) 15 = .ok (.bipush 24, 2) := by decide +kernel
theorem d_X7_init_17 : decode (gw_mC M_X7_init) 17 = .ok (.newarray .int, 2) := by decide +kernel
theorem d_X7_init_19 : decode (gw_mC M_X7_init) 19 = .ok (.putfield 18, 3) := by decide +kernel
theorem d_X7_init_22 : decode (gw_mC M_X7_init) 22 = .ok (.return_, 1) := by decide +kernel
theorem d_X7_renew_0 : decode (gw_mC M_X7_renew) 0 = .ok (.aload_n 0, 1) := by decide +kernel
theorem d_X7_renew_1 : decode (gw_mC M_X7_renew) 1 = .ok (.iload_n 1, 1) := by decide +kernel
theorem d_X7_renew_2 : decode (gw_mC M_X7_renew) 2 = .ok (.putfield 9, 3) := by decide +kernel
theorem d_X7_renew_5 : decode (gw_mC M_X7_renew) 5 = .ok (.aload_n 0, 1) := by decide +kernel
theorem d_X7_renew_6 : decode (gw_mC M_X7_renew) 6 = .ok (.iload_n 2, 1) := by decide +kernel
theorem d_X7_renew_7 : decode (gw_mC M_X7_renew) 7 = .ok (.putfield 15, 3) := by decide +kernel
theorem d_X7_renew_10 : decode (gw_mC M_X7_renew) 10 = .ok (.iconst 0, 1) := by decide +kernel
theorem d_X7_renew_11 : decode (gw_mC M_X7_renew) 11 = .ok (.istore_n 3, 1) := by decide +kernel
theorem d_X7_renew_12 : decode (gw_mC M_X7_renew) 12 = .ok (.iload_n 3, 1) := by decide +kernel
theorem d_X7_renew_13 : decode (gw_mC M_X7_renew) 13 = .ok (.bipush 24, 2) := by decide +kernel
theorem d_X7_renew_15 : decode (gw_mC M_X7_renew) 15 = .ok (.if_icmp .ge 16, 3) := by decide +kernel
theorem d_X7_renew_18 : decode (gw_mC M_X7_renew) 18 = .ok (.aload_n 0, 1) := by decide +kernel
theorem d_X7_renew_19 : decode (gw_mC M_X7_renew) 19 = .ok (.getfield 18, 3) := by decide +kernel
theorem d_X7_renew_22 : decode (gw_mC M_X7_renew) 22 = .ok (.iload_n 3, 1) := by decide +kernel
theorem d_X7_renew_23 : decode (gw_mC M_X7_renew) 23 = .ok (.iconst 0, 1) := by decide +kernel
theorem d_X7_renew_24 : decode (gw_mC M_X7_renew) 24 = .ok (.iastore, 1) := by decide +kernel
theorem d_X7_renew_25 : decode (gw_mC M_X7_renew) 25 = .ok (.iinc 3 1, 3) := by decide +kernel
theorem d_X7_renew_28 : decode (gw_mC M_X7_renew) 28 = .ok (.goto (-16), 3) := by decide +kernel
theorem d_X7_renew_31 : decode (gw_mC M_X7_renew) 31 = .ok (.return_, 1) := by decide +kernel
theorem d_X7_refusal_0 : decode (gw_mC M_X7_refusal) 0 = .ok (.aload_n 0, 1) := by decide +kernel
theorem d_X7_refusal_1 : decode (gw_mC M_X7_refusal) 1 = .ok (.getfield 9, 3) := by decide +kernel
theorem d_X7_refusal_4 : decode (gw_mC M_X7_refusal) 4 = .ok (.ifCond .ge 6, 3) := by decide +kernel
theorem d_X7_refusal_7 : decode (gw_mC M_X7_refusal) 7 = .ok (.bipush (-11), 2) := by decide +kernel
theorem d_X7_refusal_9 : decode (gw_mC M_X7_refusal) 9 = .ok (.ireturn, 1) := by decide +kernel
theorem d_X7_refusal_10 : decode (gw_mC M_X7_refusal) 10 = .ok (.aload_n 0, 1) := by decide +kernel
theorem d_X7_refusal_11 : decode (gw_mC M_X7_refusal) 11 = .ok (.getfield 9, 3) := by decide +kernel
theorem d_X7_refusal_14 : decode (gw_mC M_X7_refusal) 14 = .ok (.iload_n 1, 1) := by decide +kernel
theorem d_X7_refusal_15 : decode (gw_mC M_X7_refusal) 15 = .ok (.if_icmp .eq 6, 3) := by decide +kernel
theorem d_X7_refusal_18 : decode (gw_mC M_X7_refusal) 18 = .ok (.bipush (-12), 2) := by decide +kernel
theorem d_X7_refusal_20 : decode (gw_mC M_X7_refusal) 20 = .ok (.ireturn, 1) := by decide +kernel
theorem d_X7_refusal_21 : decode (gw_mC M_X7_refusal) 21 = .ok (.aload_n 0, 1) := by decide +kernel
theorem d_X7_refusal_22 : decode (gw_mC M_X7_refusal) 22 = .ok (.iload_n 2, 1) := by decide +kernel
theorem d_X7_refusal_23 : decode (gw_mC M_X7_refusal) 23 = .ok (.iload_n 3, 1) := by decide +kernel
theorem d_X7_refusal_24 : decode (gw_mC M_X7_refusal) 24 = .ok (.invokevirtual 22, 3) := by decide +kernel
theorem d_X7_refusal_27 : decode (gw_mC M_X7_refusal) 27 = .ok (.ifCond .eq 7, 3) := by decide +kernel
theorem d_X7_refusal_30 : decode (gw_mC M_X7_refusal) 30 = .ok (.iconst 0, 1) := by decide +kernel
theorem d_X7_refusal_31 : decode (gw_mC M_X7_refusal) 31 = .ok (.goto 5, 3) := by decide +kernel
theorem d_X7_refusal_34 : decode (gw_mC M_X7_refusal) 34 = .ok (.bipush (-13), 2) := by decide +kernel
theorem d_X7_refusal_36 : decode (gw_mC M_X7_refusal) 36 = .ok (.ireturn, 1) := by decide +kernel
theorem d_X7_reaches_0 : decode (gw_mC M_X7_reaches) 0 = .ok (.iload_n 1, 1) := by decide +kernel
theorem d_X7_reaches_1 : decode (gw_mC M_X7_reaches) 1 = .ok (.iconst 0, 1) := by decide +kernel
theorem d_X7_reaches_2 : decode (gw_mC M_X7_reaches) 2 = .ok (.aload_n 0, 1) := by decide +kernel
theorem d_X7_reaches_3 : decode (gw_mC M_X7_reaches) 3 = .ok (.getfield 15, 3) := by decide +kernel
theorem d_X7_reaches_6 : decode (gw_mC M_X7_reaches) 6 = .ok (.invokestatic 26, 3) := by decide +kernel
theorem d_X7_reaches_9 : decode (gw_mC M_X7_reaches) 9 = .ok (.ifCond .eq 21, 3) := by decide +kernel
theorem d_X7_reaches_12 : decode (gw_mC M_X7_reaches) 12 = .ok (.iload_n 2, 1) := by decide +kernel
theorem d_X7_reaches_13 : decode (gw_mC M_X7_reaches) 13 = .ok (.iconst 0, 1) := by decide +kernel
theorem d_X7_reaches_14 : decode (gw_mC M_X7_reaches) 14 = .ok (.aload_n 0, 1) := by decide +kernel
theorem d_X7_reaches_15 : decode (gw_mC M_X7_reaches) 15 = .ok (.getfield 15, 3) := by decide +kernel
theorem d_X7_reaches_18 : decode (gw_mC M_X7_reaches) 18 = .ok (.iload_n 1, 1) := by decide +kernel
theorem d_X7_reaches_19 : decode (gw_mC M_X7_reaches) 19 = .ok (.isub, 1) := by decide +kernel
theorem d_X7_reaches_20 : decode (gw_mC M_X7_reaches) 20 = .ok (.invokestatic 26, 3) := by decide +kernel
theorem d_X7_reaches_23 : decode (gw_mC M_X7_reaches) 23 = .ok (.ifCond .eq 7, 3) := by decide +kernel
theorem d_X7_reaches_26 : decode (gw_mC M_X7_reaches) 26 = .ok (.iconst 1, 1) := by decide +kernel
theorem d_X7_reaches_27 : decode (gw_mC M_X7_reaches) 27 = .ok (.goto 4, 3) := by decide +kernel
theorem d_X7_reaches_30 : decode (gw_mC M_X7_reaches) 30 = .ok (.iconst 0, 1) := by decide +kernel
theorem d_X7_reaches_31 : decode (gw_mC M_X7_reaches) 31 = .ok (.ireturn, 1) := by decide +kernel
theorem d_X7_put_0 : decode (gw_mC M_X7_put) 0 = .ok (.aload_n 0, 1) := by decide +kernel
theorem d_X7_put_1 : decode (gw_mC M_X7_put) 1 = .ok (.getfield 9, 3) := by decide +kernel
theorem d_X7_put_4 : decode (gw_mC M_X7_put) 4 = .ok (.lookupswitch 50 #[(0, 28), (1, 39)], 28) := by decide +kernel
theorem d_X7_put_32 : decode (gw_mC M_X7_put) 32 = .ok (.aload_n 0, 1) := by decide +kernel
theorem d_X7_put_33 : decode (gw_mC M_X7_put) 33 = .ok (.getfield 18, 3) := by decide +kernel
theorem d_X7_put_36 : decode (gw_mC M_X7_put) 36 = .ok (.iload_n 1, 1) := by decide +kernel
theorem d_X7_put_37 : decode (gw_mC M_X7_put) 37 = .ok (.iload_n 2, 1) := by decide +kernel
theorem d_X7_put_38 : decode (gw_mC M_X7_put) 38 = .ok (.i2b, 1) := by decide +kernel
theorem d_X7_put_39 : decode (gw_mC M_X7_put) 39 = .ok (.iastore, 1) := by decide +kernel
theorem d_X7_put_40 : decode (gw_mC M_X7_put) 40 = .ok (.goto 21, 3) := by decide +kernel
theorem d_X7_put_43 : decode (gw_mC M_X7_put) 43 = .ok (.aload_n 0, 1) := by decide +kernel
theorem d_X7_put_44 : decode (gw_mC M_X7_put) 44 = .ok (.getfield 18, 3) := by decide +kernel
theorem d_X7_put_47 : decode (gw_mC M_X7_put) 47 = .ok (.iload_n 1, 1) := by decide +kernel
theorem d_X7_put_48 : decode (gw_mC M_X7_put) 48 = .ok (.iload_n 2, 1) := by decide +kernel
theorem d_X7_put_49 : decode (gw_mC M_X7_put) 49 = .ok (.i2s, 1) := by decide +kernel
theorem d_X7_put_50 : decode (gw_mC M_X7_put) 50 = .ok (.iastore, 1) := by decide +kernel
theorem d_X7_put_51 : decode (gw_mC M_X7_put) 51 = .ok (.goto 10, 3) := by decide +kernel
theorem d_X7_put_54 : decode (gw_mC M_X7_put) 54 = .ok (.aload_n 0, 1) := by decide +kernel
theorem d_X7_put_55 : decode (gw_mC M_X7_put) 55 = .ok (.getfield 18, 3) := by decide +kernel
theorem d_X7_put_58 : decode (gw_mC M_X7_put) 58 = .ok (.iload_n 1, 1) := by decide +kernel
theorem d_X7_put_59 : decode (gw_mC M_X7_put) 59 = .ok (.iload_n 2, 1) := by decide +kernel
theorem d_X7_put_60 : decode (gw_mC M_X7_put) 60 = .ok (.iastore, 1) := by decide +kernel
theorem d_X7_put_61 : decode (gw_mC M_X7_put) 61 = .ok (.return_, 1) := by decide +kernel
theorem d_X8_init_0 : decode (gw_mC M_X8_init) 0 = .ok (.aload_n 0, 1) := by decide +kernel
theorem d_X8_init_1 : decode (gw_mC M_X8_init) 1 = .ok (.invokespecial 3, 3) := by decide +kernel
theorem d_X8_init_4 : decode (gw_mC M_X8_init) 4 = .ok (.aload_n 0, 1) := by decide +kernel
theorem d_X8_init_5 : decode (gw_mC M_X8_init) 5 = .ok (.sipush 144, 3) := by decide +kernel
theorem d_X8_init_8 : decode (gw_mC M_X8_init) 8 = .ok (.newarray .int, 2) := by decide +kernel
theorem d_X8_init_10 : decode (gw_mC M_X8_init) 10 = .ok (.putfield 9, 3) := by decide +kernel
theorem d_X8_init_13 : decode (gw_mC M_X8_init) 13 = .ok (.aload_n 0, 1) := by decide +kernel
theorem d_X8_init_14 : decode (gw_mC M_X8_init) 14 = .ok (.iconst 0, 1) := by decide +kernel
theorem d_X8_init_15 : decode (gw_mC M_X8_init) 15 = .ok (.putfield 15, 3) := by decide +kernel
theorem d_X8_init_18 : decode (gw_mC M_X8_init) 18 = .ok (.aload_n 0, 1) := by decide +kernel
theorem d_X8_init_19 : decode (gw_mC M_X8_init) 19 = .ok (.iconst 0, 1) := by decide +kernel
theorem d_X8_init_20 : decode (gw_mC M_X8_init) 20 = .ok (.putfield 19, 3) := by decide +kernel
theorem d_X8_init_23 : decode (gw_mC M_X8_init) 23 = .ok (.aload_n 0, 1) := by decide +kernel
theorem d_X8_init_24 : decode (gw_mC M_X8_init) 24 = .ok (.iconst 0, 1) := by decide +kernel
theorem d_X8_init_25 : decode (gw_mC M_X8_init) 25 = .ok (.putfield 22, 3) := by decide +kernel
theorem d_X8_init_28 : decode (gw_mC M_X8_init) 28 = .ok (.aload_n 0, 1) := by decide +kernel
theorem d_X8_init_29 : decode (gw_mC M_X8_init) 29 = .ok (.iconst 0, 1) := by decide +kernel
theorem d_X8_init_30 : decode (gw_mC M_X8_init) 30 = .ok (.putfield 25, 3) := by decide +kernel
theorem d_X8_init_33 : decode (gw_mC M_X8_init) 33 = .ok (.aload_n 0, 1) := by decide +kernel
theorem d_X8_init_34 : decode (gw_mC M_X8_init) 34 = .ok (.iconst 0, 1) := by decide +kernel
theorem d_X8_init_35 : decode (gw_mC M_X8_init) 35 = .ok (.putfield 28, 3) := by decide +kernel
theorem d_X8_init_38 : decode (gw_mC M_X8_init) 38 = .ok (.aload_n 0, 1) := by decide +kernel
theorem d_X8_init_39 : decode (gw_mC M_X8_init) 39 = .ok (.iconst 0, 1) := by decide +kernel
theorem d_X8_init_40 : decode (gw_mC M_X8_init) 40 = .ok (.putfield 31, 3) := by decide +kernel
theorem d_X8_init_43 : decode (gw_mC M_X8_init) 43 = .ok (.aload_n 0, 1) := by decide +kernel
theorem d_X8_init_44 : decode (gw_mC M_X8_init) 44 = .ok (.iconst 0, 1) := by decide +kernel
theorem d_X8_init_45 : decode (gw_mC M_X8_init) 45 = .ok (.putfield 34, 3) := by decide +kernel
theorem d_X8_init_48 : decode (gw_mC M_X8_init) 48 = .ok (.return_, 1) := by decide +kernel
theorem d_X8_survey_0 : decode (gw_mC M_X8_survey) 0 = .ok (.aload_n 0, 1) := by decide +kernel
theorem d_X8_survey_1 : decode (gw_mC M_X8_survey) 1 = .ok (.invokevirtual 37, 3) := by decide +kernel
theorem d_X8_survey_4 : decode (gw_mC M_X8_survey) 4 = .ok (.aload_n 0, 1) := by decide +kernel
theorem d_X8_survey_5 : decode (gw_mC M_X8_survey) 5 = .ok (.iconst 0, 1) := by decide +kernel
theorem d_X8_survey_6 : decode (gw_mC M_X8_survey) 6 = .ok (.putfield 15, 3) := by decide +kernel
theorem d_X8_survey_9 : decode (gw_mC M_X8_survey) 9 = .ok (.iconst 0, 1) := by decide +kernel
theorem d_X8_survey_10 : decode (gw_mC M_X8_survey) 10 = .ok (.istore_n 2, 1) := by decide +kernel
theorem d_X8_survey_11 : decode (gw_mC M_X8_survey) 11 = .ok (.iload_n 2, 1) := by decide +kernel
theorem d_X8_survey_12 : decode (gw_mC M_X8_survey) 12 = .ok (.sipush 144, 3) := by decide +kernel
theorem d_X8_survey_15 : decode (gw_mC M_X8_survey) 15 = .ok (.if_icmp .ge 87, 3) := by decide +kernel
theorem d_X8_survey_18 : decode (gw_mC M_X8_survey) 18 = .ok (.aload_n 0, 1) := by decide +kernel
theorem d_X8_survey_19 : decode (gw_mC M_X8_survey) 19 = .ok (.iload_n 2, 1) := by decide +kernel
theorem d_X8_survey_20 : decode (gw_mC M_X8_survey) 20 = .ok (.bipush 12, 2) := by decide +kernel
theorem d_X8_survey_22 : decode (gw_mC M_X8_survey) 22 = .ok (.irem, 1) := by decide +kernel
theorem d_X8_survey_23 : decode (gw_mC M_X8_survey) 23 = .ok (.iload_n 2, 1) := by decide +kernel
theorem d_X8_survey_24 : decode (gw_mC M_X8_survey) 24 = .ok (.bipush 12, 2) := by decide +kernel
theorem d_X8_survey_26 : decode (gw_mC M_X8_survey) 26 = .ok (.idiv, 1) := by decide +kernel
theorem d_X8_survey_27 : decode (gw_mC M_X8_survey) 27 = .ok (.invokevirtual 40, 3) := by decide +kernel
theorem d_X8_survey_30 : decode (gw_mC M_X8_survey) 30 = .ok (.istore_n 3, 1) := by decide +kernel
theorem d_X8_survey_31 : decode (gw_mC M_X8_survey) 31 = .ok (.aload_n 0, 1) := by decide +kernel
theorem d_X8_survey_32 : decode (gw_mC M_X8_survey) 32 = .ok (.getfield 9, 3) := by decide +kernel
theorem d_X8_survey_35 : decode (gw_mC M_X8_survey) 35 = .ok (.iload_n 2, 1) := by decide +kernel
theorem d_X8_survey_36 : decode (gw_mC M_X8_survey) 36 = .ok (.iaload, 1) := by decide +kernel
theorem d_X8_survey_37 : decode (gw_mC M_X8_survey) 37 = .ok (.iconst 1, 1) := by decide +kernel
theorem d_X8_survey_38 : decode (gw_mC M_X8_survey) 38 = .ok (.if_icmp .eq 58, 3) := by decide +kernel
theorem d_X8_survey_41 : decode (gw_mC M_X8_survey) 41 = .ok (.iload_n 3, 1) := by decide +kernel
theorem d_X8_survey_42 : decode (gw_mC M_X8_survey) 42 = .ok (.iload_n 1, 1) := by decide +kernel
theorem d_X8_survey_43 : decode (gw_mC M_X8_survey) 43 = .ok (.if_icmp .gt 53, 3) := by decide +kernel
theorem d_X8_survey_46 : decode (gw_mC M_X8_survey) 46 = .ok (.aload_n 0, 1) := by decide +kernel
theorem d_X8_survey_47 : decode (gw_mC M_X8_survey) 47 = .ok (.iload_n 2, 1) := by decide +kernel
theorem d_X8_survey_48 : decode (gw_mC M_X8_survey) 48 = .ok (.bipush 12, 2) := by decide +kernel
theorem d_X8_survey_50 : decode (gw_mC M_X8_survey) 50 = .ok (.irem, 1) := by decide +kernel
theorem d_X8_survey_51 : decode (gw_mC M_X8_survey) 51 = .ok (.iload_n 2, 1) := by decide +kernel
theorem d_X8_survey_52 : decode (gw_mC M_X8_survey) 52 = .ok (.bipush 12, 2) := by decide +kernel
theorem d_X8_survey_54 : decode (gw_mC M_X8_survey) 54 = .ok (.idiv, 1) := by decide +kernel
theorem d_X8_survey_55 : decode (gw_mC M_X8_survey) 55 = .ok (.invokevirtual 44, 3) := by decide +kernel
theorem d_X8_survey_58 : decode (gw_mC M_X8_survey) 58 = .ok (.ifCond .eq 38, 3) := by decide +kernel
theorem d_X8_survey_61 : decode (gw_mC M_X8_survey) 61 = .ok (.aload_n 0, 1) := by decide +kernel
theorem d_X8_survey_62 : decode (gw_mC M_X8_survey) 62 = .ok (.getfield 15, 3) := by decide +kernel
theorem d_X8_survey_65 : decode (gw_mC M_X8_survey) 65 = .ok (.ifCond .eq 11, 3) := by decide +kernel
theorem d_X8_survey_68 : decode (gw_mC M_X8_survey) 68 = .ok (.iload_n 3, 1) := by decide +kernel
theorem d_X8_survey_69 : decode (gw_mC M_X8_survey) 69 = .ok (.aload_n 0, 1) := by decide +kernel
theorem d_X8_survey_70 : decode (gw_mC M_X8_survey) 70 = .ok (.getfield 22, 3) := by decide +kernel
theorem d_X8_survey_73 : decode (gw_mC M_X8_survey) 73 = .ok (.if_icmp .ge 13, 3) := by decide +kernel
theorem d_X8_survey_76 : decode (gw_mC M_X8_survey) 76 = .ok (.aload_n 0, 1) := by decide +kernel
theorem d_X8_survey_77 : decode (gw_mC M_X8_survey) 77 = .ok (.iload_n 2, 1) := by decide +kernel
theorem d_X8_survey_78 : decode (gw_mC M_X8_survey) 78 = .ok (.putfield 19, 3) := by decide +kernel
theorem d_X8_survey_81 : decode (gw_mC M_X8_survey) 81 = .ok (.aload_n 0, 1) := by decide +kernel
theorem d_X8_survey_82 : decode (gw_mC M_X8_survey) 82 = .ok (.iload_n 3, 1) := by decide +kernel
theorem d_X8_survey_83 : decode (gw_mC M_X8_survey) 83 = .ok (.putfield 22, 3) := by decide +kernel
theorem d_X8_survey_86 : decode (gw_mC M_X8_survey) 86 = .ok (.aload_n 0, 1) := by decide +kernel
theorem d_X8_survey_87 : decode (gw_mC M_X8_survey) 87 = .ok (.dup, 1) := by decide +kernel
theorem d_X8_survey_88 : decode (gw_mC M_X8_survey) 88 = .ok (.getfield 15, 3) := by decide +kernel
theorem d_X8_survey_91 : decode (gw_mC M_X8_survey) 91 = .ok (.iconst 1, 1) := by decide +kernel
theorem d_X8_survey_92 : decode (gw_mC M_X8_survey) 92 = .ok (.iadd, 1) := by decide +kernel
theorem d_X8_survey_93 : decode (gw_mC M_X8_survey) 93 = .ok (.putfield 15, 3) := by decide +kernel
theorem d_X8_survey_96 : decode (gw_mC M_X8_survey) 96 = .ok (.iinc 2 1, 3) := by decide +kernel
theorem d_X8_survey_99 : decode (gw_mC M_X8_survey) 99 = .ok (.goto (-88), 3) := by decide +kernel
theorem d_X8_survey_102 : decode (gw_mC M_X8_survey) 102 = .ok (.return_, 1) := by decide +kernel
theorem d_X8_findBounds_0 : decode (gw_mC M_X8_findBounds) 0 = .ok (.aload_n 0, 1) := by decide +kernel
theorem d_X8_findBounds_1 : decode (gw_mC M_X8_findBounds) 1 = .ok (.bipush 12, 2) := by decide +kernel
theorem d_X8_findBounds_3 : decode (gw_mC M_X8_findBounds) 3 = .ok (.putfield 25, 3) := by decide +kernel
theorem d_X8_findBounds_6 : decode (gw_mC M_X8_findBounds) 6 = .ok (.aload_n 0, 1) := by decide +kernel
theorem d_X8_findBounds_7 : decode (gw_mC M_X8_findBounds) 7 = .ok (.iconst (-1), 1) := by decide +kernel
theorem d_X8_findBounds_8 : decode (gw_mC M_X8_findBounds) 8 = .ok (.putfield 28, 3) := by decide +kernel
theorem d_X8_findBounds_11 : decode (gw_mC M_X8_findBounds) 11 = .ok (.aload_n 0, 1) := by decide +kernel
theorem d_X8_findBounds_12 : decode (gw_mC M_X8_findBounds) 12 = .ok (.bipush 12, 2) := by decide +kernel
theorem d_X8_findBounds_14 : decode (gw_mC M_X8_findBounds) 14 = .ok (.putfield 31, 3) := by decide +kernel
theorem d_X8_findBounds_17 : decode (gw_mC M_X8_findBounds) 17 = .ok (.aload_n 0, 1) := by decide +kernel
theorem d_X8_findBounds_18 : decode (gw_mC M_X8_findBounds) 18 = .ok (.iconst (-1), 1) := by decide +kernel
theorem d_X8_findBounds_19 : decode (gw_mC M_X8_findBounds) 19 = .ok (.putfield 34, 3) := by decide +kernel
theorem d_X8_findBounds_22 : decode (gw_mC M_X8_findBounds) 22 = .ok (.iconst 0, 1) := by decide +kernel
theorem d_X8_findBounds_23 : decode (gw_mC M_X8_findBounds) 23 = .ok (.istore_n 1, 1) := by decide +kernel
theorem d_X8_findBounds_24 : decode (gw_mC M_X8_findBounds) 24 = .ok (.iload_n 1, 1) := by decide +kernel
theorem d_X8_findBounds_25 : decode (gw_mC M_X8_findBounds) 25 = .ok (.sipush 144, 3) := by decide +kernel
theorem d_X8_findBounds_28 : decode (gw_mC M_X8_findBounds) 28 = .ok (.if_icmp .ge 79, 3) := by decide +kernel
theorem d_X8_findBounds_31 : decode (gw_mC M_X8_findBounds) 31 = .ok (.aload_n 0, 1) := by decide +kernel
theorem d_X8_findBounds_32 : decode (gw_mC M_X8_findBounds) 32 = .ok (.getfield 9, 3) := by decide +kernel
theorem d_X8_findBounds_35 : decode (gw_mC M_X8_findBounds) 35 = .ok (.iload_n 1, 1) := by decide +kernel
theorem d_X8_findBounds_36 : decode (gw_mC M_X8_findBounds) 36 = .ok (.iaload, 1) := by decide +kernel
theorem d_X8_findBounds_37 : decode (gw_mC M_X8_findBounds) 37 = .ok (.iconst 2, 1) := by decide +kernel
theorem d_X8_findBounds_38 : decode (gw_mC M_X8_findBounds) 38 = .ok (.if_icmp .ne 63, 3) := by decide +kernel
theorem d_X8_findBounds_41 : decode (gw_mC M_X8_findBounds) 41 = .ok (.aload_n 0, 1) := by decide +kernel
theorem d_X8_findBounds_42 : decode (gw_mC M_X8_findBounds) 42 = .ok (.aload_n 0, 1) := by decide +kernel
theorem d_X8_findBounds_43 : decode (gw_mC M_X8_findBounds) 43 = .ok (.getfield 25, 3) := by decide +kernel
theorem d_X8_findBounds_46 : decode (gw_mC M_X8_findBounds) 46 = .ok (.iload_n 1, 1) := by decide +kernel
theorem d_X8_findBounds_47 : decode (gw_mC M_X8_findBounds) 47 = .ok (.bipush 12, 2) := by decide +kernel
theorem d_X8_findBounds_49 : decode (gw_mC M_X8_findBounds) 49 = .ok (.irem, 1) := by decide +kernel
theorem d_X8_findBounds_50 : decode (gw_mC M_X8_findBounds) 50 = .ok (.invokestatic 48, 3) := by decide +kernel
theorem d_X8_findBounds_53 : decode (gw_mC M_X8_findBounds) 53 = .ok (.putfield 25, 3) := by decide +kernel
theorem d_X8_findBounds_56 : decode (gw_mC M_X8_findBounds) 56 = .ok (.aload_n 0, 1) := by decide +kernel
theorem d_X8_findBounds_57 : decode (gw_mC M_X8_findBounds) 57 = .ok (.aload_n 0, 1) := by decide +kernel
theorem d_X8_findBounds_58 : decode (gw_mC M_X8_findBounds) 58 = .ok (.getfield 28, 3) := by decide +kernel
theorem d_X8_findBounds_61 : decode (gw_mC M_X8_findBounds) 61 = .ok (.iload_n 1, 1) := by decide +kernel
theorem d_X8_findBounds_62 : decode (gw_mC M_X8_findBounds) 62 = .ok (.bipush 12, 2) := by decide +kernel
theorem d_X8_findBounds_64 : decode (gw_mC M_X8_findBounds) 64 = .ok (.irem, 1) := by decide +kernel
theorem d_X8_findBounds_65 : decode (gw_mC M_X8_findBounds) 65 = .ok (.invokestatic 53, 3) := by decide +kernel
theorem d_X8_findBounds_68 : decode (gw_mC M_X8_findBounds) 68 = .ok (.putfield 28, 3) := by decide +kernel
theorem d_X8_findBounds_71 : decode (gw_mC M_X8_findBounds) 71 = .ok (.aload_n 0, 1) := by decide +kernel
theorem d_X8_findBounds_72 : decode (gw_mC M_X8_findBounds) 72 = .ok (.aload_n 0, 1) := by decide +kernel
theorem d_X8_findBounds_73 : decode (gw_mC M_X8_findBounds) 73 = .ok (.getfield 31, 3) := by decide +kernel
theorem d_X8_findBounds_76 : decode (gw_mC M_X8_findBounds) 76 = .ok (.iload_n 1, 1) := by decide +kernel
theorem d_X8_findBounds_77 : decode (gw_mC M_X8_findBounds) 77 = .ok (.bipush 12, 2) := by decide +kernel
theorem d_X8_findBounds_79 : decode (gw_mC M_X8_findBounds) 79 = .ok (.idiv, 1) := by decide +kernel
theorem d_X8_findBounds_80 : decode (gw_mC M_X8_findBounds) 80 = .ok (.invokestatic 48, 3) := by decide +kernel
theorem d_X8_findBounds_83 : decode (gw_mC M_X8_findBounds) 83 = .ok (.putfield 31, 3) := by decide +kernel
theorem d_X8_findBounds_86 : decode (gw_mC M_X8_findBounds) 86 = .ok (.aload_n 0, 1) := by decide +kernel
theorem d_X8_findBounds_87 : decode (gw_mC M_X8_findBounds) 87 = .ok (.aload_n 0, 1) := by decide +kernel
theorem d_X8_findBounds_88 : decode (gw_mC M_X8_findBounds) 88 = .ok (.getfield 34, 3) := by decide +kernel
theorem d_X8_findBounds_91 : decode (gw_mC M_X8_findBounds) 91 = .ok (.iload_n 1, 1) := by decide +kernel
theorem d_X8_findBounds_92 : decode (gw_mC M_X8_findBounds) 92 = .ok (.bipush 12, 2) := by decide +kernel
theorem d_X8_findBounds_94 : decode (gw_mC M_X8_findBounds) 94 = .ok (.idiv, 1) := by decide +kernel
theorem d_X8_findBounds_95 : decode (gw_mC M_X8_findBounds) 95 = .ok (.invokestatic 53, 3) := by decide +kernel
theorem d_X8_findBounds_98 : decode (gw_mC M_X8_findBounds) 98 = .ok (.putfield 34, 3) := by decide +kernel
theorem d_X8_findBounds_101 : decode (gw_mC M_X8_findBounds) 101 = .ok (.iinc 1 1, 3) := by decide +kernel
theorem d_X8_findBounds_104 : decode (gw_mC M_X8_findBounds) 104 = .ok (.goto (-80), 3) := by decide +kernel
theorem d_X8_findBounds_107 : decode (gw_mC M_X8_findBounds) 107 = .ok (.return_, 1) := by decide +kernel
theorem d_X8_farthest_0 : decode (gw_mC M_X8_farthest) 0 = .ok (.aload_n 0, 1) := by decide +kernel
theorem d_X8_farthest_1 : decode (gw_mC M_X8_farthest) 1 = .ok (.getfield 28, 3) := by decide +kernel
theorem d_X8_farthest_4 : decode (gw_mC M_X8_farthest) 4 = .ok (.ifCond .ge 5, 3) := by decide +kernel
theorem d_X8_farthest_7 : decode (gw_mC M_X8_farthest) 7 = .ok (.iconst 0, 1) := by decide +kernel
theorem d_X8_farthest_8 : decode (gw_mC M_X8_farthest) 8 = .ok (.ireturn, 1) := by decide +kernel
theorem d_X8_farthest_9 : decode (gw_mC M_X8_farthest) 9 = .ok (.iload_n 1, 1) := by decide +kernel
theorem d_X8_farthest_10 : decode (gw_mC M_X8_farthest) 10 = .ok (.aload_n 0, 1) := by decide +kernel
theorem d_X8_farthest_11 : decode (gw_mC M_X8_farthest) 11 = .ok (.getfield 25, 3) := by decide +kernel
theorem d_X8_farthest_14 : decode (gw_mC M_X8_farthest) 14 = .ok (.isub, 1) := by decide +kernel
theorem d_X8_farthest_15 : decode (gw_mC M_X8_farthest) 15 = .ok (.aload_n 0, 1) := by decide +kernel
theorem d_X8_farthest_16 : decode (gw_mC M_X8_farthest) 16 = .ok (.getfield 28, 3) := by decide +kernel
theorem d_X8_farthest_19 : decode (gw_mC M_X8_farthest) 19 = .ok (.iload_n 1, 1) := by decide +kernel
theorem d_X8_farthest_20 : decode (gw_mC M_X8_farthest) 20 = .ok (.isub, 1) := by decide +kernel
theorem d_X8_farthest_21 : decode (gw_mC M_X8_farthest) 21 = .ok (.invokestatic 53, 3) := by decide +kernel
theorem d_X8_farthest_24 : decode (gw_mC M_X8_farthest) 24 = .ok (.iload_n 2, 1) := by decide +kernel
theorem d_X8_farthest_25 : decode (gw_mC M_X8_farthest) 25 = .ok (.aload_n 0, 1) := by decide +kernel
theorem d_X8_farthest_26 : decode (gw_mC M_X8_farthest) 26 = .ok (.getfield 31, 3) := by decide +kernel
theorem d_X8_farthest_29 : decode (gw_mC M_X8_farthest) 29 = .ok (.isub, 1) := by decide +kernel
theorem d_X8_farthest_30 : decode (gw_mC M_X8_farthest) 30 = .ok (.aload_n 0, 1) := by decide +kernel
theorem d_X8_farthest_31 : decode (gw_mC M_X8_farthest) 31 = .ok (.getfield 34, 3) := by decide +kernel
theorem d_X8_farthest_34 : decode (gw_mC M_X8_farthest) 34 = .ok (.iload_n 2, 1) := by decide +kernel
theorem d_X8_farthest_35 : decode (gw_mC M_X8_farthest) 35 = .ok (.isub, 1) := by decide +kernel
theorem d_X8_farthest_36 : decode (gw_mC M_X8_farthest) 36 = .ok (.invokestatic 53, 3) := by decide +kernel
theorem d_X8_farthest_39 : decode (gw_mC M_X8_farthest) 39 = .ok (.invokestatic 53, 3) := by decide +kernel
theorem d_X8_farthest_42 : decode (gw_mC M_X8_farthest) 42 = .ok (.ireturn, 1) := by decide +kernel
theorem d_X8_isHeardAllAround_0 : decode (gw_mC M_X8_isHeardAllAround) 0 = .ok (.iconst (-1), 1) := by decide +kernel
theorem d_X8_isHeardAllAround_1 : decode (gw_mC M_X8_isHeardAllAround) 1 = .ok (.istore_n 3, 1) := by decide +kernel
theorem d_X8_isHeardAllAround_2 : decode (gw_mC M_X8_isHeardAllAround) 2 = .ok (.iload_n 3, 1) := by decide +kernel
theorem d_X8_isHeardAllAround_3 : decode (gw_mC M_X8_isHeardAllAround) 3 = .ok (.iconst 1, 1) := by decide +kernel
theorem d_X8_isHeardAllAround_4 : decode (gw_mC M_X8_isHeardAllAround) 4 = .ok (.if_icmp .gt 47, 3) := by decide +kernel
theorem d_X8_isHeardAllAround_7 : decode (gw_mC M_X8_isHeardAllAround) 7 = .ok (.iconst (-1), 1) := by decide +kernel
theorem d_X8_isHeardAllAround_8 : decode (gw_mC M_X8_isHeardAllAround) 8 = .ok (.istore 4, 2) := by decide +kernel
theorem d_X8_isHeardAllAround_10 : decode (gw_mC M_X8_isHeardAllAround) 10 = .ok (.iload 4, 2) := by decide +kernel
theorem d_X8_isHeardAllAround_12 : decode (gw_mC M_X8_isHeardAllAround) 12 = .ok (.iconst 1, 1) := by decide +kernel
theorem d_X8_isHeardAllAround_13 : decode (gw_mC M_X8_isHeardAllAround) 13 = .ok (.if_icmp .gt 32, 3) := by decide +kernel
theorem d_X8_isHeardAllAround_16 : decode (gw_mC M_X8_isHeardAllAround) 16 = .ok (.iload 4, 2) := by decide +kernel
theorem d_X8_isHeardAllAround_18 : decode (gw_mC M_X8_isHeardAllAround) 18 = .ok (.ifCond .ne 7, 3) := by decide +kernel
theorem d_X8_isHeardAllAround_21 : decode (gw_mC M_X8_isHeardAllAround) 21 = .ok (.iload_n 3, 1) := by decide +kernel
theorem d_X8_isHeardAllAround_22 : decode (gw_mC M_X8_isHeardAllAround) 22 = .ok (.ifCond .eq 17, 3) := by decide +kernel
theorem d_X8_isHeardAllAround_25 : decode (gw_mC M_X8_isHeardAllAround) 25 = .ok (.aload_n 0, 1) := by decide +kernel
theorem d_X8_isHeardAllAround_26 : decode (gw_mC M_X8_isHeardAllAround) 26 = .ok (.iload_n 1, 1) := by decide +kernel
theorem d_X8_isHeardAllAround_27 : decode (gw_mC M_X8_isHeardAllAround) 27 = .ok (.iload_n 2, 1) := by decide +kernel
theorem d_X8_isHeardAllAround_28 : decode (gw_mC M_X8_isHeardAllAround) 28 = .ok (.iload 4, 2) := by decide +kernel
theorem d_X8_isHeardAllAround_30 : decode (gw_mC M_X8_isHeardAllAround) 30 = .ok (.iload_n 3, 1) := by decide +kernel
theorem d_X8_isHeardAllAround_31 : decode (gw_mC M_X8_isHeardAllAround) 31 = .ok (.invokevirtual 56, 3) := by decide +kernel
theorem d_X8_isHeardAllAround_34 : decode (gw_mC M_X8_isHeardAllAround) 34 = .ok (.ifCond .eq 5, 3) := by decide +kernel
theorem d_X8_isHeardAllAround_37 : decode (gw_mC M_X8_isHeardAllAround) 37 = .ok (.iconst 0, 1) := by decide +kernel
theorem d_X8_isHeardAllAround_38 : decode (gw_mC M_X8_isHeardAllAround) 38 = .ok (.ireturn, 1) := by decide +kernel
theorem d_X8_isHeardAllAround_39 : decode (gw_mC M_X8_isHeardAllAround) 39 = .ok (.iinc 4 1, 3) := by decide +kernel
theorem d_X8_isHeardAllAround_42 : decode (gw_mC M_X8_isHeardAllAround) 42 = .ok (.goto (-32), 3) := by decide +kernel
theorem d_X8_isHeardAllAround_45 : decode (gw_mC M_X8_isHeardAllAround) 45 = .ok (.iinc 3 1, 3) := by decide +kernel
theorem d_X8_isHeardAllAround_48 : decode (gw_mC M_X8_isHeardAllAround) 48 = .ok (.goto (-46), 3) := by decide +kernel
theorem d_X8_isHeardAllAround_51 : decode (gw_mC M_X8_isHeardAllAround) 51 = .ok (.iconst 1, 1) := by decide +kernel
theorem d_X8_isHeardAllAround_52 : decode (gw_mC M_X8_isHeardAllAround) 52 = .ok (.ireturn, 1) := by decide +kernel
theorem d_X8_isListenerHidden_0 : decode (gw_mC M_X8_isListenerHidden) 0 = .ok (.iconst 0, 1) := by decide +kernel
theorem d_X8_isListenerHidden_1 : decode (gw_mC M_X8_isListenerHidden) 1 = .ok (.istore 5, 2) := by decide +kernel
theorem d_X8_isListenerHidden_3 : decode (gw_mC M_X8_isListenerHidden) 3 = .ok (.iconst 1, 1) := by decide +kernel
theorem d_X8_isListenerHidden_4 : decode (gw_mC M_X8_isListenerHidden) 4 = .ok (.istore 6, 2) := by decide +kernel
theorem d_X8_isListenerHidden_6 : decode (gw_mC M_X8_isListenerHidden) 6 = .ok (.iload 6, 2) := by decide +kernel
theorem d_X8_isListenerHidden_8 : decode (gw_mC M_X8_isListenerHidden) 8 = .ok (.bipush 12, 2) := by decide +kernel
theorem d_X8_isListenerHidden_10 : decode (gw_mC M_X8_isListenerHidden) 10 = .ok (.if_icmp .ge 96, 3) := by decide +kernel
theorem d_X8_isListenerHidden_13 : decode (gw_mC M_X8_isListenerHidden) 13 = .ok (.iload_n 1, 1) := by decide +kernel
theorem d_X8_isListenerHidden_14 : decode (gw_mC M_X8_isListenerHidden) 14 = .ok (.iload 6, 2) := by decide +kernel
theorem d_X8_isListenerHidden_16 : decode (gw_mC M_X8_isListenerHidden) 16 = .ok (.iload_n 3, 1) := by decide +kernel
theorem d_X8_isListenerHidden_17 : decode (gw_mC M_X8_isListenerHidden) 17 = .ok (.imul, 1) := by decide +kernel
theorem d_X8_isListenerHidden_18 : decode (gw_mC M_X8_isListenerHidden) 18 = .ok (.iadd, 1) := by decide +kernel
theorem d_X8_isListenerHidden_19 : decode (gw_mC M_X8_isListenerHidden) 19 = .ok (.istore 7, 2) := by decide +kernel
theorem d_X8_isListenerHidden_21 : decode (gw_mC M_X8_isListenerHidden) 21 = .ok (.iload_n 2, 1) := by decide +kernel
theorem d_X8_isListenerHidden_22 : decode (gw_mC M_X8_isListenerHidden) 22 = .ok (.iload 6, 2) := by decide +kernel
theorem d_X8_isListenerHidden_24 : decode (gw_mC M_X8_isListenerHidden) 24 = .ok (.iload 4, 2) := by decide +kernel
theorem d_X8_isListenerHidden_26 : decode (gw_mC M_X8_isListenerHidden) 26 = .ok (.imul, 1) := by decide +kernel
theorem d_X8_isListenerHidden_27 : decode (gw_mC M_X8_isListenerHidden) 27 = .ok (.iadd, 1) := by decide +kernel
theorem d_X8_isListenerHidden_28 : decode (gw_mC M_X8_isListenerHidden) 28 = .ok (.istore 8, 2) := by decide +kernel
theorem d_X8_isListenerHidden_30 : decode (gw_mC M_X8_isListenerHidden) 30 = .ok (.iload 7, 2) := by decide +kernel
theorem d_X8_isListenerHidden_32 : decode (gw_mC M_X8_isListenerHidden) 32 = .ok (.iconst 0, 1) := by decide +kernel
theorem d_X8_isListenerHidden_33 : decode (gw_mC M_X8_isListenerHidden) 33 = .ok (.bipush 11, 2) := by decide +kernel
theorem d_X8_isListenerHidden_35 : decode (gw_mC M_X8_isListenerHidden) 35 = .ok (.invokestatic 60, 3) := by decide +kernel
theorem d_X8_isListenerHidden_38 : decode (gw_mC M_X8_isListenerHidden) 38 = .ok (.ifCond .eq 14, 3) := by decide +kernel
theorem d_X8_isListenerHidden_41 : decode (gw_mC M_X8_isListenerHidden) 41 = .ok (.iload 8, 2) := by decide +kernel
theorem d_X8_isListenerHidden_43 : decode (gw_mC M_X8_isListenerHidden) 43 = .ok (.iconst 0, 1) := by decide +kernel
theorem d_X8_isListenerHidden_44 : decode (gw_mC M_X8_isListenerHidden) 44 = .ok (.bipush 11, 2) := by decide +kernel
theorem d_X8_isListenerHidden_46 : decode (gw_mC M_X8_isListenerHidden) 46 = .ok (.invokestatic 60, 3) := by decide +kernel
theorem d_X8_isListenerHidden_49 : decode (gw_mC M_X8_isListenerHidden) 49 = .ok (.ifCond .ne 5, 3) := by decide +kernel
theorem d_X8_isListenerHidden_52 : decode (gw_mC M_X8_isListenerHidden) 52 = .ok (.iconst 0, 1) := by decide +kernel
theorem d_X8_isListenerHidden_53 : decode (gw_mC M_X8_isListenerHidden) 53 = .ok (.ireturn, 1) := by decide +kernel
theorem d_X8_isListenerHidden_54 : decode (gw_mC M_X8_isListenerHidden) 54 = .ok (.aload_n 0, 1) := by decide +kernel
theorem d_X8_isListenerHidden_55 : decode (gw_mC M_X8_isListenerHidden) 55 = .ok (.getfield 9, 3) := by decide +kernel
theorem d_X8_isListenerHidden_58 : decode (gw_mC M_X8_isListenerHidden) 58 = .ok (.bipush 12, 2) := by decide +kernel
theorem d_X8_isListenerHidden_60 : decode (gw_mC M_X8_isListenerHidden) 60 = .ok (.iload 8, 2) := by decide +kernel
theorem d_X8_isListenerHidden_62 : decode (gw_mC M_X8_isListenerHidden) 62 = .ok (.imul, 1) := by decide +kernel
theorem d_X8_isListenerHidden_63 : decode (gw_mC M_X8_isListenerHidden) 63 = .ok (.iload 7, 2) := by decide +kernel
theorem d_X8_isListenerHidden_65 : decode (gw_mC M_X8_isListenerHidden) 65 = .ok (.iadd, 1) := by decide +kernel
theorem d_X8_isListenerHidden_66 : decode (gw_mC M_X8_isListenerHidden) 66 = .ok (.iaload, 1) := by decide +kernel
theorem d_X8_isListenerHidden_67 : decode (gw_mC M_X8_isListenerHidden) 67 = .ok (.istore 9, 2) := by decide +kernel
theorem d_X8_isListenerHidden_69 : decode (gw_mC M_X8_isListenerHidden) 69 = .ok (.iload 9, 2) := by decide +kernel
theorem d_X8_isListenerHidden_71 : decode (gw_mC M_X8_isListenerHidden) 71 = .ok (.iconst 2, 1) := by decide +kernel
theorem d_X8_isListenerHidden_72 : decode (gw_mC M_X8_isListenerHidden) 72 = .ok (.if_icmp .ne 10, 3) := by decide +kernel
theorem d_X8_isListenerHidden_75 : decode (gw_mC M_X8_isListenerHidden) 75 = .ok (.iload 5, 2) := by decide +kernel
theorem d_X8_isListenerHidden_77 : decode (gw_mC M_X8_isListenerHidden) 77 = .ok (.ifCond .eq 5, 3) := by decide +kernel
theorem d_X8_isListenerHidden_80 : decode (gw_mC M_X8_isListenerHidden) 80 = .ok (.iconst 1, 1) := by decide +kernel
theorem d_X8_isListenerHidden_81 : decode (gw_mC M_X8_isListenerHidden) 81 = .ok (.ireturn, 1) := by decide +kernel
theorem d_X8_isListenerHidden_82 : decode (gw_mC M_X8_isListenerHidden) 82 = .ok (.iload 5, 2) := by decide +kernel
theorem d_X8_isListenerHidden_84 : decode (gw_mC M_X8_isListenerHidden) 84 = .ok (.ifCond .ne 9, 3) := by decide +kernel
theorem d_X8_isListenerHidden_87 : decode (gw_mC M_X8_isListenerHidden) 87 = .ok (.iload 9, 2) := by decide +kernel
theorem d_X8_isListenerHidden_89 : decode (gw_mC M_X8_isListenerHidden) 89 = .ok (.iconst 1, 1) := by decide +kernel
theorem d_X8_isListenerHidden_90 : decode (gw_mC M_X8_isListenerHidden) 90 = .ok (.if_icmp .ne 7, 3) := by decide +kernel
theorem d_X8_isListenerHidden_93 : decode (gw_mC M_X8_isListenerHidden) 93 = .ok (.iconst 1, 1) := by decide +kernel
theorem d_X8_isListenerHidden_94 : decode (gw_mC M_X8_isListenerHidden) 94 = .ok (.goto 4, 3) := by decide +kernel
theorem d_X8_isListenerHidden_97 : decode (gw_mC M_X8_isListenerHidden) 97 = .ok (.iconst 0, 1) := by decide +kernel
theorem d_X8_isListenerHidden_98 : decode (gw_mC M_X8_isListenerHidden) 98 = .ok (.istore 5, 2) := by decide +kernel
theorem d_X8_isListenerHidden_100 : decode (gw_mC M_X8_isListenerHidden) 100 = .ok (.iinc 6 1, 3) := by decide +kernel
theorem d_X8_isListenerHidden_103 : decode (gw_mC M_X8_isListenerHidden) 103 = .ok (.goto (-97), 3) := by decide +kernel
theorem d_X8_isListenerHidden_106 : decode (gw_mC M_X8_isListenerHidden) 106 = .ok (.iconst 0, 1) := by decide +kernel
theorem d_X8_isListenerHidden_107 : decode (gw_mC M_X8_isListenerHidden) 107 = .ok (.ireturn, 1) := by decide +kernel
theorem d_X9_init_0 : decode (gw_mC M_X9_init) 0 = .ok (.aload_n 0, 1) := by decide +kernel
theorem d_X9_init_1 : decode (gw_mC M_X9_init) 1 = .ok (.invokespecial 3, 3) := by decide +kernel
theorem d_X9_init_4 : decode (gw_mC M_X9_init) 4 = .ok (.aload_n 0, 1) := by decide +kernel
theorem d_X9_init_5 : decode (gw_mC M_X9_init) 5 = .ok (.bipush 80, 2) := by decide +kernel
theorem d_X9_init_7 : decode (gw_mC M_X9_init) 7 = .ok (.newarray .byte, 2) := by decide +kernel
theorem d_X9_init_9 : decode (gw_mC M_X9_init) 9 = .ok (.putfield 9, 3) := by decide +kernel
theorem d_X9_init_12 : decode (gw_mC M_X9_init) 12 = .ok (.aload_n 0, 1) := by decide +kernel
theorem d_X9_init_13 : decode (gw_mC M_X9_init) 13 = .ok (.iconst 0, 1) := by decide +kernel
theorem d_X9_init_14 : decode (gw_mC M_X9_init) 14 = .ok (.putfield 15, 3) := by decide +kernel
theorem d_X9_init_17 : decode (gw_mC M_X9_init) 17 = .ok (.aload_n 0, 1) := by decide +kernel
theorem d_X9_init_18 : decode (gw_mC M_X9_init) 18 = .ok (.iconst 0, 1) := by decide +kernel
theorem d_X9_init_19 : decode (gw_mC M_X9_init) 19 = .ok (.putfield 19, 3) := by decide +kernel
theorem d_X9_init_22 : decode (gw_mC M_X9_init) 22 = .ok (.aload_n 0, 1) := by decide +kernel
theorem d_X9_init_23 : decode (gw_mC M_X9_init) 23 = .ok (.iconst 0, 1) := by decide +kernel
theorem d_X9_init_24 : decode (gw_mC M_X9_init) 24 = .ok (.putfield 22, 3) := by decide +kernel
theorem d_X9_init_27 : decode (gw_mC M_X9_init) 27 = .ok (.return_, 1) := by decide +kernel
theorem d_X9_holdsText_0 : decode (gw_mC M_X9_holdsText) 0 = .ok (.iconst 0, 1) := by decide +kernel
theorem d_X9_holdsText_1 : decode (gw_mC M_X9_holdsText) 1 = .ok (.istore_n 3, 1) := by decide +kernel
theorem d_X9_holdsText_2 : decode (gw_mC M_X9_holdsText) 2 = .ok (.iload_n 3, 1) := by decide +kernel
theorem d_X9_holdsText_3 : decode (gw_mC M_X9_holdsText) 3 = .ok (.iload_n 2, 1) := by decide +kernel
theorem d_X9_holdsText_4 : decode (gw_mC M_X9_holdsText) 4 = .ok (.if_icmp .ge 32, 3) := by decide +kernel
theorem d_X9_holdsText_7 : decode (gw_mC M_X9_holdsText) 7 = .ok (.lload_n 0, 1) := by decide +kernel
theorem d_X9_holdsText_8 : decode (gw_mC M_X9_holdsText) 8 = .ok (.bipush 8, 2) := by decide +kernel
theorem d_X9_holdsText_10 : decode (gw_mC M_X9_holdsText) 10 = .ok (.iload_n 3, 1) := by decide +kernel
theorem d_X9_holdsText_11 : decode (gw_mC M_X9_holdsText) 11 = .ok (.imul, 1) := by decide +kernel
theorem d_X9_holdsText_12 : decode (gw_mC M_X9_holdsText) 12 = .ok (.lushr, 1) := by decide +kernel
theorem d_X9_holdsText_13 : decode (gw_mC M_X9_holdsText) 13 = .ok (.ldc2_w 25, 3) := by decide +kernel
theorem d_X9_holdsText_16 : decode (gw_mC M_X9_holdsText) 16 = .ok (.land, 1) := by decide +kernel
theorem d_X9_holdsText_17 : decode (gw_mC M_X9_holdsText) 17 = .ok (.l2i, 1) := by decide +kernel
theorem d_X9_holdsText_18 : decode (gw_mC M_X9_holdsText) 18 = .ok (.bipush 32, 2) := by decide +kernel
theorem d_X9_holdsText_20 : decode (gw_mC M_X9_holdsText) 20 = .ok (.bipush 126, 2) := by decide +kernel
theorem d_X9_holdsText_22 : decode (gw_mC M_X9_holdsText) 22 = .ok (.invokestatic 27, 3) := by decide +kernel
theorem d_X9_holdsText_25 : decode (gw_mC M_X9_holdsText) 25 = .ok (.ifCond .ne 5, 3) := by decide +kernel
theorem d_X9_holdsText_28 : decode (gw_mC M_X9_holdsText) 28 = .ok (.iconst 0, 1) := by decide +kernel
theorem d_X9_holdsText_29 : decode (gw_mC M_X9_holdsText) 29 = .ok (.ireturn, 1) := by decide +kernel
theorem d_X9_holdsText_30 : decode (gw_mC M_X9_holdsText) 30 = .ok (.iinc 3 1, 3) := by decide +kernel
theorem d_X9_holdsText_33 : decode (gw_mC M_X9_holdsText) 33 = .ok (.goto (-31), 3) := by decide +kernel
theorem d_X9_holdsText_36 : decode (gw_mC M_X9_holdsText) 36 = .ok (.iconst 1, 1) := by decide +kernel
theorem d_X9_holdsText_37 : decode (gw_mC M_X9_holdsText) 37 = .ok (.ireturn, 1) := by decide +kernel
theorem d_X9_write_0 : decode (gw_mC M_X9_write) 0 = .ok (.aload_n 0, 1) := by decide +kernel
theorem d_X9_write_1 : decode (gw_mC M_X9_write) 1 = .ok (.getfield 15, 3) := by decide +kernel
theorem d_X9_write_4 : decode (gw_mC M_X9_write) 4 = .ok (.iload_n 3, 1) := by decide +kernel
theorem d_X9_write_5 : decode (gw_mC M_X9_write) 5 = .ok (.iadd, 1) := by decide +kernel
theorem d_X9_write_6 : decode (gw_mC M_X9_write) 6 = .ok (.bipush 80, 2) := by decide +kernel
theorem d_X9_write_8 : decode (gw_mC M_X9_write) 8 = .ok (.if_icmp .le 6, 3) := by decide +kernel
theorem d_X9_write_11 : decode (gw_mC M_X9_write) 11 = .ok (.bipush (-3), 2) := by decide +kernel
theorem d_X9_write_13 : decode (gw_mC M_X9_write) 13 = .ok (.ireturn, 1) := by decide +kernel
theorem d_X9_write_14 : decode (gw_mC M_X9_write) 14 = .ok (.iload_n 3, 1) := by decide +kernel
theorem d_X9_write_15 : decode (gw_mC M_X9_write) 15 = .ok (.iconst 1, 1) := by decide +kernel
theorem d_X9_write_16 : decode (gw_mC M_X9_write) 16 = .ok (.isub, 1) := by decide +kernel
theorem d_X9_write_17 : decode (gw_mC M_X9_write) 17 = .ok (.istore 4, 2) := by decide +kernel
theorem d_X9_write_19 : decode (gw_mC M_X9_write) 19 = .ok (.iload 4, 2) := by decide +kernel
theorem d_X9_write_21 : decode (gw_mC M_X9_write) 21 = .ok (.ifCond .lt 41, 3) := by decide +kernel
theorem d_X9_write_24 : decode (gw_mC M_X9_write) 24 = .ok (.aload_n 0, 1) := by decide +kernel
theorem d_X9_write_25 : decode (gw_mC M_X9_write) 25 = .ok (.getfield 9, 3) := by decide +kernel
theorem d_X9_write_28 : decode (gw_mC M_X9_write) 28 = .ok (.aload_n 0, 1) := by decide +kernel
theorem d_X9_write_29 : decode (gw_mC M_X9_write) 29 = .ok (.getfield 15, 3) := by decide +kernel
theorem d_X9_write_32 : decode (gw_mC M_X9_write) 32 = .ok (.lload_n 1, 1) := by decide +kernel
theorem d_X9_write_33 : decode (gw_mC M_X9_write) 33 = .ok (.bipush 8, 2) := by decide +kernel
theorem d_X9_write_35 : decode (gw_mC M_X9_write) 35 = .ok (.iload 4, 2) := by decide +kernel
theorem d_X9_write_37 : decode (gw_mC M_X9_write) 37 = .ok (.imul, 1) := by decide +kernel
theorem d_X9_write_38 : decode (gw_mC M_X9_write) 38 = .ok (.lushr, 1) := by decide +kernel
theorem d_X9_write_39 : decode (gw_mC M_X9_write) 39 = .ok (.ldc2_w 25, 3) := by decide +kernel
theorem d_X9_write_42 : decode (gw_mC M_X9_write) 42 = .ok (.land, 1) := by decide +kernel
theorem d_X9_write_43 : decode (gw_mC M_X9_write) 43 = .ok (.l2i, 1) := by decide +kernel
theorem d_X9_write_44 : decode (gw_mC M_X9_write) 44 = .ok (.i2b, 1) := by decide +kernel
theorem d_X9_write_45 : decode (gw_mC M_X9_write) 45 = .ok (.bastore, 1) := by decide +kernel
theorem d_X9_write_46 : decode (gw_mC M_X9_write) 46 = .ok (.aload_n 0, 1) := by decide +kernel
theorem d_X9_write_47 : decode (gw_mC M_X9_write) 47 = .ok (.dup, 1) := by decide +kernel
theorem d_X9_write_48 : decode (gw_mC M_X9_write) 48 = .ok (.getfield 15, 3) := by decide +kernel
theorem d_X9_write_51 : decode (gw_mC M_X9_write) 51 = .ok (.iconst 1, 1) := by decide +kernel
theorem d_X9_write_52 : decode (gw_mC M_X9_write) 52 = .ok (.iadd, 1) := by decide +kernel
theorem d_X9_write_53 : decode (gw_mC M_X9_write) 53 = .ok (.putfield 15, 3) := by decide +kernel
theorem d_X9_write_56 : decode (gw_mC M_X9_write) 56 = .ok (.iinc 4 (-1), 3) := by decide +kernel
theorem d_X9_write_59 : decode (gw_mC M_X9_write) 59 = .ok (.goto (-40), 3) := by decide +kernel
theorem d_X9_write_62 : decode (gw_mC M_X9_write) 62 = .ok (.aload_n 0, 1) := by decide +kernel
theorem d_X9_write_63 : decode (gw_mC M_X9_write) 63 = .ok (.getfield 15, 3) := by decide +kernel
theorem d_X9_write_66 : decode (gw_mC M_X9_write) 66 = .ok (.ireturn, 1) := by decide +kernel
theorem d_X9_readWay_0 : decode (gw_mC M_X9_readWay) 0 = .ok (.aload_n 1, 1) := by decide +kernel
theorem d_X9_readWay_1 : decode (gw_mC M_X9_readWay) 1 = .ok (.invokevirtual 31, 3) := by decide +kernel
theorem d_X9_readWay_4 : decode (gw_mC M_X9_readWay) 4 = .ok (.aload_n 0, 1) := by decide +kernel
theorem d_X9_readWay_5 : decode (gw_mC M_X9_readWay) 5 = .ok (.iconst 0, 1) := by decide +kernel
theorem d_X9_readWay_6 : decode (gw_mC M_X9_readWay) 6 = .ok (.putfield 19, 3) := by decide +kernel
theorem d_X9_readWay_9 : decode (gw_mC M_X9_readWay) 9 = .ok (.iconst 0, 1) := by decide +kernel
theorem d_X9_readWay_10 : decode (gw_mC M_X9_readWay) 10 = .ok (.istore_n 2, 1) := by decide +kernel
theorem d_X9_readWay_11 : decode (gw_mC M_X9_readWay) 11 = .ok (.iconst 1, 1) := by decide +kernel
theorem d_X9_readWay_12 : decode (gw_mC M_X9_readWay) 12 = .ok (.istore_n 3, 1) := by decide +kernel
theorem d_X9_readWay_13 : decode (gw_mC M_X9_readWay) 13 = .ok (.iconst 0, 1) := by decide +kernel
theorem d_X9_readWay_14 : decode (gw_mC M_X9_readWay) 14 = .ok (.istore 4, 2) := by decide +kernel
theorem d_X9_readWay_16 : decode (gw_mC M_X9_readWay) 16 = .ok (.iload_n 3, 1) := by decide +kernel
theorem d_X9_readWay_17 : decode (gw_mC M_X9_readWay) 17 = .ok (.ifCond .eq 74, 3) := by decide +kernel
theorem d_X9_readWay_20 : decode (gw_mC M_X9_readWay) 20 = .ok (.iload_n 2, 1) := by decide +kernel
theorem d_X9_readWay_21 : decode (gw_mC M_X9_readWay) 21 = .ok (.ifCond .ne 70, 3) := by decide +kernel
theorem d_X9_readWay_24 : decode (gw_mC M_X9_readWay) 24 = .ok (.iload 4, 2) := by decide +kernel
theorem d_X9_readWay_26 : decode (gw_mC M_X9_readWay) 26 = .ok (.bipush 8, 2) := by decide +kernel
theorem d_X9_readWay_28 : decode (gw_mC M_X9_readWay) 28 = .ok (.if_icmp .ge 63, 3) := by decide +kernel
theorem d_X9_readWay_31 : decode (gw_mC M_X9_readWay) 31 = .ok (.aload_n 0, 1) := by decide +kernel
theorem d_X9_readWay_32 : decode (gw_mC M_X9_readWay) 32 = .ok (.aload_n 1, 1) := by decide +kernel
theorem d_X9_readWay_33 : decode (gw_mC M_X9_readWay) 33 = .ok (.invokevirtual 36, 3) := by decide +kernel
theorem d_X9_readWay_36 : decode (gw_mC M_X9_readWay) 36 = .ok (.istore_n 3, 1) := by decide +kernel
theorem d_X9_readWay_37 : decode (gw_mC M_X9_readWay) 37 = .ok (.iinc 4 1, 3) := by decide +kernel
theorem d_X9_readWay_40 : decode (gw_mC M_X9_readWay) 40 = .ok (.iload_n 3, 1) := by decide +kernel
theorem d_X9_readWay_41 : decode (gw_mC M_X9_readWay) 41 = .ok (.ifCond .eq 15, 3) := by decide +kernel
theorem d_X9_readWay_44 : decode (gw_mC M_X9_readWay) 44 = .ok (.aload_n 0, 1) := by decide +kernel
theorem d_X9_readWay_45 : decode (gw_mC M_X9_readWay) 45 = .ok (.invokevirtual 40, 3) := by decide +kernel
theorem d_X9_readWay_48 : decode (gw_mC M_X9_readWay) 48 = .ok (.iconst (-1), 1) := by decide +kernel
theorem d_X9_readWay_49 : decode (gw_mC M_X9_readWay) 49 = .ok (.if_icmp .ne 7, 3) := by decide +kernel
theorem d_X9_readWay_52 : decode (gw_mC M_X9_readWay) 52 = .ok (.iconst 1, 1) := by decide +kernel
theorem d_X9_readWay_53 : decode (gw_mC M_X9_readWay) 53 = .ok (.goto 4, 3) := by decide +kernel
theorem d_X9_readWay_56 : decode (gw_mC M_X9_readWay) 56 = .ok (.iconst 0, 1) := by decide +kernel
theorem d_X9_readWay_57 : decode (gw_mC M_X9_readWay) 57 = .ok (.istore_n 2, 1) := by decide +kernel
theorem d_X9_readWay_58 : decode (gw_mC M_X9_readWay) 58 = .ok (.iload_n 3, 1) := by decide +kernel
theorem d_X9_readWay_59 : decode (gw_mC M_X9_readWay) 59 = .ok (.ifCond .eq 27, 3) := by decide +kernel
theorem d_X9_readWay_62 : decode (gw_mC M_X9_readWay) 62 = .ok (.iload_n 2, 1) := by decide +kernel
theorem d_X9_readWay_63 : decode (gw_mC M_X9_readWay) 63 = .ok (.ifCond .ne 19, 3) := by decide +kernel
theorem d_X9_readWay_66 : decode (gw_mC M_X9_readWay) 66 = .ok (.iload 4, 2) := by decide +kernel
theorem d_X9_readWay_68 : decode (gw_mC M_X9_readWay) 68 = .ok (.bipush 8, 2) := by decide +kernel
theorem d_X9_readWay_70 : decode (gw_mC M_X9_readWay) 70 = .ok (.if_icmp .ge 16, 3) := by decide +kernel
theorem d_X9_readWay_73 : decode (gw_mC M_X9_readWay) 73 = .ok (.aload_n 0, 1) := by decide +kernel
theorem d_X9_readWay_74 : decode (gw_mC M_X9_readWay) 74 = .ok (.bipush 59, 2) := by decide +kernel
theorem d_X9_readWay_76 : decode (gw_mC M_X9_readWay) 76 = .ok (.invokevirtual 44, 3) := by decide +kernel
theorem d_X9_readWay_79 : decode (gw_mC M_X9_readWay) 79 = .ok (.ifCond .eq 7, 3) := by decide +kernel
theorem d_X9_readWay_82 : decode (gw_mC M_X9_readWay) 82 = .ok (.iconst 1, 1) := by decide +kernel
theorem d_X9_readWay_83 : decode (gw_mC M_X9_readWay) 83 = .ok (.goto 4, 3) := by decide +kernel
theorem d_X9_readWay_86 : decode (gw_mC M_X9_readWay) 86 = .ok (.iconst 0, 1) := by decide +kernel
theorem d_X9_readWay_87 : decode (gw_mC M_X9_readWay) 87 = .ok (.istore_n 3, 1) := by decide +kernel
theorem d_X9_readWay_88 : decode (gw_mC M_X9_readWay) 88 = .ok (.goto (-72), 3) := by decide +kernel
theorem d_X9_readWay_91 : decode (gw_mC M_X9_readWay) 91 = .ok (.aload_n 0, 1) := by decide +kernel
theorem d_X9_readWay_92 : decode (gw_mC M_X9_readWay) 92 = .ok (.iconst 0, 1) := by decide +kernel
theorem d_X9_readWay_93 : decode (gw_mC M_X9_readWay) 93 = .ok (.putfield 15, 3) := by decide +kernel
theorem d_X9_readWay_96 : decode (gw_mC M_X9_readWay) 96 = .ok (.iload_n 3, 1) := by decide +kernel
theorem d_X9_readWay_97 : decode (gw_mC M_X9_readWay) 97 = .ok (.ifCond .eq 8, 3) := by decide +kernel
theorem d_X9_readWay_100 : decode (gw_mC M_X9_readWay) 100 = .ok (.iload 4, 2) := by decide +kernel
theorem d_X9_readWay_102 : decode (gw_mC M_X9_readWay) 102 = .ok (.goto 10, 3) := by decide +kernel
theorem d_X9_readWay_105 : decode (gw_mC M_X9_readWay) 105 = .ok (.bipush (-20), 2) := by decide +kernel
theorem d_X9_readWay_107 : decode (gw_mC M_X9_readWay) 107 = .ok (.aload_n 0, 1) := by decide +kernel
theorem d_X9_readWay_108 : decode (gw_mC M_X9_readWay) 108 = .ok (.getfield 19, 3) := by decide +kernel
theorem d_X9_readWay_111 : decode (gw_mC M_X9_readWay) 111 = .ok (.isub, 1) := by decide +kernel
theorem d_X9_readWay_112 : decode (gw_mC M_X9_readWay) 112 = .ok (.ireturn, 1) := by decide +kernel
theorem d_X9_readGroup_0 : decode (gw_mC M_X9_readGroup) 0 = .ok (.aload_n 1, 1) := by decide +kernel
theorem d_X9_readGroup_1 : decode (gw_mC M_X9_readGroup) 1 = .ok (.iconst 0, 1) := by decide +kernel
theorem d_X9_readGroup_2 : decode (gw_mC M_X9_readGroup) 2 = .ok (.putfield 48, 3) := by decide +kernel
theorem d_X9_readGroup_5 : decode (gw_mC M_X9_readGroup) 5 = .ok (.aload_n 0, 1) := by decide +kernel
theorem d_X9_readGroup_6 : decode (gw_mC M_X9_readGroup) 6 = .ok (.iconst 0, 1) := by decide +kernel
theorem d_X9_readGroup_7 : decode (gw_mC M_X9_readGroup) 7 = .ok (.putfield 19, 3) := by decide +kernel
theorem d_X9_readGroup_10 : decode (gw_mC M_X9_readGroup) 10 = .ok (.iconst 0, 1) := by decide +kernel
theorem d_X9_readGroup_11 : decode (gw_mC M_X9_readGroup) 11 = .ok (.istore_n 2, 1) := by decide +kernel
theorem d_X9_readGroup_12 : decode (gw_mC M_X9_readGroup) 12 = .ok (.iconst 1, 1) := by decide +kernel
theorem d_X9_readGroup_13 : decode (gw_mC M_X9_readGroup) 13 = .ok (.istore_n 3, 1) := by decide +kernel
theorem d_X9_readGroup_14 : decode (gw_mC M_X9_readGroup) 14 = .ok (.iconst 0, 1) := by decide +kernel
theorem d_X9_readGroup_15 : decode (gw_mC M_X9_readGroup) 15 = .ok (.istore 4, 2) := by decide +kernel
theorem d_X9_readGroup_17 : decode (gw_mC M_X9_readGroup) 17 = .ok (.iload_n 3, 1) := by decide +kernel
theorem d_X9_readGroup_18 : decode (gw_mC M_X9_readGroup) 18 = .ok (.ifCond .eq 74, 3) := by decide +kernel
theorem d_X9_readGroup_21 : decode (gw_mC M_X9_readGroup) 21 = .ok (.iload_n 2, 1) := by decide +kernel
theorem d_X9_readGroup_22 : decode (gw_mC M_X9_readGroup) 22 = .ok (.ifCond .ne 70, 3) := by decide +kernel
theorem d_X9_readGroup_25 : decode (gw_mC M_X9_readGroup) 25 = .ok (.iload 4, 2) := by decide +kernel
theorem d_X9_readGroup_27 : decode (gw_mC M_X9_readGroup) 27 = .ok (.bipush 10, 2) := by decide +kernel
theorem d_X9_readGroup_29 : decode (gw_mC M_X9_readGroup) 29 = .ok (.if_icmp .ge 63, 3) := by decide +kernel
theorem d_X9_readGroup_32 : decode (gw_mC M_X9_readGroup) 32 = .ok (.aload_n 0, 1) := by decide +kernel
theorem d_X9_readGroup_33 : decode (gw_mC M_X9_readGroup) 33 = .ok (.aload_n 1, 1) := by decide +kernel
theorem d_X9_readGroup_34 : decode (gw_mC M_X9_readGroup) 34 = .ok (.invokevirtual 53, 3) := by decide +kernel
theorem d_X9_readGroup_37 : decode (gw_mC M_X9_readGroup) 37 = .ok (.istore_n 3, 1) := by decide +kernel
theorem d_X9_readGroup_38 : decode (gw_mC M_X9_readGroup) 38 = .ok (.iinc 4 1, 3) := by decide +kernel
theorem d_X9_readGroup_41 : decode (gw_mC M_X9_readGroup) 41 = .ok (.iload_n 3, 1) := by decide +kernel
theorem d_X9_readGroup_42 : decode (gw_mC M_X9_readGroup) 42 = .ok (.ifCond .eq 15, 3) := by decide +kernel
theorem d_X9_readGroup_45 : decode (gw_mC M_X9_readGroup) 45 = .ok (.aload_n 0, 1) := by decide +kernel
theorem d_X9_readGroup_46 : decode (gw_mC M_X9_readGroup) 46 = .ok (.invokevirtual 40, 3) := by decide +kernel
theorem d_X9_readGroup_49 : decode (gw_mC M_X9_readGroup) 49 = .ok (.iconst (-1), 1) := by decide +kernel
theorem d_X9_readGroup_50 : decode (gw_mC M_X9_readGroup) 50 = .ok (.if_icmp .ne 7, 3) := by decide +kernel
theorem d_X9_readGroup_53 : decode (gw_mC M_X9_readGroup) 53 = .ok (.iconst 1, 1) := by decide +kernel
theorem d_X9_readGroup_54 : decode (gw_mC M_X9_readGroup) 54 = .ok (.goto 4, 3) := by decide +kernel
theorem d_X9_readGroup_57 : decode (gw_mC M_X9_readGroup) 57 = .ok (.iconst 0, 1) := by decide +kernel
theorem d_X9_readGroup_58 : decode (gw_mC M_X9_readGroup) 58 = .ok (.istore_n 2, 1) := by decide +kernel
theorem d_X9_readGroup_59 : decode (gw_mC M_X9_readGroup) 59 = .ok (.iload_n 3, 1) := by decide +kernel
theorem d_X9_readGroup_60 : decode (gw_mC M_X9_readGroup) 60 = .ok (.ifCond .eq 27, 3) := by decide +kernel
theorem d_X9_readGroup_63 : decode (gw_mC M_X9_readGroup) 63 = .ok (.iload_n 2, 1) := by decide +kernel
theorem d_X9_readGroup_64 : decode (gw_mC M_X9_readGroup) 64 = .ok (.ifCond .ne 19, 3) := by decide +kernel
theorem d_X9_readGroup_67 : decode (gw_mC M_X9_readGroup) 67 = .ok (.iload 4, 2) := by decide +kernel
theorem d_X9_readGroup_69 : decode (gw_mC M_X9_readGroup) 69 = .ok (.bipush 10, 2) := by decide +kernel
theorem d_X9_readGroup_71 : decode (gw_mC M_X9_readGroup) 71 = .ok (.if_icmp .ge 16, 3) := by decide +kernel
theorem d_X9_readGroup_74 : decode (gw_mC M_X9_readGroup) 74 = .ok (.aload_n 0, 1) := by decide +kernel
theorem d_X9_readGroup_75 : decode (gw_mC M_X9_readGroup) 75 = .ok (.bipush 44, 2) := by decide +kernel
theorem d_X9_readGroup_77 : decode (gw_mC M_X9_readGroup) 77 = .ok (.invokevirtual 44, 3) := by decide +kernel
theorem d_X9_readGroup_80 : decode (gw_mC M_X9_readGroup) 80 = .ok (.ifCond .eq 7, 3) := by decide +kernel
theorem d_X9_readGroup_83 : decode (gw_mC M_X9_readGroup) 83 = .ok (.iconst 1, 1) := by decide +kernel
theorem d_X9_readGroup_84 : decode (gw_mC M_X9_readGroup) 84 = .ok (.goto 4, 3) := by decide +kernel
theorem d_X9_readGroup_87 : decode (gw_mC M_X9_readGroup) 87 = .ok (.iconst 0, 1) := by decide +kernel
theorem d_X9_readGroup_88 : decode (gw_mC M_X9_readGroup) 88 = .ok (.istore_n 3, 1) := by decide +kernel
theorem d_X9_readGroup_89 : decode (gw_mC M_X9_readGroup) 89 = .ok (.goto (-72), 3) := by decide +kernel
theorem d_X9_readGroup_92 : decode (gw_mC M_X9_readGroup) 92 = .ok (.aload_n 0, 1) := by decide +kernel
theorem d_X9_readGroup_93 : decode (gw_mC M_X9_readGroup) 93 = .ok (.iconst 0, 1) := by decide +kernel
theorem d_X9_readGroup_94 : decode (gw_mC M_X9_readGroup) 94 = .ok (.putfield 15, 3) := by decide +kernel
theorem d_X9_readGroup_97 : decode (gw_mC M_X9_readGroup) 97 = .ok (.iload_n 3, 1) := by decide +kernel
theorem d_X9_readGroup_98 : decode (gw_mC M_X9_readGroup) 98 = .ok (.ifCond .eq 8, 3) := by decide +kernel
theorem d_X9_readGroup_101 : decode (gw_mC M_X9_readGroup) 101 = .ok (.iload 4, 2) := by decide +kernel
theorem d_X9_readGroup_103 : decode (gw_mC M_X9_readGroup) 103 = .ok (.goto 10, 3) := by decide +kernel
theorem d_X9_readGroup_106 : decode (gw_mC M_X9_readGroup) 106 = .ok (.bipush (-20), 2) := by decide +kernel
theorem d_X9_readGroup_108 : decode (gw_mC M_X9_readGroup) 108 = .ok (.aload_n 0, 1) := by decide +kernel
theorem d_X9_readGroup_109 : decode (gw_mC M_X9_readGroup) 109 = .ok (.getfield 19, 3) := by decide +kernel
theorem d_X9_readGroup_112 : decode (gw_mC M_X9_readGroup) 112 = .ok (.isub, 1) := by decide +kernel
theorem d_X9_readGroup_113 : decode (gw_mC M_X9_readGroup) 113 = .ok (.ireturn, 1) := by decide +kernel
theorem d_X9_readMark_0 : decode (gw_mC M_X9_readMark) 0 = .ok (.aload_n 0, 1) := by decide +kernel
theorem d_X9_readMark_1 : decode (gw_mC M_X9_readMark) 1 = .ok (.ldc 57, 2) := by decide +kernel
theorem d_X9_readMark_3 : decode (gw_mC M_X9_readMark) 3 = .ok (.invokevirtual 59, 3) := by decide +kernel
theorem d_X9_readMark_6 : decode (gw_mC M_X9_readMark) 6 = .ok (.istore_n 2, 1) := by decide +kernel
theorem d_X9_readMark_7 : decode (gw_mC M_X9_readMark) 7 = .ok (.iload_n 2, 1) := by decide +kernel
theorem d_X9_readMark_8 : decode (gw_mC M_X9_readMark) 8 = .ok (.ifCond .ge 5, 3) := by decide +kernel
theorem d_X9_readMark_11 : decode (gw_mC M_X9_readMark) 11 = .ok (.iconst 0, 1) := by decide +kernel
theorem d_X9_readMark_12 : decode (gw_mC M_X9_readMark) 12 = .ok (.ireturn, 1) := by decide +kernel
theorem d_X9_readMark_13 : decode (gw_mC M_X9_readMark) 13 = .ok (.aload_n 0, 1) := by decide +kernel
theorem d_X9_readMark_14 : decode (gw_mC M_X9_readMark) 14 = .ok (.dup, 1) := by decide +kernel
theorem d_X9_readMark_15 : decode (gw_mC M_X9_readMark) 15 = .ok (.getfield 19, 3) := by decide +kernel
theorem d_X9_readMark_18 : decode (gw_mC M_X9_readMark) 18 = .ok (.iconst 1, 1) := by decide +kernel
theorem d_X9_readMark_19 : decode (gw_mC M_X9_readMark) 19 = .ok (.iadd, 1) := by decide +kernel
theorem d_X9_readMark_20 : decode (gw_mC M_X9_readMark) 20 = .ok (.putfield 19, 3) := by decide +kernel
theorem d_X9_readMark_23 : decode (gw_mC M_X9_readMark) 23 = .ok (.aload_n 0, 1) := by decide +kernel
theorem d_X9_readMark_24 : decode (gw_mC M_X9_readMark) 24 = .ok (.iconst 0, 1) := by decide +kernel
theorem d_X9_readMark_25 : decode (gw_mC M_X9_readMark) 25 = .ok (.bipush 99, 2) := by decide +kernel
theorem d_X9_readMark_27 : decode (gw_mC M_X9_readMark) 27 = .ok (.invokevirtual 63, 3) := by decide +kernel
theorem d_X9_readMark_30 : decode (gw_mC M_X9_readMark) 30 = .ok (.istore_n 3, 1) := by decide +kernel
theorem d_X9_readMark_31 : decode (gw_mC M_X9_readMark) 31 = .ok (.iload_n 3, 1) := by decide +kernel
theorem d_X9_readMark_32 : decode (gw_mC M_X9_readMark) 32 = .ok (.ifCond .ge 5, 3) := by decide +kernel
theorem d_X9_readMark_35 : decode (gw_mC M_X9_readMark) 35 = .ok (.iconst 0, 1) := by decide +kernel
theorem d_X9_readMark_36 : decode (gw_mC M_X9_readMark) 36 = .ok (.ireturn, 1) := by decide +kernel
theorem d_X9_readMark_37 : decode (gw_mC M_X9_readMark) 37 = .ok (.aload_n 1, 1) := by decide +kernel
theorem d_X9_readMark_38 : decode (gw_mC M_X9_readMark) 38 = .ok (.iload_n 2, 1) := by decide +kernel
theorem d_X9_readMark_39 : decode (gw_mC M_X9_readMark) 39 = .ok (.iload_n 3, 1) := by decide +kernel
theorem d_X9_readMark_40 : decode (gw_mC M_X9_readMark) 40 = .ok (.invokevirtual 67, 3) := by decide +kernel
theorem d_X9_readMark_43 : decode (gw_mC M_X9_readMark) 43 = .ok (.ifCond .eq 13, 3) := by decide +kernel
theorem d_X9_readMark_46 : decode (gw_mC M_X9_readMark) 46 = .ok (.aload_n 0, 1) := by decide +kernel
theorem d_X9_readMark_47 : decode (gw_mC M_X9_readMark) 47 = .ok (.aload_n 0, 1) := by decide +kernel
theorem d_X9_readMark_48 : decode (gw_mC M_X9_readMark) 48 = .ok (.getfield 22, 3) := by decide +kernel
theorem d_X9_readMark_51 : decode (gw_mC M_X9_readMark) 51 = .ok (.putfield 19, 3) := by decide +kernel
theorem d_X9_readMark_54 : decode (gw_mC M_X9_readMark) 54 = .ok (.iconst 0, 1) := by decide +kernel
theorem d_X9_readMark_55 : decode (gw_mC M_X9_readMark) 55 = .ok (.ireturn, 1) := by decide +kernel
theorem d_X9_readMark_56 : decode (gw_mC M_X9_readMark) 56 = .ok (.aload_n 0, 1) := by decide +kernel
theorem d_X9_readMark_57 : decode (gw_mC M_X9_readMark) 57 = .ok (.bipush 58, 2) := by decide +kernel
theorem d_X9_readMark_59 : decode (gw_mC M_X9_readMark) 59 = .ok (.invokevirtual 44, 3) := by decide +kernel
theorem d_X9_readMark_62 : decode (gw_mC M_X9_readMark) 62 = .ok (.ifCond .ne 5, 3) := by decide +kernel
theorem d_X9_readMark_65 : decode (gw_mC M_X9_readMark) 65 = .ok (.iconst 0, 1) := by decide +kernel
theorem d_X9_readMark_66 : decode (gw_mC M_X9_readMark) 66 = .ok (.ireturn, 1) := by decide +kernel
theorem d_X9_readMark_67 : decode (gw_mC M_X9_readMark) 67 = .ok (.aload_n 0, 1) := by decide +kernel
theorem d_X9_readMark_68 : decode (gw_mC M_X9_readMark) 68 = .ok (.getstatic 71, 3) := by decide +kernel
theorem d_X9_readMark_71 : decode (gw_mC M_X9_readMark) 71 = .ok (.iload_n 2, 1) := by decide +kernel
theorem d_X9_readMark_72 : decode (gw_mC M_X9_readMark) 72 = .ok (.iaload, 1) := by decide +kernel
theorem d_X9_readMark_73 : decode (gw_mC M_X9_readMark) 73 = .ok (.getstatic 75, 3) := by decide +kernel
theorem d_X9_readMark_76 : decode (gw_mC M_X9_readMark) 76 = .ok (.iload_n 2, 1) := by decide +kernel
theorem d_X9_readMark_77 : decode (gw_mC M_X9_readMark) 77 = .ok (.iaload, 1) := by decide +kernel
theorem d_X9_readMark_78 : decode (gw_mC M_X9_readMark) 78 = .ok (.invokevirtual 63, 3) := by decide +kernel
theorem d_X9_readMark_81 : decode (gw_mC M_X9_readMark) 81 = .ok (.istore 4, 2) := by decide +kernel
theorem d_X9_readMark_83 : decode (gw_mC M_X9_readMark) 83 = .ok (.iload 4, 2) := by decide +kernel
theorem d_X9_readMark_85 : decode (gw_mC M_X9_readMark) 85 = .ok (.ifCond .lt 18, 3) := by decide +kernel
theorem d_X9_readMark_88 : decode (gw_mC M_X9_readMark) 88 = .ok (.aload_n 1, 1) := by decide +kernel
theorem d_X9_readMark_89 : decode (gw_mC M_X9_readMark) 89 = .ok (.iload_n 2, 1) := by decide +kernel
theorem d_X9_readMark_90 : decode (gw_mC M_X9_readMark) 90 = .ok (.iload_n 3, 1) := by decide +kernel
theorem d_X9_readMark_91 : decode (gw_mC M_X9_readMark) 91 = .ok (.iload 4, 2) := by decide +kernel
theorem d_X9_readMark_93 : decode (gw_mC M_X9_readMark) 93 = .ok (.invokevirtual 78, 3) := by decide +kernel
theorem d_X9_readMark_96 : decode (gw_mC M_X9_readMark) 96 = .ok (.ifCond .lt 7, 3) := by decide +kernel
theorem d_X9_readMark_99 : decode (gw_mC M_X9_readMark) 99 = .ok (.iconst 1, 1) := by decide +kernel
theorem d_X9_readMark_100 : decode (gw_mC M_X9_readMark) 100 = .ok (.goto 4, 3) := by decide +kernel
theorem d_X9_readMark_103 : decode (gw_mC M_X9_readMark) 103 = .ok (.iconst 0, 1) := by decide +kernel
theorem d_X9_readMark_104 : decode (gw_mC M_X9_readMark) 104 = .ok (.ireturn, 1) := by decide +kernel
theorem d_X9_readPerson_0 : decode (gw_mC M_X9_readPerson) 0 = .ok (.aload_n 0, 1) := by decide +kernel
theorem d_X9_readPerson_1 : decode (gw_mC M_X9_readPerson) 1 = .ok (.ldc 82, 2) := by decide +kernel
theorem d_X9_readPerson_3 : decode (gw_mC M_X9_readPerson) 3 = .ok (.invokevirtual 59, 3) := by decide +kernel
theorem d_X9_readPerson_6 : decode (gw_mC M_X9_readPerson) 6 = .ok (.istore_n 2, 1) := by decide +kernel
theorem d_X9_readPerson_7 : decode (gw_mC M_X9_readPerson) 7 = .ok (.iload_n 2, 1) := by decide +kernel
theorem d_X9_readPerson_8 : decode (gw_mC M_X9_readPerson) 8 = .ok (.ifCond .lt 15, 3) := by decide +kernel
theorem d_X9_readPerson_11 : decode (gw_mC M_X9_readPerson) 11 = .ok (.iload_n 2, 1) := by decide +kernel
theorem d_X9_readPerson_12 : decode (gw_mC M_X9_readPerson) 12 = .ok (.iconst 3, 1) := by decide +kernel
theorem d_X9_readPerson_13 : decode (gw_mC M_X9_readPerson) 13 = .ok (.if_icmp .ne 12, 3) := by decide +kernel
theorem d_X9_readPerson_16 : decode (gw_mC M_X9_readPerson) 16 = .ok (.aload_n 1, 1) := by decide +kernel
theorem d_X9_readPerson_17 : decode (gw_mC M_X9_readPerson) 17 = .ok (.invokevirtual 84, 3) := by decide +kernel
theorem d_X9_readPerson_20 : decode (gw_mC M_X9_readPerson) 20 = .ok (.ifCond .lt 5, 3) := by decide +kernel
theorem d_X9_readPerson_23 : decode (gw_mC M_X9_readPerson) 23 = .ok (.iconst 0, 1) := by decide +kernel
theorem d_X9_readPerson_24 : decode (gw_mC M_X9_readPerson) 24 = .ok (.ireturn, 1) := by decide +kernel
theorem d_X9_readPerson_25 : decode (gw_mC M_X9_readPerson) 25 = .ok (.aload_n 0, 1) := by decide +kernel
theorem d_X9_readPerson_26 : decode (gw_mC M_X9_readPerson) 26 = .ok (.dup, 1) := by decide +kernel
theorem d_X9_readPerson_27 : decode (gw_mC M_X9_readPerson) 27 = .ok (.getfield 19, 3) := by decide +kernel
theorem d_X9_readPerson_30 : decode (gw_mC M_X9_readPerson) 30 = .ok (.iconst 1, 1) := by decide +kernel
theorem d_X9_readPerson_31 : decode (gw_mC M_X9_readPerson) 31 = .ok (.iadd, 1) := by decide +kernel
theorem d_X9_readPerson_32 : decode (gw_mC M_X9_readPerson) 32 = .ok (.putfield 19, 3) := by decide +kernel
theorem d_X9_readPerson_35 : decode (gw_mC M_X9_readPerson) 35 = .ok (.aload_n 0, 1) := by decide +kernel
theorem d_X9_readPerson_36 : decode (gw_mC M_X9_readPerson) 36 = .ok (.invokevirtual 40, 3) := by decide +kernel
theorem d_X9_readPerson_39 : decode (gw_mC M_X9_readPerson) 39 = .ok (.bipush 48, 2) := by decide +kernel
theorem d_X9_readPerson_41 : decode (gw_mC M_X9_readPerson) 41 = .ok (.isub, 1) := by decide +kernel
theorem d_X9_readPerson_42 : decode (gw_mC M_X9_readPerson) 42 = .ok (.istore_n 3, 1) := by decide +kernel
theorem d_X9_readPerson_43 : decode (gw_mC M_X9_readPerson) 43 = .ok (.iload_n 3, 1) := by decide +kernel
theorem d_X9_readPerson_44 : decode (gw_mC M_X9_readPerson) 44 = .ok (.iconst 1, 1) := by decide +kernel
theorem d_X9_readPerson_45 : decode (gw_mC M_X9_readPerson) 45 = .ok (.iconst 4, 1) := by decide +kernel
theorem d_X9_readPerson_46 : decode (gw_mC M_X9_readPerson) 46 = .ok (.invokestatic 27, 3) := by decide +kernel
theorem d_X9_readPerson_49 : decode (gw_mC M_X9_readPerson) 49 = .ok (.ifCond .ne 5, 3) := by decide +kernel
theorem d_X9_readPerson_52 : decode (gw_mC M_X9_readPerson) 52 = .ok (.iconst 0, 1) := by decide +kernel
theorem d_X9_readPerson_53 : decode (gw_mC M_X9_readPerson) 53 = .ok (.ireturn, 1) := by decide +kernel
theorem d_X9_readPerson_54 : decode (gw_mC M_X9_readPerson) 54 = .ok (.aload_n 0, 1) := by decide +kernel
theorem d_X9_readPerson_55 : decode (gw_mC M_X9_readPerson) 55 = .ok (.dup, 1) := by decide +kernel
theorem d_X9_readPerson_56 : decode (gw_mC M_X9_readPerson) 56 = .ok (.getfield 19, 3) := by decide +kernel
theorem d_X9_readPerson_59 : decode (gw_mC M_X9_readPerson) 59 = .ok (.iconst 1, 1) := by decide +kernel
theorem d_X9_readPerson_60 : decode (gw_mC M_X9_readPerson) 60 = .ok (.iadd, 1) := by decide +kernel
theorem d_X9_readPerson_61 : decode (gw_mC M_X9_readPerson) 61 = .ok (.putfield 19, 3) := by decide +kernel
theorem d_X9_readPerson_64 : decode (gw_mC M_X9_readPerson) 64 = .ok (.aload_n 0, 1) := by decide +kernel
theorem d_X9_readPerson_65 : decode (gw_mC M_X9_readPerson) 65 = .ok (.bipush 101, 2) := by decide +kernel
theorem d_X9_readPerson_67 : decode (gw_mC M_X9_readPerson) 67 = .ok (.invokevirtual 44, 3) := by decide +kernel
theorem d_X9_readPerson_70 : decode (gw_mC M_X9_readPerson) 70 = .ok (.istore 4, 2) := by decide +kernel
theorem d_X9_readPerson_72 : decode (gw_mC M_X9_readPerson) 72 = .ok (.aload_n 1, 1) := by decide +kernel
theorem d_X9_readPerson_73 : decode (gw_mC M_X9_readPerson) 73 = .ok (.iload_n 2, 1) := by decide +kernel
theorem d_X9_readPerson_74 : decode (gw_mC M_X9_readPerson) 74 = .ok (.iload_n 3, 1) := by decide +kernel
theorem d_X9_readPerson_75 : decode (gw_mC M_X9_readPerson) 75 = .ok (.iload 4, 2) := by decide +kernel
theorem d_X9_readPerson_77 : decode (gw_mC M_X9_readPerson) 77 = .ok (.invokevirtual 87, 3) := by decide +kernel
theorem d_X9_readPerson_80 : decode (gw_mC M_X9_readPerson) 80 = .ok (.ifCond .lt 7, 3) := by decide +kernel
theorem d_X9_readPerson_83 : decode (gw_mC M_X9_readPerson) 83 = .ok (.iconst 1, 1) := by decide +kernel
theorem d_X9_readPerson_84 : decode (gw_mC M_X9_readPerson) 84 = .ok (.goto 4, 3) := by decide +kernel
theorem d_X9_readPerson_87 : decode (gw_mC M_X9_readPerson) 87 = .ok (.iconst 0, 1) := by decide +kernel
theorem d_X9_readPerson_88 : decode (gw_mC M_X9_readPerson) 88 = .ok (.ireturn, 1) := by decide +kernel
theorem d_X9_readNumber_0 : decode (gw_mC M_X9_readNumber) 0 = .ok (.aload_n 0, 1) := by decide +kernel
theorem d_X9_readNumber_1 : decode (gw_mC M_X9_readNumber) 1 = .ok (.invokevirtual 40, 3) := by decide +kernel
theorem d_X9_readNumber_4 : decode (gw_mC M_X9_readNumber) 4 = .ok (.istore_n 3, 1) := by decide +kernel
theorem d_X9_readNumber_5 : decode (gw_mC M_X9_readNumber) 5 = .ok (.aload_n 0, 1) := by decide +kernel
theorem d_X9_readNumber_6 : decode (gw_mC M_X9_readNumber) 6 = .ok (.aload_n 0, 1) := by decide +kernel
theorem d_X9_readNumber_7 : decode (gw_mC M_X9_readNumber) 7 = .ok (.getfield 19, 3) := by decide +kernel
theorem d_X9_readNumber_10 : decode (gw_mC M_X9_readNumber) 10 = .ok (.putfield 22, 3) := by decide +kernel
theorem d_X9_readNumber_13 : decode (gw_mC M_X9_readNumber) 13 = .ok (.iload_n 3, 1) := by decide +kernel
theorem d_X9_readNumber_14 : decode (gw_mC M_X9_readNumber) 14 = .ok (.bipush 48, 2) := by decide +kernel
theorem d_X9_readNumber_16 : decode (gw_mC M_X9_readNumber) 16 = .ok (.bipush 57, 2) := by decide +kernel
theorem d_X9_readNumber_18 : decode (gw_mC M_X9_readNumber) 18 = .ok (.invokestatic 27, 3) := by decide +kernel
theorem d_X9_readNumber_21 : decode (gw_mC M_X9_readNumber) 21 = .ok (.ifCond .ne 5, 3) := by decide +kernel
theorem d_X9_readNumber_24 : decode (gw_mC M_X9_readNumber) 24 = .ok (.iconst (-1), 1) := by decide +kernel
theorem d_X9_readNumber_25 : decode (gw_mC M_X9_readNumber) 25 = .ok (.ireturn, 1) := by decide +kernel
theorem d_X9_readNumber_26 : decode (gw_mC M_X9_readNumber) 26 = .ok (.iconst 0, 1) := by decide +kernel
theorem d_X9_readNumber_27 : decode (gw_mC M_X9_readNumber) 27 = .ok (.istore 4, 2) := by decide +kernel
theorem d_X9_readNumber_29 : decode (gw_mC M_X9_readNumber) 29 = .ok (.aload_n 0, 1) := by decide +kernel
theorem d_X9_readNumber_30 : decode (gw_mC M_X9_readNumber) 30 = .ok (.getfield 19, 3) := by decide +kernel
theorem d_X9_readNumber_33 : decode (gw_mC M_X9_readNumber) 33 = .ok (.aload_n 0, 1) := by decide +kernel
theorem d_X9_readNumber_34 : decode (gw_mC M_X9_readNumber) 34 = .ok (.getfield 15, 3) := by decide +kernel
theorem d_X9_readNumber_37 : decode (gw_mC M_X9_readNumber) 37 = .ok (.if_icmp .ge 61, 3) := by decide +kernel
theorem d_X9_readNumber_40 : decode (gw_mC M_X9_readNumber) 40 = .ok (.aload_n 0, 1) := by decide +kernel
theorem d_X9_readNumber_41 : decode (gw_mC M_X9_readNumber) 41 = .ok (.getfield 9, 3) := by decide +kernel
theorem d_X9_readNumber_44 : decode (gw_mC M_X9_readNumber) 44 = .ok (.aload_n 0, 1) := by decide +kernel
theorem d_X9_readNumber_45 : decode (gw_mC M_X9_readNumber) 45 = .ok (.getfield 19, 3) := by decide +kernel
theorem d_X9_readNumber_48 : decode (gw_mC M_X9_readNumber) 48 = .ok (.baload, 1) := by decide +kernel
theorem d_X9_readNumber_49 : decode (gw_mC M_X9_readNumber) 49 = .ok (.bipush 48, 2) := by decide +kernel
theorem d_X9_readNumber_51 : decode (gw_mC M_X9_readNumber) 51 = .ok (.bipush 57, 2) := by decide +kernel
theorem d_X9_readNumber_53 : decode (gw_mC M_X9_readNumber) 53 = .ok (.invokestatic 27, 3) := by decide +kernel
theorem d_X9_readNumber_56 : decode (gw_mC M_X9_readNumber) 56 = .ok (.ifCond .eq 42, 3) := by decide +kernel
theorem d_X9_readNumber_59 : decode (gw_mC M_X9_readNumber) 59 = .ok (.bipush 10, 2) := by decide +kernel
theorem d_X9_readNumber_61 : decode (gw_mC M_X9_readNumber) 61 = .ok (.iload 4, 2) := by decide +kernel
theorem d_X9_readNumber_63 : decode (gw_mC M_X9_readNumber) 63 = .ok (.imul, 1) := by decide +kernel
theorem d_X9_readNumber_64 : decode (gw_mC M_X9_readNumber) 64 = .ok (.aload_n 0, 1) := by decide +kernel
theorem d_X9_readNumber_65 : decode (gw_mC M_X9_readNumber) 65 = .ok (.getfield 9, 3) := by decide +kernel
theorem d_X9_readNumber_68 : decode (gw_mC M_X9_readNumber) 68 = .ok (.aload_n 0, 1) := by decide +kernel
theorem d_X9_readNumber_69 : decode (gw_mC M_X9_readNumber) 69 = .ok (.getfield 19, 3) := by decide +kernel
theorem d_X9_readNumber_72 : decode (gw_mC M_X9_readNumber) 72 = .ok (.baload, 1) := by decide +kernel
theorem d_X9_readNumber_73 : decode (gw_mC M_X9_readNumber) 73 = .ok (.iadd, 1) := by decide +kernel
theorem d_X9_readNumber_74 : decode (gw_mC M_X9_readNumber) 74 = .ok (.bipush 48, 2) := by decide +kernel
theorem d_X9_readNumber_76 : decode (gw_mC M_X9_readNumber) 76 = .ok (.isub, 1) := by decide +kernel
theorem d_X9_readNumber_77 : decode (gw_mC M_X9_readNumber) 77 = .ok (.sipush 1000, 3) := by decide +kernel
theorem d_X9_readNumber_80 : decode (gw_mC M_X9_readNumber) 80 = .ok (.invokestatic 90, 3) := by decide +kernel
theorem d_X9_readNumber_83 : decode (gw_mC M_X9_readNumber) 83 = .ok (.istore 4, 2) := by decide +kernel
theorem d_X9_readNumber_85 : decode (gw_mC M_X9_readNumber) 85 = .ok (.aload_n 0, 1) := by decide +kernel
theorem d_X9_readNumber_86 : decode (gw_mC M_X9_readNumber) 86 = .ok (.dup, 1) := by decide +kernel
theorem d_X9_readNumber_87 : decode (gw_mC M_X9_readNumber) 87 = .ok (.getfield 19, 3) := by decide +kernel
theorem d_X9_readNumber_90 : decode (gw_mC M_X9_readNumber) 90 = .ok (.iconst 1, 1) := by decide +kernel
theorem d_X9_readNumber_91 : decode (gw_mC M_X9_readNumber) 91 = .ok (.iadd, 1) := by decide +kernel
theorem d_X9_readNumber_92 : decode (gw_mC M_X9_readNumber) 92 = .ok (.putfield 19, 3) := by decide +kernel
theorem d_X9_readNumber_95 : decode (gw_mC M_X9_readNumber) 95 = .ok (.goto (-66), 3) := by decide +kernel
theorem d_X9_readNumber_98 : decode (gw_mC M_X9_readNumber) 98 = .ok (.iload 4, 2) := by decide +kernel
theorem d_X9_readNumber_100 : decode (gw_mC M_X9_readNumber) 100 = .ok (.iload_n 1, 1) := by decide +kernel
theorem d_X9_readNumber_101 : decode (gw_mC M_X9_readNumber) 101 = .ok (.iload_n 2, 1) := by decide +kernel
theorem d_X9_readNumber_102 : decode (gw_mC M_X9_readNumber) 102 = .ok (.invokestatic 27, 3) := by decide +kernel
theorem d_X9_readNumber_105 : decode (gw_mC M_X9_readNumber) 105 = .ok (.ifCond .ne 13, 3) := by decide +kernel
theorem d_X9_readNumber_108 : decode (gw_mC M_X9_readNumber) 108 = .ok (.aload_n 0, 1) := by decide +kernel
theorem d_X9_readNumber_109 : decode (gw_mC M_X9_readNumber) 109 = .ok (.aload_n 0, 1) := by decide +kernel
theorem d_X9_readNumber_110 : decode (gw_mC M_X9_readNumber) 110 = .ok (.getfield 22, 3) := by decide +kernel
theorem d_X9_readNumber_113 : decode (gw_mC M_X9_readNumber) 113 = .ok (.putfield 19, 3) := by decide +kernel
theorem d_X9_readNumber_116 : decode (gw_mC M_X9_readNumber) 116 = .ok (.iconst (-1), 1) := by decide +kernel
theorem d_X9_readNumber_117 : decode (gw_mC M_X9_readNumber) 117 = .ok (.ireturn, 1) := by decide +kernel
theorem d_X9_readNumber_118 : decode (gw_mC M_X9_readNumber) 118 = .ok (.iload 4, 2) := by decide +kernel
theorem d_X9_readNumber_120 : decode (gw_mC M_X9_readNumber) 120 = .ok (.ireturn, 1) := by decide +kernel
theorem d_X9_next_0 : decode (gw_mC M_X9_next) 0 = .ok (.aload_n 0, 1) := by decide +kernel
theorem d_X9_next_1 : decode (gw_mC M_X9_next) 1 = .ok (.getfield 19, 3) := by decide +kernel
theorem d_X9_next_4 : decode (gw_mC M_X9_next) 4 = .ok (.aload_n 0, 1) := by decide +kernel
theorem d_X9_next_5 : decode (gw_mC M_X9_next) 5 = .ok (.getfield 15, 3) := by decide +kernel
theorem d_X9_next_8 : decode (gw_mC M_X9_next) 8 = .ok (.if_icmp .ge 30, 3) := by decide +kernel
theorem d_X9_next_11 : decode (gw_mC M_X9_next) 11 = .ok (.aload_n 0, 1) := by decide +kernel
theorem d_X9_next_12 : decode (gw_mC M_X9_next) 12 = .ok (.getfield 9, 3) := by decide +kernel
theorem d_X9_next_15 : decode (gw_mC M_X9_next) 15 = .ok (.aload_n 0, 1) := by decide +kernel
theorem d_X9_next_16 : decode (gw_mC M_X9_next) 16 = .ok (.getfield 19, 3) := by decide +kernel
theorem d_X9_next_19 : decode (gw_mC M_X9_next) 19 = .ok (.baload, 1) := by decide +kernel
theorem d_X9_next_20 : decode (gw_mC M_X9_next) 20 = .ok (.bipush 32, 2) := by decide +kernel
theorem d_X9_next_22 : decode (gw_mC M_X9_next) 22 = .ok (.if_icmp .ne 16, 3) := by decide +kernel
theorem d_X9_next_25 : decode (gw_mC M_X9_next) 25 = .ok (.aload_n 0, 1) := by decide +kernel
theorem d_X9_next_26 : decode (gw_mC M_X9_next) 26 = .ok (.dup, 1) := by decide +kernel
theorem d_X9_next_27 : decode (gw_mC M_X9_next) 27 = .ok (.getfield 19, 3) := by decide +kernel
theorem d_X9_next_30 : decode (gw_mC M_X9_next) 30 = .ok (.iconst 1, 1) := by decide +kernel
theorem d_X9_next_31 : decode (gw_mC M_X9_next) 31 = .ok (.iadd, 1) := by decide +kernel
theorem d_X9_next_32 : decode (gw_mC M_X9_next) 32 = .ok (.putfield 19, 3) := by decide +kernel
theorem d_X9_next_35 : decode (gw_mC M_X9_next) 35 = .ok (.goto (-35), 3) := by decide +kernel
theorem d_X9_next_38 : decode (gw_mC M_X9_next) 38 = .ok (.aload_n 0, 1) := by decide +kernel
theorem d_X9_next_39 : decode (gw_mC M_X9_next) 39 = .ok (.getfield 19, 3) := by decide +kernel
theorem d_X9_next_42 : decode (gw_mC M_X9_next) 42 = .ok (.aload_n 0, 1) := by decide +kernel
theorem d_X9_next_43 : decode (gw_mC M_X9_next) 43 = .ok (.getfield 15, 3) := by decide +kernel
theorem d_X9_next_46 : decode (gw_mC M_X9_next) 46 = .ok (.if_icmp .ge 15, 3) := by decide +kernel
theorem d_X9_next_49 : decode (gw_mC M_X9_next) 49 = .ok (.aload_n 0, 1) := by decide +kernel
theorem d_X9_next_50 : decode (gw_mC M_X9_next) 50 = .ok (.getfield 9, 3) := by decide +kernel
theorem d_X9_next_53 : decode (gw_mC M_X9_next) 53 = .ok (.aload_n 0, 1) := by decide +kernel
theorem d_X9_next_54 : decode (gw_mC M_X9_next) 54 = .ok (.getfield 19, 3) := by decide +kernel
theorem d_X9_next_57 : decode (gw_mC M_X9_next) 57 = .ok (.baload, 1) := by decide +kernel
theorem d_X9_next_58 : decode (gw_mC M_X9_next) 58 = .ok (.goto 4, 3) := by decide +kernel
theorem d_X9_next_61 : decode (gw_mC M_X9_next) 61 = .ok (.iconst (-1), 1) := by decide +kernel
theorem d_X9_next_62 : decode (gw_mC M_X9_next) 62 = .ok (.ireturn, 1) := by decide +kernel
theorem d_X9_passes_0 : decode (gw_mC M_X9_passes) 0 = .ok (.aload_n 0, 1) := by decide +kernel
theorem d_X9_passes_1 : decode (gw_mC M_X9_passes) 1 = .ok (.invokevirtual 40, 3) := by decide +kernel
theorem d_X9_passes_4 : decode (gw_mC M_X9_passes) 4 = .ok (.iload_n 1, 1) := by decide +kernel
theorem d_X9_passes_5 : decode (gw_mC M_X9_passes) 5 = .ok (.if_icmp .eq 5, 3) := by decide +kernel
theorem d_X9_passes_8 : decode (gw_mC M_X9_passes) 8 = .ok (.iconst 0, 1) := by decide +kernel
theorem d_X9_passes_9 : decode (gw_mC M_X9_passes) 9 = .ok (.ireturn, 1) := by decide +kernel
theorem d_X9_passes_10 : decode (gw_mC M_X9_passes) 10 = .ok (.aload_n 0, 1) := by decide +kernel
theorem d_X9_passes_11 : decode (gw_mC M_X9_passes) 11 = .ok (.dup, 1) := by decide +kernel
theorem d_X9_passes_12 : decode (gw_mC M_X9_passes) 12 = .ok (.getfield 19, 3) := by decide +kernel
theorem d_X9_passes_15 : decode (gw_mC M_X9_passes) 15 = .ok (.iconst 1, 1) := by decide +kernel
theorem d_X9_passes_16 : decode (gw_mC M_X9_passes) 16 = .ok (.iadd, 1) := by decide +kernel
theorem d_X9_passes_17 : decode (gw_mC M_X9_passes) 17 = .ok (.putfield 19, 3) := by decide +kernel
theorem d_X9_passes_20 : decode (gw_mC M_X9_passes) 20 = .ok (.iconst 1, 1) := by decide +kernel
theorem d_X9_passes_21 : decode (gw_mC M_X9_passes) 21 = .ok (.ireturn, 1) := by decide +kernel
theorem d_X9_signNumber_0 : decode (gw_mC M_X9_signNumber) 0 = .ok (.aload_n 0, 1) := by decide +kernel
theorem d_X9_signNumber_1 : decode (gw_mC M_X9_signNumber) 1 = .ok (.invokevirtual 40, 3) := by decide +kernel
theorem d_X9_signNumber_4 : decode (gw_mC M_X9_signNumber) 4 = .ok (.istore_n 2, 1) := by decide +kernel
theorem d_X9_signNumber_5 : decode (gw_mC M_X9_signNumber) 5 = .ok (.iconst 0, 1) := by decide +kernel
theorem d_X9_signNumber_6 : decode (gw_mC M_X9_signNumber) 6 = .ok (.istore_n 3, 1) := by decide +kernel
theorem d_X9_signNumber_7 : decode (gw_mC M_X9_signNumber) 7 = .ok (.iload_n 3, 1) := by decide +kernel
theorem d_X9_signNumber_8 : decode (gw_mC M_X9_signNumber) 8 = .ok (.aload_n 1, 1) := by decide +kernel
theorem d_X9_signNumber_9 : decode (gw_mC M_X9_signNumber) 9 = .ok (.invokevirtual 95, 3) := by decide +kernel
theorem d_X9_signNumber_12 : decode (gw_mC M_X9_signNumber) 12 = .ok (.if_icmp .ge 20, 3) := by decide +kernel
theorem d_X9_signNumber_15 : decode (gw_mC M_X9_signNumber) 15 = .ok (.aload_n 1, 1) := by decide +kernel
theorem d_X9_signNumber_16 : decode (gw_mC M_X9_signNumber) 16 = .ok (.iload_n 3, 1) := by decide +kernel
theorem d_X9_signNumber_17 : decode (gw_mC M_X9_signNumber) 17 = .ok (.invokevirtual 99, 3) := by decide +kernel
theorem d_X9_signNumber_20 : decode (gw_mC M_X9_signNumber) 20 = .ok (.iload_n 2, 1) := by decide +kernel
theorem d_X9_signNumber_21 : decode (gw_mC M_X9_signNumber) 21 = .ok (.if_icmp .ne 5, 3) := by decide +kernel
theorem d_X9_signNumber_24 : decode (gw_mC M_X9_signNumber) 24 = .ok (.iload_n 3, 1) := by decide +kernel
theorem d_X9_signNumber_25 : decode (gw_mC M_X9_signNumber) 25 = .ok (.ireturn, 1) := by decide +kernel
theorem d_X9_signNumber_26 : decode (gw_mC M_X9_signNumber) 26 = .ok (.iinc 3 1, 3) := by decide +kernel
theorem d_X9_signNumber_29 : decode (gw_mC M_X9_signNumber) 29 = .ok (.goto (-22), 3) := by decide +kernel
theorem d_X9_signNumber_32 : decode (gw_mC M_X9_signNumber) 32 = .ok (.iconst (-1), 1) := by decide +kernel
theorem d_X9_signNumber_33 : decode (gw_mC M_X9_signNumber) 33 = .ok (.ireturn, 1) := by decide +kernel
theorem d_X10_init_0 : decode (gw_mC M_X10_init) 0 = .ok (.aload_n 0, 1) := by decide +kernel
theorem d_X10_init_1 : decode (gw_mC M_X10_init) 1 = .ok (.invokespecial 3, 3) := by decide +kernel
theorem d_X10_init_4 : decode (gw_mC M_X10_init) 4 = .ok (.aload_n 0, 1) := by decide +kernel
theorem d_X10_init_5 : decode (gw_mC M_X10_init) 5 = .ok (.new 9, 3) := by decide +kernel
theorem d_X10_init_8 : decode (gw_mC M_X10_init) 8 = .ok (.dup, 1) := by decide +kernel
theorem d_X10_init_9 : decode (gw_mC M_X10_init) 9 = .ok (.invokespecial 11, 3) := by decide +kernel
theorem d_X10_init_12 : decode (gw_mC M_X10_init) 12 = .ok (.putfield 12, 3) := by decide +kernel
theorem d_X10_init_15 : decode (gw_mC M_X10_init) 15 = .ok (.aload_n 0, 1) := by decide +kernel
theorem d_X10_init_16 : decode (gw_mC M_X10_init) 16 = .ok (.new 18, 3) := by decide +kernel
theorem d_X10_init_19 : decode (gw_mC M_X10_init) 19 = .ok (.dup, 1) := by decide +kernel
theorem d_X10_init_20 : decode (gw_mC M_X10_init) 20 = .ok (.invokespecial 20, 3) := by decide +kernel
theorem d_X10_init_23 : decode (gw_mC M_X10_init) 23 = .ok (.putfield 21, 3) := by decide +kernel
theorem d_X10_init_26 : decode (gw_mC M_X10_init) 26 = .ok (.aload_n 0, 1) := by decide +kernel
theorem d_X10_init_27 : decode (gw_mC M_X10_init) 27 = .ok (.iconst 5, 1) := by decide +kernel
theorem d_X10_init_28 : decode (gw_mC M_X10_init) 28 = .ok (.newarray .int, 2) := by decide +kernel
theorem d_X10_init_30 : decode (gw_mC M_X10_init) 30 = .ok (.putfield 25, 3) := by decide +kernel
theorem d_X10_init_33 : decode (gw_mC M_X10_init) 33 = .ok (.aload_n 0, 1) := by decide +kernel
theorem d_X10_init_34 : decode (gw_mC M_X10_init) 34 = .ok (.new 29, 3) := by decide +kernel
theorem d_X10_init_37 : decode (gw_mC M_X10_init) 37 = .ok (.dup, 1) := by decide +kernel
theorem d_X10_init_38 : decode (gw_mC M_X10_init) 38 = .ok (.invokespecial 31, 3) := by decide +kernel
theorem d_X10_init_41 : decode (gw_mC M_X10_init) 41 = .ok (.putfield 32, 3) := by decide +kernel
theorem d_X10_init_44 : decode (gw_mC M_X10_init) 44 = .ok (.aload_n 0, 1) := by decide +kernel
theorem d_X10_init_45 : decode (gw_mC M_X10_init) 45 = .ok (.iconst 0, 1) := by decide +kernel
theorem d_X10_init_46 : decode (gw_mC M_X10_init) 46 = .ok (.putfield 36, 3) := by decide +kernel
theorem d_X10_init_49 : decode (gw_mC M_X10_init) 49 = .ok (.aload_n 0, 1) := by decide +kernel
theorem d_X10_init_50 : decode (gw_mC M_X10_init) 50 = .ok (.bipush (-4), 2) := by decide +kernel
theorem d_X10_init_52 : decode (gw_mC M_X10_init) 52 = .ok (.putfield 40, 3) := by decide +kernel
theorem d_X10_init_55 : decode (gw_mC M_X10_init) 55 = .ok (.aload_n 0, 1) := by decide +kernel
theorem d_X10_init_56 : decode (gw_mC M_X10_init) 56 = .ok (.bipush (-4), 2) := by decide +kernel
theorem d_X10_init_58 : decode (gw_mC M_X10_init) 58 = .ok (.putfield 43, 3) := by decide +kernel
theorem d_X10_init_61 : decode (gw_mC M_X10_init) 61 = .ok (.aload_n 0, 1) := by decide +kernel
theorem d_X10_init_62 : decode (gw_mC M_X10_init) 62 = .ok (.iconst (-1), 1) := by decide +kernel
theorem d_X10_init_63 : decode (gw_mC M_X10_init) 63 = .ok (.putfield 46, 3) := by decide +kernel
theorem d_X10_init_66 : decode (gw_mC M_X10_init) 66 = .ok (.aload_n 0, 1) := by decide +kernel
theorem d_X10_init_67 : decode (gw_mC M_X10_init) 67 = .ok (.iconst 0, 1) := by decide +kernel
theorem d_X10_init_68 : decode (gw_mC M_X10_init) 68 = .ok (.putfield 49, 3) := by decide +kernel
theorem d_X10_init_71 : decode (gw_mC M_X10_init) 71 = .ok (.aload_n 0, 1) := by decide +kernel
theorem d_X10_init_72 : decode (gw_mC M_X10_init) 72 = .ok (.iconst (-1), 1) := by decide +kernel
theorem d_X10_init_73 : decode (gw_mC M_X10_init) 73 = .ok (.putfield 52, 3) := by decide +kernel
theorem d_X10_init_76 : decode (gw_mC M_X10_init) 76 = .ok (.aload_n 0, 1) := by decide +kernel
theorem d_X10_init_77 : decode (gw_mC M_X10_init) 77 = .ok (.bipush 10, 2) := by decide +kernel
theorem d_X10_init_79 : decode (gw_mC M_X10_init) 79 = .ok (.newarray .int, 2) := by decide +kernel
theorem d_X10_init_81 : decode (gw_mC M_X10_init) 81 = .ok (.putfield 55, 3) := by decide +kernel
theorem d_X10_init_84 : decode (gw_mC M_X10_init) 84 = .ok (.aload_n 0, 1) := by decide +kernel
theorem d_X10_init_85 : decode (gw_mC M_X10_init) 85 = .ok (.bipush 10, 2) := by decide +kernel
theorem d_X10_init_87 : decode (gw_mC M_X10_init) 87 = .ok (.newarray .int, 2) := by decide +kernel
theorem d_X10_init_89 : decode (gw_mC M_X10_init) 89 = .ok (.putfield 58, 3) := by decide +kernel
theorem d_X10_init_92 : decode (gw_mC M_X10_init) 92 = .ok (.aload_n 0, 1) := by decide +kernel
theorem d_X10_init_93 : decode (gw_mC M_X10_init) 93 = .ok (.bipush 10, 2) := by decide +kernel
theorem d_X10_init_95 : decode (gw_mC M_X10_init) 95 = .ok (.newarray .int, 2) := by decide +kernel
theorem d_X10_init_97 : decode (gw_mC M_X10_init) 97 = .ok (.putfield 61, 3) := by decide +kernel
theorem d_X10_init_100 : decode (gw_mC M_X10_init) 100 = .ok (.aload_n 0, 1) := by decide +kernel
theorem d_X10_init_101 : decode (gw_mC M_X10_init) 101 = .ok (.bipush 10, 2) := by decide +kernel
theorem d_X10_init_103 : decode (gw_mC M_X10_init) 103 = .ok (.newarray .int, 2) := by decide +kernel
theorem d_X10_init_105 : decode (gw_mC M_X10_init) 105 = .ok (.putfield 64, 3) := by decide +kernel
theorem d_X10_init_108 : decode (gw_mC M_X10_init) 108 = .ok (.aload_n 0, 1) := by decide +kernel
theorem d_X10_init_109 : decode (gw_mC M_X10_init) 109 = .ok (.bipush 10, 2) := by decide +kernel
theorem d_X10_init_111 : decode (gw_mC M_X10_init) 111 = .ok (.newarray .int, 2) := by decide +kernel
theorem d_X10_init_113 : decode (gw_mC M_X10_init) 113 = .ok (.putfield 67, 3) := by decide +kernel
theorem d_X10_init_116 : decode (gw_mC M_X10_init) 116 = .ok (.aload_n 0, 1) := by decide +kernel
theorem d_X10_init_117 : decode (gw_mC M_X10_init) 117 = .ok (.bipush 10, 2) := by decide +kernel
theorem d_X10_init_119 : decode (gw_mC M_X10_init) 119 = .ok (.newarray .int, 2) := by decide +kernel
theorem d_X10_init_121 : decode (gw_mC M_X10_init) 121 = .ok (.putfield 70, 3) := by decide +kernel
theorem d_X10_init_124 : decode (gw_mC M_X10_init) 124 = .ok (.return_, 1) := by decide +kernel
theorem d_X10_load_0 : decode (gw_mC M_X10_load) 0 = .ok (.aload_n 0, 1) := by decide +kernel
theorem d_X10_load_1 : decode (gw_mC M_X10_load) 1 = .ok (.getfield 12, 3) := by decide +kernel
theorem d_X10_load_4 : decode (gw_mC M_X10_load) 4 = .ok (.aload_n 1, 1) := by decide +kernel
theorem d_X10_load_5 : decode (gw_mC M_X10_load) 5 = .ok (.getfield 73, 3) := by decide +kernel
theorem d_X10_load_8 : decode (gw_mC M_X10_load) 8 = .ok (.aload_n 1, 1) := by decide +kernel
theorem d_X10_load_9 : decode (gw_mC M_X10_load) 9 = .ok (.getfield 79, 3) := by decide +kernel
theorem d_X10_load_12 : decode (gw_mC M_X10_load) 12 = .ok (.invokevirtual 82, 3) := by decide +kernel
theorem d_X10_load_15 : decode (gw_mC M_X10_load) 15 = .ok (.aload_n 0, 1) := by decide +kernel
theorem d_X10_load_16 : decode (gw_mC M_X10_load) 16 = .ok (.getfield 21, 3) := by decide +kernel
theorem d_X10_load_19 : decode (gw_mC M_X10_load) 19 = .ok (.aload_n 1, 1) := by decide +kernel
theorem d_X10_load_20 : decode (gw_mC M_X10_load) 20 = .ok (.getfield 86, 3) := by decide +kernel
theorem d_X10_load_23 : decode (gw_mC M_X10_load) 23 = .ok (.invokevirtual 87, 3) := by decide +kernel
theorem d_X10_load_26 : decode (gw_mC M_X10_load) 26 = .ok (.aload_n 1, 1) := by decide +kernel
theorem d_X10_load_27 : decode (gw_mC M_X10_load) 27 = .ok (.getfield 91, 3) := by decide +kernel
theorem d_X10_load_30 : decode (gw_mC M_X10_load) 30 = .ok (.iconst 0, 1) := by decide +kernel
theorem d_X10_load_31 : decode (gw_mC M_X10_load) 31 = .ok (.aload_n 0, 1) := by decide +kernel
theorem d_X10_load_32 : decode (gw_mC M_X10_load) 32 = .ok (.getfield 25, 3) := by decide +kernel
theorem d_X10_load_35 : decode (gw_mC M_X10_load) 35 = .ok (.iconst 0, 1) := by decide +kernel
theorem d_X10_load_36 : decode (gw_mC M_X10_load) 36 = .ok (.aload_n 0, 1) := by decide +kernel
theorem d_X10_load_37 : decode (gw_mC M_X10_load) 37 = .ok (.getfield 25, 3) := by decide +kernel
theorem d_X10_load_40 : decode (gw_mC M_X10_load) 40 = .ok (.arraylength, 1) := by decide +kernel
theorem d_X10_load_41 : decode (gw_mC M_X10_load) 41 = .ok (.invokestatic 92, 3) := by decide +kernel
theorem d_X10_load_44 : decode (gw_mC M_X10_load) 44 = .ok (.return_, 1) := by decide +kernel
theorem d_X10_takeRule_0 : decode (gw_mC M_X10_takeRule) 0 = .ok (.aload_n 0, 1) := by decide +kernel
theorem d_X10_takeRule_1 : decode (gw_mC M_X10_takeRule) 1 = .ok (.getfield 25, 3) := by decide +kernel
theorem d_X10_takeRule_4 : decode (gw_mC M_X10_takeRule) 4 = .ok (.iconst 0, 1) := by decide +kernel
theorem d_X10_takeRule_5 : decode (gw_mC M_X10_takeRule) 5 = .ok (.iload_n 1, 1) := by decide +kernel
theorem d_X10_takeRule_6 : decode (gw_mC M_X10_takeRule) 6 = .ok (.iastore, 1) := by decide +kernel
theorem d_X10_takeRule_7 : decode (gw_mC M_X10_takeRule) 7 = .ok (.aload_n 0, 1) := by decide +kernel
theorem d_X10_takeRule_8 : decode (gw_mC M_X10_takeRule) 8 = .ok (.getfield 25, 3) := by decide +kernel
theorem d_X10_takeRule_11 : decode (gw_mC M_X10_takeRule) 11 = .ok (.iconst 1, 1) := by decide +kernel
theorem d_X10_takeRule_12 : decode (gw_mC M_X10_takeRule) 12 = .ok (.iload_n 2, 1) := by decide +kernel
theorem d_X10_takeRule_13 : decode (gw_mC M_X10_takeRule) 13 = .ok (.iastore, 1) := by decide +kernel
theorem d_X10_takeRule_14 : decode (gw_mC M_X10_takeRule) 14 = .ok (.aload_n 0, 1) := by decide +kernel
theorem d_X10_takeRule_15 : decode (gw_mC M_X10_takeRule) 15 = .ok (.getfield 25, 3) := by decide +kernel
theorem d_X10_takeRule_18 : decode (gw_mC M_X10_takeRule) 18 = .ok (.iconst 2, 1) := by decide +kernel
theorem d_X10_takeRule_19 : decode (gw_mC M_X10_takeRule) 19 = .ok (.iload_n 3, 1) := by decide +kernel
theorem d_X10_takeRule_20 : decode (gw_mC M_X10_takeRule) 20 = .ok (.iastore, 1) := by decide +kernel
theorem d_X10_takeRule_21 : decode (gw_mC M_X10_takeRule) 21 = .ok (.return_, 1) := by decide +kernel
theorem d_X10_start_0 : decode (gw_mC M_X10_start) 0 = .ok (.aload_n 0, 1) := by decide +kernel
theorem d_X10_start_1 : decode (gw_mC M_X10_start) 1 = .ok (.getfield 32, 3) := by decide +kernel
theorem d_X10_start_4 : decode (gw_mC M_X10_start) 4 = .ok (.invokevirtual 98, 3) := by decide +kernel
theorem d_X10_start_7 : decode (gw_mC M_X10_start) 7 = .ok (.aload_n 0, 1) := by decide +kernel
theorem d_X10_start_8 : decode (gw_mC M_X10_start) 8 = .ok (.iconst 0, 1) := by decide +kernel
theorem d_X10_start_9 : decode (gw_mC M_X10_start) 9 = .ok (.putfield 36, 3) := by decide +kernel
theorem d_X10_start_12 : decode (gw_mC M_X10_start) 12 = .ok (.aload_n 0, 1) := by decide +kernel
theorem d_X10_start_13 : decode (gw_mC M_X10_start) 13 = .ok (.bipush (-4), 2) := by decide +kernel
theorem d_X10_start_15 : decode (gw_mC M_X10_start) 15 = .ok (.putfield 40, 3) := by decide +kernel
theorem d_X10_start_18 : decode (gw_mC M_X10_start) 18 = .ok (.aload_n 0, 1) := by decide +kernel
theorem d_X10_start_19 : decode (gw_mC M_X10_start) 19 = .ok (.bipush (-4), 2) := by decide +kernel
theorem d_X10_start_21 : decode (gw_mC M_X10_start) 21 = .ok (.putfield 43, 3) := by decide +kernel
theorem d_X10_start_24 : decode (gw_mC M_X10_start) 24 = .ok (.aload_n 0, 1) := by decide +kernel
theorem d_X10_start_25 : decode (gw_mC M_X10_start) 25 = .ok (.aload_n 0, 1) := by decide +kernel
theorem d_X10_start_26 : decode (gw_mC M_X10_start) 26 = .ok (.getfield 21, 3) := by decide +kernel
theorem d_X10_start_29 : decode (gw_mC M_X10_start) 29 = .ok (.invokevirtual 101, 3) := by decide +kernel
theorem d_X10_start_32 : decode (gw_mC M_X10_start) 32 = .ok (.putfield 46, 3) := by decide +kernel
theorem d_X10_start_35 : decode (gw_mC M_X10_start) 35 = .ok (.aload_n 0, 1) := by decide +kernel
theorem d_X10_start_36 : decode (gw_mC M_X10_start) 36 = .ok (.iconst 0, 1) := by decide +kernel
theorem d_X10_start_37 : decode (gw_mC M_X10_start) 37 = .ok (.putfield 49, 3) := by decide +kernel
theorem d_X10_start_40 : decode (gw_mC M_X10_start) 40 = .ok (.aload_n 0, 1) := by decide +kernel
theorem d_X10_start_41 : decode (gw_mC M_X10_start) 41 = .ok (.aload_n 0, 1) := by decide +kernel
theorem d_X10_start_42 : decode (gw_mC M_X10_start) 42 = .ok (.getfield 21, 3) := by decide +kernel
theorem d_X10_start_45 : decode (gw_mC M_X10_start) 45 = .ok (.getfield 105, 3) := by decide +kernel
theorem d_X10_start_48 : decode (gw_mC M_X10_start) 48 = .ok (.ifCond .le 7, 3) := by decide +kernel
theorem d_X10_start_51 : decode (gw_mC M_X10_start) 51 = .ok (.iconst 0, 1) := by decide +kernel
theorem d_X10_start_52 : decode (gw_mC M_X10_start) 52 = .ok (.goto 4, 3) := by decide +kernel
theorem d_X10_start_55 : decode (gw_mC M_X10_start) 55 = .ok (.iconst (-1), 1) := by decide +kernel
theorem d_X10_start_56 : decode (gw_mC M_X10_start) 56 = .ok (.putfield 52, 3) := by decide +kernel
theorem d_X10_start_59 : decode (gw_mC M_X10_start) 59 = .ok (.iconst 0, 1) := by decide +kernel
theorem d_X10_start_60 : decode (gw_mC M_X10_start) 60 = .ok (.istore_n 1, 1) := by decide +kernel
theorem d_X10_start_61 : decode (gw_mC M_X10_start) 61 = .ok (.iload_n 1, 1) := by decide +kernel
theorem d_X10_start_62 : decode (gw_mC M_X10_start) 62 = .ok (.aload_n 0, 1) := by decide +kernel
theorem d_X10_start_63 : decode (gw_mC M_X10_start) 63 = .ok (.getfield 21, 3) := by decide +kernel
theorem d_X10_start_66 : decode (gw_mC M_X10_start) 66 = .ok (.getfield 105, 3) := by decide +kernel
theorem d_X10_start_69 : decode (gw_mC M_X10_start) 69 = .ok (.if_icmp .ge 53, 3) := by decide +kernel
theorem d_X10_start_72 : decode (gw_mC M_X10_start) 72 = .ok (.aload_n 0, 1) := by decide +kernel
theorem d_X10_start_73 : decode (gw_mC M_X10_start) 73 = .ok (.getfield 55, 3) := by decide +kernel
theorem d_X10_start_76 : decode (gw_mC M_X10_start) 76 = .ok (.iload_n 1, 1) := by decide +kernel
theorem d_X10_start_77 : decode (gw_mC M_X10_start) 77 = .ok (.iconst 0, 1) := by decide +kernel
theorem d_X10_start_78 : decode (gw_mC M_X10_start) 78 = .ok (.iastore, 1) := by decide +kernel
theorem d_X10_start_79 : decode (gw_mC M_X10_start) 79 = .ok (.aload_n 0, 1) := by decide +kernel
theorem d_X10_start_80 : decode (gw_mC M_X10_start) 80 = .ok (.getfield 58, 3) := by decide +kernel
theorem d_X10_start_83 : decode (gw_mC M_X10_start) 83 = .ok (.iload_n 1, 1) := by decide +kernel
theorem d_X10_start_84 : decode (gw_mC M_X10_start) 84 = .ok (.iconst 0, 1) := by decide +kernel
theorem d_X10_start_85 : decode (gw_mC M_X10_start) 85 = .ok (.iastore, 1) := by decide +kernel
theorem d_X10_start_86 : decode (gw_mC M_X10_start) 86 = .ok (.aload_n 0, 1) := by decide +kernel
theorem d_X10_start_87 : decode (gw_mC M_X10_start) 87 = .ok (.getfield 61, 3) := by decide +kernel
theorem d_X10_start_90 : decode (gw_mC M_X10_start) 90 = .ok (.iload_n 1, 1) := by decide +kernel
theorem d_X10_start_91 : decode (gw_mC M_X10_start) 91 = .ok (.iconst 0, 1) := by decide +kernel
theorem d_X10_start_92 : decode (gw_mC M_X10_start) 92 = .ok (.iastore, 1) := by decide +kernel
theorem d_X10_start_93 : decode (gw_mC M_X10_start) 93 = .ok (.aload_n 0, 1) := by decide +kernel
theorem d_X10_start_94 : decode (gw_mC M_X10_start) 94 = .ok (.getfield 64, 3) := by decide +kernel
theorem d_X10_start_97 : decode (gw_mC M_X10_start) 97 = .ok (.iload_n 1, 1) := by decide +kernel
theorem d_X10_start_98 : decode (gw_mC M_X10_start) 98 = .ok (.iconst 0, 1) := by decide +kernel
theorem d_X10_start_99 : decode (gw_mC M_X10_start) 99 = .ok (.iastore, 1) := by decide +kernel
theorem d_X10_start_100 : decode (gw_mC M_X10_start) 100 = .ok (.aload_n 0, 1) := by decide +kernel
theorem d_X10_start_101 : decode (gw_mC M_X10_start) 101 = .ok (.getfield 67, 3) := by decide +kernel
theorem d_X10_start_104 : decode (gw_mC M_X10_start) 104 = .ok (.iload_n 1, 1) := by decide +kernel
theorem d_X10_start_105 : decode (gw_mC M_X10_start) 105 = .ok (.bipush (-4), 2) := by decide +kernel
theorem d_X10_start_107 : decode (gw_mC M_X10_start) 107 = .ok (.iastore, 1) := by decide +kernel
theorem d_X10_start_108 : decode (gw_mC M_X10_start) 108 = .ok (.aload_n 0, 1) := by decide +kernel
theorem d_X10_start_109 : decode (gw_mC M_X10_start) 109 = .ok (.getfield 70, 3) := by decide +kernel
theorem d_X10_start_112 : decode (gw_mC M_X10_start) 112 = .ok (.iload_n 1, 1) := by decide +kernel
theorem d_X10_start_113 : decode (gw_mC M_X10_start) 113 = .ok (.bipush (-4), 2) := by decide +kernel
theorem d_X10_start_115 : decode (gw_mC M_X10_start) 115 = .ok (.iastore, 1) := by decide +kernel
theorem d_X10_start_116 : decode (gw_mC M_X10_start) 116 = .ok (.iinc 1 1, 3) := by decide +kernel
theorem d_X10_start_119 : decode (gw_mC M_X10_start) 119 = .ok (.goto (-58), 3) := by decide +kernel
theorem d_X10_start_122 : decode (gw_mC M_X10_start) 122 = .ok (.return_, 1) := by decide +kernel
theorem d_X10_isOver_0 : decode (gw_mC M_X10_isOver) 0 = .ok (.aload_n 0, 1) := by decide +kernel
theorem d_X10_isOver_1 : decode (gw_mC M_X10_isOver) 1 = .ok (.getfield 36, 3) := by decide +kernel
theorem d_X10_isOver_4 : decode (gw_mC M_X10_isOver) 4 = .ok (.aload_n 0, 1) := by decide +kernel
theorem d_X10_isOver_5 : decode (gw_mC M_X10_isOver) 5 = .ok (.getfield 12, 3) := by decide +kernel
theorem d_X10_isOver_8 : decode (gw_mC M_X10_isOver) 8 = .ok (.getfield 108, 3) := by decide +kernel
theorem d_X10_isOver_11 : decode (gw_mC M_X10_isOver) 11 = .ok (.if_icmp .ne 28, 3) := by decide +kernel
theorem d_X10_isOver_14 : decode (gw_mC M_X10_isOver) 14 = .ok (.aload_n 0, 1) := by decide +kernel
theorem d_X10_isOver_15 : decode (gw_mC M_X10_isOver) 15 = .ok (.getfield 52, 3) := by decide +kernel
theorem d_X10_isOver_18 : decode (gw_mC M_X10_isOver) 18 = .ok (.ifCond .lt 17, 3) := by decide +kernel
theorem d_X10_isOver_21 : decode (gw_mC M_X10_isOver) 21 = .ok (.aload_n 0, 1) := by decide +kernel
theorem d_X10_isOver_22 : decode (gw_mC M_X10_isOver) 22 = .ok (.getfield 52, 3) := by decide +kernel
theorem d_X10_isOver_25 : decode (gw_mC M_X10_isOver) 25 = .ok (.aload_n 0, 1) := by decide +kernel
theorem d_X10_isOver_26 : decode (gw_mC M_X10_isOver) 26 = .ok (.getfield 12, 3) := by decide +kernel
theorem d_X10_isOver_29 : decode (gw_mC M_X10_isOver) 29 = .ok (.getfield 108, 3) := by decide +kernel
theorem d_X10_isOver_32 : decode (gw_mC M_X10_isOver) 32 = .ok (.if_icmp .ne 7, 3) := by decide +kernel
theorem d_X10_isOver_35 : decode (gw_mC M_X10_isOver) 35 = .ok (.iconst 1, 1) := by decide +kernel
theorem d_X10_isOver_36 : decode (gw_mC M_X10_isOver) 36 = .ok (.goto 4, 3) := by decide +kernel
theorem d_X10_isOver_39 : decode (gw_mC M_X10_isOver) 39 = .ok (.iconst 0, 1) := by decide +kernel
theorem d_X10_isOver_40 : decode (gw_mC M_X10_isOver) 40 = .ok (.ireturn, 1) := by decide +kernel
theorem d_X10_live_0 : decode (gw_mC M_X10_live) 0 = .ok (.aload_n 0, 1) := by decide +kernel
theorem d_X10_live_1 : decode (gw_mC M_X10_live) 1 = .ok (.getfield 36, 3) := by decide +kernel
theorem d_X10_live_4 : decode (gw_mC M_X10_live) 4 = .ok (.aload_n 0, 1) := by decide +kernel
theorem d_X10_live_5 : decode (gw_mC M_X10_live) 5 = .ok (.getfield 12, 3) := by decide +kernel
theorem d_X10_live_8 : decode (gw_mC M_X10_live) 8 = .ok (.getfield 108, 3) := by decide +kernel
theorem d_X10_live_11 : decode (gw_mC M_X10_live) 11 = .ok (.if_icmp .ge 8, 3) := by decide +kernel
theorem d_X10_live_14 : decode (gw_mC M_X10_live) 14 = .ok (.aload_n 0, 1) := by decide +kernel
theorem d_X10_live_15 : decode (gw_mC M_X10_live) 15 = .ok (.iload_n 1, 1) := by decide +kernel
theorem d_X10_live_16 : decode (gw_mC M_X10_live) 16 = .ok (.invokevirtual 109, 3) := by decide +kernel
theorem d_X10_live_19 : decode (gw_mC M_X10_live) 19 = .ok (.iconst 0, 1) := by decide +kernel
theorem d_X10_live_20 : decode (gw_mC M_X10_live) 20 = .ok (.istore_n 2, 1) := by decide +kernel
theorem d_X10_live_21 : decode (gw_mC M_X10_live) 21 = .ok (.iload_n 2, 1) := by decide +kernel
theorem d_X10_live_22 : decode (gw_mC M_X10_live) 22 = .ok (.aload_n 0, 1) := by decide +kernel
theorem d_X10_live_23 : decode (gw_mC M_X10_live) 23 = .ok (.getfield 21, 3) := by decide +kernel
theorem d_X10_live_26 : decode (gw_mC M_X10_live) 26 = .ok (.getfield 105, 3) := by decide +kernel
theorem d_X10_live_29 : decode (gw_mC M_X10_live) 29 = .ok (.if_icmp .ge 24, 3) := by decide +kernel
theorem d_X10_live_32 : decode (gw_mC M_X10_live) 32 = .ok (.aload_n 0, 1) := by decide +kernel
theorem d_X10_live_33 : decode (gw_mC M_X10_live) 33 = .ok (.getfield 70, 3) := by decide +kernel
theorem d_X10_live_36 : decode (gw_mC M_X10_live) 36 = .ok (.iload_n 2, 1) := by decide +kernel
theorem d_X10_live_37 : decode (gw_mC M_X10_live) 37 = .ok (.iaload, 1) := by decide +kernel
theorem d_X10_live_38 : decode (gw_mC M_X10_live) 38 = .ok (.ifCond .ge 9, 3) := by decide +kernel
theorem d_X10_live_41 : decode (gw_mC M_X10_live) 41 = .ok (.aload_n 0, 1) := by decide +kernel
theorem d_X10_live_42 : decode (gw_mC M_X10_live) 42 = .ok (.iload_n 2, 1) := by decide +kernel
theorem d_X10_live_43 : decode (gw_mC M_X10_live) 43 = .ok (.iload_n 1, 1) := by decide +kernel
theorem d_X10_live_44 : decode (gw_mC M_X10_live) 44 = .ok (.invokevirtual 113, 3) := by decide +kernel
theorem d_X10_live_47 : decode (gw_mC M_X10_live) 47 = .ok (.iinc 2 1, 3) := by decide +kernel
theorem d_X10_live_50 : decode (gw_mC M_X10_live) 50 = .ok (.goto (-29), 3) := by decide +kernel
theorem d_X10_live_53 : decode (gw_mC M_X10_live) 53 = .ok (.aload_n 0, 1) := by decide +kernel
theorem d_X10_live_54 : decode (gw_mC M_X10_live) 54 = .ok (.iload_n 1, 1) := by decide +kernel
theorem d_X10_live_55 : decode (gw_mC M_X10_live) 55 = .ok (.invokevirtual 117, 3) := by decide +kernel
theorem d_X10_live_58 : decode (gw_mC M_X10_live) 58 = .ok (.return_, 1) := by decide +kernel
theorem d_X10_lead_0 : decode (gw_mC M_X10_lead) 0 = .ok (.aload_n 0, 1) := by decide +kernel
theorem d_X10_lead_1 : decode (gw_mC M_X10_lead) 1 = .ok (.invokevirtual 120, 3) := by decide +kernel
theorem d_X10_lead_4 : decode (gw_mC M_X10_lead) 4 = .ok (.ifCond .eq 11, 3) := by decide +kernel
theorem d_X10_lead_7 : decode (gw_mC M_X10_lead) 7 = .ok (.aload_n 0, 1) := by decide +kernel
theorem d_X10_lead_8 : decode (gw_mC M_X10_lead) 8 = .ok (.invokevirtual 124, 3) := by decide +kernel
theorem d_X10_lead_11 : decode (gw_mC M_X10_lead) 11 = .ok (.ifCond .eq 4, 3) := by decide +kernel
theorem d_X10_lead_14 : decode (gw_mC M_X10_lead) 14 = .ok (.return_, 1) := by decide +kernel
theorem d_X10_lead_15 : decode (gw_mC M_X10_lead) 15 = .ok (.iconst 0, 1) := by decide +kernel
theorem d_X10_lead_16 : decode (gw_mC M_X10_lead) 16 = .ok (.istore_n 2, 1) := by decide +kernel
theorem d_X10_lead_17 : decode (gw_mC M_X10_lead) 17 = .ok (.iload_n 2, 1) := by decide +kernel
theorem d_X10_lead_18 : decode (gw_mC M_X10_lead) 18 = .ok (.aload_n 0, 1) := by decide +kernel
theorem d_X10_lead_19 : decode (gw_mC M_X10_lead) 19 = .ok (.getfield 25, 3) := by decide +kernel
theorem d_X10_lead_22 : decode (gw_mC M_X10_lead) 22 = .ok (.iconst 0, 1) := by decide +kernel
theorem d_X10_lead_23 : decode (gw_mC M_X10_lead) 23 = .ok (.iaload, 1) := by decide +kernel
theorem d_X10_lead_24 : decode (gw_mC M_X10_lead) 24 = .ok (.if_icmp .ge 63, 3) := by decide +kernel
theorem d_X10_lead_27 : decode (gw_mC M_X10_lead) 27 = .ok (.aload_n 0, 1) := by decide +kernel
theorem d_X10_lead_28 : decode (gw_mC M_X10_lead) 28 = .ok (.getfield 36, 3) := by decide +kernel
theorem d_X10_lead_31 : decode (gw_mC M_X10_lead) 31 = .ok (.aload_n 0, 1) := by decide +kernel
theorem d_X10_lead_32 : decode (gw_mC M_X10_lead) 32 = .ok (.getfield 12, 3) := by decide +kernel
theorem d_X10_lead_35 : decode (gw_mC M_X10_lead) 35 = .ok (.getfield 108, 3) := by decide +kernel
theorem d_X10_lead_38 : decode (gw_mC M_X10_lead) 38 = .ok (.if_icmp .ge 25, 3) := by decide +kernel
theorem d_X10_lead_41 : decode (gw_mC M_X10_lead) 41 = .ok (.aload_n 0, 1) := by decide +kernel
theorem d_X10_lead_42 : decode (gw_mC M_X10_lead) 42 = .ok (.invokevirtual 120, 3) := by decide +kernel
theorem d_X10_lead_45 : decode (gw_mC M_X10_lead) 45 = .ok (.ifCond .ne 18, 3) := by decide +kernel
theorem d_X10_lead_48 : decode (gw_mC M_X10_lead) 48 = .ok (.aload_n 0, 1) := by decide +kernel
theorem d_X10_lead_49 : decode (gw_mC M_X10_lead) 49 = .ok (.getfield 12, 3) := by decide +kernel
theorem d_X10_lead_52 : decode (gw_mC M_X10_lead) 52 = .ok (.aload_n 0, 1) := by decide +kernel
theorem d_X10_lead_53 : decode (gw_mC M_X10_lead) 53 = .ok (.getfield 36, 3) := by decide +kernel
theorem d_X10_lead_56 : decode (gw_mC M_X10_lead) 56 = .ok (.iload_n 1, 1) := by decide +kernel
theorem d_X10_lead_57 : decode (gw_mC M_X10_lead) 57 = .ok (.invokevirtual 127, 3) := by decide +kernel
theorem d_X10_lead_60 : decode (gw_mC M_X10_lead) 60 = .ok (.ifCond .eq 4, 3) := by decide +kernel
theorem d_X10_lead_63 : decode (gw_mC M_X10_lead) 63 = .ok (.return_, 1) := by decide +kernel
theorem d_X10_lead_64 : decode (gw_mC M_X10_lead) 64 = .ok (.aload_n 0, 1) := by decide +kernel
theorem d_X10_lead_65 : decode (gw_mC M_X10_lead) 65 = .ok (.dup, 1) := by decide +kernel
theorem d_X10_lead_66 : decode (gw_mC M_X10_lead) 66 = .ok (.getfield 36, 3) := by decide +kernel
theorem d_X10_lead_69 : decode (gw_mC M_X10_lead) 69 = .ok (.iconst 1, 1) := by decide +kernel
theorem d_X10_lead_70 : decode (gw_mC M_X10_lead) 70 = .ok (.iadd, 1) := by decide +kernel
theorem d_X10_lead_71 : decode (gw_mC M_X10_lead) 71 = .ok (.putfield 36, 3) := by decide +kernel
theorem d_X10_lead_74 : decode (gw_mC M_X10_lead) 74 = .ok (.aload_n 0, 1) := by decide +kernel
theorem d_X10_lead_75 : decode (gw_mC M_X10_lead) 75 = .ok (.getfield 32, 3) := by decide +kernel
theorem d_X10_lead_78 : decode (gw_mC M_X10_lead) 78 = .ok (.invokevirtual 98, 3) := by decide +kernel
theorem d_X10_lead_81 : decode (gw_mC M_X10_lead) 81 = .ok (.iinc 2 1, 3) := by decide +kernel
theorem d_X10_lead_84 : decode (gw_mC M_X10_lead) 84 = .ok (.goto (-67), 3) := by decide +kernel
theorem d_X10_lead_87 : decode (gw_mC M_X10_lead) 87 = .ok (.return_, 1) := by decide +kernel
theorem d_X10_isAtOpenStop_0 : decode (gw_mC M_X10_isAtOpenStop) 0 = .ok (.aload_n 0, 1) := by decide +kernel
theorem d_X10_isAtOpenStop_1 : decode (gw_mC M_X10_isAtOpenStop) 1 = .ok (.getfield 12, 3) := by decide +kernel
theorem d_X10_isAtOpenStop_4 : decode (gw_mC M_X10_isAtOpenStop) 4 = .ok (.getfield 131, 3) := by decide +kernel
theorem d_X10_isAtOpenStop_7 : decode (gw_mC M_X10_isAtOpenStop) 7 = .ok (.aload_n 0, 1) := by decide +kernel
theorem d_X10_isAtOpenStop_8 : decode (gw_mC M_X10_isAtOpenStop) 8 = .ok (.getfield 36, 3) := by decide +kernel
theorem d_X10_isAtOpenStop_11 : decode (gw_mC M_X10_isAtOpenStop) 11 = .ok (.iaload, 1) := by decide +kernel
theorem d_X10_isAtOpenStop_12 : decode (gw_mC M_X10_isAtOpenStop) 12 = .ok (.ifCond .le 17, 3) := by decide +kernel
theorem d_X10_isAtOpenStop_15 : decode (gw_mC M_X10_isAtOpenStop) 15 = .ok (.aload_n 0, 1) := by decide +kernel
theorem d_X10_isAtOpenStop_16 : decode (gw_mC M_X10_isAtOpenStop) 16 = .ok (.getfield 32, 3) := by decide +kernel
theorem d_X10_isAtOpenStop_19 : decode (gw_mC M_X10_isAtOpenStop) 19 = .ok (.getfield 134, 3) := by decide +kernel
theorem d_X10_isAtOpenStop_22 : decode (gw_mC M_X10_isAtOpenStop) 22 = .ok (.ifCond .ne 7, 3) := by decide +kernel
theorem d_X10_isAtOpenStop_25 : decode (gw_mC M_X10_isAtOpenStop) 25 = .ok (.iconst 1, 1) := by decide +kernel
theorem d_X10_isAtOpenStop_26 : decode (gw_mC M_X10_isAtOpenStop) 26 = .ok (.goto 4, 3) := by decide +kernel
theorem d_X10_isAtOpenStop_29 : decode (gw_mC M_X10_isAtOpenStop) 29 = .ok (.iconst 0, 1) := by decide +kernel
theorem d_X10_isAtOpenStop_30 : decode (gw_mC M_X10_isAtOpenStop) 30 = .ok (.ireturn, 1) := by decide +kernel
theorem d_X10_isKept_0 : decode (gw_mC M_X10_isKept) 0 = .ok (.aload_n 0, 1) := by decide +kernel
theorem d_X10_isKept_1 : decode (gw_mC M_X10_isKept) 1 = .ok (.getfield 32, 3) := by decide +kernel
theorem d_X10_isKept_4 : decode (gw_mC M_X10_isKept) 4 = .ok (.getfield 138, 3) := by decide +kernel
theorem d_X10_isKept_7 : decode (gw_mC M_X10_isKept) 7 = .ok (.ifCond .ne 33, 3) := by decide +kernel
theorem d_X10_isKept_10 : decode (gw_mC M_X10_isKept) 10 = .ok (.aload_n 0, 1) := by decide +kernel
theorem d_X10_isKept_11 : decode (gw_mC M_X10_isKept) 11 = .ok (.invokevirtual 141, 3) := by decide +kernel
theorem d_X10_isKept_14 : decode (gw_mC M_X10_isKept) 14 = .ok (.ifCond .ne 18, 3) := by decide +kernel
theorem d_X10_isKept_17 : decode (gw_mC M_X10_isKept) 17 = .ok (.aload_n 0, 1) := by decide +kernel
theorem d_X10_isKept_18 : decode (gw_mC M_X10_isKept) 18 = .ok (.getfield 32, 3) := by decide +kernel
theorem d_X10_isKept_21 : decode (gw_mC M_X10_isKept) 21 = .ok (.dup, 1) := by decide +kernel
theorem d_X10_isKept_22 : decode (gw_mC M_X10_isKept) 22 = .ok (.getfield 144, 3) := by decide +kernel
theorem d_X10_isKept_25 : decode (gw_mC M_X10_isKept) 25 = .ok (.iconst 1, 1) := by decide +kernel
theorem d_X10_isKept_26 : decode (gw_mC M_X10_isKept) 26 = .ok (.iadd, 1) := by decide +kernel
theorem d_X10_isKept_27 : decode (gw_mC M_X10_isKept) 27 = .ok (.putfield 144, 3) := by decide +kernel
theorem d_X10_isKept_30 : decode (gw_mC M_X10_isKept) 30 = .ok (.iconst 1, 1) := by decide +kernel
theorem d_X10_isKept_31 : decode (gw_mC M_X10_isKept) 31 = .ok (.ireturn, 1) := by decide +kernel
theorem d_X10_isKept_32 : decode (gw_mC M_X10_isKept) 32 = .ok (.aload_n 0, 1) := by decide +kernel
theorem d_X10_isKept_33 : decode (gw_mC M_X10_isKept) 33 = .ok (.getfield 32, 3) := by decide +kernel
theorem d_X10_isKept_36 : decode (gw_mC M_X10_isKept) 36 = .ok (.iconst 1, 1) := by decide +kernel
theorem d_X10_isKept_37 : decode (gw_mC M_X10_isKept) 37 = .ok (.putfield 138, 3) := by decide +kernel
theorem d_X10_isKept_40 : decode (gw_mC M_X10_isKept) 40 = .ok (.aload_n 0, 1) := by decide +kernel
theorem d_X10_isKept_41 : decode (gw_mC M_X10_isKept) 41 = .ok (.getfield 32, 3) := by decide +kernel
theorem d_X10_isKept_44 : decode (gw_mC M_X10_isKept) 44 = .ok (.getfield 147, 3) := by decide +kernel
theorem d_X10_isKept_47 : decode (gw_mC M_X10_isKept) 47 = .ok (.aload_n 0, 1) := by decide +kernel
theorem d_X10_isKept_48 : decode (gw_mC M_X10_isKept) 48 = .ok (.getfield 12, 3) := by decide +kernel
theorem d_X10_isKept_51 : decode (gw_mC M_X10_isKept) 51 = .ok (.getfield 131, 3) := by decide +kernel
theorem d_X10_isKept_54 : decode (gw_mC M_X10_isKept) 54 = .ok (.aload_n 0, 1) := by decide +kernel
theorem d_X10_isKept_55 : decode (gw_mC M_X10_isKept) 55 = .ok (.getfield 36, 3) := by decide +kernel
theorem d_X10_isKept_58 : decode (gw_mC M_X10_isKept) 58 = .ok (.iaload, 1) := by decide +kernel
theorem d_X10_isKept_59 : decode (gw_mC M_X10_isKept) 59 = .ok (.if_icmp .ge 22, 3) := by decide +kernel
theorem d_X10_isKept_62 : decode (gw_mC M_X10_isKept) 62 = .ok (.aload_n 0, 1) := by decide +kernel
theorem d_X10_isKept_63 : decode (gw_mC M_X10_isKept) 63 = .ok (.getfield 32, 3) := by decide +kernel
theorem d_X10_isKept_66 : decode (gw_mC M_X10_isKept) 66 = .ok (.dup, 1) := by decide +kernel
theorem d_X10_isKept_67 : decode (gw_mC M_X10_isKept) 67 = .ok (.getfield 147, 3) := by decide +kernel
theorem d_X10_isKept_70 : decode (gw_mC M_X10_isKept) 70 = .ok (.iconst 1, 1) := by decide +kernel
theorem d_X10_isKept_71 : decode (gw_mC M_X10_isKept) 71 = .ok (.iadd, 1) := by decide +kernel
theorem d_X10_isKept_72 : decode (gw_mC M_X10_isKept) 72 = .ok (.putfield 147, 3) := by decide +kernel
theorem d_X10_isKept_75 : decode (gw_mC M_X10_isKept) 75 = .ok (.aload_n 0, 1) := by decide +kernel
theorem d_X10_isKept_76 : decode (gw_mC M_X10_isKept) 76 = .ok (.invokevirtual 150, 3) := by decide +kernel
theorem d_X10_isKept_79 : decode (gw_mC M_X10_isKept) 79 = .ok (.iconst 1, 1) := by decide +kernel
theorem d_X10_isKept_80 : decode (gw_mC M_X10_isKept) 80 = .ok (.ireturn, 1) := by decide +kernel
theorem d_X10_isKept_81 : decode (gw_mC M_X10_isKept) 81 = .ok (.aload_n 0, 1) := by decide +kernel
theorem d_X10_isKept_82 : decode (gw_mC M_X10_isKept) 82 = .ok (.getfield 32, 3) := by decide +kernel
theorem d_X10_isKept_85 : decode (gw_mC M_X10_isKept) 85 = .ok (.getfield 153, 3) := by decide +kernel
theorem d_X10_isKept_88 : decode (gw_mC M_X10_isKept) 88 = .ok (.aload_n 0, 1) := by decide +kernel
theorem d_X10_isKept_89 : decode (gw_mC M_X10_isKept) 89 = .ok (.getfield 25, 3) := by decide +kernel
theorem d_X10_isKept_92 : decode (gw_mC M_X10_isKept) 92 = .ok (.iconst 2, 1) := by decide +kernel
theorem d_X10_isKept_93 : decode (gw_mC M_X10_isKept) 93 = .ok (.iaload, 1) := by decide +kernel
theorem d_X10_isKept_94 : decode (gw_mC M_X10_isKept) 94 = .ok (.if_icmp .ge 19, 3) := by decide +kernel
theorem d_X10_isKept_97 : decode (gw_mC M_X10_isKept) 97 = .ok (.aload_n 0, 1) := by decide +kernel
theorem d_X10_isKept_98 : decode (gw_mC M_X10_isKept) 98 = .ok (.getfield 32, 3) := by decide +kernel
theorem d_X10_isKept_101 : decode (gw_mC M_X10_isKept) 101 = .ok (.getfield 156, 3) := by decide +kernel
theorem d_X10_isKept_104 : decode (gw_mC M_X10_isKept) 104 = .ok (.aload_n 0, 1) := by decide +kernel
theorem d_X10_isKept_105 : decode (gw_mC M_X10_isKept) 105 = .ok (.getfield 25, 3) := by decide +kernel
theorem d_X10_isKept_108 : decode (gw_mC M_X10_isKept) 108 = .ok (.iconst 3, 1) := by decide +kernel
theorem d_X10_isKept_109 : decode (gw_mC M_X10_isKept) 109 = .ok (.iaload, 1) := by decide +kernel
theorem d_X10_isKept_110 : decode (gw_mC M_X10_isKept) 110 = .ok (.if_icmp .lt 13, 3) := by decide +kernel
theorem d_X10_isKept_113 : decode (gw_mC M_X10_isKept) 113 = .ok (.aload_n 0, 1) := by decide +kernel
theorem d_X10_isKept_114 : decode (gw_mC M_X10_isKept) 114 = .ok (.getfield 32, 3) := by decide +kernel
theorem d_X10_isKept_117 : decode (gw_mC M_X10_isKept) 117 = .ok (.iconst 1, 1) := by decide +kernel
theorem d_X10_isKept_118 : decode (gw_mC M_X10_isKept) 118 = .ok (.putfield 134, 3) := by decide +kernel
theorem d_X10_isKept_121 : decode (gw_mC M_X10_isKept) 121 = .ok (.iconst 0, 1) := by decide +kernel
theorem d_X10_isKept_122 : decode (gw_mC M_X10_isKept) 122 = .ok (.ireturn, 1) := by decide +kernel
theorem d_X10_isKept_123 : decode (gw_mC M_X10_isKept) 123 = .ok (.aload_n 0, 1) := by decide +kernel
theorem d_X10_isKept_124 : decode (gw_mC M_X10_isKept) 124 = .ok (.getfield 32, 3) := by decide +kernel
theorem d_X10_isKept_127 : decode (gw_mC M_X10_isKept) 127 = .ok (.dup, 1) := by decide +kernel
theorem d_X10_isKept_128 : decode (gw_mC M_X10_isKept) 128 = .ok (.getfield 156, 3) := by decide +kernel
theorem d_X10_isKept_131 : decode (gw_mC M_X10_isKept) 131 = .ok (.iconst 1, 1) := by decide +kernel
theorem d_X10_isKept_132 : decode (gw_mC M_X10_isKept) 132 = .ok (.iadd, 1) := by decide +kernel
theorem d_X10_isKept_133 : decode (gw_mC M_X10_isKept) 133 = .ok (.putfield 156, 3) := by decide +kernel
theorem d_X10_isKept_136 : decode (gw_mC M_X10_isKept) 136 = .ok (.iconst 1, 1) := by decide +kernel
theorem d_X10_isKept_137 : decode (gw_mC M_X10_isKept) 137 = .ok (.ireturn, 1) := by decide +kernel
theorem d_X10_isToBegin_0 : decode (gw_mC M_X10_isToBegin) 0 = .ok (.iconst 0, 1) := by decide +kernel
theorem d_X10_isToBegin_1 : decode (gw_mC M_X10_isToBegin) 1 = .ok (.istore_n 1, 1) := by decide +kernel
theorem d_X10_isToBegin_2 : decode (gw_mC M_X10_isToBegin) 2 = .ok (.iconst 0, 1) := by decide +kernel
theorem d_X10_isToBegin_3 : decode (gw_mC M_X10_isToBegin) 3 = .ok (.istore_n 2, 1) := by decide +kernel
theorem d_X10_isToBegin_4 : decode (gw_mC M_X10_isToBegin) 4 = .ok (.iload_n 2, 1) := by decide +kernel
theorem d_X10_isToBegin_5 : decode (gw_mC M_X10_isToBegin) 5 = .ok (.aload_n 0, 1) := by decide +kernel
theorem d_X10_isToBegin_6 : decode (gw_mC M_X10_isToBegin) 6 = .ok (.getfield 21, 3) := by decide +kernel
theorem d_X10_isToBegin_9 : decode (gw_mC M_X10_isToBegin) 9 = .ok (.getfield 105, 3) := by decide +kernel
theorem d_X10_isToBegin_12 : decode (gw_mC M_X10_isToBegin) 12 = .ok (.if_icmp .ge 46, 3) := by decide +kernel
theorem d_X10_isToBegin_15 : decode (gw_mC M_X10_isToBegin) 15 = .ok (.iload_n 1, 1) := by decide +kernel
theorem d_X10_isToBegin_16 : decode (gw_mC M_X10_isToBegin) 16 = .ok (.aload_n 0, 1) := by decide +kernel
theorem d_X10_isToBegin_17 : decode (gw_mC M_X10_isToBegin) 17 = .ok (.getfield 70, 3) := by decide +kernel
theorem d_X10_isToBegin_20 : decode (gw_mC M_X10_isToBegin) 20 = .ok (.iload_n 2, 1) := by decide +kernel
theorem d_X10_isToBegin_21 : decode (gw_mC M_X10_isToBegin) 21 = .ok (.iaload, 1) := by decide +kernel
theorem d_X10_isToBegin_22 : decode (gw_mC M_X10_isToBegin) 22 = .ok (.ifCond .ge 27, 3) := by decide +kernel
theorem d_X10_isToBegin_25 : decode (gw_mC M_X10_isToBegin) 25 = .ok (.aload_n 0, 1) := by decide +kernel
theorem d_X10_isToBegin_26 : decode (gw_mC M_X10_isToBegin) 26 = .ok (.getfield 36, 3) := by decide +kernel
theorem d_X10_isToBegin_29 : decode (gw_mC M_X10_isToBegin) 29 = .ok (.aload_n 0, 1) := by decide +kernel
theorem d_X10_isToBegin_30 : decode (gw_mC M_X10_isToBegin) 30 = .ok (.getfield 55, 3) := by decide +kernel
theorem d_X10_isToBegin_33 : decode (gw_mC M_X10_isToBegin) 33 = .ok (.iload_n 2, 1) := by decide +kernel
theorem d_X10_isToBegin_34 : decode (gw_mC M_X10_isToBegin) 34 = .ok (.iaload, 1) := by decide +kernel
theorem d_X10_isToBegin_35 : decode (gw_mC M_X10_isToBegin) 35 = .ok (.isub, 1) := by decide +kernel
theorem d_X10_isToBegin_36 : decode (gw_mC M_X10_isToBegin) 36 = .ok (.aload_n 0, 1) := by decide +kernel
theorem d_X10_isToBegin_37 : decode (gw_mC M_X10_isToBegin) 37 = .ok (.getfield 25, 3) := by decide +kernel
theorem d_X10_isToBegin_40 : decode (gw_mC M_X10_isToBegin) 40 = .ok (.iconst 4, 1) := by decide +kernel
theorem d_X10_isToBegin_41 : decode (gw_mC M_X10_isToBegin) 41 = .ok (.iaload, 1) := by decide +kernel
theorem d_X10_isToBegin_42 : decode (gw_mC M_X10_isToBegin) 42 = .ok (.if_icmp .gt 7, 3) := by decide +kernel
theorem d_X10_isToBegin_45 : decode (gw_mC M_X10_isToBegin) 45 = .ok (.iconst 1, 1) := by decide +kernel
theorem d_X10_isToBegin_46 : decode (gw_mC M_X10_isToBegin) 46 = .ok (.goto 4, 3) := by decide +kernel
theorem d_X10_isToBegin_49 : decode (gw_mC M_X10_isToBegin) 49 = .ok (.iconst 0, 1) := by decide +kernel
theorem d_X10_isToBegin_50 : decode (gw_mC M_X10_isToBegin) 50 = .ok (.iadd, 1) := by decide +kernel
theorem d_X10_isToBegin_51 : decode (gw_mC M_X10_isToBegin) 51 = .ok (.istore_n 1, 1) := by decide +kernel
theorem d_X10_isToBegin_52 : decode (gw_mC M_X10_isToBegin) 52 = .ok (.iinc 2 1, 3) := by decide +kernel
theorem d_X10_isToBegin_55 : decode (gw_mC M_X10_isToBegin) 55 = .ok (.goto (-51), 3) := by decide +kernel
theorem d_X10_isToBegin_58 : decode (gw_mC M_X10_isToBegin) 58 = .ok (.iload_n 1, 1) := by decide +kernel
theorem d_X10_isToBegin_59 : decode (gw_mC M_X10_isToBegin) 59 = .ok (.aload_n 0, 1) := by decide +kernel
theorem d_X10_isToBegin_60 : decode (gw_mC M_X10_isToBegin) 60 = .ok (.getfield 25, 3) := by decide +kernel
theorem d_X10_isToBegin_63 : decode (gw_mC M_X10_isToBegin) 63 = .ok (.iconst 1, 1) := by decide +kernel
theorem d_X10_isToBegin_64 : decode (gw_mC M_X10_isToBegin) 64 = .ok (.iaload, 1) := by decide +kernel
theorem d_X10_isToBegin_65 : decode (gw_mC M_X10_isToBegin) 65 = .ok (.if_icmp .ge 35, 3) := by decide +kernel
theorem d_X10_isToBegin_68 : decode (gw_mC M_X10_isToBegin) 68 = .ok (.iload_n 1, 1) := by decide +kernel
theorem d_X10_isToBegin_69 : decode (gw_mC M_X10_isToBegin) 69 = .ok (.aload_n 0, 1) := by decide +kernel
theorem d_X10_isToBegin_70 : decode (gw_mC M_X10_isToBegin) 70 = .ok (.getfield 21, 3) := by decide +kernel
theorem d_X10_isToBegin_73 : decode (gw_mC M_X10_isToBegin) 73 = .ok (.getfield 105, 3) := by decide +kernel
theorem d_X10_isToBegin_76 : decode (gw_mC M_X10_isToBegin) 76 = .ok (.aload_n 0, 1) := by decide +kernel
theorem d_X10_isToBegin_77 : decode (gw_mC M_X10_isToBegin) 77 = .ok (.getfield 49, 3) := by decide +kernel
theorem d_X10_isToBegin_80 : decode (gw_mC M_X10_isToBegin) 80 = .ok (.isub, 1) := by decide +kernel
theorem d_X10_isToBegin_81 : decode (gw_mC M_X10_isToBegin) 81 = .ok (.if_icmp .eq 19, 3) := by decide +kernel
theorem d_X10_isToBegin_84 : decode (gw_mC M_X10_isToBegin) 84 = .ok (.aload_n 0, 1) := by decide +kernel
theorem d_X10_isToBegin_85 : decode (gw_mC M_X10_isToBegin) 85 = .ok (.getfield 32, 3) := by decide +kernel
theorem d_X10_isToBegin_88 : decode (gw_mC M_X10_isToBegin) 88 = .ok (.getfield 144, 3) := by decide +kernel
theorem d_X10_isToBegin_91 : decode (gw_mC M_X10_isToBegin) 91 = .ok (.aload_n 0, 1) := by decide +kernel
theorem d_X10_isToBegin_92 : decode (gw_mC M_X10_isToBegin) 92 = .ok (.getfield 25, 3) := by decide +kernel
theorem d_X10_isToBegin_95 : decode (gw_mC M_X10_isToBegin) 95 = .ok (.iconst 3, 1) := by decide +kernel
theorem d_X10_isToBegin_96 : decode (gw_mC M_X10_isToBegin) 96 = .ok (.iaload, 1) := by decide +kernel
theorem d_X10_isToBegin_97 : decode (gw_mC M_X10_isToBegin) 97 = .ok (.if_icmp .lt 7, 3) := by decide +kernel
theorem d_X10_isToBegin_100 : decode (gw_mC M_X10_isToBegin) 100 = .ok (.iconst 1, 1) := by decide +kernel
theorem d_X10_isToBegin_101 : decode (gw_mC M_X10_isToBegin) 101 = .ok (.goto 4, 3) := by decide +kernel
theorem d_X10_isToBegin_104 : decode (gw_mC M_X10_isToBegin) 104 = .ok (.iconst 0, 1) := by decide +kernel
theorem d_X10_isToBegin_105 : decode (gw_mC M_X10_isToBegin) 105 = .ok (.ireturn, 1) := by decide +kernel
theorem d_X10_speak_0 : decode (gw_mC M_X10_speak) 0 = .ok (.iconst 0, 1) := by decide +kernel
theorem d_X10_speak_1 : decode (gw_mC M_X10_speak) 1 = .ok (.istore_n 1, 1) := by decide +kernel
theorem d_X10_speak_2 : decode (gw_mC M_X10_speak) 2 = .ok (.iload_n 1, 1) := by decide +kernel
theorem d_X10_speak_3 : decode (gw_mC M_X10_speak) 3 = .ok (.aload_n 0, 1) := by decide +kernel
theorem d_X10_speak_4 : decode (gw_mC M_X10_speak) 4 = .ok (.getfield 21, 3) := by decide +kernel
theorem d_X10_speak_7 : decode (gw_mC M_X10_speak) 7 = .ok (.getfield 105, 3) := by decide +kernel
theorem d_X10_speak_10 : decode (gw_mC M_X10_speak) 10 = .ok (.if_icmp .ge 77, 3) := by decide +kernel
theorem d_X10_speak_13 : decode (gw_mC M_X10_speak) 13 = .ok (.aload_n 0, 1) := by decide +kernel
theorem d_X10_speak_14 : decode (gw_mC M_X10_speak) 14 = .ok (.getfield 21, 3) := by decide +kernel
theorem d_X10_speak_17 : decode (gw_mC M_X10_speak) 17 = .ok (.getfield 159, 3) := by decide +kernel
theorem d_X10_speak_20 : decode (gw_mC M_X10_speak) 20 = .ok (.iload_n 1, 1) := by decide +kernel
theorem d_X10_speak_21 : decode (gw_mC M_X10_speak) 21 = .ok (.baload, 1) := by decide +kernel
theorem d_X10_speak_22 : decode (gw_mC M_X10_speak) 22 = .ok (.ifCond .eq 14, 3) := by decide +kernel
theorem d_X10_speak_25 : decode (gw_mC M_X10_speak) 25 = .ok (.iconst 3, 1) := by decide +kernel
theorem d_X10_speak_26 : decode (gw_mC M_X10_speak) 26 = .ok (.aload_n 0, 1) := by decide +kernel
theorem d_X10_speak_27 : decode (gw_mC M_X10_speak) 27 = .ok (.getfield 25, 3) := by decide +kernel
theorem d_X10_speak_30 : decode (gw_mC M_X10_speak) 30 = .ok (.iconst 4, 1) := by decide +kernel
theorem d_X10_speak_31 : decode (gw_mC M_X10_speak) 31 = .ok (.iaload, 1) := by decide +kernel
theorem d_X10_speak_32 : decode (gw_mC M_X10_speak) 32 = .ok (.imul, 1) := by decide +kernel
theorem d_X10_speak_33 : decode (gw_mC M_X10_speak) 33 = .ok (.goto 9, 3) := by decide +kernel
theorem d_X10_speak_36 : decode (gw_mC M_X10_speak) 36 = .ok (.aload_n 0, 1) := by decide +kernel
theorem d_X10_speak_37 : decode (gw_mC M_X10_speak) 37 = .ok (.getfield 25, 3) := by decide +kernel
theorem d_X10_speak_40 : decode (gw_mC M_X10_speak) 40 = .ok (.iconst 4, 1) := by decide +kernel
theorem d_X10_speak_41 : decode (gw_mC M_X10_speak) 41 = .ok (.iaload, 1) := by decide +kernel
theorem d_X10_speak_42 : decode (gw_mC M_X10_speak) 42 = .ok (.istore_n 2, 1) := by decide +kernel
theorem d_X10_speak_43 : decode (gw_mC M_X10_speak) 43 = .ok (.aload_n 0, 1) := by decide +kernel
theorem d_X10_speak_44 : decode (gw_mC M_X10_speak) 44 = .ok (.getfield 61, 3) := by decide +kernel
theorem d_X10_speak_47 : decode (gw_mC M_X10_speak) 47 = .ok (.iload_n 1, 1) := by decide +kernel
theorem d_X10_speak_48 : decode (gw_mC M_X10_speak) 48 = .ok (.dup2, 1) := by decide +kernel
theorem d_X10_speak_49 : decode (gw_mC M_X10_speak) 49 = .ok (.iaload, 1) := by decide +kernel
theorem d_X10_speak_50 : decode (gw_mC M_X10_speak) 50 = .ok (.aload_n 0, 1) := by decide +kernel
theorem d_X10_speak_51 : decode (gw_mC M_X10_speak) 51 = .ok (.getfield 70, 3) := by decide +kernel
theorem d_X10_speak_54 : decode (gw_mC M_X10_speak) 54 = .ok (.iload_n 1, 1) := by decide +kernel
theorem d_X10_speak_55 : decode (gw_mC M_X10_speak) 55 = .ok (.iaload, 1) := by decide +kernel
theorem d_X10_speak_56 : decode (gw_mC M_X10_speak) 56 = .ok (.ifCond .ge 22, 3) := by decide +kernel
theorem d_X10_speak_59 : decode (gw_mC M_X10_speak) 59 = .ok (.aload_n 0, 1) := by decide +kernel
theorem d_X10_speak_60 : decode (gw_mC M_X10_speak) 60 = .ok (.getfield 36, 3) := by decide +kernel
theorem d_X10_speak_63 : decode (gw_mC M_X10_speak) 63 = .ok (.aload_n 0, 1) := by decide +kernel
theorem d_X10_speak_64 : decode (gw_mC M_X10_speak) 64 = .ok (.getfield 55, 3) := by decide +kernel
theorem d_X10_speak_67 : decode (gw_mC M_X10_speak) 67 = .ok (.iload_n 1, 1) := by decide +kernel
theorem d_X10_speak_68 : decode (gw_mC M_X10_speak) 68 = .ok (.iaload, 1) := by decide +kernel
theorem d_X10_speak_69 : decode (gw_mC M_X10_speak) 69 = .ok (.isub, 1) := by decide +kernel
theorem d_X10_speak_70 : decode (gw_mC M_X10_speak) 70 = .ok (.iload_n 2, 1) := by decide +kernel
theorem d_X10_speak_71 : decode (gw_mC M_X10_speak) 71 = .ok (.if_icmp .gt 7, 3) := by decide +kernel
theorem d_X10_speak_74 : decode (gw_mC M_X10_speak) 74 = .ok (.iconst 1, 1) := by decide +kernel
theorem d_X10_speak_75 : decode (gw_mC M_X10_speak) 75 = .ok (.goto 4, 3) := by decide +kernel
theorem d_X10_speak_78 : decode (gw_mC M_X10_speak) 78 = .ok (.iconst 0, 1) := by decide +kernel
theorem d_X10_speak_79 : decode (gw_mC M_X10_speak) 79 = .ok (.iadd, 1) := by decide +kernel
theorem d_X10_speak_80 : decode (gw_mC M_X10_speak) 80 = .ok (.iastore, 1) := by decide +kernel
theorem d_X10_speak_81 : decode (gw_mC M_X10_speak) 81 = .ok (.iinc 1 1, 3) := by decide +kernel
theorem d_X10_speak_84 : decode (gw_mC M_X10_speak) 84 = .ok (.goto (-82), 3) := by decide +kernel
theorem d_X10_speak_87 : decode (gw_mC M_X10_speak) 87 = .ok (.return_, 1) := by decide +kernel
theorem d_X10_follow_0 : decode (gw_mC M_X10_follow) 0 = .ok (.aload_n 0, 1) := by decide +kernel
theorem d_X10_follow_1 : decode (gw_mC M_X10_follow) 1 = .ok (.getfield 58, 3) := by decide +kernel
theorem d_X10_follow_4 : decode (gw_mC M_X10_follow) 4 = .ok (.iload_n 1, 1) := by decide +kernel
theorem d_X10_follow_5 : decode (gw_mC M_X10_follow) 5 = .ok (.iaload, 1) := by decide +kernel
theorem d_X10_follow_6 : decode (gw_mC M_X10_follow) 6 = .ok (.ifCond .le 14, 3) := by decide +kernel
theorem d_X10_follow_9 : decode (gw_mC M_X10_follow) 9 = .ok (.aload_n 0, 1) := by decide +kernel
theorem d_X10_follow_10 : decode (gw_mC M_X10_follow) 10 = .ok (.getfield 58, 3) := by decide +kernel
theorem d_X10_follow_13 : decode (gw_mC M_X10_follow) 13 = .ok (.iload_n 1, 1) := by decide +kernel
theorem d_X10_follow_14 : decode (gw_mC M_X10_follow) 14 = .ok (.dup2, 1) := by decide +kernel
theorem d_X10_follow_15 : decode (gw_mC M_X10_follow) 15 = .ok (.iaload, 1) := by decide +kernel
theorem d_X10_follow_16 : decode (gw_mC M_X10_follow) 16 = .ok (.iconst 1, 1) := by decide +kernel
theorem d_X10_follow_17 : decode (gw_mC M_X10_follow) 17 = .ok (.isub, 1) := by decide +kernel
theorem d_X10_follow_18 : decode (gw_mC M_X10_follow) 18 = .ok (.iastore, 1) := by decide +kernel
theorem d_X10_follow_19 : decode (gw_mC M_X10_follow) 19 = .ok (.return_, 1) := by decide +kernel
theorem d_X10_follow_20 : decode (gw_mC M_X10_follow) 20 = .ok (.aload_n 0, 1) := by decide +kernel
theorem d_X10_follow_21 : decode (gw_mC M_X10_follow) 21 = .ok (.getfield 21, 3) := by decide +kernel
theorem d_X10_follow_24 : decode (gw_mC M_X10_follow) 24 = .ok (.getfield 163, 3) := by decide +kernel
theorem d_X10_follow_27 : decode (gw_mC M_X10_follow) 27 = .ok (.iload_n 1, 1) := by decide +kernel
theorem d_X10_follow_28 : decode (gw_mC M_X10_follow) 28 = .ok (.iaload, 1) := by decide +kernel
theorem d_X10_follow_29 : decode (gw_mC M_X10_follow) 29 = .ok (.istore_n 3, 1) := by decide +kernel
theorem d_X10_follow_30 : decode (gw_mC M_X10_follow) 30 = .ok (.iload_n 3, 1) := by decide +kernel
theorem d_X10_follow_31 : decode (gw_mC M_X10_follow) 31 = .ok (.iconst 2, 1) := by decide +kernel
theorem d_X10_follow_32 : decode (gw_mC M_X10_follow) 32 = .ok (.if_icmp .ne 11, 3) := by decide +kernel
theorem d_X10_follow_35 : decode (gw_mC M_X10_follow) 35 = .ok (.iload_n 2, 1) := by decide +kernel
theorem d_X10_follow_36 : decode (gw_mC M_X10_follow) 36 = .ok (.iconst 2, 1) := by decide +kernel
theorem d_X10_follow_37 : decode (gw_mC M_X10_follow) 37 = .ok (.irem, 1) := by decide +kernel
theorem d_X10_follow_38 : decode (gw_mC M_X10_follow) 38 = .ok (.iconst 1, 1) := by decide +kernel
theorem d_X10_follow_39 : decode (gw_mC M_X10_follow) 39 = .ok (.if_icmp .ne 4, 3) := by decide +kernel
theorem d_X10_follow_42 : decode (gw_mC M_X10_follow) 42 = .ok (.return_, 1) := by decide +kernel
theorem d_X10_follow_43 : decode (gw_mC M_X10_follow) 43 = .ok (.iload_n 3, 1) := by decide +kernel
theorem d_X10_follow_44 : decode (gw_mC M_X10_follow) 44 = .ok (.iconst 3, 1) := by decide +kernel
theorem d_X10_follow_45 : decode (gw_mC M_X10_follow) 45 = .ok (.if_icmp .ne 18, 3) := by decide +kernel
theorem d_X10_follow_48 : decode (gw_mC M_X10_follow) 48 = .ok (.aload_n 0, 1) := by decide +kernel
theorem d_X10_follow_49 : decode (gw_mC M_X10_follow) 49 = .ok (.getfield 36, 3) := by decide +kernel
theorem d_X10_follow_52 : decode (gw_mC M_X10_follow) 52 = .ok (.aload_n 0, 1) := by decide +kernel
theorem d_X10_follow_53 : decode (gw_mC M_X10_follow) 53 = .ok (.iload_n 1, 1) := by decide +kernel
theorem d_X10_follow_54 : decode (gw_mC M_X10_follow) 54 = .ok (.invokevirtual 166, 3) := by decide +kernel
theorem d_X10_follow_57 : decode (gw_mC M_X10_follow) 57 = .ok (.invokestatic 170, 3) := by decide +kernel
theorem d_X10_follow_60 : decode (gw_mC M_X10_follow) 60 = .ok (.goto 7, 3) := by decide +kernel
theorem d_X10_follow_63 : decode (gw_mC M_X10_follow) 63 = .ok (.aload_n 0, 1) := by decide +kernel
theorem d_X10_follow_64 : decode (gw_mC M_X10_follow) 64 = .ok (.getfield 36, 3) := by decide +kernel
theorem d_X10_follow_67 : decode (gw_mC M_X10_follow) 67 = .ok (.istore 4, 2) := by decide +kernel
theorem d_X10_follow_69 : decode (gw_mC M_X10_follow) 69 = .ok (.iconst 0, 1) := by decide +kernel
theorem d_X10_follow_70 : decode (gw_mC M_X10_follow) 70 = .ok (.istore 5, 2) := by decide +kernel
theorem d_X10_follow_72 : decode (gw_mC M_X10_follow) 72 = .ok (.iload 5, 2) := by decide +kernel
theorem d_X10_follow_74 : decode (gw_mC M_X10_follow) 74 = .ok (.aload_n 0, 1) := by decide +kernel
theorem d_X10_follow_75 : decode (gw_mC M_X10_follow) 75 = .ok (.getfield 21, 3) := by decide +kernel
theorem d_X10_follow_78 : decode (gw_mC M_X10_follow) 78 = .ok (.getfield 176, 3) := by decide +kernel
theorem d_X10_follow_81 : decode (gw_mC M_X10_follow) 81 = .ok (.iload_n 1, 1) := by decide +kernel
theorem d_X10_follow_82 : decode (gw_mC M_X10_follow) 82 = .ok (.iaload, 1) := by decide +kernel
theorem d_X10_follow_83 : decode (gw_mC M_X10_follow) 83 = .ok (.if_icmp .ge 114, 3) := by decide +kernel
theorem d_X10_follow_86 : decode (gw_mC M_X10_follow) 86 = .ok (.aload_n 0, 1) := by decide +kernel
theorem d_X10_follow_87 : decode (gw_mC M_X10_follow) 87 = .ok (.getfield 55, 3) := by decide +kernel
theorem d_X10_follow_90 : decode (gw_mC M_X10_follow) 90 = .ok (.iload_n 1, 1) := by decide +kernel
theorem d_X10_follow_91 : decode (gw_mC M_X10_follow) 91 = .ok (.iaload, 1) := by decide +kernel
theorem d_X10_follow_92 : decode (gw_mC M_X10_follow) 92 = .ok (.istore 6, 2) := by decide +kernel
theorem d_X10_follow_94 : decode (gw_mC M_X10_follow) 94 = .ok (.iload 6, 2) := by decide +kernel
theorem d_X10_follow_96 : decode (gw_mC M_X10_follow) 96 = .ok (.iload 4, 2) := by decide +kernel
theorem d_X10_follow_98 : decode (gw_mC M_X10_follow) 98 = .ok (.if_icmp .ge 16, 3) := by decide +kernel
theorem d_X10_follow_101 : decode (gw_mC M_X10_follow) 101 = .ok (.aload_n 0, 1) := by decide +kernel
theorem d_X10_follow_102 : decode (gw_mC M_X10_follow) 102 = .ok (.getfield 12, 3) := by decide +kernel
theorem d_X10_follow_105 : decode (gw_mC M_X10_follow) 105 = .ok (.iload 6, 2) := by decide +kernel
theorem d_X10_follow_107 : decode (gw_mC M_X10_follow) 107 = .ok (.iload_n 2, 1) := by decide +kernel
theorem d_X10_follow_108 : decode (gw_mC M_X10_follow) 108 = .ok (.invokevirtual 127, 3) := by decide +kernel
theorem d_X10_follow_111 : decode (gw_mC M_X10_follow) 111 = .ok (.ifCond .eq 4, 3) := by decide +kernel
theorem d_X10_follow_114 : decode (gw_mC M_X10_follow) 114 = .ok (.return_, 1) := by decide +kernel
theorem d_X10_follow_115 : decode (gw_mC M_X10_follow) 115 = .ok (.aload_n 0, 1) := by decide +kernel
theorem d_X10_follow_116 : decode (gw_mC M_X10_follow) 116 = .ok (.iload_n 1, 1) := by decide +kernel
theorem d_X10_follow_117 : decode (gw_mC M_X10_follow) 117 = .ok (.invokevirtual 179, 3) := by decide +kernel
theorem d_X10_follow_120 : decode (gw_mC M_X10_follow) 120 = .ok (.ifCond .eq 22, 3) := by decide +kernel
theorem d_X10_follow_123 : decode (gw_mC M_X10_follow) 123 = .ok (.aload_n 0, 1) := by decide +kernel
theorem d_X10_follow_124 : decode (gw_mC M_X10_follow) 124 = .ok (.getfield 70, 3) := by decide +kernel
theorem d_X10_follow_127 : decode (gw_mC M_X10_follow) 127 = .ok (.iload_n 1, 1) := by decide +kernel
theorem d_X10_follow_128 : decode (gw_mC M_X10_follow) 128 = .ok (.iload 6, 2) := by decide +kernel
theorem d_X10_follow_130 : decode (gw_mC M_X10_follow) 130 = .ok (.iastore, 1) := by decide +kernel
theorem d_X10_follow_131 : decode (gw_mC M_X10_follow) 131 = .ok (.aload_n 0, 1) := by decide +kernel
theorem d_X10_follow_132 : decode (gw_mC M_X10_follow) 132 = .ok (.dup, 1) := by decide +kernel
theorem d_X10_follow_133 : decode (gw_mC M_X10_follow) 133 = .ok (.getfield 49, 3) := by decide +kernel
theorem d_X10_follow_136 : decode (gw_mC M_X10_follow) 136 = .ok (.iconst 1, 1) := by decide +kernel
theorem d_X10_follow_137 : decode (gw_mC M_X10_follow) 137 = .ok (.iadd, 1) := by decide +kernel
theorem d_X10_follow_138 : decode (gw_mC M_X10_follow) 138 = .ok (.putfield 49, 3) := by decide +kernel
theorem d_X10_follow_141 : decode (gw_mC M_X10_follow) 141 = .ok (.return_, 1) := by decide +kernel
theorem d_X10_follow_142 : decode (gw_mC M_X10_follow) 142 = .ok (.aload_n 0, 1) := by decide +kernel
theorem d_X10_follow_143 : decode (gw_mC M_X10_follow) 143 = .ok (.getfield 55, 3) := by decide +kernel
theorem d_X10_follow_146 : decode (gw_mC M_X10_follow) 146 = .ok (.iload_n 1, 1) := by decide +kernel
theorem d_X10_follow_147 : decode (gw_mC M_X10_follow) 147 = .ok (.iload 6, 2) := by decide +kernel
theorem d_X10_follow_149 : decode (gw_mC M_X10_follow) 149 = .ok (.iconst 1, 1) := by decide +kernel
theorem d_X10_follow_150 : decode (gw_mC M_X10_follow) 150 = .ok (.iadd, 1) := by decide +kernel
theorem d_X10_follow_151 : decode (gw_mC M_X10_follow) 151 = .ok (.iastore, 1) := by decide +kernel
theorem d_X10_follow_152 : decode (gw_mC M_X10_follow) 152 = .ok (.iload_n 3, 1) := by decide +kernel
theorem d_X10_follow_153 : decode (gw_mC M_X10_follow) 153 = .ok (.iconst 1, 1) := by decide +kernel
theorem d_X10_follow_154 : decode (gw_mC M_X10_follow) 154 = .ok (.if_icmp .ne 37, 3) := by decide +kernel
theorem d_X10_follow_157 : decode (gw_mC M_X10_follow) 157 = .ok (.aload_n 0, 1) := by decide +kernel
theorem d_X10_follow_158 : decode (gw_mC M_X10_follow) 158 = .ok (.getfield 12, 3) := by decide +kernel
theorem d_X10_follow_161 : decode (gw_mC M_X10_follow) 161 = .ok (.getfield 183, 3) := by decide +kernel
theorem d_X10_follow_164 : decode (gw_mC M_X10_follow) 164 = .ok (.iload 6, 2) := by decide +kernel
theorem d_X10_follow_166 : decode (gw_mC M_X10_follow) 166 = .ok (.iconst 1, 1) := by decide +kernel
theorem d_X10_follow_167 : decode (gw_mC M_X10_follow) 167 = .ok (.iadd, 1) := by decide +kernel
theorem d_X10_follow_168 : decode (gw_mC M_X10_follow) 168 = .ok (.iaload, 1) := by decide +kernel
theorem d_X10_follow_169 : decode (gw_mC M_X10_follow) 169 = .ok (.ifCond .le 22, 3) := by decide +kernel
theorem d_X10_follow_172 : decode (gw_mC M_X10_follow) 172 = .ok (.aload_n 0, 1) := by decide +kernel
theorem d_X10_follow_173 : decode (gw_mC M_X10_follow) 173 = .ok (.getfield 58, 3) := by decide +kernel
theorem d_X10_follow_176 : decode (gw_mC M_X10_follow) 176 = .ok (.iload_n 1, 1) := by decide +kernel
theorem d_X10_follow_177 : decode (gw_mC M_X10_follow) 177 = .ok (.aload_n 0, 1) := by decide +kernel
theorem d_X10_follow_178 : decode (gw_mC M_X10_follow) 178 = .ok (.getfield 12, 3) := by decide +kernel
theorem d_X10_follow_181 : decode (gw_mC M_X10_follow) 181 = .ok (.getfield 183, 3) := by decide +kernel
theorem d_X10_follow_184 : decode (gw_mC M_X10_follow) 184 = .ok (.iload 6, 2) := by decide +kernel
theorem d_X10_follow_186 : decode (gw_mC M_X10_follow) 186 = .ok (.iconst 1, 1) := by decide +kernel
theorem d_X10_follow_187 : decode (gw_mC M_X10_follow) 187 = .ok (.iadd, 1) := by decide +kernel
theorem d_X10_follow_188 : decode (gw_mC M_X10_follow) 188 = .ok (.iaload, 1) := by decide +kernel
theorem d_X10_follow_189 : decode (gw_mC M_X10_follow) 189 = .ok (.iastore, 1) := by decide +kernel
theorem d_X10_follow_190 : decode (gw_mC M_X10_follow) 190 = .ok (.return_, 1) := by decide +kernel
theorem d_X10_follow_191 : decode (gw_mC M_X10_follow) 191 = .ok (.iinc 5 1, 3) := by decide +kernel
theorem d_X10_follow_194 : decode (gw_mC M_X10_follow) 194 = .ok (.goto (-122), 3) := by decide +kernel
theorem d_X10_follow_197 : decode (gw_mC M_X10_follow) 197 = .ok (.return_, 1) := by decide +kernel
theorem d_X10_lastBeside_0 : decode (gw_mC M_X10_lastBeside) 0 = .ok (.bipush 100, 2) := by decide +kernel
theorem d_X10_lastBeside_2 : decode (gw_mC M_X10_lastBeside) 2 = .ok (.istore_n 2, 1) := by decide +kernel
theorem d_X10_lastBeside_3 : decode (gw_mC M_X10_lastBeside) 3 = .ok (.iconst 0, 1) := by decide +kernel
theorem d_X10_lastBeside_4 : decode (gw_mC M_X10_lastBeside) 4 = .ok (.istore_n 3, 1) := by decide +kernel
theorem d_X10_lastBeside_5 : decode (gw_mC M_X10_lastBeside) 5 = .ok (.iload_n 3, 1) := by decide +kernel
theorem d_X10_lastBeside_6 : decode (gw_mC M_X10_lastBeside) 6 = .ok (.aload_n 0, 1) := by decide +kernel
theorem d_X10_lastBeside_7 : decode (gw_mC M_X10_lastBeside) 7 = .ok (.getfield 21, 3) := by decide +kernel
theorem d_X10_lastBeside_10 : decode (gw_mC M_X10_lastBeside) 10 = .ok (.getfield 105, 3) := by decide +kernel
theorem d_X10_lastBeside_13 : decode (gw_mC M_X10_lastBeside) 13 = .ok (.if_icmp .ge 34, 3) := by decide +kernel
theorem d_X10_lastBeside_16 : decode (gw_mC M_X10_lastBeside) 16 = .ok (.iload_n 3, 1) := by decide +kernel
theorem d_X10_lastBeside_17 : decode (gw_mC M_X10_lastBeside) 17 = .ok (.iload_n 1, 1) := by decide +kernel
theorem d_X10_lastBeside_18 : decode (gw_mC M_X10_lastBeside) 18 = .ok (.if_icmp .eq 23, 3) := by decide +kernel
theorem d_X10_lastBeside_21 : decode (gw_mC M_X10_lastBeside) 21 = .ok (.aload_n 0, 1) := by decide +kernel
theorem d_X10_lastBeside_22 : decode (gw_mC M_X10_lastBeside) 22 = .ok (.getfield 70, 3) := by decide +kernel
theorem d_X10_lastBeside_25 : decode (gw_mC M_X10_lastBeside) 25 = .ok (.iload_n 3, 1) := by decide +kernel
theorem d_X10_lastBeside_26 : decode (gw_mC M_X10_lastBeside) 26 = .ok (.iaload, 1) := by decide +kernel
theorem d_X10_lastBeside_27 : decode (gw_mC M_X10_lastBeside) 27 = .ok (.ifCond .ge 14, 3) := by decide +kernel
theorem d_X10_lastBeside_30 : decode (gw_mC M_X10_lastBeside) 30 = .ok (.iload_n 2, 1) := by decide +kernel
theorem d_X10_lastBeside_31 : decode (gw_mC M_X10_lastBeside) 31 = .ok (.aload_n 0, 1) := by decide +kernel
theorem d_X10_lastBeside_32 : decode (gw_mC M_X10_lastBeside) 32 = .ok (.getfield 55, 3) := by decide +kernel
theorem d_X10_lastBeside_35 : decode (gw_mC M_X10_lastBeside) 35 = .ok (.iload_n 3, 1) := by decide +kernel
theorem d_X10_lastBeside_36 : decode (gw_mC M_X10_lastBeside) 36 = .ok (.iaload, 1) := by decide +kernel
theorem d_X10_lastBeside_37 : decode (gw_mC M_X10_lastBeside) 37 = .ok (.invokestatic 170, 3) := by decide +kernel
theorem d_X10_lastBeside_40 : decode (gw_mC M_X10_lastBeside) 40 = .ok (.istore_n 2, 1) := by decide +kernel
theorem d_X10_lastBeside_41 : decode (gw_mC M_X10_lastBeside) 41 = .ok (.iinc 3 1, 3) := by decide +kernel
theorem d_X10_lastBeside_44 : decode (gw_mC M_X10_lastBeside) 44 = .ok (.goto (-39), 3) := by decide +kernel
theorem d_X10_lastBeside_47 : decode (gw_mC M_X10_lastBeside) 47 = .ok (.iload_n 2, 1) := by decide +kernel
theorem d_X10_lastBeside_48 : decode (gw_mC M_X10_lastBeside) 48 = .ok (.ireturn, 1) := by decide +kernel
theorem d_X10_losesItsWay_0 : decode (gw_mC M_X10_losesItsWay) 0 = .ok (.aload_n 0, 1) := by decide +kernel
theorem d_X10_losesItsWay_1 : decode (gw_mC M_X10_losesItsWay) 1 = .ok (.getfield 55, 3) := by decide +kernel
theorem d_X10_losesItsWay_4 : decode (gw_mC M_X10_losesItsWay) 4 = .ok (.iload_n 1, 1) := by decide +kernel
theorem d_X10_losesItsWay_5 : decode (gw_mC M_X10_losesItsWay) 5 = .ok (.iaload, 1) := by decide +kernel
theorem d_X10_losesItsWay_6 : decode (gw_mC M_X10_losesItsWay) 6 = .ok (.istore_n 2, 1) := by decide +kernel
theorem d_X10_losesItsWay_7 : decode (gw_mC M_X10_losesItsWay) 7 = .ok (.aload_n 0, 1) := by decide +kernel
theorem d_X10_losesItsWay_8 : decode (gw_mC M_X10_losesItsWay) 8 = .ok (.getfield 12, 3) := by decide +kernel
theorem d_X10_losesItsWay_11 : decode (gw_mC M_X10_losesItsWay) 11 = .ok (.getfield 186, 3) := by decide +kernel
theorem d_X10_losesItsWay_14 : decode (gw_mC M_X10_losesItsWay) 14 = .ok (.iload_n 2, 1) := by decide +kernel
theorem d_X10_losesItsWay_15 : decode (gw_mC M_X10_losesItsWay) 15 = .ok (.iaload, 1) := by decide +kernel
theorem d_X10_losesItsWay_16 : decode (gw_mC M_X10_losesItsWay) 16 = .ok (.istore_n 3, 1) := by decide +kernel
theorem d_X10_losesItsWay_17 : decode (gw_mC M_X10_losesItsWay) 17 = .ok (.iload_n 3, 1) := by decide +kernel
theorem d_X10_losesItsWay_18 : decode (gw_mC M_X10_losesItsWay) 18 = .ok (.ifCond .le 45, 3) := by decide +kernel
theorem d_X10_losesItsWay_21 : decode (gw_mC M_X10_losesItsWay) 21 = .ok (.iload_n 1, 1) := by decide +kernel
theorem d_X10_losesItsWay_22 : decode (gw_mC M_X10_losesItsWay) 22 = .ok (.aload_n 0, 1) := by decide +kernel
theorem d_X10_losesItsWay_23 : decode (gw_mC M_X10_losesItsWay) 23 = .ok (.getfield 46, 3) := by decide +kernel
theorem d_X10_losesItsWay_26 : decode (gw_mC M_X10_losesItsWay) 26 = .ok (.if_icmp .eq 37, 3) := by decide +kernel
theorem d_X10_losesItsWay_29 : decode (gw_mC M_X10_losesItsWay) 29 = .ok (.aload_n 0, 1) := by decide +kernel
theorem d_X10_losesItsWay_30 : decode (gw_mC M_X10_losesItsWay) 30 = .ok (.getfield 36, 3) := by decide +kernel
theorem d_X10_losesItsWay_33 : decode (gw_mC M_X10_losesItsWay) 33 = .ok (.iload_n 2, 1) := by decide +kernel
theorem d_X10_losesItsWay_34 : decode (gw_mC M_X10_losesItsWay) 34 = .ok (.isub, 1) := by decide +kernel
theorem d_X10_losesItsWay_35 : decode (gw_mC M_X10_losesItsWay) 35 = .ok (.iload_n 3, 1) := by decide +kernel
theorem d_X10_losesItsWay_36 : decode (gw_mC M_X10_losesItsWay) 36 = .ok (.if_icmp .le 27, 3) := by decide +kernel
theorem d_X10_losesItsWay_39 : decode (gw_mC M_X10_losesItsWay) 39 = .ok (.aload_n 0, 1) := by decide +kernel
theorem d_X10_losesItsWay_40 : decode (gw_mC M_X10_losesItsWay) 40 = .ok (.getfield 46, 3) := by decide +kernel
theorem d_X10_losesItsWay_43 : decode (gw_mC M_X10_losesItsWay) 43 = .ok (.ifCond .lt 16, 3) := by decide +kernel
theorem d_X10_losesItsWay_46 : decode (gw_mC M_X10_losesItsWay) 46 = .ok (.aload_n 0, 1) := by decide +kernel
theorem d_X10_losesItsWay_47 : decode (gw_mC M_X10_losesItsWay) 47 = .ok (.getfield 55, 3) := by decide +kernel
theorem d_X10_losesItsWay_50 : decode (gw_mC M_X10_losesItsWay) 50 = .ok (.aload_n 0, 1) := by decide +kernel
theorem d_X10_losesItsWay_51 : decode (gw_mC M_X10_losesItsWay) 51 = .ok (.getfield 46, 3) := by decide +kernel
theorem d_X10_losesItsWay_54 : decode (gw_mC M_X10_losesItsWay) 54 = .ok (.iaload, 1) := by decide +kernel
theorem d_X10_losesItsWay_55 : decode (gw_mC M_X10_losesItsWay) 55 = .ok (.iload_n 2, 1) := by decide +kernel
theorem d_X10_losesItsWay_56 : decode (gw_mC M_X10_losesItsWay) 56 = .ok (.if_icmp .le 7, 3) := by decide +kernel
theorem d_X10_losesItsWay_59 : decode (gw_mC M_X10_losesItsWay) 59 = .ok (.iconst 1, 1) := by decide +kernel
theorem d_X10_losesItsWay_60 : decode (gw_mC M_X10_losesItsWay) 60 = .ok (.goto 4, 3) := by decide +kernel
theorem d_X10_losesItsWay_63 : decode (gw_mC M_X10_losesItsWay) 63 = .ok (.iconst 0, 1) := by decide +kernel
theorem d_X10_losesItsWay_64 : decode (gw_mC M_X10_losesItsWay) 64 = .ok (.ireturn, 1) := by decide +kernel
theorem d_X10_closeMinute_0 : decode (gw_mC M_X10_closeMinute) 0 = .ok (.aload_n 0, 1) := by decide +kernel
theorem d_X10_closeMinute_1 : decode (gw_mC M_X10_closeMinute) 1 = .ok (.getfield 36, 3) := by decide +kernel
theorem d_X10_closeMinute_4 : decode (gw_mC M_X10_closeMinute) 4 = .ok (.aload_n 0, 1) := by decide +kernel
theorem d_X10_closeMinute_5 : decode (gw_mC M_X10_closeMinute) 5 = .ok (.getfield 12, 3) := by decide +kernel
theorem d_X10_closeMinute_8 : decode (gw_mC M_X10_closeMinute) 8 = .ok (.getfield 108, 3) := by decide +kernel
theorem d_X10_closeMinute_11 : decode (gw_mC M_X10_closeMinute) 11 = .ok (.if_icmp .ge 7, 3) := by decide +kernel
theorem d_X10_closeMinute_14 : decode (gw_mC M_X10_closeMinute) 14 = .ok (.iconst 1, 1) := by decide +kernel
theorem d_X10_closeMinute_15 : decode (gw_mC M_X10_closeMinute) 15 = .ok (.goto 4, 3) := by decide +kernel
theorem d_X10_closeMinute_18 : decode (gw_mC M_X10_closeMinute) 18 = .ok (.iconst 0, 1) := by decide +kernel
theorem d_X10_closeMinute_19 : decode (gw_mC M_X10_closeMinute) 19 = .ok (.istore_n 2, 1) := by decide +kernel
theorem d_X10_closeMinute_20 : decode (gw_mC M_X10_closeMinute) 20 = .ok (.aload_n 0, 1) := by decide +kernel
theorem d_X10_closeMinute_21 : decode (gw_mC M_X10_closeMinute) 21 = .ok (.iconst (-1), 1) := by decide +kernel
theorem d_X10_closeMinute_22 : decode (gw_mC M_X10_closeMinute) 22 = .ok (.putfield 52, 3) := by decide +kernel
theorem d_X10_closeMinute_25 : decode (gw_mC M_X10_closeMinute) 25 = .ok (.iconst 0, 1) := by decide +kernel
theorem d_X10_closeMinute_26 : decode (gw_mC M_X10_closeMinute) 26 = .ok (.istore_n 3, 1) := by decide +kernel
theorem d_X10_closeMinute_27 : decode (gw_mC M_X10_closeMinute) 27 = .ok (.iload_n 3, 1) := by decide +kernel
theorem d_X10_closeMinute_28 : decode (gw_mC M_X10_closeMinute) 28 = .ok (.aload_n 0, 1) := by decide +kernel
theorem d_X10_closeMinute_29 : decode (gw_mC M_X10_closeMinute) 29 = .ok (.getfield 21, 3) := by decide +kernel
theorem d_X10_closeMinute_32 : decode (gw_mC M_X10_closeMinute) 32 = .ok (.getfield 105, 3) := by decide +kernel
theorem d_X10_closeMinute_35 : decode (gw_mC M_X10_closeMinute) 35 = .ok (.if_icmp .ge 115, 3) := by decide +kernel
theorem d_X10_closeMinute_38 : decode (gw_mC M_X10_closeMinute) 38 = .ok (.aload_n 0, 1) := by decide +kernel
theorem d_X10_closeMinute_39 : decode (gw_mC M_X10_closeMinute) 39 = .ok (.getfield 70, 3) := by decide +kernel
theorem d_X10_closeMinute_42 : decode (gw_mC M_X10_closeMinute) 42 = .ok (.iload_n 3, 1) := by decide +kernel
theorem d_X10_closeMinute_43 : decode (gw_mC M_X10_closeMinute) 43 = .ok (.iaload, 1) := by decide +kernel
theorem d_X10_closeMinute_44 : decode (gw_mC M_X10_closeMinute) 44 = .ok (.ifCond .ge 100, 3) := by decide +kernel
theorem d_X10_closeMinute_47 : decode (gw_mC M_X10_closeMinute) 47 = .ok (.aload_n 0, 1) := by decide +kernel
theorem d_X10_closeMinute_48 : decode (gw_mC M_X10_closeMinute) 48 = .ok (.getfield 55, 3) := by decide +kernel
theorem d_X10_closeMinute_51 : decode (gw_mC M_X10_closeMinute) 51 = .ok (.iload_n 3, 1) := by decide +kernel
theorem d_X10_closeMinute_52 : decode (gw_mC M_X10_closeMinute) 52 = .ok (.iaload, 1) := by decide +kernel
theorem d_X10_closeMinute_53 : decode (gw_mC M_X10_closeMinute) 53 = .ok (.istore 4, 2) := by decide +kernel
theorem d_X10_closeMinute_55 : decode (gw_mC M_X10_closeMinute) 55 = .ok (.aload_n 0, 1) := by decide +kernel
theorem d_X10_closeMinute_56 : decode (gw_mC M_X10_closeMinute) 56 = .ok (.aload_n 0, 1) := by decide +kernel
theorem d_X10_closeMinute_57 : decode (gw_mC M_X10_closeMinute) 57 = .ok (.getfield 52, 3) := by decide +kernel
theorem d_X10_closeMinute_60 : decode (gw_mC M_X10_closeMinute) 60 = .ok (.ifCond .ge 8, 3) := by decide +kernel
theorem d_X10_closeMinute_63 : decode (gw_mC M_X10_closeMinute) 63 = .ok (.iload 4, 2) := by decide +kernel
theorem d_X10_closeMinute_65 : decode (gw_mC M_X10_closeMinute) 65 = .ok (.goto 12, 3) := by decide +kernel
theorem d_X10_closeMinute_68 : decode (gw_mC M_X10_closeMinute) 68 = .ok (.aload_n 0, 1) := by decide +kernel
theorem d_X10_closeMinute_69 : decode (gw_mC M_X10_closeMinute) 69 = .ok (.getfield 52, 3) := by decide +kernel
theorem d_X10_closeMinute_72 : decode (gw_mC M_X10_closeMinute) 72 = .ok (.iload 4, 2) := by decide +kernel
theorem d_X10_closeMinute_74 : decode (gw_mC M_X10_closeMinute) 74 = .ok (.invokestatic 170, 3) := by decide +kernel
theorem d_X10_closeMinute_77 : decode (gw_mC M_X10_closeMinute) 77 = .ok (.putfield 52, 3) := by decide +kernel
theorem d_X10_closeMinute_80 : decode (gw_mC M_X10_closeMinute) 80 = .ok (.aload_n 0, 1) := by decide +kernel
theorem d_X10_closeMinute_81 : decode (gw_mC M_X10_closeMinute) 81 = .ok (.getfield 64, 3) := by decide +kernel
theorem d_X10_closeMinute_84 : decode (gw_mC M_X10_closeMinute) 84 = .ok (.iload_n 3, 1) := by decide +kernel
theorem d_X10_closeMinute_85 : decode (gw_mC M_X10_closeMinute) 85 = .ok (.dup2, 1) := by decide +kernel
theorem d_X10_closeMinute_86 : decode (gw_mC M_X10_closeMinute) 86 = .ok (.iaload, 1) := by decide +kernel
theorem d_X10_closeMinute_87 : decode (gw_mC M_X10_closeMinute) 87 = .ok (.iload_n 2, 1) := by decide +kernel
theorem d_X10_closeMinute_88 : decode (gw_mC M_X10_closeMinute) 88 = .ok (.ifCond .eq 16, 3) := by decide +kernel
theorem d_X10_closeMinute_91 : decode (gw_mC M_X10_closeMinute) 91 = .ok (.iload 4, 2) := by decide +kernel
theorem d_X10_closeMinute_93 : decode (gw_mC M_X10_closeMinute) 93 = .ok (.aload_n 0, 1) := by decide +kernel
theorem d_X10_closeMinute_94 : decode (gw_mC M_X10_closeMinute) 94 = .ok (.getfield 36, 3) := by decide +kernel
theorem d_X10_closeMinute_97 : decode (gw_mC M_X10_closeMinute) 97 = .ok (.if_icmp .ne 7, 3) := by decide +kernel
theorem d_X10_closeMinute_100 : decode (gw_mC M_X10_closeMinute) 100 = .ok (.iconst 1, 1) := by decide +kernel
theorem d_X10_closeMinute_101 : decode (gw_mC M_X10_closeMinute) 101 = .ok (.goto 4, 3) := by decide +kernel
theorem d_X10_closeMinute_104 : decode (gw_mC M_X10_closeMinute) 104 = .ok (.iconst 0, 1) := by decide +kernel
theorem d_X10_closeMinute_105 : decode (gw_mC M_X10_closeMinute) 105 = .ok (.iadd, 1) := by decide +kernel
theorem d_X10_closeMinute_106 : decode (gw_mC M_X10_closeMinute) 106 = .ok (.iastore, 1) := by decide +kernel
theorem d_X10_closeMinute_107 : decode (gw_mC M_X10_closeMinute) 107 = .ok (.aload_n 0, 1) := by decide +kernel
theorem d_X10_closeMinute_108 : decode (gw_mC M_X10_closeMinute) 108 = .ok (.getfield 67, 3) := by decide +kernel
theorem d_X10_closeMinute_111 : decode (gw_mC M_X10_closeMinute) 111 = .ok (.iload_n 3, 1) := by decide +kernel
theorem d_X10_closeMinute_112 : decode (gw_mC M_X10_closeMinute) 112 = .ok (.aload_n 0, 1) := by decide +kernel
theorem d_X10_closeMinute_113 : decode (gw_mC M_X10_closeMinute) 113 = .ok (.getfield 67, 3) := by decide +kernel
theorem d_X10_closeMinute_116 : decode (gw_mC M_X10_closeMinute) 116 = .ok (.iload_n 3, 1) := by decide +kernel
theorem d_X10_closeMinute_117 : decode (gw_mC M_X10_closeMinute) 117 = .ok (.iaload, 1) := by decide +kernel
theorem d_X10_closeMinute_118 : decode (gw_mC M_X10_closeMinute) 118 = .ok (.ifCond .ge 19, 3) := by decide +kernel
theorem d_X10_closeMinute_121 : decode (gw_mC M_X10_closeMinute) 121 = .ok (.iload 4, 2) := by decide +kernel
theorem d_X10_closeMinute_123 : decode (gw_mC M_X10_closeMinute) 123 = .ok (.aload_n 0, 1) := by decide +kernel
theorem d_X10_closeMinute_124 : decode (gw_mC M_X10_closeMinute) 124 = .ok (.getfield 12, 3) := by decide +kernel
theorem d_X10_closeMinute_127 : decode (gw_mC M_X10_closeMinute) 127 = .ok (.getfield 108, 3) := by decide +kernel
theorem d_X10_closeMinute_130 : decode (gw_mC M_X10_closeMinute) 130 = .ok (.if_icmp .ne 7, 3) := by decide +kernel
theorem d_X10_closeMinute_133 : decode (gw_mC M_X10_closeMinute) 133 = .ok (.iload_n 1, 1) := by decide +kernel
theorem d_X10_closeMinute_134 : decode (gw_mC M_X10_closeMinute) 134 = .ok (.goto 9, 3) := by decide +kernel
theorem d_X10_closeMinute_137 : decode (gw_mC M_X10_closeMinute) 137 = .ok (.aload_n 0, 1) := by decide +kernel
theorem d_X10_closeMinute_138 : decode (gw_mC M_X10_closeMinute) 138 = .ok (.getfield 67, 3) := by decide +kernel
theorem d_X10_closeMinute_141 : decode (gw_mC M_X10_closeMinute) 141 = .ok (.iload_n 3, 1) := by decide +kernel
theorem d_X10_closeMinute_142 : decode (gw_mC M_X10_closeMinute) 142 = .ok (.iaload, 1) := by decide +kernel
theorem d_X10_closeMinute_143 : decode (gw_mC M_X10_closeMinute) 143 = .ok (.iastore, 1) := by decide +kernel
theorem d_X10_closeMinute_144 : decode (gw_mC M_X10_closeMinute) 144 = .ok (.iinc 3 1, 3) := by decide +kernel
theorem d_X10_closeMinute_147 : decode (gw_mC M_X10_closeMinute) 147 = .ok (.goto (-120), 3) := by decide +kernel
theorem d_X10_closeMinute_150 : decode (gw_mC M_X10_closeMinute) 150 = .ok (.iload_n 2, 1) := by decide +kernel
theorem d_X10_closeMinute_151 : decode (gw_mC M_X10_closeMinute) 151 = .ok (.ifCond .ne 15, 3) := by decide +kernel
theorem d_X10_closeMinute_154 : decode (gw_mC M_X10_closeMinute) 154 = .ok (.aload_n 0, 1) := by decide +kernel
theorem d_X10_closeMinute_155 : decode (gw_mC M_X10_closeMinute) 155 = .ok (.getfield 40, 3) := by decide +kernel
theorem d_X10_closeMinute_158 : decode (gw_mC M_X10_closeMinute) 158 = .ok (.ifCond .ge 8, 3) := by decide +kernel
theorem d_X10_closeMinute_161 : decode (gw_mC M_X10_closeMinute) 161 = .ok (.aload_n 0, 1) := by decide +kernel
theorem d_X10_closeMinute_162 : decode (gw_mC M_X10_closeMinute) 162 = .ok (.iload_n 1, 1) := by decide +kernel
theorem d_X10_closeMinute_163 : decode (gw_mC M_X10_closeMinute) 163 = .ok (.putfield 40, 3) := by decide +kernel
theorem d_X10_closeMinute_166 : decode (gw_mC M_X10_closeMinute) 166 = .ok (.aload_n 0, 1) := by decide +kernel
theorem d_X10_closeMinute_167 : decode (gw_mC M_X10_closeMinute) 167 = .ok (.aload_n 0, 1) := by decide +kernel
theorem d_X10_closeMinute_168 : decode (gw_mC M_X10_closeMinute) 168 = .ok (.getfield 43, 3) := by decide +kernel
theorem d_X10_closeMinute_171 : decode (gw_mC M_X10_closeMinute) 171 = .ok (.aload_n 0, 1) := by decide +kernel
theorem d_X10_closeMinute_172 : decode (gw_mC M_X10_closeMinute) 172 = .ok (.invokevirtual 189, 3) := by decide +kernel
theorem d_X10_closeMinute_175 : decode (gw_mC M_X10_closeMinute) 175 = .ok (.invokestatic 192, 3) := by decide +kernel
theorem d_X10_closeMinute_178 : decode (gw_mC M_X10_closeMinute) 178 = .ok (.putfield 43, 3) := by decide +kernel
theorem d_X10_closeMinute_181 : decode (gw_mC M_X10_closeMinute) 181 = .ok (.aload_n 0, 1) := by decide +kernel
theorem d_X10_closeMinute_182 : decode (gw_mC M_X10_closeMinute) 182 = .ok (.getfield 12, 3) := by decide +kernel
theorem d_X10_closeMinute_185 : decode (gw_mC M_X10_closeMinute) 185 = .ok (.getfield 131, 3) := by decide +kernel
theorem d_X10_closeMinute_188 : decode (gw_mC M_X10_closeMinute) 188 = .ok (.aload_n 0, 1) := by decide +kernel
theorem d_X10_closeMinute_189 : decode (gw_mC M_X10_closeMinute) 189 = .ok (.getfield 36, 3) := by decide +kernel
theorem d_X10_closeMinute_192 : decode (gw_mC M_X10_closeMinute) 192 = .ok (.iaload, 1) := by decide +kernel
theorem d_X10_closeMinute_193 : decode (gw_mC M_X10_closeMinute) 193 = .ok (.ifCond .le 36, 3) := by decide +kernel
theorem d_X10_closeMinute_196 : decode (gw_mC M_X10_closeMinute) 196 = .ok (.aload_n 0, 1) := by decide +kernel
theorem d_X10_closeMinute_197 : decode (gw_mC M_X10_closeMinute) 197 = .ok (.getfield 32, 3) := by decide +kernel
theorem d_X10_closeMinute_200 : decode (gw_mC M_X10_closeMinute) 200 = .ok (.aload_n 0, 1) := by decide +kernel
theorem d_X10_closeMinute_201 : decode (gw_mC M_X10_closeMinute) 201 = .ok (.invokevirtual 189, 3) := by decide +kernel
theorem d_X10_closeMinute_204 : decode (gw_mC M_X10_closeMinute) 204 = .ok (.aload_n 0, 1) := by decide +kernel
theorem d_X10_closeMinute_205 : decode (gw_mC M_X10_closeMinute) 205 = .ok (.getfield 25, 3) := by decide +kernel
theorem d_X10_closeMinute_208 : decode (gw_mC M_X10_closeMinute) 208 = .ok (.iconst 4, 1) := by decide +kernel
theorem d_X10_closeMinute_209 : decode (gw_mC M_X10_closeMinute) 209 = .ok (.iaload, 1) := by decide +kernel
theorem d_X10_closeMinute_210 : decode (gw_mC M_X10_closeMinute) 210 = .ok (.if_icmp .gt 15, 3) := by decide +kernel
theorem d_X10_closeMinute_213 : decode (gw_mC M_X10_closeMinute) 213 = .ok (.aload_n 0, 1) := by decide +kernel
theorem d_X10_closeMinute_214 : decode (gw_mC M_X10_closeMinute) 214 = .ok (.getfield 32, 3) := by decide +kernel
theorem d_X10_closeMinute_217 : decode (gw_mC M_X10_closeMinute) 217 = .ok (.getfield 153, 3) := by decide +kernel
theorem d_X10_closeMinute_220 : decode (gw_mC M_X10_closeMinute) 220 = .ok (.iconst 1, 1) := by decide +kernel
theorem d_X10_closeMinute_221 : decode (gw_mC M_X10_closeMinute) 221 = .ok (.iadd, 1) := by decide +kernel
theorem d_X10_closeMinute_222 : decode (gw_mC M_X10_closeMinute) 222 = .ok (.goto 4, 3) := by decide +kernel
theorem d_X10_closeMinute_225 : decode (gw_mC M_X10_closeMinute) 225 = .ok (.iconst 0, 1) := by decide +kernel
theorem d_X10_closeMinute_226 : decode (gw_mC M_X10_closeMinute) 226 = .ok (.putfield 153, 3) := by decide +kernel
theorem d_X10_closeMinute_229 : decode (gw_mC M_X10_closeMinute) 229 = .ok (.return_, 1) := by decide +kernel
theorem d_X10_out_0 : decode (gw_mC M_X10_out) 0 = .ok (.aload_n 0, 1) := by decide +kernel
theorem d_X10_out_1 : decode (gw_mC M_X10_out) 1 = .ok (.getfield 52, 3) := by decide +kernel
theorem d_X10_out_4 : decode (gw_mC M_X10_out) 4 = .ok (.ifCond .ge 8, 3) := by decide +kernel
theorem d_X10_out_7 : decode (gw_mC M_X10_out) 7 = .ok (.bipush (-4), 2) := by decide +kernel
theorem d_X10_out_9 : decode (gw_mC M_X10_out) 9 = .ok (.goto 12, 3) := by decide +kernel
theorem d_X10_out_12 : decode (gw_mC M_X10_out) 12 = .ok (.aload_n 0, 1) := by decide +kernel
theorem d_X10_out_13 : decode (gw_mC M_X10_out) 13 = .ok (.getfield 36, 3) := by decide +kernel
theorem d_X10_out_16 : decode (gw_mC M_X10_out) 16 = .ok (.aload_n 0, 1) := by decide +kernel
theorem d_X10_out_17 : decode (gw_mC M_X10_out) 17 = .ok (.getfield 52, 3) := by decide +kernel
theorem d_X10_out_20 : decode (gw_mC M_X10_out) 20 = .ok (.isub, 1) := by decide +kernel
theorem d_X10_out_21 : decode (gw_mC M_X10_out) 21 = .ok (.ireturn, 1) := by decide +kernel
theorem d_X10_leastHeardInTime_0 : decode (gw_mC M_X10_leastHeardInTime) 0 = .ok (.aload_n 0, 1) := by decide +kernel
theorem d_X10_leastHeardInTime_1 : decode (gw_mC M_X10_leastHeardInTime) 1 = .ok (.invokevirtual 195, 3) := by decide +kernel
theorem d_X10_leastHeardInTime_4 : decode (gw_mC M_X10_leastHeardInTime) 4 = .ok (.iconst 0, 1) := by decide +kernel
theorem d_X10_leastHeardInTime_5 : decode (gw_mC M_X10_leastHeardInTime) 5 = .ok (.istore_n 2, 1) := by decide +kernel
theorem d_X10_leastHeardInTime_6 : decode (gw_mC M_X10_leastHeardInTime) 6 = .ok (.iload_n 2, 1) := by decide +kernel
theorem d_X10_leastHeardInTime_7 : decode (gw_mC M_X10_leastHeardInTime) 7 = .ok (.iload_n 1, 1) := by decide +kernel
theorem d_X10_leastHeardInTime_8 : decode (gw_mC M_X10_leastHeardInTime) 8 = .ok (.if_icmp .gt 44, 3) := by decide +kernel
theorem d_X10_leastHeardInTime_11 : decode (gw_mC M_X10_leastHeardInTime) 11 = .ok (.aload_n 0, 1) := by decide +kernel
theorem d_X10_leastHeardInTime_12 : decode (gw_mC M_X10_leastHeardInTime) 12 = .ok (.getfield 49, 3) := by decide +kernel
theorem d_X10_leastHeardInTime_15 : decode (gw_mC M_X10_leastHeardInTime) 15 = .ok (.ifCond .ne 37, 3) := by decide +kernel
theorem d_X10_leastHeardInTime_18 : decode (gw_mC M_X10_leastHeardInTime) 18 = .ok (.aload_n 0, 1) := by decide +kernel
theorem d_X10_leastHeardInTime_19 : decode (gw_mC M_X10_leastHeardInTime) 19 = .ok (.iload_n 2, 1) := by decide +kernel
theorem d_X10_leastHeardInTime_20 : decode (gw_mC M_X10_leastHeardInTime) 20 = .ok (.invokevirtual 198, 3) := by decide +kernel
theorem d_X10_leastHeardInTime_23 : decode (gw_mC M_X10_leastHeardInTime) 23 = .ok (.aload_n 0, 1) := by decide +kernel
theorem d_X10_leastHeardInTime_24 : decode (gw_mC M_X10_leastHeardInTime) 24 = .ok (.invokevirtual 201, 3) := by decide +kernel
theorem d_X10_leastHeardInTime_27 : decode (gw_mC M_X10_leastHeardInTime) 27 = .ok (.ifCond .eq 19, 3) := by decide +kernel
theorem d_X10_leastHeardInTime_30 : decode (gw_mC M_X10_leastHeardInTime) 30 = .ok (.aload_n 0, 1) := by decide +kernel
theorem d_X10_leastHeardInTime_31 : decode (gw_mC M_X10_leastHeardInTime) 31 = .ok (.getfield 49, 3) := by decide +kernel
theorem d_X10_leastHeardInTime_34 : decode (gw_mC M_X10_leastHeardInTime) 34 = .ok (.ifCond .ne 10, 3) := by decide +kernel
theorem d_X10_leastHeardInTime_37 : decode (gw_mC M_X10_leastHeardInTime) 37 = .ok (.aload_n 0, 1) := by decide +kernel
theorem d_X10_leastHeardInTime_38 : decode (gw_mC M_X10_leastHeardInTime) 38 = .ok (.invokevirtual 204, 3) := by decide +kernel
theorem d_X10_leastHeardInTime_41 : decode (gw_mC M_X10_leastHeardInTime) 41 = .ok (.goto 4, 3) := by decide +kernel
theorem d_X10_leastHeardInTime_44 : decode (gw_mC M_X10_leastHeardInTime) 44 = .ok (.iconst (-1), 1) := by decide +kernel
theorem d_X10_leastHeardInTime_45 : decode (gw_mC M_X10_leastHeardInTime) 45 = .ok (.ireturn, 1) := by decide +kernel
theorem d_X10_leastHeardInTime_46 : decode (gw_mC M_X10_leastHeardInTime) 46 = .ok (.iinc 2 1, 3) := by decide +kernel
theorem d_X10_leastHeardInTime_49 : decode (gw_mC M_X10_leastHeardInTime) 49 = .ok (.goto (-43), 3) := by decide +kernel
theorem d_X10_leastHeardInTime_52 : decode (gw_mC M_X10_leastHeardInTime) 52 = .ok (.iconst (-1), 1) := by decide +kernel
theorem d_X10_leastHeardInTime_53 : decode (gw_mC M_X10_leastHeardInTime) 53 = .ok (.ireturn, 1) := by decide +kernel
theorem d_X10_heardTogether_0 : decode (gw_mC M_X10_heardTogether) 0 = .ok (.iconst 0, 1) := by decide +kernel
theorem d_X10_heardTogether_1 : decode (gw_mC M_X10_heardTogether) 1 = .ok (.istore_n 1, 1) := by decide +kernel
theorem d_X10_heardTogether_2 : decode (gw_mC M_X10_heardTogether) 2 = .ok (.iconst 0, 1) := by decide +kernel
theorem d_X10_heardTogether_3 : decode (gw_mC M_X10_heardTogether) 3 = .ok (.istore_n 2, 1) := by decide +kernel
theorem d_X10_heardTogether_4 : decode (gw_mC M_X10_heardTogether) 4 = .ok (.iload_n 2, 1) := by decide +kernel
theorem d_X10_heardTogether_5 : decode (gw_mC M_X10_heardTogether) 5 = .ok (.aload_n 0, 1) := by decide +kernel
theorem d_X10_heardTogether_6 : decode (gw_mC M_X10_heardTogether) 6 = .ok (.getfield 21, 3) := by decide +kernel
theorem d_X10_heardTogether_9 : decode (gw_mC M_X10_heardTogether) 9 = .ok (.getfield 105, 3) := by decide +kernel
theorem d_X10_heardTogether_12 : decode (gw_mC M_X10_heardTogether) 12 = .ok (.if_icmp .ge 18, 3) := by decide +kernel
theorem d_X10_heardTogether_15 : decode (gw_mC M_X10_heardTogether) 15 = .ok (.iload_n 1, 1) := by decide +kernel
theorem d_X10_heardTogether_16 : decode (gw_mC M_X10_heardTogether) 16 = .ok (.aload_n 0, 1) := by decide +kernel
theorem d_X10_heardTogether_17 : decode (gw_mC M_X10_heardTogether) 17 = .ok (.getfield 61, 3) := by decide +kernel
theorem d_X10_heardTogether_20 : decode (gw_mC M_X10_heardTogether) 20 = .ok (.iload_n 2, 1) := by decide +kernel
theorem d_X10_heardTogether_21 : decode (gw_mC M_X10_heardTogether) 21 = .ok (.iaload, 1) := by decide +kernel
theorem d_X10_heardTogether_22 : decode (gw_mC M_X10_heardTogether) 22 = .ok (.iadd, 1) := by decide +kernel
theorem d_X10_heardTogether_23 : decode (gw_mC M_X10_heardTogether) 23 = .ok (.istore_n 1, 1) := by decide +kernel
theorem d_X10_heardTogether_24 : decode (gw_mC M_X10_heardTogether) 24 = .ok (.iinc 2 1, 3) := by decide +kernel
theorem d_X10_heardTogether_27 : decode (gw_mC M_X10_heardTogether) 27 = .ok (.goto (-23), 3) := by decide +kernel
theorem d_X10_heardTogether_30 : decode (gw_mC M_X10_heardTogether) 30 = .ok (.iload_n 1, 1) := by decide +kernel
theorem d_X10_heardTogether_31 : decode (gw_mC M_X10_heardTogether) 31 = .ok (.ireturn, 1) := by decide +kernel
theorem d_X10_leastHeard_0 : decode (gw_mC M_X10_leastHeard) 0 = .ok (.bipush (-4), 2) := by decide +kernel
theorem d_X10_leastHeard_2 : decode (gw_mC M_X10_leastHeard) 2 = .ok (.istore_n 1, 1) := by decide +kernel
theorem d_X10_leastHeard_3 : decode (gw_mC M_X10_leastHeard) 3 = .ok (.iconst 0, 1) := by decide +kernel
theorem d_X10_leastHeard_4 : decode (gw_mC M_X10_leastHeard) 4 = .ok (.istore_n 2, 1) := by decide +kernel
theorem d_X10_leastHeard_5 : decode (gw_mC M_X10_leastHeard) 5 = .ok (.iload_n 2, 1) := by decide +kernel
theorem d_X10_leastHeard_6 : decode (gw_mC M_X10_leastHeard) 6 = .ok (.aload_n 0, 1) := by decide +kernel
theorem d_X10_leastHeard_7 : decode (gw_mC M_X10_leastHeard) 7 = .ok (.getfield 21, 3) := by decide +kernel
theorem d_X10_leastHeard_10 : decode (gw_mC M_X10_leastHeard) 10 = .ok (.getfield 105, 3) := by decide +kernel
theorem d_X10_leastHeard_13 : decode (gw_mC M_X10_leastHeard) 13 = .ok (.if_icmp .ge 33, 3) := by decide +kernel
theorem d_X10_leastHeard_16 : decode (gw_mC M_X10_leastHeard) 16 = .ok (.iload_n 2, 1) := by decide +kernel
theorem d_X10_leastHeard_17 : decode (gw_mC M_X10_leastHeard) 17 = .ok (.ifCond .ne 12, 3) := by decide +kernel
theorem d_X10_leastHeard_20 : decode (gw_mC M_X10_leastHeard) 20 = .ok (.aload_n 0, 1) := by decide +kernel
theorem d_X10_leastHeard_21 : decode (gw_mC M_X10_leastHeard) 21 = .ok (.getfield 61, 3) := by decide +kernel
theorem d_X10_leastHeard_24 : decode (gw_mC M_X10_leastHeard) 24 = .ok (.iload_n 2, 1) := by decide +kernel
theorem d_X10_leastHeard_25 : decode (gw_mC M_X10_leastHeard) 25 = .ok (.iaload, 1) := by decide +kernel
theorem d_X10_leastHeard_26 : decode (gw_mC M_X10_leastHeard) 26 = .ok (.goto 13, 3) := by decide +kernel
theorem d_X10_leastHeard_29 : decode (gw_mC M_X10_leastHeard) 29 = .ok (.iload_n 1, 1) := by decide +kernel
theorem d_X10_leastHeard_30 : decode (gw_mC M_X10_leastHeard) 30 = .ok (.aload_n 0, 1) := by decide +kernel
theorem d_X10_leastHeard_31 : decode (gw_mC M_X10_leastHeard) 31 = .ok (.getfield 61, 3) := by decide +kernel
theorem d_X10_leastHeard_34 : decode (gw_mC M_X10_leastHeard) 34 = .ok (.iload_n 2, 1) := by decide +kernel
theorem d_X10_leastHeard_35 : decode (gw_mC M_X10_leastHeard) 35 = .ok (.iaload, 1) := by decide +kernel
theorem d_X10_leastHeard_36 : decode (gw_mC M_X10_leastHeard) 36 = .ok (.invokestatic 170, 3) := by decide +kernel
theorem d_X10_leastHeard_39 : decode (gw_mC M_X10_leastHeard) 39 = .ok (.istore_n 1, 1) := by decide +kernel
theorem d_X10_leastHeard_40 : decode (gw_mC M_X10_leastHeard) 40 = .ok (.iinc 2 1, 3) := by decide +kernel
theorem d_X10_leastHeard_43 : decode (gw_mC M_X10_leastHeard) 43 = .ok (.goto (-38), 3) := by decide +kernel
theorem d_X10_leastHeard_46 : decode (gw_mC M_X10_leastHeard) 46 = .ok (.iload_n 1, 1) := by decide +kernel
theorem d_X10_leastHeard_47 : decode (gw_mC M_X10_leastHeard) 47 = .ok (.ireturn, 1) := by decide +kernel
theorem d_X10_allThere_0 : decode (gw_mC M_X10_allThere) 0 = .ok (.bipush (-4), 2) := by decide +kernel
theorem d_X10_allThere_2 : decode (gw_mC M_X10_allThere) 2 = .ok (.istore_n 1, 1) := by decide +kernel
theorem d_X10_allThere_3 : decode (gw_mC M_X10_allThere) 3 = .ok (.iconst 0, 1) := by decide +kernel
theorem d_X10_allThere_4 : decode (gw_mC M_X10_allThere) 4 = .ok (.istore_n 2, 1) := by decide +kernel
theorem d_X10_allThere_5 : decode (gw_mC M_X10_allThere) 5 = .ok (.iload_n 2, 1) := by decide +kernel
theorem d_X10_allThere_6 : decode (gw_mC M_X10_allThere) 6 = .ok (.aload_n 0, 1) := by decide +kernel
theorem d_X10_allThere_7 : decode (gw_mC M_X10_allThere) 7 = .ok (.getfield 21, 3) := by decide +kernel
theorem d_X10_allThere_10 : decode (gw_mC M_X10_allThere) 10 = .ok (.getfield 105, 3) := by decide +kernel
theorem d_X10_allThere_13 : decode (gw_mC M_X10_allThere) 13 = .ok (.if_icmp .ge 32, 3) := by decide +kernel
theorem d_X10_allThere_16 : decode (gw_mC M_X10_allThere) 16 = .ok (.aload_n 0, 1) := by decide +kernel
theorem d_X10_allThere_17 : decode (gw_mC M_X10_allThere) 17 = .ok (.getfield 67, 3) := by decide +kernel
theorem d_X10_allThere_20 : decode (gw_mC M_X10_allThere) 20 = .ok (.iload_n 2, 1) := by decide +kernel
theorem d_X10_allThere_21 : decode (gw_mC M_X10_allThere) 21 = .ok (.iaload, 1) := by decide +kernel
theorem d_X10_allThere_22 : decode (gw_mC M_X10_allThere) 22 = .ok (.ifCond .ge 6, 3) := by decide +kernel
theorem d_X10_allThere_25 : decode (gw_mC M_X10_allThere) 25 = .ok (.bipush (-4), 2) := by decide +kernel
theorem d_X10_allThere_27 : decode (gw_mC M_X10_allThere) 27 = .ok (.ireturn, 1) := by decide +kernel
theorem d_X10_allThere_28 : decode (gw_mC M_X10_allThere) 28 = .ok (.iload_n 1, 1) := by decide +kernel
theorem d_X10_allThere_29 : decode (gw_mC M_X10_allThere) 29 = .ok (.aload_n 0, 1) := by decide +kernel
theorem d_X10_allThere_30 : decode (gw_mC M_X10_allThere) 30 = .ok (.getfield 67, 3) := by decide +kernel
theorem d_X10_allThere_33 : decode (gw_mC M_X10_allThere) 33 = .ok (.iload_n 2, 1) := by decide +kernel
theorem d_X10_allThere_34 : decode (gw_mC M_X10_allThere) 34 = .ok (.iaload, 1) := by decide +kernel
theorem d_X10_allThere_35 : decode (gw_mC M_X10_allThere) 35 = .ok (.invokestatic 192, 3) := by decide +kernel
theorem d_X10_allThere_38 : decode (gw_mC M_X10_allThere) 38 = .ok (.istore_n 1, 1) := by decide +kernel
theorem d_X10_allThere_39 : decode (gw_mC M_X10_allThere) 39 = .ok (.iinc 2 1, 3) := by decide +kernel
theorem d_X10_allThere_42 : decode (gw_mC M_X10_allThere) 42 = .ok (.goto (-37), 3) := by decide +kernel
theorem d_X10_allThere_45 : decode (gw_mC M_X10_allThere) 45 = .ok (.iload_n 1, 1) := by decide +kernel
theorem d_X10_allThere_46 : decode (gw_mC M_X10_allThere) 46 = .ok (.ireturn, 1) := by decide +kernel
theorem d_X10_lostSet_0 : decode (gw_mC M_X10_lostSet) 0 = .ok (.iconst 0, 1) := by decide +kernel
theorem d_X10_lostSet_1 : decode (gw_mC M_X10_lostSet) 1 = .ok (.istore_n 1, 1) := by decide +kernel
theorem d_X10_lostSet_2 : decode (gw_mC M_X10_lostSet) 2 = .ok (.iconst 0, 1) := by decide +kernel
theorem d_X10_lostSet_3 : decode (gw_mC M_X10_lostSet) 3 = .ok (.istore_n 2, 1) := by decide +kernel
theorem d_X10_lostSet_4 : decode (gw_mC M_X10_lostSet) 4 = .ok (.iload_n 2, 1) := by decide +kernel
theorem d_X10_lostSet_5 : decode (gw_mC M_X10_lostSet) 5 = .ok (.aload_n 0, 1) := by decide +kernel
theorem d_X10_lostSet_6 : decode (gw_mC M_X10_lostSet) 6 = .ok (.getfield 21, 3) := by decide +kernel
theorem d_X10_lostSet_9 : decode (gw_mC M_X10_lostSet) 9 = .ok (.getfield 105, 3) := by decide +kernel
theorem d_X10_lostSet_12 : decode (gw_mC M_X10_lostSet) 12 = .ok (.if_icmp .ge 28, 3) := by decide +kernel
theorem d_X10_lostSet_15 : decode (gw_mC M_X10_lostSet) 15 = .ok (.iload_n 1, 1) := by decide +kernel
theorem d_X10_lostSet_16 : decode (gw_mC M_X10_lostSet) 16 = .ok (.aload_n 0, 1) := by decide +kernel
theorem d_X10_lostSet_17 : decode (gw_mC M_X10_lostSet) 17 = .ok (.getfield 70, 3) := by decide +kernel
theorem d_X10_lostSet_20 : decode (gw_mC M_X10_lostSet) 20 = .ok (.iload_n 2, 1) := by decide +kernel
theorem d_X10_lostSet_21 : decode (gw_mC M_X10_lostSet) 21 = .ok (.iaload, 1) := by decide +kernel
theorem d_X10_lostSet_22 : decode (gw_mC M_X10_lostSet) 22 = .ok (.ifCond .lt 9, 3) := by decide +kernel
theorem d_X10_lostSet_25 : decode (gw_mC M_X10_lostSet) 25 = .ok (.iconst 1, 1) := by decide +kernel
theorem d_X10_lostSet_26 : decode (gw_mC M_X10_lostSet) 26 = .ok (.iload_n 2, 1) := by decide +kernel
theorem d_X10_lostSet_27 : decode (gw_mC M_X10_lostSet) 27 = .ok (.ishl, 1) := by decide +kernel
theorem d_X10_lostSet_28 : decode (gw_mC M_X10_lostSet) 28 = .ok (.goto 4, 3) := by decide +kernel
theorem d_X10_lostSet_31 : decode (gw_mC M_X10_lostSet) 31 = .ok (.iconst 0, 1) := by decide +kernel
theorem d_X10_lostSet_32 : decode (gw_mC M_X10_lostSet) 32 = .ok (.ior, 1) := by decide +kernel
theorem d_X10_lostSet_33 : decode (gw_mC M_X10_lostSet) 33 = .ok (.istore_n 1, 1) := by decide +kernel
theorem d_X10_lostSet_34 : decode (gw_mC M_X10_lostSet) 34 = .ok (.iinc 2 1, 3) := by decide +kernel
theorem d_X10_lostSet_37 : decode (gw_mC M_X10_lostSet) 37 = .ok (.goto (-33), 3) := by decide +kernel
theorem d_X10_lostSet_40 : decode (gw_mC M_X10_lostSet) 40 = .ok (.iload_n 1, 1) := by decide +kernel
theorem d_X10_lostSet_41 : decode (gw_mC M_X10_lostSet) 41 = .ok (.ireturn, 1) := by decide +kernel
theorem d_X11_init_0 : decode (gw_mC M_X11_init) 0 = .ok (.aload_n 0, 1) := by decide +kernel
theorem d_X11_init_1 : decode (gw_mC M_X11_init) 1 = .ok (.invokespecial 1, 3) := by decide +kernel
theorem d_X11_init_4 : decode (gw_mC M_X11_init) 4 = .ok (.aload_n 0, 1) := by decide +kernel
theorem d_X11_init_5 : decode (gw_mC M_X11_init) 5 = .ok (.new 7, 3) := by decide +kernel
theorem d_X11_init_8 : decode (gw_mC M_X11_init) 8 = .ok (.dup, 1) := by decide +kernel
theorem d_X11_init_9 : decode (gw_mC M_X11_init) 9 = .ok (.invokespecial 9, 3) := by decide +kernel
theorem d_X11_init_12 : decode (gw_mC M_X11_init) 12 = .ok (.putfield 10, 3) := by decide +kernel
theorem d_X11_init_15 : decode (gw_mC M_X11_init) 15 = .ok (.aload_n 0, 1) := by decide +kernel
theorem d_X11_init_16 : decode (gw_mC M_X11_init) 16 = .ok (.new 7, 3) := by decide +kernel
theorem d_X11_init_19 : decode (gw_mC M_X11_init) 19 = .ok (.dup, 1) := by decide +kernel
theorem d_X11_init_20 : decode (gw_mC M_X11_init) 20 = .ok (.invokespecial 9, 3) := by decide +kernel
theorem d_X11_init_23 : decode (gw_mC M_X11_init) 23 = .ok (.putfield 16, 3) := by decide +kernel
theorem d_X11_init_26 : decode (gw_mC M_X11_init) 26 = .ok (.aload_n 0, 1) := by decide +kernel
theorem d_X11_init_27 : decode (gw_mC M_X11_init) 27 = .ok (.iconst 0, 1) := by decide +kernel
theorem d_X11_init_28 : decode (gw_mC M_X11_init) 28 = .ok (.putfield 19, 3) := by decide +kernel
theorem d_X11_init_31 : decode (gw_mC M_X11_init) 31 = .ok (.aload_n 0, 1) := by decide +kernel
theorem d_X11_init_32 : decode (gw_mC M_X11_init) 32 = .ok (.new 23, 3) := by decide +kernel
theorem d_X11_init_35 : decode (gw_mC M_X11_init) 35 = .ok (.dup, 1) := by decide +kernel
theorem d_X11_init_36 : decode (gw_mC M_X11_init) 36 = .ok (.invokespecial 25, 3) := by decide +kernel
theorem d_X11_init_39 : decode (gw_mC M_X11_init) 39 = .ok (.putfield 26, 3) := by decide +kernel
theorem d_X11_init_42 : decode (gw_mC M_X11_init) 42 = .ok (.aload_n 0, 1) := by decide +kernel
theorem d_X11_init_43 : decode (gw_mC M_X11_init) 43 = .ok (.new 30, 3) := by decide +kernel
theorem d_X11_init_46 : decode (gw_mC M_X11_init) 46 = .ok (.dup, 1) := by decide +kernel
theorem d_X11_init_47 : decode (gw_mC M_X11_init) 47 = .ok (.invokespecial 32, 3) := by decide +kernel
theorem d_X11_init_50 : decode (gw_mC M_X11_init) 50 = .ok (.putfield 33, 3) := by decide +kernel
theorem d_X11_init_53 : decode (gw_mC M_X11_init) 53 = .ok (.aload_n 0, 1) := by decide +kernel
theorem d_X11_init_54 : decode (gw_mC M_X11_init) 54 = .ok (.new 37, 3) := by decide +kernel
theorem d_X11_init_57 : decode (gw_mC M_X11_init) 57 = .ok (.dup, 1) := by decide +kernel
theorem d_X11_init_58 : decode (gw_mC M_X11_init) 58 = .ok (.invokespecial 39, 3) := by decide +kernel
theorem d_X11_init_61 : decode (gw_mC M_X11_init) 61 = .ok (.putfield 40, 3) := by decide +kernel
theorem d_X11_init_64 : decode (gw_mC M_X11_init) 64 = .ok (.aload_n 0, 1) := by decide +kernel
theorem d_X11_init_65 : decode (gw_mC M_X11_init) 65 = .ok (.new 44, 3) := by decide +kernel
theorem d_X11_init_68 : decode (gw_mC M_X11_init) 68 = .ok (.dup, 1) := by decide +kernel
theorem d_X11_init_69 : decode (gw_mC M_X11_init) 69 = .ok (.invokespecial 46, 3) := by decide +kernel
theorem d_X11_init_72 : decode (gw_mC M_X11_init) 72 = .ok (.putfield 47, 3) := by decide +kernel
theorem d_X11_init_75 : decode (gw_mC M_X11_init) 75 = .ok (.aload_n 0, 1) := by decide +kernel
theorem d_X11_init_76 : decode (gw_mC M_X11_init) 76 = .ok (.new 44, 3) := by decide +kernel
theorem d_X11_init_79 : decode (gw_mC M_X11_init) 79 = .ok (.dup, 1) := by decide +kernel
theorem d_X11_init_80 : decode (gw_mC M_X11_init) 80 = .ok (.invokespecial 46, 3) := by decide +kernel
theorem d_X11_init_83 : decode (gw_mC M_X11_init) 83 = .ok (.putfield 51, 3) := by decide +kernel
theorem d_X11_init_86 : decode (gw_mC M_X11_init) 86 = .ok (.aload_n 0, 1) := by decide +kernel
theorem d_X11_init_87 : decode (gw_mC M_X11_init) 87 = .ok (.iconst 0, 1) := by decide +kernel
theorem d_X11_init_88 : decode (gw_mC M_X11_init) 88 = .ok (.putfield 54, 3) := by decide +kernel
theorem d_X11_init_91 : decode (gw_mC M_X11_init) 91 = .ok (.aload_n 0, 1) := by decide +kernel
theorem d_X11_init_92 : decode (gw_mC M_X11_init) 92 = .ok (.sipush 3600, 3) := by decide +kernel
theorem d_X11_init_95 : decode (gw_mC M_X11_init) 95 = .ok (.newarray .int, 2) := by decide +kernel
theorem d_X11_init_97 : decode (gw_mC M_X11_init) 97 = .ok (.putfield 57, 3) := by decide +kernel
theorem d_X11_init_100 : decode (gw_mC M_X11_init) 100 = .ok (.aload_n 0, 1) := by decide +kernel
theorem d_X11_init_101 : decode (gw_mC M_X11_init) 101 = .ok (.iconst 0, 1) := by decide +kernel
theorem d_X11_init_102 : decode (gw_mC M_X11_init) 102 = .ok (.putfield 61, 3) := by decide +kernel
theorem d_X11_init_105 : decode (gw_mC M_X11_init) 105 = .ok (.aload_n 0, 1) := by decide +kernel
theorem d_X11_init_106 : decode (gw_mC M_X11_init) 106 = .ok (.iconst 4, 1) := by decide +kernel
theorem d_X11_init_107 : decode (gw_mC M_X11_init) 107 = .ok (.newarray .int, 2) := by decide +kernel
theorem d_X11_init_109 : decode (gw_mC M_X11_init) 109 = .ok (.putfield 65, 3) := by decide +kernel
theorem d_X11_init_112 : decode (gw_mC M_X11_init) 112 = .ok (.aload_n 0, 1) := by decide +kernel
theorem d_X11_init_113 : decode (gw_mC M_X11_init) 113 = .ok (.iconst (-1), 1) := by decide +kernel
theorem d_X11_init_114 : decode (gw_mC M_X11_init) 114 = .ok (.putfield 68, 3) := by decide +kernel
theorem d_X11_init_117 : decode (gw_mC M_X11_init) 117 = .ok (.aload_n 0, 1) := by decide +kernel
theorem d_X11_init_118 : decode (gw_mC M_X11_init) 118 = .ok (.new 71, 3) := by decide +kernel
theorem d_X11_init_121 : decode (gw_mC M_X11_init) 121 = .ok (.dup, 1) := by decide +kernel
theorem d_X11_init_122 : decode (gw_mC M_X11_init) 122 = .ok (.invokespecial 73, 3) := by decide +kernel
theorem d_X11_init_125 : decode (gw_mC M_X11_init) 125 = .ok (.putfield 74, 3) := by decide +kernel
theorem d_X11_init_128 : decode (gw_mC M_X11_init) 128 = .ok (.aload_n 0, 1) := by decide +kernel
theorem d_X11_init_129 : decode (gw_mC M_X11_init) 129 = .ok (.new 78, 3) := by decide +kernel
theorem d_X11_init_132 : decode (gw_mC M_X11_init) 132 = .ok (.dup, 1) := by decide +kernel
theorem d_X11_init_133 : decode (gw_mC M_X11_init) 133 = .ok (.invokespecial 80, 3) := by decide +kernel
theorem d_X11_init_136 : decode (gw_mC M_X11_init) 136 = .ok (.putfield 81, 3) := by decide +kernel
theorem d_X11_init_139 : decode (gw_mC M_X11_init) 139 = .ok (.aload_n 0, 1) := by decide +kernel
theorem d_X11_init_140 : decode (gw_mC M_X11_init) 140 = .ok (.iconst 4, 1) := by decide +kernel
theorem d_X11_init_141 : decode (gw_mC M_X11_init) 141 = .ok (.anewarray 85, 3) := by decide +kernel
theorem d_X11_init_144 : decode (gw_mC M_X11_init) 144 = .ok (.putfield 87, 3) := by decide +kernel
theorem d_X11_init_147 : decode (gw_mC M_X11_init) 147 = .ok (.iconst 0, 1) := by decide +kernel
theorem d_X11_init_148 : decode (gw_mC M_X11_init) 148 = .ok (.istore_n 1, 1) := by decide +kernel
theorem d_X11_init_149 : decode (gw_mC M_X11_init) 149 = .ok (.iload_n 1, 1) := by decide +kernel
theorem d_X11_init_150 : decode (gw_mC M_X11_init) 150 = .ok (.iconst 4, 1) := by decide +kernel
theorem d_X11_init_151 : decode (gw_mC M_X11_init) 151 = .ok (.if_icmp .ge 22, 3) := by decide +kernel
theorem d_X11_init_154 : decode (gw_mC M_X11_init) 154 = .ok (.aload_n 0, 1) := by decide +kernel
theorem d_X11_init_155 : decode (gw_mC M_X11_init) 155 = .ok (.getfield 87, 3) := by decide +kernel
theorem d_X11_init_158 : decode (gw_mC M_X11_init) 158 = .ok (.iload_n 1, 1) := by decide +kernel
theorem d_X11_init_159 : decode (gw_mC M_X11_init) 159 = .ok (.new 85, 3) := by decide +kernel
theorem d_X11_init_162 : decode (gw_mC M_X11_init) 162 = .ok (.dup, 1) := by decide +kernel
theorem d_X11_init_163 : decode (gw_mC M_X11_init) 163 = .ok (.invokespecial 91, 3) := by decide +kernel
theorem d_X11_init_166 : decode (gw_mC M_X11_init) 166 = .ok (.aastore, 1) := by decide +kernel
theorem d_X11_init_167 : decode (gw_mC M_X11_init) 167 = .ok (.iinc 1 1, 3) := by decide +kernel
theorem d_X11_init_170 : decode (gw_mC M_X11_init) 170 = .ok (.goto (-21), 3) := by decide +kernel
theorem d_X11_init_173 : decode (gw_mC M_X11_init) 173 = .ok (.return_, 1) := by decide +kernel
theorem d_X11_end_0 : decode (gw_mC M_X11_end) 0 = .ok (.iload_n 1, 1) := by decide +kernel
theorem d_X11_end_1 : decode (gw_mC M_X11_end) 1 = .ok (.bipush 10, 2) := by decide +kernel
theorem d_X11_end_3 : decode (gw_mC M_X11_end) 3 = .ok (.bipush 99, 2) := by decide +kernel
theorem d_X11_end_5 : decode (gw_mC M_X11_end) 5 = .ok (.invokestatic 92, 3) := by decide +kernel
theorem d_X11_end_8 : decode (gw_mC M_X11_end) 8 = .ok (.ifCond .ne 5, 3) := by decide +kernel
theorem d_X11_end_11 : decode (gw_mC M_X11_end) 11 = .ok (.iconst (-1), 1) := by decide +kernel
theorem d_X11_end_12 : decode (gw_mC M_X11_end) 12 = .ok (.ireturn, 1) := by decide +kernel
theorem d_X11_end_13 : decode (gw_mC M_X11_end) 13 = .ok (.aload_n 0, 1) := by decide +kernel
theorem d_X11_end_14 : decode (gw_mC M_X11_end) 14 = .ok (.getfield 10, 3) := by decide +kernel
theorem d_X11_end_17 : decode (gw_mC M_X11_end) 17 = .ok (.getfield 96, 3) := by decide +kernel
theorem d_X11_end_20 : decode (gw_mC M_X11_end) 20 = .ok (.istore_n 2, 1) := by decide +kernel
theorem d_X11_end_21 : decode (gw_mC M_X11_end) 21 = .ok (.aload_n 0, 1) := by decide +kernel
theorem d_X11_end_22 : decode (gw_mC M_X11_end) 22 = .ok (.getfield 10, 3) := by decide +kernel
theorem d_X11_end_25 : decode (gw_mC M_X11_end) 25 = .ok (.iload_n 1, 1) := by decide +kernel
theorem d_X11_end_26 : decode (gw_mC M_X11_end) 26 = .ok (.putfield 96, 3) := by decide +kernel
theorem d_X11_end_29 : decode (gw_mC M_X11_end) 29 = .ok (.aload_n 0, 1) := by decide +kernel
theorem d_X11_end_30 : decode (gw_mC M_X11_end) 30 = .ok (.invokevirtual 99, 3) := by decide +kernel
theorem d_X11_end_33 : decode (gw_mC M_X11_end) 33 = .ok (.iload_n 2, 1) := by decide +kernel
theorem d_X11_end_34 : decode (gw_mC M_X11_end) 34 = .ok (.ireturn, 1) := by decide +kernel
theorem d_X11_mark_0 : decode (gw_mC M_X11_mark) 0 = .ok (.iload_n 1, 1) := by decide +kernel
theorem d_X11_mark_1 : decode (gw_mC M_X11_mark) 1 = .ok (.iconst 0, 1) := by decide +kernel
theorem d_X11_mark_2 : decode (gw_mC M_X11_mark) 2 = .ok (.iconst 3, 1) := by decide +kernel
theorem d_X11_mark_3 : decode (gw_mC M_X11_mark) 3 = .ok (.invokestatic 92, 3) := by decide +kernel
theorem d_X11_mark_6 : decode (gw_mC M_X11_mark) 6 = .ok (.ifCond .eq 30, 3) := by decide +kernel
theorem d_X11_mark_9 : decode (gw_mC M_X11_mark) 9 = .ok (.iload_n 2, 1) := by decide +kernel
theorem d_X11_mark_10 : decode (gw_mC M_X11_mark) 10 = .ok (.iconst 0, 1) := by decide +kernel
theorem d_X11_mark_11 : decode (gw_mC M_X11_mark) 11 = .ok (.bipush 99, 2) := by decide +kernel
theorem d_X11_mark_13 : decode (gw_mC M_X11_mark) 13 = .ok (.invokestatic 92, 3) := by decide +kernel
theorem d_X11_mark_16 : decode (gw_mC M_X11_mark) 16 = .ok (.ifCond .eq 20, 3) := by decide +kernel
theorem d_X11_mark_19 : decode (gw_mC M_X11_mark) 19 = .ok (.iload_n 3, 1) := by decide +kernel
theorem d_X11_mark_20 : decode (gw_mC M_X11_mark) 20 = .ok (.getstatic 102, 3) := by decide +kernel
theorem d_X11_mark_23 : decode (gw_mC M_X11_mark) 23 = .ok (.iload_n 1, 1) := by decide +kernel
theorem d_X11_mark_24 : decode (gw_mC M_X11_mark) 24 = .ok (.iaload, 1) := by decide +kernel
theorem d_X11_mark_25 : decode (gw_mC M_X11_mark) 25 = .ok (.getstatic 105, 3) := by decide +kernel
theorem d_X11_mark_28 : decode (gw_mC M_X11_mark) 28 = .ok (.iload_n 1, 1) := by decide +kernel
theorem d_X11_mark_29 : decode (gw_mC M_X11_mark) 29 = .ok (.iaload, 1) := by decide +kernel
theorem d_X11_mark_30 : decode (gw_mC M_X11_mark) 30 = .ok (.invokestatic 92, 3) := by decide +kernel
theorem d_X11_mark_33 : decode (gw_mC M_X11_mark) 33 = .ok (.ifCond .ne 5, 3) := by decide +kernel
theorem d_X11_mark_36 : decode (gw_mC M_X11_mark) 36 = .ok (.iconst (-1), 1) := by decide +kernel
theorem d_X11_mark_37 : decode (gw_mC M_X11_mark) 37 = .ok (.ireturn, 1) := by decide +kernel
theorem d_X11_mark_38 : decode (gw_mC M_X11_mark) 38 = .ok (.aload_n 0, 1) := by decide +kernel
theorem d_X11_mark_39 : decode (gw_mC M_X11_mark) 39 = .ok (.getfield 10, 3) := by decide +kernel
theorem d_X11_mark_42 : decode (gw_mC M_X11_mark) 42 = .ok (.getfield 108, 3) := by decide +kernel
theorem d_X11_mark_45 : decode (gw_mC M_X11_mark) 45 = .ok (.iload_n 1, 1) := by decide +kernel
theorem d_X11_mark_46 : decode (gw_mC M_X11_mark) 46 = .ok (.iload_n 2, 1) := by decide +kernel
theorem d_X11_mark_47 : decode (gw_mC M_X11_mark) 47 = .ok (.iload_n 3, 1) := by decide +kernel
theorem d_X11_mark_48 : decode (gw_mC M_X11_mark) 48 = .ok (.invokevirtual 111, 3) := by decide +kernel
theorem d_X11_mark_51 : decode (gw_mC M_X11_mark) 51 = .ok (.istore 4, 2) := by decide +kernel
theorem d_X11_mark_53 : decode (gw_mC M_X11_mark) 53 = .ok (.iload 4, 2) := by decide +kernel
theorem d_X11_mark_55 : decode (gw_mC M_X11_mark) 55 = .ok (.ifCond .lt 7, 3) := by decide +kernel
theorem d_X11_mark_58 : decode (gw_mC M_X11_mark) 58 = .ok (.aload_n 0, 1) := by decide +kernel
theorem d_X11_mark_59 : decode (gw_mC M_X11_mark) 59 = .ok (.invokevirtual 99, 3) := by decide +kernel
theorem d_X11_mark_62 : decode (gw_mC M_X11_mark) 62 = .ok (.iload 4, 2) := by decide +kernel
theorem d_X11_mark_64 : decode (gw_mC M_X11_mark) 64 = .ok (.ireturn, 1) := by decide +kernel
theorem d_X11_told_0 : decode (gw_mC M_X11_told) 0 = .ok (.iload_n 1, 1) := by decide +kernel
theorem d_X11_told_1 : decode (gw_mC M_X11_told) 1 = .ok (.iconst 0, 1) := by decide +kernel
theorem d_X11_told_2 : decode (gw_mC M_X11_told) 2 = .ok (.iconst 3, 1) := by decide +kernel
theorem d_X11_told_3 : decode (gw_mC M_X11_told) 3 = .ok (.invokestatic 92, 3) := by decide +kernel
theorem d_X11_told_6 : decode (gw_mC M_X11_told) 6 = .ok (.ifCond .eq 25, 3) := by decide +kernel
theorem d_X11_told_9 : decode (gw_mC M_X11_told) 9 = .ok (.iload_n 2, 1) := by decide +kernel
theorem d_X11_told_10 : decode (gw_mC M_X11_told) 10 = .ok (.iconst 0, 1) := by decide +kernel
theorem d_X11_told_11 : decode (gw_mC M_X11_told) 11 = .ok (.aload_n 0, 1) := by decide +kernel
theorem d_X11_told_12 : decode (gw_mC M_X11_told) 12 = .ok (.getfield 10, 3) := by decide +kernel
theorem d_X11_told_15 : decode (gw_mC M_X11_told) 15 = .ok (.getfield 108, 3) := by decide +kernel
theorem d_X11_told_18 : decode (gw_mC M_X11_told) 18 = .ok (.getfield 115, 3) := by decide +kernel
theorem d_X11_told_21 : decode (gw_mC M_X11_told) 21 = .ok (.iload_n 1, 1) := by decide +kernel
theorem d_X11_told_22 : decode (gw_mC M_X11_told) 22 = .ok (.iaload, 1) := by decide +kernel
theorem d_X11_told_23 : decode (gw_mC M_X11_told) 23 = .ok (.iconst 1, 1) := by decide +kernel
theorem d_X11_told_24 : decode (gw_mC M_X11_told) 24 = .ok (.isub, 1) := by decide +kernel
theorem d_X11_told_25 : decode (gw_mC M_X11_told) 25 = .ok (.invokestatic 92, 3) := by decide +kernel
theorem d_X11_told_28 : decode (gw_mC M_X11_told) 28 = .ok (.ifCond .ne 5, 3) := by decide +kernel
theorem d_X11_told_31 : decode (gw_mC M_X11_told) 31 = .ok (.iconst (-1), 1) := by decide +kernel
theorem d_X11_told_32 : decode (gw_mC M_X11_told) 32 = .ok (.ireturn, 1) := by decide +kernel
theorem d_X11_told_33 : decode (gw_mC M_X11_told) 33 = .ok (.iload_n 3, 1) := by decide +kernel
theorem d_X11_told_34 : decode (gw_mC M_X11_told) 34 = .ok (.tableswitch 77 0 2 #[26, 41, 56], 26) := by decide +kernel
theorem d_X11_told_60 : decode (gw_mC M_X11_told) 60 = .ok (.aload_n 0, 1) := by decide +kernel
theorem d_X11_told_61 : decode (gw_mC M_X11_told) 61 = .ok (.getfield 10, 3) := by decide +kernel
theorem d_X11_told_64 : decode (gw_mC M_X11_told) 64 = .ok (.getfield 108, 3) := by decide +kernel
theorem d_X11_told_67 : decode (gw_mC M_X11_told) 67 = .ok (.getfield 118, 3) := by decide +kernel
theorem d_X11_told_70 : decode (gw_mC M_X11_told) 70 = .ok (.iload_n 1, 1) := by decide +kernel
theorem d_X11_told_71 : decode (gw_mC M_X11_told) 71 = .ok (.aaload, 1) := by decide +kernel
theorem d_X11_told_72 : decode (gw_mC M_X11_told) 72 = .ok (.iload_n 2, 1) := by decide +kernel
theorem d_X11_told_73 : decode (gw_mC M_X11_told) 73 = .ok (.iaload, 1) := by decide +kernel
theorem d_X11_told_74 : decode (gw_mC M_X11_told) 74 = .ok (.ireturn, 1) := by decide +kernel
theorem d_X11_told_75 : decode (gw_mC M_X11_told) 75 = .ok (.aload_n 0, 1) := by decide +kernel
theorem d_X11_told_76 : decode (gw_mC M_X11_told) 76 = .ok (.getfield 10, 3) := by decide +kernel
theorem d_X11_told_79 : decode (gw_mC M_X11_told) 79 = .ok (.getfield 108, 3) := by decide +kernel
theorem d_X11_told_82 : decode (gw_mC M_X11_told) 82 = .ok (.getfield 122, 3) := by decide +kernel
theorem d_X11_told_85 : decode (gw_mC M_X11_told) 85 = .ok (.iload_n 1, 1) := by decide +kernel
theorem d_X11_told_86 : decode (gw_mC M_X11_told) 86 = .ok (.aaload, 1) := by decide +kernel
theorem d_X11_told_87 : decode (gw_mC M_X11_told) 87 = .ok (.iload_n 2, 1) := by decide +kernel
theorem d_X11_told_88 : decode (gw_mC M_X11_told) 88 = .ok (.iaload, 1) := by decide +kernel
theorem d_X11_told_89 : decode (gw_mC M_X11_told) 89 = .ok (.ireturn, 1) := by decide +kernel
theorem d_X11_told_90 : decode (gw_mC M_X11_told) 90 = .ok (.iload_n 1, 1) := by decide +kernel
theorem d_X11_told_91 : decode (gw_mC M_X11_told) 91 = .ok (.ifCond .ne 18, 3) := by decide +kernel
theorem d_X11_told_94 : decode (gw_mC M_X11_told) 94 = .ok (.aload_n 0, 1) := by decide +kernel
theorem d_X11_told_95 : decode (gw_mC M_X11_told) 95 = .ok (.getfield 10, 3) := by decide +kernel
theorem d_X11_told_98 : decode (gw_mC M_X11_told) 98 = .ok (.getfield 108, 3) := by decide +kernel
theorem d_X11_told_101 : decode (gw_mC M_X11_told) 101 = .ok (.getfield 125, 3) := by decide +kernel
theorem d_X11_told_104 : decode (gw_mC M_X11_told) 104 = .ok (.iload_n 2, 1) := by decide +kernel
theorem d_X11_told_105 : decode (gw_mC M_X11_told) 105 = .ok (.iaload, 1) := by decide +kernel
theorem d_X11_told_106 : decode (gw_mC M_X11_told) 106 = .ok (.goto 4, 3) := by decide +kernel
theorem d_X11_told_109 : decode (gw_mC M_X11_told) 109 = .ok (.iconst (-1), 1) := by decide +kernel
theorem d_X11_told_110 : decode (gw_mC M_X11_told) 110 = .ok (.ireturn, 1) := by decide +kernel
theorem d_X11_told_111 : decode (gw_mC M_X11_told) 111 = .ok (.iconst (-1), 1) := by decide +kernel
theorem d_X11_told_112 : decode (gw_mC M_X11_told) 112 = .ok (.ireturn, 1) := by decide +kernel
theorem d_X11_value_0 : decode (gw_mC M_X11_value) 0 = .ok (.iload_n 1, 1) := by decide +kernel
theorem d_X11_value_1 : decode (gw_mC M_X11_value) 1 = .ok (.iconst 0, 1) := by decide +kernel
theorem d_X11_value_2 : decode (gw_mC M_X11_value) 2 = .ok (.aload_n 0, 1) := by decide +kernel
theorem d_X11_value_3 : decode (gw_mC M_X11_value) 3 = .ok (.getfield 10, 3) := by decide +kernel
theorem d_X11_value_6 : decode (gw_mC M_X11_value) 6 = .ok (.getfield 108, 3) := by decide +kernel
theorem d_X11_value_9 : decode (gw_mC M_X11_value) 9 = .ok (.getfield 115, 3) := by decide +kernel
theorem d_X11_value_12 : decode (gw_mC M_X11_value) 12 = .ok (.iconst 0, 1) := by decide +kernel
theorem d_X11_value_13 : decode (gw_mC M_X11_value) 13 = .ok (.iaload, 1) := by decide +kernel
theorem d_X11_value_14 : decode (gw_mC M_X11_value) 14 = .ok (.iconst 1, 1) := by decide +kernel
theorem d_X11_value_15 : decode (gw_mC M_X11_value) 15 = .ok (.isub, 1) := by decide +kernel
theorem d_X11_value_16 : decode (gw_mC M_X11_value) 16 = .ok (.invokestatic 92, 3) := by decide +kernel
theorem d_X11_value_19 : decode (gw_mC M_X11_value) 19 = .ok (.ifCond .eq 13, 3) := by decide +kernel
theorem d_X11_value_22 : decode (gw_mC M_X11_value) 22 = .ok (.iload_n 2, 1) := by decide +kernel
theorem d_X11_value_23 : decode (gw_mC M_X11_value) 23 = .ok (.iconst 0, 1) := by decide +kernel
theorem d_X11_value_24 : decode (gw_mC M_X11_value) 24 = .ok (.bipush 99, 2) := by decide +kernel
theorem d_X11_value_26 : decode (gw_mC M_X11_value) 26 = .ok (.invokestatic 92, 3) := by decide +kernel
theorem d_X11_value_29 : decode (gw_mC M_X11_value) 29 = .ok (.ifCond .ne 5, 3) := by decide +kernel
theorem d_X11_value_32 : decode (gw_mC M_X11_value) 32 = .ok (.iconst (-1), 1) := by decide +kernel
theorem d_X11_value_33 : decode (gw_mC M_X11_value) 33 = .ok (.ireturn, 1) := by decide +kernel
theorem d_X11_value_34 : decode (gw_mC M_X11_value) 34 = .ok (.aload_n 0, 1) := by decide +kernel
theorem d_X11_value_35 : decode (gw_mC M_X11_value) 35 = .ok (.getfield 10, 3) := by decide +kernel
theorem d_X11_value_38 : decode (gw_mC M_X11_value) 38 = .ok (.getfield 108, 3) := by decide +kernel
theorem d_X11_value_41 : decode (gw_mC M_X11_value) 41 = .ok (.getfield 125, 3) := by decide +kernel
theorem d_X11_value_44 : decode (gw_mC M_X11_value) 44 = .ok (.iload_n 1, 1) := by decide +kernel
theorem d_X11_value_45 : decode (gw_mC M_X11_value) 45 = .ok (.iaload, 1) := by decide +kernel
theorem d_X11_value_46 : decode (gw_mC M_X11_value) 46 = .ok (.istore_n 3, 1) := by decide +kernel
theorem d_X11_value_47 : decode (gw_mC M_X11_value) 47 = .ok (.aload_n 0, 1) := by decide +kernel
theorem d_X11_value_48 : decode (gw_mC M_X11_value) 48 = .ok (.getfield 10, 3) := by decide +kernel
theorem d_X11_value_51 : decode (gw_mC M_X11_value) 51 = .ok (.getfield 108, 3) := by decide +kernel
theorem d_X11_value_54 : decode (gw_mC M_X11_value) 54 = .ok (.getfield 125, 3) := by decide +kernel
theorem d_X11_value_57 : decode (gw_mC M_X11_value) 57 = .ok (.iload_n 1, 1) := by decide +kernel
theorem d_X11_value_58 : decode (gw_mC M_X11_value) 58 = .ok (.iload_n 2, 1) := by decide +kernel
theorem d_X11_value_59 : decode (gw_mC M_X11_value) 59 = .ok (.iastore, 1) := by decide +kernel
theorem d_X11_value_60 : decode (gw_mC M_X11_value) 60 = .ok (.iload_n 3, 1) := by decide +kernel
theorem d_X11_value_61 : decode (gw_mC M_X11_value) 61 = .ok (.ireturn, 1) := by decide +kernel
theorem d_X11_person_0 : decode (gw_mC M_X11_person) 0 = .ok (.iload_n 1, 1) := by decide +kernel
theorem d_X11_person_1 : decode (gw_mC M_X11_person) 1 = .ok (.iconst 0, 1) := by decide +kernel
theorem d_X11_person_2 : decode (gw_mC M_X11_person) 2 = .ok (.iconst 3, 1) := by decide +kernel
theorem d_X11_person_3 : decode (gw_mC M_X11_person) 3 = .ok (.invokestatic 92, 3) := by decide +kernel
theorem d_X11_person_6 : decode (gw_mC M_X11_person) 6 = .ok (.ifCond .eq 12, 3) := by decide +kernel
theorem d_X11_person_9 : decode (gw_mC M_X11_person) 9 = .ok (.iload_n 2, 1) := by decide +kernel
theorem d_X11_person_10 : decode (gw_mC M_X11_person) 10 = .ok (.iconst 1, 1) := by decide +kernel
theorem d_X11_person_11 : decode (gw_mC M_X11_person) 11 = .ok (.iconst 4, 1) := by decide +kernel
theorem d_X11_person_12 : decode (gw_mC M_X11_person) 12 = .ok (.invokestatic 92, 3) := by decide +kernel
theorem d_X11_person_15 : decode (gw_mC M_X11_person) 15 = .ok (.ifCond .ne 5, 3) := by decide +kernel
theorem d_X11_person_18 : decode (gw_mC M_X11_person) 18 = .ok (.iconst (-1), 1) := by decide +kernel
theorem d_X11_person_19 : decode (gw_mC M_X11_person) 19 = .ok (.ireturn, 1) := by decide +kernel
theorem d_X11_person_20 : decode (gw_mC M_X11_person) 20 = .ok (.aload_n 0, 1) := by decide +kernel
theorem d_X11_person_21 : decode (gw_mC M_X11_person) 21 = .ok (.getfield 10, 3) := by decide +kernel
theorem d_X11_person_24 : decode (gw_mC M_X11_person) 24 = .ok (.getfield 128, 3) := by decide +kernel
theorem d_X11_person_27 : decode (gw_mC M_X11_person) 27 = .ok (.iload_n 1, 1) := by decide +kernel
theorem d_X11_person_28 : decode (gw_mC M_X11_person) 28 = .ok (.iload_n 2, 1) := by decide +kernel
theorem d_X11_person_29 : decode (gw_mC M_X11_person) 29 = .ok (.iload_n 3, 1) := by decide +kernel
theorem d_X11_person_30 : decode (gw_mC M_X11_person) 30 = .ok (.invokevirtual 131, 3) := by decide +kernel
theorem d_X11_person_33 : decode (gw_mC M_X11_person) 33 = .ok (.istore 4, 2) := by decide +kernel
theorem d_X11_person_35 : decode (gw_mC M_X11_person) 35 = .ok (.iload 4, 2) := by decide +kernel
theorem d_X11_person_37 : decode (gw_mC M_X11_person) 37 = .ok (.ifCond .lt 7, 3) := by decide +kernel
theorem d_X11_person_40 : decode (gw_mC M_X11_person) 40 = .ok (.aload_n 0, 1) := by decide +kernel
theorem d_X11_person_41 : decode (gw_mC M_X11_person) 41 = .ok (.invokevirtual 99, 3) := by decide +kernel
theorem d_X11_person_44 : decode (gw_mC M_X11_person) 44 = .ok (.iload 4, 2) := by decide +kernel
theorem d_X11_person_46 : decode (gw_mC M_X11_person) 46 = .ok (.ireturn, 1) := by decide +kernel
theorem d_X11_of_0 : decode (gw_mC M_X11_of) 0 = .ok (.aload_n 0, 1) := by decide +kernel
theorem d_X11_of_1 : decode (gw_mC M_X11_of) 1 = .ok (.iload_n 1, 1) := by decide +kernel
theorem d_X11_of_2 : decode (gw_mC M_X11_of) 2 = .ok (.invokevirtual 134, 3) := by decide +kernel
theorem d_X11_of_5 : decode (gw_mC M_X11_of) 5 = .ok (.ifCond .ne 5, 3) := by decide +kernel
theorem d_X11_of_8 : decode (gw_mC M_X11_of) 8 = .ok (.iconst (-1), 1) := by decide +kernel
theorem d_X11_of_9 : decode (gw_mC M_X11_of) 9 = .ok (.ireturn, 1) := by decide +kernel
theorem d_X11_of_10 : decode (gw_mC M_X11_of) 10 = .ok (.iload_n 2, 1) := by decide +kernel
theorem d_X11_of_11 : decode (gw_mC M_X11_of) 11 = .ok (.tableswitch 72 0 2 #[25, 38, 51], 25) := by decide +kernel
theorem d_X11_of_36 : decode (gw_mC M_X11_of) 36 = .ok (.aload_n 0, 1) := by decide +kernel
theorem d_X11_of_37 : decode (gw_mC M_X11_of) 37 = .ok (.getfield 10, 3) := by decide +kernel
theorem d_X11_of_40 : decode (gw_mC M_X11_of) 40 = .ok (.getfield 128, 3) := by decide +kernel
theorem d_X11_of_43 : decode (gw_mC M_X11_of) 43 = .ok (.getfield 138, 3) := by decide +kernel
theorem d_X11_of_46 : decode (gw_mC M_X11_of) 46 = .ok (.iload_n 1, 1) := by decide +kernel
theorem d_X11_of_47 : decode (gw_mC M_X11_of) 47 = .ok (.iaload, 1) := by decide +kernel
theorem d_X11_of_48 : decode (gw_mC M_X11_of) 48 = .ok (.ireturn, 1) := by decide +kernel
theorem d_X11_of_49 : decode (gw_mC M_X11_of) 49 = .ok (.aload_n 0, 1) := by decide +kernel
theorem d_X11_of_50 : decode (gw_mC M_X11_of) 50 = .ok (.getfield 10, 3) := by decide +kernel
theorem d_X11_of_53 : decode (gw_mC M_X11_of) 53 = .ok (.getfield 128, 3) := by decide +kernel
theorem d_X11_of_56 : decode (gw_mC M_X11_of) 56 = .ok (.getfield 141, 3) := by decide +kernel
theorem d_X11_of_59 : decode (gw_mC M_X11_of) 59 = .ok (.iload_n 1, 1) := by decide +kernel
theorem d_X11_of_60 : decode (gw_mC M_X11_of) 60 = .ok (.iaload, 1) := by decide +kernel
theorem d_X11_of_61 : decode (gw_mC M_X11_of) 61 = .ok (.ireturn, 1) := by decide +kernel
theorem d_X11_of_62 : decode (gw_mC M_X11_of) 62 = .ok (.aload_n 0, 1) := by decide +kernel
theorem d_X11_of_63 : decode (gw_mC M_X11_of) 63 = .ok (.getfield 10, 3) := by decide +kernel
theorem d_X11_of_66 : decode (gw_mC M_X11_of) 66 = .ok (.getfield 128, 3) := by decide +kernel
theorem d_X11_of_69 : decode (gw_mC M_X11_of) 69 = .ok (.getfield 144, 3) := by decide +kernel
theorem d_X11_of_72 : decode (gw_mC M_X11_of) 72 = .ok (.iload_n 1, 1) := by decide +kernel
theorem d_X11_of_73 : decode (gw_mC M_X11_of) 73 = .ok (.baload, 1) := by decide +kernel
theorem d_X11_of_74 : decode (gw_mC M_X11_of) 74 = .ok (.ifCond .eq 7, 3) := by decide +kernel
theorem d_X11_of_77 : decode (gw_mC M_X11_of) 77 = .ok (.iconst 1, 1) := by decide +kernel
theorem d_X11_of_78 : decode (gw_mC M_X11_of) 78 = .ok (.goto 4, 3) := by decide +kernel
theorem d_X11_of_81 : decode (gw_mC M_X11_of) 81 = .ok (.iconst 0, 1) := by decide +kernel
theorem d_X11_of_82 : decode (gw_mC M_X11_of) 82 = .ok (.ireturn, 1) := by decide +kernel
theorem d_X11_of_83 : decode (gw_mC M_X11_of) 83 = .ok (.iconst (-1), 1) := by decide +kernel
theorem d_X11_of_84 : decode (gw_mC M_X11_of) 84 = .ok (.ireturn, 1) := by decide +kernel
theorem d_X11_rule_0 : decode (gw_mC M_X11_rule) 0 = .ok (.iload_n 1, 1) := by decide +kernel
theorem d_X11_rule_1 : decode (gw_mC M_X11_rule) 1 = .ok (.iconst 0, 1) := by decide +kernel
theorem d_X11_rule_2 : decode (gw_mC M_X11_rule) 2 = .ok (.iconst 4, 1) := by decide +kernel
theorem d_X11_rule_3 : decode (gw_mC M_X11_rule) 3 = .ok (.invokestatic 92, 3) := by decide +kernel
theorem d_X11_rule_6 : decode (gw_mC M_X11_rule) 6 = .ok (.ifCond .eq 20, 3) := by decide +kernel
theorem d_X11_rule_9 : decode (gw_mC M_X11_rule) 9 = .ok (.iload_n 2, 1) := by decide +kernel
theorem d_X11_rule_10 : decode (gw_mC M_X11_rule) 10 = .ok (.getstatic 148, 3) := by decide +kernel
theorem d_X11_rule_13 : decode (gw_mC M_X11_rule) 13 = .ok (.iload_n 1, 1) := by decide +kernel
theorem d_X11_rule_14 : decode (gw_mC M_X11_rule) 14 = .ok (.iaload, 1) := by decide +kernel
theorem d_X11_rule_15 : decode (gw_mC M_X11_rule) 15 = .ok (.getstatic 151, 3) := by decide +kernel
theorem d_X11_rule_18 : decode (gw_mC M_X11_rule) 18 = .ok (.iload_n 1, 1) := by decide +kernel
theorem d_X11_rule_19 : decode (gw_mC M_X11_rule) 19 = .ok (.iaload, 1) := by decide +kernel
theorem d_X11_rule_20 : decode (gw_mC M_X11_rule) 20 = .ok (.invokestatic 92, 3) := by decide +kernel
theorem d_X11_rule_23 : decode (gw_mC M_X11_rule) 23 = .ok (.ifCond .ne 5, 3) := by decide +kernel
theorem d_X11_rule_26 : decode (gw_mC M_X11_rule) 26 = .ok (.iconst (-1), 1) := by decide +kernel
theorem d_X11_rule_27 : decode (gw_mC M_X11_rule) 27 = .ok (.ireturn, 1) := by decide +kernel
theorem d_X11_rule_28 : decode (gw_mC M_X11_rule) 28 = .ok (.aload_n 0, 1) := by decide +kernel
theorem d_X11_rule_29 : decode (gw_mC M_X11_rule) 29 = .ok (.getfield 10, 3) := by decide +kernel
theorem d_X11_rule_32 : decode (gw_mC M_X11_rule) 32 = .ok (.getfield 154, 3) := by decide +kernel
theorem d_X11_rule_35 : decode (gw_mC M_X11_rule) 35 = .ok (.iload_n 1, 1) := by decide +kernel
theorem d_X11_rule_36 : decode (gw_mC M_X11_rule) 36 = .ok (.iaload, 1) := by decide +kernel
