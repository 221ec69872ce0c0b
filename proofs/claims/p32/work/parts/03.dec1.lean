theorem d_X0_init_0 : decode (gw_mC M_X0_init) 0 = .ok (.aload_n 0, 1) := by decide +kernel
theorem d_X0_init_1 : decode (gw_mC M_X0_init) 1 = .ok (.invokespecial 3, 3) := by decide +kernel
theorem d_X0_init_4 : decode (gw_mC M_X0_init) 4 = .ok (.aload_n 0, 1) := by decide +kernel
theorem d_X0_init_5 : decode (gw_mC M_X0_init) 5 = .ok (.iconst 0, 1) := by decide +kernel
theorem d_X0_init_6 : decode (gw_mC M_X0_init) 6 = .ok (.putfield 9, 3) := by decide +kernel
theorem d_X0_init_9 : decode (gw_mC M_X0_init) 9 = .ok (.aload_n 0, 1) := by decide +kernel
theorem d_X0_init_10 : decode (gw_mC M_X0_init) 10 = .ok (.bipush 6, 2) := by decide +kernel
theorem d_X0_init_12 : decode (gw_mC M_X0_init) 12 = .ok (.newarray .int, 2) := by decide +kernel
theorem d_X0_init_14 : decode (gw_mC M_X0_init) 14 = .ok (.putfield 15, 3) := by decide +kernel
theorem d_X0_init_17 : decode (gw_mC M_X0_init) 17 = .ok (.aload_n 0, 1) := by decide +kernel
theorem d_X0_init_18 : decode (gw_mC M_X0_init) 18 = .ok (.bipush 6, 2) := by decide +kernel
theorem d_X0_init_20 : decode (gw_mC M_X0_init) 20 = .ok (.newarray .int, 2) := by decide +kernel
theorem d_X0_init_22 : decode (gw_mC M_X0_init) 22 = .ok (.putfield 19, 3) := by decide +kernel
theorem d_X0_init_25 : decode (gw_mC M_X0_init) 25 = .ok (.aload_n 0, 1) := by decide +kernel
theorem d_X0_init_26 : decode (gw_mC M_X0_init) 26 = .ok (.bipush 6, 2) := by decide +kernel
theorem d_X0_init_28 : decode (gw_mC M_X0_init) 28 = .ok (.newarray .int, 2) := by decide +kernel
theorem d_X0_init_30 : decode (gw_mC M_X0_init) 30 = .ok (.putfield 22, 3) := by decide +kernel
theorem d_X0_init_33 : decode (gw_mC M_X0_init) 33 = .ok (.aload_n 0, 1) := by decide +kernel
theorem d_X0_init_34 : decode (gw_mC M_X0_init) 34 = .ok (.bipush 6, 2) := by decide +kernel
theorem d_X0_init_36 : decode (gw_mC M_X0_init) 36 = .ok (.newarray .int, 2) := by decide +kernel
theorem d_X0_init_38 : decode (gw_mC M_X0_init) 38 = .ok (.putfield 25, 3) := by decide +kernel
theorem d_X0_init_41 : decode (gw_mC M_X0_init) 41 = .ok (.aload_n 0, 1) := by decide +kernel
theorem d_X0_init_42 : decode (gw_mC M_X0_init) 42 = .ok (.iconst 0, 1) := by decide +kernel
theorem d_X0_init_43 : decode (gw_mC M_X0_init) 43 = .ok (.putfield 28, 3) := by decide +kernel
theorem d_X0_init_46 : decode (gw_mC M_X0_init) 46 = .ok (.return_, 1) := by decide +kernel
theorem d_X1_init_0 : decode (gw_mC M_X1_init) 0 = .ok (.aload_n 0, 1) := by decide +kernel
theorem d_X1_init_1 : decode (gw_mC M_X1_init) 1 = .ok (.invokespecial 3, 3) := by decide +kernel
theorem d_X1_init_4 : decode (gw_mC M_X1_init) 4 = .ok (.aload_n 0, 1) := by decide +kernel
theorem d_X1_init_5 : decode (gw_mC M_X1_init) 5 = .ok (.iconst 0, 1) := by decide +kernel
theorem d_X1_init_6 : decode (gw_mC M_X1_init) 6 = .ok (.putfield 9, 3) := by decide +kernel
theorem d_X1_init_9 : decode (gw_mC M_X1_init) 9 = .ok (.aload_n 0, 1) := by decide +kernel
theorem d_X1_init_10 : decode (gw_mC M_X1_init) 10 = .ok (.bipush 8, 2) := by decide +kernel
theorem d_X1_init_12 : decode (gw_mC M_X1_init) 12 = .ok (.newarray .int, 2) := by decide +kernel
theorem d_X1_init_14 : decode (gw_mC M_X1_init) 14 = .ok (.putfield 15, 3) := by decide +kernel
theorem d_X1_init_17 : decode (gw_mC M_X1_init) 17 = .ok (.aload_n 0, 1) := by decide +kernel
theorem d_X1_init_18 : decode (gw_mC M_X1_init) 18 = .ok (.bipush 8, 2) := by decide +kernel
theorem d_X1_init_20 : decode (gw_mC M_X1_init) 20 = .ok (.newarray .int, 2) := by decide +kernel
theorem d_X1_init_22 : decode (gw_mC M_X1_init) 22 = .ok (.putfield 19, 3) := by decide +kernel
theorem d_X1_init_25 : decode (gw_mC M_X1_init) 25 = .ok (.return_, 1) := by decide +kernel
theorem d_X1_load_0 : decode (gw_mC M_X1_load) 0 = .ok (.aload_n 0, 1) := by decide +kernel
theorem d_X1_load_1 : decode (gw_mC M_X1_load) 1 = .ok (.iload_n 1, 1) := by decide +kernel
theorem d_X1_load_2 : decode (gw_mC M_X1_load) 2 = .ok (.putfield 9, 3) := by decide +kernel
theorem d_X1_load_5 : decode (gw_mC M_X1_load) 5 = .ok (.iconst 0, 1) := by decide +kernel
theorem d_X1_load_6 : decode (gw_mC M_X1_load) 6 = .ok (.istore_n 3, 1) := by decide +kernel
theorem d_X1_load_7 : decode (gw_mC M_X1_load) 7 = .ok (.iload_n 3, 1) := by decide +kernel
theorem d_X1_load_8 : decode (gw_mC M_X1_load) 8 = .ok (.iload_n 1, 1) := by decide +kernel
theorem d_X1_load_9 : decode (gw_mC M_X1_load) 9 = .ok (.if_icmp .ge 16, 3) := by decide +kernel
theorem d_X1_load_12 : decode (gw_mC M_X1_load) 12 = .ok (.aload_n 0, 1) := by decide +kernel
theorem d_X1_load_13 : decode (gw_mC M_X1_load) 13 = .ok (.getfield 15, 3) := by decide +kernel
theorem d_X1_load_16 : decode (gw_mC M_X1_load) 16 = .ok (.iload_n 3, 1) := by decide +kernel
theorem d_X1_load_17 : decode (gw_mC M_X1_load) 17 = .ok (.iconst 0, 1) := by decide +kernel
theorem d_X1_load_18 : decode (gw_mC M_X1_load) 18 = .ok (.iastore, 1) := by decide +kernel
theorem d_X1_load_19 : decode (gw_mC M_X1_load) 19 = .ok (.iinc 3 1, 3) := by decide +kernel
theorem d_X1_load_22 : decode (gw_mC M_X1_load) 22 = .ok (.goto (-15), 3) := by decide +kernel
theorem d_X1_load_25 : decode (gw_mC M_X1_load) 25 = .ok (.iconst 0, 1) := by decide +kernel
theorem d_X1_load_26 : decode (gw_mC M_X1_load) 26 = .ok (.istore_n 3, 1) := by decide +kernel
theorem d_X1_load_27 : decode (gw_mC M_X1_load) 27 = .ok (.iconst 0, 1) := by decide +kernel
theorem d_X1_load_28 : decode (gw_mC M_X1_load) 28 = .ok (.istore 4, 2) := by decide +kernel
theorem d_X1_load_30 : decode (gw_mC M_X1_load) 30 = .ok (.iload 4, 2) := by decide +kernel
theorem d_X1_load_32 : decode (gw_mC M_X1_load) 32 = .ok (.iload_n 1, 1) := by decide +kernel
theorem d_X1_load_33 : decode (gw_mC M_X1_load) 33 = .ok (.if_icmp .ge 53, 3) := by decide +kernel
theorem d_X1_load_36 : decode (gw_mC M_X1_load) 36 = .ok (.iload 4, 2) := by decide +kernel
theorem d_X1_load_38 : decode (gw_mC M_X1_load) 38 = .ok (.iconst 1, 1) := by decide +kernel
theorem d_X1_load_39 : decode (gw_mC M_X1_load) 39 = .ok (.iadd, 1) := by decide +kernel
theorem d_X1_load_40 : decode (gw_mC M_X1_load) 40 = .ok (.istore 5, 2) := by decide +kernel
theorem d_X1_load_42 : decode (gw_mC M_X1_load) 42 = .ok (.iload 5, 2) := by decide +kernel
theorem d_X1_load_44 : decode (gw_mC M_X1_load) 44 = .ok (.iload_n 1, 1) := by decide +kernel
theorem d_X1_load_45 : decode (gw_mC M_X1_load) 45 = .ok (.if_icmp .ge 35, 3) := by decide +kernel
theorem d_X1_load_48 : decode (gw_mC M_X1_load) 48 = .ok (.iload_n 2, 1) := by decide +kernel
theorem d_X1_load_49 : decode (gw_mC M_X1_load) 49 = .ok (.iload_n 3, 1) := by decide +kernel
theorem d_X1_load_50 : decode (gw_mC M_X1_load) 50 = .ok (.ishr, 1) := by decide +kernel
theorem d_X1_load_51 : decode (gw_mC M_X1_load) 51 = .ok (.iconst 1, 1) := by decide +kernel
theorem d_X1_load_52 : decode (gw_mC M_X1_load) 52 = .ok (.iand, 1) := by decide +kernel
theorem d_X1_load_53 : decode (gw_mC M_X1_load) 53 = .ok (.iconst 1, 1) := by decide +kernel
theorem d_X1_load_54 : decode (gw_mC M_X1_load) 54 = .ok (.if_icmp .ne 17, 3) := by decide +kernel
theorem d_X1_load_57 : decode (gw_mC M_X1_load) 57 = .ok (.aload_n 0, 1) := by decide +kernel
theorem d_X1_load_58 : decode (gw_mC M_X1_load) 58 = .ok (.getfield 15, 3) := by decide +kernel
theorem d_X1_load_61 : decode (gw_mC M_X1_load) 61 = .ok (.iload 5, 2) := by decide +kernel
theorem d_X1_load_63 : decode (gw_mC M_X1_load) 63 = .ok (.dup2, 1) := by decide +kernel
theorem d_X1_load_64 : decode (gw_mC M_X1_load) 64 = .ok (.iaload, 1) := by decide +kernel
theorem d_X1_load_65 : decode (gw_mC M_X1_load) 65 = .ok (.iconst 1, 1) := by decide +kernel
theorem d_X1_load_66 : decode (gw_mC M_X1_load) 66 = .ok (.iload 4, 2) := by decide +kernel
theorem d_X1_load_68 : decode (gw_mC M_X1_load) 68 = .ok (.ishl, 1) := by decide +kernel
theorem d_X1_load_69 : decode (gw_mC M_X1_load) 69 = .ok (.ior, 1) := by decide +kernel
theorem d_X1_load_70 : decode (gw_mC M_X1_load) 70 = .ok (.iastore, 1) := by decide +kernel
theorem d_X1_load_71 : decode (gw_mC M_X1_load) 71 = .ok (.iinc 3 1, 3) := by decide +kernel
theorem d_X1_load_74 : decode (gw_mC M_X1_load) 74 = .ok (.iinc 5 1, 3) := by decide +kernel
theorem d_X1_load_77 : decode (gw_mC M_X1_load) 77 = .ok (.goto (-35), 3) := by decide +kernel
theorem d_X1_load_80 : decode (gw_mC M_X1_load) 80 = .ok (.iinc 4 1, 3) := by decide +kernel
theorem d_X1_load_83 : decode (gw_mC M_X1_load) 83 = .ok (.goto (-53), 3) := by decide +kernel
theorem d_X1_load_86 : decode (gw_mC M_X1_load) 86 = .ok (.return_, 1) := by decide +kernel
theorem d_X1_paint_0 : decode (gw_mC M_X1_paint) 0 = .ok (.iconst 1, 1) := by decide +kernel
theorem d_X1_paint_1 : decode (gw_mC M_X1_paint) 1 = .ok (.istore_n 1, 1) := by decide +kernel
theorem d_X1_paint_2 : decode (gw_mC M_X1_paint) 2 = .ok (.iload_n 1, 1) := by decide +kernel
theorem d_X1_paint_3 : decode (gw_mC M_X1_paint) 3 = .ok (.aload_n 0, 1) := by decide +kernel
theorem d_X1_paint_4 : decode (gw_mC M_X1_paint) 4 = .ok (.getfield 9, 3) := by decide +kernel
theorem d_X1_paint_7 : decode (gw_mC M_X1_paint) 7 = .ok (.if_icmp .ge 21, 3) := by decide +kernel
theorem d_X1_paint_10 : decode (gw_mC M_X1_paint) 10 = .ok (.aload_n 0, 1) := by decide +kernel
theorem d_X1_paint_11 : decode (gw_mC M_X1_paint) 11 = .ok (.iconst 0, 1) := by decide +kernel
theorem d_X1_paint_12 : decode (gw_mC M_X1_paint) 12 = .ok (.iconst 0, 1) := by decide +kernel
theorem d_X1_paint_13 : decode (gw_mC M_X1_paint) 13 = .ok (.iload_n 1, 1) := by decide +kernel
theorem d_X1_paint_14 : decode (gw_mC M_X1_paint) 14 = .ok (.invokestatic 22, 3) := by decide +kernel
theorem d_X1_paint_17 : decode (gw_mC M_X1_paint) 17 = .ok (.ifCond .eq 5, 3) := by decide +kernel
theorem d_X1_paint_20 : decode (gw_mC M_X1_paint) 20 = .ok (.iload_n 1, 1) := by decide +kernel
theorem d_X1_paint_21 : decode (gw_mC M_X1_paint) 21 = .ok (.ireturn, 1) := by decide +kernel
theorem d_X1_paint_22 : decode (gw_mC M_X1_paint) 22 = .ok (.iinc 1 1, 3) := by decide +kernel
theorem d_X1_paint_25 : decode (gw_mC M_X1_paint) 25 = .ok (.goto (-23), 3) := by decide +kernel
theorem d_X1_paint_28 : decode (gw_mC M_X1_paint) 28 = .ok (.aload_n 0, 1) := by decide +kernel
theorem d_X1_paint_29 : decode (gw_mC M_X1_paint) 29 = .ok (.iconst 0, 1) := by decide +kernel
theorem d_X1_paint_30 : decode (gw_mC M_X1_paint) 30 = .ok (.iconst 0, 1) := by decide +kernel
theorem d_X1_paint_31 : decode (gw_mC M_X1_paint) 31 = .ok (.aload_n 0, 1) := by decide +kernel
theorem d_X1_paint_32 : decode (gw_mC M_X1_paint) 32 = .ok (.getfield 9, 3) := by decide +kernel
theorem d_X1_paint_35 : decode (gw_mC M_X1_paint) 35 = .ok (.invokestatic 22, 3) := by decide +kernel
theorem d_X1_paint_38 : decode (gw_mC M_X1_paint) 38 = .ok (.pop, 1) := by decide +kernel
theorem d_X1_paint_39 : decode (gw_mC M_X1_paint) 39 = .ok (.aload_n 0, 1) := by decide +kernel
theorem d_X1_paint_40 : decode (gw_mC M_X1_paint) 40 = .ok (.getfield 9, 3) := by decide +kernel
theorem d_X1_paint_43 : decode (gw_mC M_X1_paint) 43 = .ok (.ireturn, 1) := by decide +kernel
theorem d_X1_paintFrom_0 : decode (gw_mC M_X1_paintFrom) 0 = .ok (.iload_n 1, 1) := by decide +kernel
theorem d_X1_paintFrom_1 : decode (gw_mC M_X1_paintFrom) 1 = .ok (.aload_n 0, 1) := by decide +kernel
theorem d_X1_paintFrom_2 : decode (gw_mC M_X1_paintFrom) 2 = .ok (.getfield 9, 3) := by decide +kernel
theorem d_X1_paintFrom_5 : decode (gw_mC M_X1_paintFrom) 5 = .ok (.if_icmp .lt 5, 3) := by decide +kernel
theorem d_X1_paintFrom_8 : decode (gw_mC M_X1_paintFrom) 8 = .ok (.iconst 1, 1) := by decide +kernel
theorem d_X1_paintFrom_9 : decode (gw_mC M_X1_paintFrom) 9 = .ok (.ireturn, 1) := by decide +kernel
theorem d_X1_paintFrom_10 : decode (gw_mC M_X1_paintFrom) 10 = .ok (.iconst 0, 1) := by decide +kernel
theorem d_X1_paintFrom_11 : decode (gw_mC M_X1_paintFrom) 11 = .ok (.istore 4, 2) := by decide +kernel
theorem d_X1_paintFrom_13 : decode (gw_mC M_X1_paintFrom) 13 = .ok (.iload 4, 2) := by decide +kernel
theorem d_X1_paintFrom_15 : decode (gw_mC M_X1_paintFrom) 15 = .ok (.iload_n 2, 1) := by decide +kernel
theorem d_X1_paintFrom_16 : decode (gw_mC M_X1_paintFrom) 16 = .ok (.if_icmp .gt 54, 3) := by decide +kernel
theorem d_X1_paintFrom_19 : decode (gw_mC M_X1_paintFrom) 19 = .ok (.iload 4, 2) := by decide +kernel
theorem d_X1_paintFrom_21 : decode (gw_mC M_X1_paintFrom) 21 = .ok (.iload_n 3, 1) := by decide +kernel
theorem d_X1_paintFrom_22 : decode (gw_mC M_X1_paintFrom) 22 = .ok (.if_icmp .ge 48, 3) := by decide +kernel
theorem d_X1_paintFrom_25 : decode (gw_mC M_X1_paintFrom) 25 = .ok (.aload_n 0, 1) := by decide +kernel
theorem d_X1_paintFrom_26 : decode (gw_mC M_X1_paintFrom) 26 = .ok (.iload_n 1, 1) := by decide +kernel
theorem d_X1_paintFrom_27 : decode (gw_mC M_X1_paintFrom) 27 = .ok (.iload 4, 2) := by decide +kernel
theorem d_X1_paintFrom_29 : decode (gw_mC M_X1_paintFrom) 29 = .ok (.invokevirtual 26, 3) := by decide +kernel
theorem d_X1_paintFrom_32 : decode (gw_mC M_X1_paintFrom) 32 = .ok (.ifCond .eq 32, 3) := by decide +kernel
theorem d_X1_paintFrom_35 : decode (gw_mC M_X1_paintFrom) 35 = .ok (.aload_n 0, 1) := by decide +kernel
theorem d_X1_paintFrom_36 : decode (gw_mC M_X1_paintFrom) 36 = .ok (.getfield 19, 3) := by decide +kernel
theorem d_X1_paintFrom_39 : decode (gw_mC M_X1_paintFrom) 39 = .ok (.iload_n 1, 1) := by decide +kernel
theorem d_X1_paintFrom_40 : decode (gw_mC M_X1_paintFrom) 40 = .ok (.iload 4, 2) := by decide +kernel
theorem d_X1_paintFrom_42 : decode (gw_mC M_X1_paintFrom) 42 = .ok (.iastore, 1) := by decide +kernel
theorem d_X1_paintFrom_43 : decode (gw_mC M_X1_paintFrom) 43 = .ok (.aload_n 0, 1) := by decide +kernel
theorem d_X1_paintFrom_44 : decode (gw_mC M_X1_paintFrom) 44 = .ok (.iload_n 1, 1) := by decide +kernel
theorem d_X1_paintFrom_45 : decode (gw_mC M_X1_paintFrom) 45 = .ok (.iconst 1, 1) := by decide +kernel
theorem d_X1_paintFrom_46 : decode (gw_mC M_X1_paintFrom) 46 = .ok (.iadd, 1) := by decide +kernel
theorem d_X1_paintFrom_47 : decode (gw_mC M_X1_paintFrom) 47 = .ok (.iload_n 2, 1) := by decide +kernel
theorem d_X1_paintFrom_48 : decode (gw_mC M_X1_paintFrom) 48 = .ok (.iload 4, 2) := by decide +kernel
theorem d_X1_paintFrom_50 : decode (gw_mC M_X1_paintFrom) 50 = .ok (.iconst 1, 1) := by decide +kernel
theorem d_X1_paintFrom_51 : decode (gw_mC M_X1_paintFrom) 51 = .ok (.iadd, 1) := by decide +kernel
theorem d_X1_paintFrom_52 : decode (gw_mC M_X1_paintFrom) 52 = .ok (.invokestatic 30, 3) := by decide +kernel
theorem d_X1_paintFrom_55 : decode (gw_mC M_X1_paintFrom) 55 = .ok (.iload_n 3, 1) := by decide +kernel
theorem d_X1_paintFrom_56 : decode (gw_mC M_X1_paintFrom) 56 = .ok (.invokestatic 22, 3) := by decide +kernel
theorem d_X1_paintFrom_59 : decode (gw_mC M_X1_paintFrom) 59 = .ok (.ifCond .eq 5, 3) := by decide +kernel
theorem d_X1_paintFrom_62 : decode (gw_mC M_X1_paintFrom) 62 = .ok (.iconst 1, 1) := by decide +kernel
theorem d_X1_paintFrom_63 : decode (gw_mC M_X1_paintFrom) 63 = .ok (.ireturn, 1) := by decide +kernel
theorem d_X1_paintFrom_64 : decode (gw_mC M_X1_paintFrom) 64 = .ok (.iinc 4 1, 3) := by decide +kernel
theorem d_X1_paintFrom_67 : decode (gw_mC M_X1_paintFrom) 67 = .ok (.goto (-54), 3) := by decide +kernel
theorem d_X1_paintFrom_70 : decode (gw_mC M_X1_paintFrom) 70 = .ok (.iconst 0, 1) := by decide +kernel
theorem d_X1_paintFrom_71 : decode (gw_mC M_X1_paintFrom) 71 = .ok (.ireturn, 1) := by decide +kernel
theorem d_X1_isFree_0 : decode (gw_mC M_X1_isFree) 0 = .ok (.iconst 0, 1) := by decide +kernel
theorem d_X1_isFree_1 : decode (gw_mC M_X1_isFree) 1 = .ok (.istore_n 3, 1) := by decide +kernel
theorem d_X1_isFree_2 : decode (gw_mC M_X1_isFree) 2 = .ok (.iload_n 3, 1) := by decide +kernel
theorem d_X1_isFree_3 : decode (gw_mC M_X1_isFree) 3 = .ok (.iload_n 1, 1) := by decide +kernel
theorem d_X1_isFree_4 : decode (gw_mC M_X1_isFree) 4 = .ok (.if_icmp .ge 35, 3) := by decide +kernel
theorem d_X1_isFree_7 : decode (gw_mC M_X1_isFree) 7 = .ok (.aload_n 0, 1) := by decide +kernel
theorem d_X1_isFree_8 : decode (gw_mC M_X1_isFree) 8 = .ok (.getfield 15, 3) := by decide +kernel
theorem d_X1_isFree_11 : decode (gw_mC M_X1_isFree) 11 = .ok (.iload_n 1, 1) := by decide +kernel
theorem d_X1_isFree_12 : decode (gw_mC M_X1_isFree) 12 = .ok (.iaload, 1) := by decide +kernel
theorem d_X1_isFree_13 : decode (gw_mC M_X1_isFree) 13 = .ok (.iload_n 3, 1) := by decide +kernel
theorem d_X1_isFree_14 : decode (gw_mC M_X1_isFree) 14 = .ok (.ishr, 1) := by decide +kernel
theorem d_X1_isFree_15 : decode (gw_mC M_X1_isFree) 15 = .ok (.iconst 1, 1) := by decide +kernel
theorem d_X1_isFree_16 : decode (gw_mC M_X1_isFree) 16 = .ok (.iand, 1) := by decide +kernel
theorem d_X1_isFree_17 : decode (gw_mC M_X1_isFree) 17 = .ok (.iconst 1, 1) := by decide +kernel
theorem d_X1_isFree_18 : decode (gw_mC M_X1_isFree) 18 = .ok (.if_icmp .ne 15, 3) := by decide +kernel
theorem d_X1_isFree_21 : decode (gw_mC M_X1_isFree) 21 = .ok (.aload_n 0, 1) := by decide +kernel
theorem d_X1_isFree_22 : decode (gw_mC M_X1_isFree) 22 = .ok (.getfield 19, 3) := by decide +kernel
theorem d_X1_isFree_25 : decode (gw_mC M_X1_isFree) 25 = .ok (.iload_n 3, 1) := by decide +kernel
theorem d_X1_isFree_26 : decode (gw_mC M_X1_isFree) 26 = .ok (.iaload, 1) := by decide +kernel
theorem d_X1_isFree_27 : decode (gw_mC M_X1_isFree) 27 = .ok (.iload_n 2, 1) := by decide +kernel
theorem d_X1_isFree_28 : decode (gw_mC M_X1_isFree) 28 = .ok (.if_icmp .ne 5, 3) := by decide +kernel
theorem d_X1_isFree_31 : decode (gw_mC M_X1_isFree) 31 = .ok (.iconst 0, 1) := by decide +kernel
theorem d_X1_isFree_32 : decode (gw_mC M_X1_isFree) 32 = .ok (.ireturn, 1) := by decide +kernel
theorem d_X1_isFree_33 : decode (gw_mC M_X1_isFree) 33 = .ok (.iinc 3 1, 3) := by decide +kernel
theorem d_X1_isFree_36 : decode (gw_mC M_X1_isFree) 36 = .ok (.goto (-34), 3) := by decide +kernel
theorem d_X1_isFree_39 : decode (gw_mC M_X1_isFree) 39 = .ok (.iconst 1, 1) := by decide +kernel
theorem d_X1_isFree_40 : decode (gw_mC M_X1_isFree) 40 = .ok (.ireturn, 1) := by decide +kernel
theorem d_X2_init_0 : decode (gw_mC M_X2_init) 0 = .ok (.aload_n 0, 1) := by decide +kernel
theorem d_X2_init_1 : decode (gw_mC M_X2_init) 1 = .ok (.invokespecial 1, 3) := by decide +kernel
theorem d_X2_init_4 : decode (gw_mC M_X2_init) 4 = .ok (.aload_n 0, 1) := by decide +kernel
theorem d_X2_init_5 : decode (gw_mC M_X2_init) 5 = .ok (.iconst 0, 1) := by decide +kernel
theorem d_X2_init_6 : decode (gw_mC M_X2_init) 6 = .ok (.putfield 7, 3) := by decide +kernel
theorem d_X2_init_9 : decode (gw_mC M_X2_init) 9 = .ok (.aload_n 0, 1) := by decide +kernel
theorem d_X2_init_10 : decode (gw_mC M_X2_init) 10 = .ok (.iconst 0, 1) := by decide +kernel
theorem d_X2_init_11 : decode (gw_mC M_X2_init) 11 = .ok (.putfield 13, 3) := by decide +kernel
theorem d_X2_init_14 : decode (gw_mC M_X2_init) 14 = .ok (.aload_n 0, 1) := by decide +kernel
theorem d_X2_init_15 : decode (gw_mC M_X2_init) 15 = .ok (.iconst 0, 1) := by decide +kernel
theorem d_X2_init_16 : decode (gw_mC M_X2_init) 16 = .ok (.putfield 16, 3) := by decide +kernel
theorem d_X2_init_19 : decode (gw_mC M_X2_init) 19 = .ok (.aload_n 0, 1) := by decide +kernel
theorem d_X2_init_20 : decode (gw_mC M_X2_init) 20 = .ok (.iconst 0, 1) := by decide +kernel
theorem d_X2_init_21 : decode (gw_mC M_X2_init) 21 = .ok (.putfield 20, 3) := by decide +kernel
theorem d_X2_init_24 : decode (gw_mC M_X2_init) 24 = .ok (.aload_n 0, 1) := by decide +kernel
theorem d_X2_init_25 : decode (gw_mC M_X2_init) 25 = .ok (.iconst 0, 1) := by decide +kernel
theorem d_X2_init_26 : decode (gw_mC M_X2_init) 26 = .ok (.putfield 23, 3) := by decide +kernel
theorem d_X2_init_29 : decode (gw_mC M_X2_init) 29 = .ok (.aload_n 0, 1) := by decide +kernel
theorem d_X2_init_30 : decode (gw_mC M_X2_init) 30 = .ok (.iconst 0, 1) := by decide +kernel
theorem d_X2_init_31 : decode (gw_mC M_X2_init) 31 = .ok (.putfield 26, 3) := by decide +kernel
theorem d_X2_init_34 : decode (gw_mC M_X2_init) 34 = .ok (.return_, 1) := by decide +kernel
theorem d_X2_clear_0 : decode (gw_mC M_X2_clear) 0 = .ok (.aload_n 0, 1) := by decide +kernel
theorem d_X2_clear_1 : decode (gw_mC M_X2_clear) 1 = .ok (.iconst 0, 1) := by decide +kernel
theorem d_X2_clear_2 : decode (gw_mC M_X2_clear) 2 = .ok (.putfield 7, 3) := by decide +kernel
theorem d_X2_clear_5 : decode (gw_mC M_X2_clear) 5 = .ok (.aload_n 0, 1) := by decide +kernel
theorem d_X2_clear_6 : decode (gw_mC M_X2_clear) 6 = .ok (.iconst 0, 1) := by decide +kernel
theorem d_X2_clear_7 : decode (gw_mC M_X2_clear) 7 = .ok (.putfield 13, 3) := by decide +kernel
theorem d_X2_clear_10 : decode (gw_mC M_X2_clear) 10 = .ok (.aload_n 0, 1) := by decide +kernel
theorem d_X2_clear_11 : decode (gw_mC M_X2_clear) 11 = .ok (.iconst 0, 1) := by decide +kernel
theorem d_X2_clear_12 : decode (gw_mC M_X2_clear) 12 = .ok (.putfield 16, 3) := by decide +kernel
theorem d_X2_clear_15 : decode (gw_mC M_X2_clear) 15 = .ok (.aload_n 0, 1) := by decide +kernel
theorem d_X2_clear_16 : decode (gw_mC M_X2_clear) 16 = .ok (.iconst 0, 1) := by decide +kernel
theorem d_X2_clear_17 : decode (gw_mC M_X2_clear) 17 = .ok (.putfield 20, 3) := by decide +kernel
theorem d_X2_clear_20 : decode (gw_mC M_X2_clear) 20 = .ok (.aload_n 0, 1) := by decide +kernel
theorem d_X2_clear_21 : decode (gw_mC M_X2_clear) 21 = .ok (.iconst 0, 1) := by decide +kernel
theorem d_X2_clear_22 : decode (gw_mC M_X2_clear) 22 = .ok (.putfield 23, 3) := by decide +kernel
theorem d_X2_clear_25 : decode (gw_mC M_X2_clear) 25 = .ok (.aload_n 0, 1) := by decide +kernel
theorem d_X2_clear_26 : decode (gw_mC M_X2_clear) 26 = .ok (.iconst 0, 1) := by decide +kernel
theorem d_X2_clear_27 : decode (gw_mC M_X2_clear) 27 = .ok (.putfield 26, 3) := by decide +kernel
theorem d_X2_clear_30 : decode (gw_mC M_X2_clear) 30 = .ok (.return_, 1) := by decide +kernel
theorem d_X3_init_0 : decode (gw_mC M_X3_init) 0 = .ok (.aload_n 0, 1) := by decide +kernel
theorem d_X3_init_1 : decode (gw_mC M_X3_init) 1 = .ok (.invokespecial 3, 3) := by decide +kernel
theorem d_X3_init_4 : decode (gw_mC M_X3_init) 4 = .ok (.aload_n 0, 1) := by decide +kernel
theorem d_X3_init_5 : decode (gw_mC M_X3_init) 5 = .ok (.iconst 4, 1) := by decide +kernel
theorem d_X3_init_6 : decode (gw_mC M_X3_init) 6 = .ok (.newarray .int, 2) := by decide +kernel
theorem d_X3_init_8 : decode (gw_mC M_X3_init) 8 = .ok (.putfield 9, 3) := by decide +kernel
theorem d_X3_init_11 : decode (gw_mC M_X3_init) 11 = .ok (.aload_n 0, 1) := by decide +kernel
theorem d_X3_init_12 : decode (gw_mC M_X3_init) 12 = .ok (.iconst 4, 1) := by decide +kernel
theorem d_X3_init_13 : decode (gw_mC M_X3_init) 13 = .ok (.bipush 8, 2) := by decide +kernel
theorem d_X3_init_15 : decode (gw_mC M_X3_init) 15 = .ok (.multianewarray 15 2, 4) := by decide +kernel
theorem d_X3_init_19 : decode (gw_mC M_X3_init) 19 = .ok (.putfield 17, 3) := by decide +kernel
theorem d_X3_init_22 : decode (gw_mC M_X3_init) 22 = .ok (.aload_n 0, 1) := by decide +kernel
theorem d_X3_init_23 : decode (gw_mC M_X3_init) 23 = .ok (.iconst 4, 1) := by decide +kernel
theorem d_X3_init_24 : decode (gw_mC M_X3_init) 24 = .ok (.bipush 8, 2) := by decide +kernel
theorem d_X3_init_26 : decode (gw_mC M_X3_init) 26 = .ok (.multianewarray 15 2, 4) := by decide +kernel
theorem d_X3_init_30 : decode (gw_mC M_X3_init) 30 = .ok (.putfield 20, 3) := by decide +kernel
theorem d_X3_init_33 : decode (gw_mC M_X3_init) 33 = .ok (.aload_n 0, 1) := by decide +kernel
theorem d_X3_init_34 : decode (gw_mC M_X3_init) 34 = .ok (.bipush 8, 2) := by decide +kernel
theorem d_X3_init_36 : decode (gw_mC M_X3_init) 36 = .ok (.newarray .int, 2) := by decide +kernel
theorem d_X3_init_38 : decode (gw_mC M_X3_init) 38 = .ok (.putfield 23, 3) := by decide +kernel
theorem d_X3_init_41 : decode (gw_mC M_X3_init) 41 = .ok (.return_, 1) := by decide +kernel
theorem d_X3_isTaken_0 : decode (gw_mC M_X3_isTaken) 0 = .ok (.iconst 0, 1) := by decide +kernel
theorem d_X3_isTaken_1 : decode (gw_mC M_X3_isTaken) 1 = .ok (.istore_n 3, 1) := by decide +kernel
theorem d_X3_isTaken_2 : decode (gw_mC M_X3_isTaken) 2 = .ok (.iload_n 3, 1) := by decide +kernel
theorem d_X3_isTaken_3 : decode (gw_mC M_X3_isTaken) 3 = .ok (.aload_n 0, 1) := by decide +kernel
theorem d_X3_isTaken_4 : decode (gw_mC M_X3_isTaken) 4 = .ok (.getfield 9, 3) := by decide +kernel
theorem d_X3_isTaken_7 : decode (gw_mC M_X3_isTaken) 7 = .ok (.iload_n 1, 1) := by decide +kernel
theorem d_X3_isTaken_8 : decode (gw_mC M_X3_isTaken) 8 = .ok (.iaload, 1) := by decide +kernel
theorem d_X3_isTaken_9 : decode (gw_mC M_X3_isTaken) 9 = .ok (.if_icmp .ge 23, 3) := by decide +kernel
theorem d_X3_isTaken_12 : decode (gw_mC M_X3_isTaken) 12 = .ok (.aload_n 0, 1) := by decide +kernel
theorem d_X3_isTaken_13 : decode (gw_mC M_X3_isTaken) 13 = .ok (.getfield 17, 3) := by decide +kernel
theorem d_X3_isTaken_16 : decode (gw_mC M_X3_isTaken) 16 = .ok (.iload_n 1, 1) := by decide +kernel
theorem d_X3_isTaken_17 : decode (gw_mC M_X3_isTaken) 17 = .ok (.aaload, 1) := by decide +kernel
theorem d_X3_isTaken_18 : decode (gw_mC M_X3_isTaken) 18 = .ok (.iload_n 3, 1) := by decide +kernel
theorem d_X3_isTaken_19 : decode (gw_mC M_X3_isTaken) 19 = .ok (.iaload, 1) := by decide +kernel
theorem d_X3_isTaken_20 : decode (gw_mC M_X3_isTaken) 20 = .ok (.iload_n 2, 1) := by decide +kernel
theorem d_X3_isTaken_21 : decode (gw_mC M_X3_isTaken) 21 = .ok (.if_icmp .ne 5, 3) := by decide +kernel
theorem d_X3_isTaken_24 : decode (gw_mC M_X3_isTaken) 24 = .ok (.iconst 1, 1) := by decide +kernel
theorem d_X3_isTaken_25 : decode (gw_mC M_X3_isTaken) 25 = .ok (.ireturn, 1) := by decide +kernel
theorem d_X3_isTaken_26 : decode (gw_mC M_X3_isTaken) 26 = .ok (.iinc 3 1, 3) := by decide +kernel
theorem d_X3_isTaken_29 : decode (gw_mC M_X3_isTaken) 29 = .ok (.goto (-27), 3) := by decide +kernel
theorem d_X3_isTaken_32 : decode (gw_mC M_X3_isTaken) 32 = .ok (.iconst 0, 1) := by decide +kernel
theorem d_X3_isTaken_33 : decode (gw_mC M_X3_isTaken) 33 = .ok (.ireturn, 1) := by decide +kernel
theorem d_X3_add_0 : decode (gw_mC M_X3_add) 0 = .ok (.aload_n 0, 1) := by decide +kernel
theorem d_X3_add_1 : decode (gw_mC M_X3_add) 1 = .ok (.iload_n 1, 1) := by decide +kernel
theorem d_X3_add_2 : decode (gw_mC M_X3_add) 2 = .ok (.iload_n 2, 1) := by decide +kernel
theorem d_X3_add_3 : decode (gw_mC M_X3_add) 3 = .ok (.invokevirtual 26, 3) := by decide +kernel
theorem d_X3_add_6 : decode (gw_mC M_X3_add) 6 = .ok (.ifCond .eq 6, 3) := by decide +kernel
theorem d_X3_add_9 : decode (gw_mC M_X3_add) 9 = .ok (.bipush (-2), 2) := by decide +kernel
theorem d_X3_add_11 : decode (gw_mC M_X3_add) 11 = .ok (.ireturn, 1) := by decide +kernel
theorem d_X3_add_12 : decode (gw_mC M_X3_add) 12 = .ok (.aload_n 0, 1) := by decide +kernel
theorem d_X3_add_13 : decode (gw_mC M_X3_add) 13 = .ok (.getfield 9, 3) := by decide +kernel
theorem d_X3_add_16 : decode (gw_mC M_X3_add) 16 = .ok (.iload_n 1, 1) := by decide +kernel
theorem d_X3_add_17 : decode (gw_mC M_X3_add) 17 = .ok (.iaload, 1) := by decide +kernel
theorem d_X3_add_18 : decode (gw_mC M_X3_add) 18 = .ok (.istore 4, 2) := by decide +kernel
theorem d_X3_add_20 : decode (gw_mC M_X3_add) 20 = .ok (.iload 4, 2) := by decide +kernel
theorem d_X3_add_22 : decode (gw_mC M_X3_add) 22 = .ok (.bipush 8, 2) := by decide +kernel
theorem d_X3_add_24 : decode (gw_mC M_X3_add) 24 = .ok (.if_icmp .lt 6, 3) := by decide +kernel
theorem d_X3_add_27 : decode (gw_mC M_X3_add) 27 = .ok (.bipush (-3), 2) := by decide +kernel
theorem d_X3_add_29 : decode (gw_mC M_X3_add) 29 = .ok (.ireturn, 1) := by decide +kernel
theorem d_X3_add_30 : decode (gw_mC M_X3_add) 30 = .ok (.aload_n 0, 1) := by decide +kernel
theorem d_X3_add_31 : decode (gw_mC M_X3_add) 31 = .ok (.getfield 17, 3) := by decide +kernel
theorem d_X3_add_34 : decode (gw_mC M_X3_add) 34 = .ok (.iload_n 1, 1) := by decide +kernel
theorem d_X3_add_35 : decode (gw_mC M_X3_add) 35 = .ok (.aaload, 1) := by decide +kernel
theorem d_X3_add_36 : decode (gw_mC M_X3_add) 36 = .ok (.iload 4, 2) := by decide +kernel
theorem d_X3_add_38 : decode (gw_mC M_X3_add) 38 = .ok (.iload_n 2, 1) := by decide +kernel
theorem d_X3_add_39 : decode (gw_mC M_X3_add) 39 = .ok (.iastore, 1) := by decide +kernel
theorem d_X3_add_40 : decode (gw_mC M_X3_add) 40 = .ok (.aload_n 0, 1) := by decide +kernel
theorem d_X3_add_41 : decode (gw_mC M_X3_add) 41 = .ok (.getfield 20, 3) := by decide +kernel
theorem d_X3_add_44 : decode (gw_mC M_X3_add) 44 = .ok (.iload_n 1, 1) := by decide +kernel
theorem d_X3_add_45 : decode (gw_mC M_X3_add) 45 = .ok (.aaload, 1) := by decide +kernel
theorem d_X3_add_46 : decode (gw_mC M_X3_add) 46 = .ok (.iload 4, 2) := by decide +kernel
theorem d_X3_add_48 : decode (gw_mC M_X3_add) 48 = .ok (.iload_n 3, 1) := by decide +kernel
theorem d_X3_add_49 : decode (gw_mC M_X3_add) 49 = .ok (.iastore, 1) := by decide +kernel
theorem d_X3_add_50 : decode (gw_mC M_X3_add) 50 = .ok (.iload_n 1, 1) := by decide +kernel
theorem d_X3_add_51 : decode (gw_mC M_X3_add) 51 = .ok (.ifCond .ne 12, 3) := by decide +kernel
theorem d_X3_add_54 : decode (gw_mC M_X3_add) 54 = .ok (.aload_n 0, 1) := by decide +kernel
theorem d_X3_add_55 : decode (gw_mC M_X3_add) 55 = .ok (.getfield 23, 3) := by decide +kernel
theorem d_X3_add_58 : decode (gw_mC M_X3_add) 58 = .ok (.iload 4, 2) := by decide +kernel
theorem d_X3_add_60 : decode (gw_mC M_X3_add) 60 = .ok (.bipush 10, 2) := by decide +kernel
theorem d_X3_add_62 : decode (gw_mC M_X3_add) 62 = .ok (.iastore, 1) := by decide +kernel
theorem d_X3_add_63 : decode (gw_mC M_X3_add) 63 = .ok (.aload_n 0, 1) := by decide +kernel
theorem d_X3_add_64 : decode (gw_mC M_X3_add) 64 = .ok (.getfield 9, 3) := by decide +kernel
theorem d_X3_add_67 : decode (gw_mC M_X3_add) 67 = .ok (.iload_n 1, 1) := by decide +kernel
theorem d_X3_add_68 : decode (gw_mC M_X3_add) 68 = .ok (.iload 4, 2) := by decide +kernel
theorem d_X3_add_70 : decode (gw_mC M_X3_add) 70 = .ok (.iconst 1, 1) := by decide +kernel
theorem d_X3_add_71 : decode (gw_mC M_X3_add) 71 = .ok (.iadd, 1) := by decide +kernel
theorem d_X3_add_72 : decode (gw_mC M_X3_add) 72 = .ok (.iastore, 1) := by decide +kernel
theorem d_X3_add_73 : decode (gw_mC M_X3_add) 73 = .ok (.iload 4, 2) := by decide +kernel
theorem d_X3_add_75 : decode (gw_mC M_X3_add) 75 = .ok (.ireturn, 1) := by decide +kernel
theorem d_X3_take_0 : decode (gw_mC M_X3_take) 0 = .ok (.iconst 0, 1) := by decide +kernel
theorem d_X3_take_1 : decode (gw_mC M_X3_take) 1 = .ok (.istore_n 2, 1) := by decide +kernel
theorem d_X3_take_2 : decode (gw_mC M_X3_take) 2 = .ok (.iload_n 2, 1) := by decide +kernel
theorem d_X3_take_3 : decode (gw_mC M_X3_take) 3 = .ok (.iconst 3, 1) := by decide +kernel
theorem d_X3_take_4 : decode (gw_mC M_X3_take) 4 = .ok (.if_icmp .gt 59, 3) := by decide +kernel
theorem d_X3_take_7 : decode (gw_mC M_X3_take) 7 = .ok (.aload_n 0, 1) := by decide +kernel
theorem d_X3_take_8 : decode (gw_mC M_X3_take) 8 = .ok (.getfield 9, 3) := by decide +kernel
theorem d_X3_take_11 : decode (gw_mC M_X3_take) 11 = .ok (.iload_n 2, 1) := by decide +kernel
theorem d_X3_take_12 : decode (gw_mC M_X3_take) 12 = .ok (.aload_n 1, 1) := by decide +kernel
theorem d_X3_take_13 : decode (gw_mC M_X3_take) 13 = .ok (.getfield 9, 3) := by decide +kernel
theorem d_X3_take_16 : decode (gw_mC M_X3_take) 16 = .ok (.iload_n 2, 1) := by decide +kernel
theorem d_X3_take_17 : decode (gw_mC M_X3_take) 17 = .ok (.iaload, 1) := by decide +kernel
theorem d_X3_take_18 : decode (gw_mC M_X3_take) 18 = .ok (.iastore, 1) := by decide +kernel
theorem d_X3_take_19 : decode (gw_mC M_X3_take) 19 = .ok (.aload_n 1, 1) := by decide +kernel
theorem d_X3_take_20 : decode (gw_mC M_X3_take) 20 = .ok (.getfield 17, 3) := by decide +kernel
theorem d_X3_take_23 : decode (gw_mC M_X3_take) 23 = .ok (.iload_n 2, 1) := by decide +kernel
theorem d_X3_take_24 : decode (gw_mC M_X3_take) 24 = .ok (.aaload, 1) := by decide +kernel
theorem d_X3_take_25 : decode (gw_mC M_X3_take) 25 = .ok (.iconst 0, 1) := by decide +kernel
theorem d_X3_take_26 : decode (gw_mC M_X3_take) 26 = .ok (.aload_n 0, 1) := by decide +kernel
theorem d_X3_take_27 : decode (gw_mC M_X3_take) 27 = .ok (.getfield 17, 3) := by decide +kernel
theorem d_X3_take_30 : decode (gw_mC M_X3_take) 30 = .ok (.iload_n 2, 1) := by decide +kernel
theorem d_X3_take_31 : decode (gw_mC M_X3_take) 31 = .ok (.aaload, 1) := by decide +kernel
theorem d_X3_take_32 : decode (gw_mC M_X3_take) 32 = .ok (.iconst 0, 1) := by decide +kernel
theorem d_X3_take_33 : decode (gw_mC M_X3_take) 33 = .ok (.bipush 8, 2) := by decide +kernel
theorem d_X3_take_35 : decode (gw_mC M_X3_take) 35 = .ok (.invokestatic 30, 3) := by decide +kernel
theorem d_X3_take_38 : decode (gw_mC M_X3_take) 38 = .ok (.aload_n 1, 1) := by decide +kernel
theorem d_X3_take_39 : decode (gw_mC M_X3_take) 39 = .ok (.getfield 20, 3) := by decide +kernel
theorem d_X3_take_42 : decode (gw_mC M_X3_take) 42 = .ok (.iload_n 2, 1) := by decide +kernel
theorem d_X3_take_43 : decode (gw_mC M_X3_take) 43 = .ok (.aaload, 1) := by decide +kernel
theorem d_X3_take_44 : decode (gw_mC M_X3_take) 44 = .ok (.iconst 0, 1) := by decide +kernel
theorem d_X3_take_45 : decode (gw_mC M_X3_take) 45 = .ok (.aload_n 0, 1) := by decide +kernel
theorem d_X3_take_46 : decode (gw_mC M_X3_take) 46 = .ok (.getfield 20, 3) := by decide +kernel
theorem d_X3_take_49 : decode (gw_mC M_X3_take) 49 = .ok (.iload_n 2, 1) := by decide +kernel
theorem d_X3_take_50 : decode (gw_mC M_X3_take) 50 = .ok (.aaload, 1) := by decide +kernel
theorem d_X3_take_51 : decode (gw_mC M_X3_take) 51 = .ok (.iconst 0, 1) := by decide +kernel
theorem d_X3_take_52 : decode (gw_mC M_X3_take) 52 = .ok (.bipush 8, 2) := by decide +kernel
theorem d_X3_take_54 : decode (gw_mC M_X3_take) 54 = .ok (.invokestatic 30, 3) := by decide +kernel
theorem d_X3_take_57 : decode (gw_mC M_X3_take) 57 = .ok (.iinc 2 1, 3) := by decide +kernel
theorem d_X3_take_60 : decode (gw_mC M_X3_take) 60 = .ok (.goto (-58), 3) := by decide +kernel
theorem d_X3_take_63 : decode (gw_mC M_X3_take) 63 = .ok (.aload_n 1, 1) := by decide +kernel
theorem d_X3_take_64 : decode (gw_mC M_X3_take) 64 = .ok (.getfield 23, 3) := by decide +kernel
theorem d_X3_take_67 : decode (gw_mC M_X3_take) 67 = .ok (.iconst 0, 1) := by decide +kernel
theorem d_X3_take_68 : decode (gw_mC M_X3_take) 68 = .ok (.aload_n 0, 1) := by decide +kernel
theorem d_X3_take_69 : decode (gw_mC M_X3_take) 69 = .ok (.getfield 23, 3) := by decide +kernel
theorem d_X3_take_72 : decode (gw_mC M_X3_take) 72 = .ok (.iconst 0, 1) := by decide +kernel
theorem d_X3_take_73 : decode (gw_mC M_X3_take) 73 = .ok (.bipush 8, 2) := by decide +kernel
theorem d_X3_take_75 : decode (gw_mC M_X3_take) 75 = .ok (.invokestatic 30, 3) := by decide +kernel
theorem d_X3_take_78 : decode (gw_mC M_X3_take) 78 = .ok (.return_, 1) := by decide +kernel
theorem d_X4_init_0 : decode (gw_mC M_X4_init) 0 = .ok (.aload_n 0, 1) := by decide +kernel
theorem d_X4_init_1 : decode (gw_mC M_X4_init) 1 = .ok (.invokespecial 3, 3) := by decide +kernel
theorem d_X4_init_4 : decode (gw_mC M_X4_init) 4 = .ok (.aload_n 0, 1) := by decide +kernel
theorem d_X4_init_5 : decode (gw_mC M_X4_init) 5 = .ok (.iconst 0, 1) := by decide +kernel
theorem d_X4_init_6 : decode (gw_mC M_X4_init) 6 = .ok (.putfield 9, 3) := by decide +kernel
theorem d_X4_init_9 : decode (gw_mC M_X4_init) 9 = .ok (.aload_n 0, 1) := by decide +kernel
theorem d_X4_init_10 : decode (gw_mC M_X4_init) 10 = .ok (.bipush 100, 2) := by decide +kernel
theorem d_X4_init_12 : decode (gw_mC M_X4_init) 12 = .ok (.newarray .int, 2) := by decide +kernel
theorem d_X4_init_14 : decode (gw_mC M_X4_init) 14 = .ok (.putfield 15, 3) := by decide +kernel
theorem d_X4_init_17 : decode (gw_mC M_X4_init) 17 = .ok (.aload_n 0, 1) := by decide +kernel
theorem d_X4_init_18 : decode (gw_mC M_X4_init) 18 = .ok (.bipush 100, 2) := by decide +kernel
theorem d_X4_init_20 : decode (gw_mC M_X4_init) 20 = .ok (.newarray .int, 2) := by decide +kernel
theorem d_X4_init_22 : decode (gw_mC M_X4_init) 22 = .ok (.putfield 19, 3) := by decide +kernel
theorem d_X4_init_25 : decode (gw_mC M_X4_init) 25 = .ok (.aload_n 0, 1) := by decide +kernel
theorem d_X4_init_26 : decode (gw_mC M_X4_init) 26 = .ok (.bipush 100, 2) := by decide +kernel
theorem d_X4_init_28 : decode (gw_mC M_X4_init) 28 = .ok (.newarray .int, 2) := by decide +kernel
theorem d_X4_init_30 : decode (gw_mC M_X4_init) 30 = .ok (.putfield 22, 3) := by decide +kernel
theorem d_X4_init_33 : decode (gw_mC M_X4_init) 33 = .ok (.aload_n 0, 1) := by decide +kernel
theorem d_X4_init_34 : decode (gw_mC M_X4_init) 34 = .ok (.bipush 100, 2) := by decide +kernel
theorem d_X4_init_36 : decode (gw_mC M_X4_init) 36 = .ok (.newarray .int, 2) := by decide +kernel
theorem d_X4_init_38 : decode (gw_mC M_X4_init) 38 = .ok (.putfield 25, 3) := by decide +kernel
theorem d_X4_init_41 : decode (gw_mC M_X4_init) 41 = .ok (.return_, 1) := by decide +kernel
theorem d_X4_lay_0 : decode (gw_mC M_X4_lay) 0 = .ok (.aload_n 0, 1) := by decide +kernel
theorem d_X4_lay_1 : decode (gw_mC M_X4_lay) 1 = .ok (.iload_n 2, 1) := by decide +kernel
theorem d_X4_lay_2 : decode (gw_mC M_X4_lay) 2 = .ok (.putfield 9, 3) := by decide +kernel
theorem d_X4_lay_5 : decode (gw_mC M_X4_lay) 5 = .ok (.aload_n 0, 1) := by decide +kernel
theorem d_X4_lay_6 : decode (gw_mC M_X4_lay) 6 = .ok (.aload_n 0, 1) := by decide +kernel
theorem d_X4_lay_7 : decode (gw_mC M_X4_lay) 7 = .ok (.getfield 15, 3) := by decide +kernel
theorem d_X4_lay_10 : decode (gw_mC M_X4_lay) 10 = .ok (.aload_n 1, 1) := by decide +kernel
theorem d_X4_lay_11 : decode (gw_mC M_X4_lay) 11 = .ok (.iconst 0, 1) := by decide +kernel
theorem d_X4_lay_12 : decode (gw_mC M_X4_lay) 12 = .ok (.invokevirtual 28, 3) := by decide +kernel
theorem d_X4_lay_15 : decode (gw_mC M_X4_lay) 15 = .ok (.aload_n 0, 1) := by decide +kernel
theorem d_X4_lay_16 : decode (gw_mC M_X4_lay) 16 = .ok (.aload_n 0, 1) := by decide +kernel
theorem d_X4_lay_17 : decode (gw_mC M_X4_lay) 17 = .ok (.getfield 19, 3) := by decide +kernel
theorem d_X4_lay_20 : decode (gw_mC M_X4_lay) 20 = .ok (.aload_n 1, 1) := by decide +kernel
theorem d_X4_lay_21 : decode (gw_mC M_X4_lay) 21 = .ok (.iconst 1, 1) := by decide +kernel
theorem d_X4_lay_22 : decode (gw_mC M_X4_lay) 22 = .ok (.invokevirtual 28, 3) := by decide +kernel
theorem d_X4_lay_25 : decode (gw_mC M_X4_lay) 25 = .ok (.aload_n 0, 1) := by decide +kernel
theorem d_X4_lay_26 : decode (gw_mC M_X4_lay) 26 = .ok (.aload_n 0, 1) := by decide +kernel
theorem d_X4_lay_27 : decode (gw_mC M_X4_lay) 27 = .ok (.getfield 22, 3) := by decide +kernel
theorem d_X4_lay_30 : decode (gw_mC M_X4_lay) 30 = .ok (.aload_n 1, 1) := by decide +kernel
theorem d_X4_lay_31 : decode (gw_mC M_X4_lay) 31 = .ok (.iconst 2, 1) := by decide +kernel
theorem d_X4_lay_32 : decode (gw_mC M_X4_lay) 32 = .ok (.invokevirtual 28, 3) := by decide +kernel
theorem d_X4_lay_35 : decode (gw_mC M_X4_lay) 35 = .ok (.aload_n 0, 1) := by decide +kernel
theorem d_X4_lay_36 : decode (gw_mC M_X4_lay) 36 = .ok (.aload_n 0, 1) := by decide +kernel
theorem d_X4_lay_37 : decode (gw_mC M_X4_lay) 37 = .ok (.getfield 25, 3) := by decide +kernel
theorem d_X4_lay_40 : decode (gw_mC M_X4_lay) 40 = .ok (.aload_n 1, 1) := by decide +kernel
theorem d_X4_lay_41 : decode (gw_mC M_X4_lay) 41 = .ok (.iconst 3, 1) := by decide +kernel
theorem d_X4_lay_42 : decode (gw_mC M_X4_lay) 42 = .ok (.invokevirtual 28, 3) := by decide +kernel
theorem d_X4_lay_45 : decode (gw_mC M_X4_lay) 45 = .ok (.return_, 1) := by decide +kernel
theorem d_X4_layKind_0 : decode (gw_mC M_X4_layKind) 0 = .ok (.iconst 0, 1) := by decide +kernel
theorem d_X4_layKind_1 : decode (gw_mC M_X4_layKind) 1 = .ok (.istore 4, 2) := by decide +kernel
theorem d_X4_layKind_3 : decode (gw_mC M_X4_layKind) 3 = .ok (.iload 4, 2) := by decide +kernel
theorem d_X4_layKind_5 : decode (gw_mC M_X4_layKind) 5 = .ok (.bipush 100, 2) := by decide +kernel
theorem d_X4_layKind_7 : decode (gw_mC M_X4_layKind) 7 = .ok (.if_icmp .ge 14, 3) := by decide +kernel
theorem d_X4_layKind_10 : decode (gw_mC M_X4_layKind) 10 = .ok (.aload_n 1, 1) := by decide +kernel
theorem d_X4_layKind_11 : decode (gw_mC M_X4_layKind) 11 = .ok (.iload 4, 2) := by decide +kernel
theorem d_X4_layKind_13 : decode (gw_mC M_X4_layKind) 13 = .ok (.iconst 0, 1) := by decide +kernel
theorem d_X4_layKind_14 : decode (gw_mC M_X4_layKind) 14 = .ok (.iastore, 1) := by decide +kernel
theorem d_X4_layKind_15 : decode (gw_mC M_X4_layKind) 15 = .ok (.iinc 4 1, 3) := by decide +kernel
theorem d_X4_layKind_18 : decode (gw_mC M_X4_layKind) 18 = .ok (.goto (-15), 3) := by decide +kernel
theorem d_X4_layKind_21 : decode (gw_mC M_X4_layKind) 21 = .ok (.iconst 0, 1) := by decide +kernel
theorem d_X4_layKind_22 : decode (gw_mC M_X4_layKind) 22 = .ok (.istore 4, 2) := by decide +kernel
theorem d_X4_layKind_24 : decode (gw_mC M_X4_layKind) 24 = .ok (.iload 4, 2) := by decide +kernel
theorem d_X4_layKind_26 : decode (gw_mC M_X4_layKind) 26 = .ok (.aload_n 2, 1) := by decide +kernel
theorem d_X4_layKind_27 : decode (gw_mC M_X4_layKind) 27 = .ok (.getfield 32, 3) := by decide +kernel
theorem d_X4_layKind_30 : decode (gw_mC M_X4_layKind) 30 = .ok (.iload_n 3, 1) := by decide +kernel
theorem d_X4_layKind_31 : decode (gw_mC M_X4_layKind) 31 = .ok (.iaload, 1) := by decide +kernel
theorem d_X4_layKind_32 : decode (gw_mC M_X4_layKind) 32 = .ok (.if_icmp .ge 48, 3) := by decide +kernel
theorem d_X4_layKind_35 : decode (gw_mC M_X4_layKind) 35 = .ok (.aload_n 2, 1) := by decide +kernel
theorem d_X4_layKind_36 : decode (gw_mC M_X4_layKind) 36 = .ok (.getfield 37, 3) := by decide +kernel
theorem d_X4_layKind_39 : decode (gw_mC M_X4_layKind) 39 = .ok (.iload_n 3, 1) := by decide +kernel
theorem d_X4_layKind_40 : decode (gw_mC M_X4_layKind) 40 = .ok (.aaload, 1) := by decide +kernel
theorem d_X4_layKind_41 : decode (gw_mC M_X4_layKind) 41 = .ok (.iload 4, 2) := by decide +kernel
theorem d_X4_layKind_43 : decode (gw_mC M_X4_layKind) 43 = .ok (.iaload, 1) := by decide +kernel
theorem d_X4_layKind_44 : decode (gw_mC M_X4_layKind) 44 = .ok (.istore 5, 2) := by decide +kernel
theorem d_X4_layKind_46 : decode (gw_mC M_X4_layKind) 46 = .ok (.iload 5, 2) := by decide +kernel
theorem d_X4_layKind_48 : decode (gw_mC M_X4_layKind) 48 = .ok (.iconst 0, 1) := by decide +kernel
theorem d_X4_layKind_49 : decode (gw_mC M_X4_layKind) 49 = .ok (.aload_n 0, 1) := by decide +kernel
theorem d_X4_layKind_50 : decode (gw_mC M_X4_layKind) 50 = .ok (.getfield 9, 3) := by decide +kernel
theorem d_X4_layKind_53 : decode (gw_mC M_X4_layKind) 53 = .ok (.iconst 1, 1) := by decide +kernel
theorem d_X4_layKind_54 : decode (gw_mC M_X4_layKind) 54 = .ok (.isub, 1) := by decide +kernel
theorem d_X4_layKind_55 : decode (gw_mC M_X4_layKind) 55 = .ok (.invokestatic 41, 3) := by decide +kernel
theorem d_X4_layKind_58 : decode (gw_mC M_X4_layKind) 58 = .ok (.ifCond .eq 16, 3) := by decide +kernel
theorem d_X4_layKind_61 : decode (gw_mC M_X4_layKind) 61 = .ok (.aload_n 1, 1) := by decide +kernel
theorem d_X4_layKind_62 : decode (gw_mC M_X4_layKind) 62 = .ok (.iload 5, 2) := by decide +kernel
theorem d_X4_layKind_64 : decode (gw_mC M_X4_layKind) 64 = .ok (.aload_n 2, 1) := by decide +kernel
theorem d_X4_layKind_65 : decode (gw_mC M_X4_layKind) 65 = .ok (.getfield 45, 3) := by decide +kernel
theorem d_X4_layKind_68 : decode (gw_mC M_X4_layKind) 68 = .ok (.iload_n 3, 1) := by decide +kernel
theorem d_X4_layKind_69 : decode (gw_mC M_X4_layKind) 69 = .ok (.aaload, 1) := by decide +kernel
theorem d_X4_layKind_70 : decode (gw_mC M_X4_layKind) 70 = .ok (.iload 4, 2) := by decide +kernel
theorem d_X4_layKind_72 : decode (gw_mC M_X4_layKind) 72 = .ok (.iaload, 1) := by decide +kernel
theorem d_X4_layKind_73 : decode (gw_mC M_X4_layKind) 73 = .ok (.iastore, 1) := by decide +kernel
theorem d_X4_layKind_74 : decode (gw_mC M_X4_layKind) 74 = .ok (.iinc 4 1, 3) := by decide +kernel
theorem d_X4_layKind_77 : decode (gw_mC M_X4_layKind) 77 = .ok (.goto (-53), 3) := by decide +kernel
theorem d_X4_layKind_80 : decode (gw_mC M_X4_layKind) 80 = .ok (.return_, 1) := by decide +kernel
theorem d_X4_isRed_0 : decode (gw_mC M_X4_isRed) 0 = .ok (.aload_n 0, 1) := by decide +kernel
theorem d_X4_isRed_1 : decode (gw_mC M_X4_isRed) 1 = .ok (.getfield 19, 3) := by decide +kernel
theorem d_X4_isRed_4 : decode (gw_mC M_X4_isRed) 4 = .ok (.iload_n 1, 1) := by decide +kernel
theorem d_X4_isRed_5 : decode (gw_mC M_X4_isRed) 5 = .ok (.iaload, 1) := by decide +kernel
theorem d_X4_isRed_6 : decode (gw_mC M_X4_isRed) 6 = .ok (.istore_n 3, 1) := by decide +kernel
theorem d_X4_isRed_7 : decode (gw_mC M_X4_isRed) 7 = .ok (.iload_n 3, 1) := by decide +kernel
theorem d_X4_isRed_8 : decode (gw_mC M_X4_isRed) 8 = .ok (.ifCond .le 16, 3) := by decide +kernel
theorem d_X4_isRed_11 : decode (gw_mC M_X4_isRed) 11 = .ok (.iload_n 2, 1) := by decide +kernel
theorem d_X4_isRed_12 : decode (gw_mC M_X4_isRed) 12 = .ok (.iload_n 3, 1) := by decide +kernel
theorem d_X4_isRed_13 : decode (gw_mC M_X4_isRed) 13 = .ok (.irem, 1) := by decide +kernel
theorem d_X4_isRed_14 : decode (gw_mC M_X4_isRed) 14 = .ok (.iload_n 3, 1) := by decide +kernel
theorem d_X4_isRed_15 : decode (gw_mC M_X4_isRed) 15 = .ok (.iconst 2, 1) := by decide +kernel
theorem d_X4_isRed_16 : decode (gw_mC M_X4_isRed) 16 = .ok (.idiv, 1) := by decide +kernel
theorem d_X4_isRed_17 : decode (gw_mC M_X4_isRed) 17 = .ok (.if_icmp .ge 7, 3) := by decide +kernel
theorem d_X4_isRed_20 : decode (gw_mC M_X4_isRed) 20 = .ok (.iconst 1, 1) := by decide +kernel
theorem d_X4_isRed_21 : decode (gw_mC M_X4_isRed) 21 = .ok (.goto 4, 3) := by decide +kernel
theorem d_X4_isRed_24 : decode (gw_mC M_X4_isRed) 24 = .ok (.iconst 0, 1) := by decide +kernel
theorem d_X4_isRed_25 : decode (gw_mC M_X4_isRed) 25 = .ok (.ireturn, 1) := by decide +kernel
theorem d_X5_init_0 : decode (gw_mC M_X5_init) 0 = .ok (.aload_n 0, 1) := by decide +kernel
theorem d_X5_init_1 : decode (gw_mC M_X5_init) 1 = .ok (.invokespecial 3, 3) := by decide +kernel
theorem d_X5_init_4 : decode (gw_mC M_X5_init) 4 = .ok (.aload_n 0, 1) := by decide +kernel
theorem d_X5_init_5 : decode (gw_mC M_X5_init) 5 = .ok (.iconst 0, 1) := by decide +kernel
theorem d_X5_init_6 : decode (gw_mC M_X5_init) 6 = .ok (.putfield 9, 3) := by decide +kernel
theorem d_X5_init_9 : decode (gw_mC M_X5_init) 9 = .ok (.aload_n 0, 1) := by decide +kernel
theorem d_X5_init_10 : decode (gw_mC M_X5_init) 10 = .ok (.bipush 10, 2) := by decide +kernel
theorem d_X5_init_12 : decode (gw_mC M_X5_init) 12 = .ok (.newarray .int, 2) := by decide +kernel
theorem d_X5_init_14 : decode (gw_mC M_X5_init) 14 = .ok (.putfield 15, 3) := by decide +kernel
theorem d_X5_init_17 : decode (gw_mC M_X5_init) 17 = .ok (.aload_n 0, 1) := by decide +kernel
theorem d_X5_init_18 : decode (gw_mC M_X5_init) 18 = .ok (.bipush 10, 2) := by decide +kernel
theorem d_X5_init_20 : decode (gw_mC M_X5_init) 20 = .ok (.newarray .int, 2) := by decide +kernel
theorem d_X5_init_22 : decode (gw_mC M_X5_init) 22 = .ok (.putfield 19, 3) := by decide +kernel
theorem d_X5_init_25 : decode (gw_mC M_X5_init) 25 = .ok (.aload_n 0, 1) := by decide +kernel
theorem d_X5_init_26 : decode (gw_mC M_X5_init) 26 = .ok (.bipush 10, 2) := by decide +kernel
theorem d_X5_init_28 : decode (gw_mC M_X5_init) 28 = .ok (.newarray .boolean, 2) := by decide +kernel
theorem d_X5_init_30 : decode (gw_mC M_X5_init) 30 = .ok (.putfield 22, 3) := by decide +kernel
theorem d_X5_init_33 : decode (gw_mC M_X5_init) 33 = .ok (.return_, 1) := by decide +kernel
theorem d_X5_tailNumber_0 : decode (gw_mC M_X5_tailNumber) 0 = .ok (.iconst 0, 1) := by decide +kernel
theorem d_X5_tailNumber_1 : decode (gw_mC M_X5_tailNumber) 1 = .ok (.istore_n 1, 1) := by decide +kernel
theorem d_X5_tailNumber_2 : decode (gw_mC M_X5_tailNumber) 2 = .ok (.iload_n 1, 1) := by decide +kernel
theorem d_X5_tailNumber_3 : decode (gw_mC M_X5_tailNumber) 3 = .ok (.aload_n 0, 1) := by decide +kernel
theorem d_X5_tailNumber_4 : decode (gw_mC M_X5_tailNumber) 4 = .ok (.getfield 9, 3) := by decide +kernel
theorem d_X5_tailNumber_7 : decode (gw_mC M_X5_tailNumber) 7 = .ok (.if_icmp .ge 21, 3) := by decide +kernel
theorem d_X5_tailNumber_10 : decode (gw_mC M_X5_tailNumber) 10 = .ok (.aload_n 0, 1) := by decide +kernel
theorem d_X5_tailNumber_11 : decode (gw_mC M_X5_tailNumber) 11 = .ok (.getfield 15, 3) := by decide +kernel
theorem d_X5_tailNumber_14 : decode (gw_mC M_X5_tailNumber) 14 = .ok (.iload_n 1, 1) := by decide +kernel
theorem d_X5_tailNumber_15 : decode (gw_mC M_X5_tailNumber) 15 = .ok (.iaload, 1) := by decide +kernel
theorem d_X5_tailNumber_16 : decode (gw_mC M_X5_tailNumber) 16 = .ok (.iconst 3, 1) := by decide +kernel
theorem d_X5_tailNumber_17 : decode (gw_mC M_X5_tailNumber) 17 = .ok (.if_icmp .ne 5, 3) := by decide +kernel
theorem d_X5_tailNumber_20 : decode (gw_mC M_X5_tailNumber) 20 = .ok (.iload_n 1, 1) := by decide +kernel
theorem d_X5_tailNumber_21 : decode (gw_mC M_X5_tailNumber) 21 = .ok (.ireturn, 1) := by decide +kernel
theorem d_X5_tailNumber_22 : decode (gw_mC M_X5_tailNumber) 22 = .ok (.iinc 1 1, 3) := by decide +kernel
theorem d_X5_tailNumber_25 : decode (gw_mC M_X5_tailNumber) 25 = .ok (.goto (-23), 3) := by decide +kernel
theorem d_X5_tailNumber_28 : decode (gw_mC M_X5_tailNumber) 28 = .ok (.iconst (-1), 1) := by decide +kernel
theorem d_X5_tailNumber_29 : decode (gw_mC M_X5_tailNumber) 29 = .ok (.ireturn, 1) := by decide +kernel
theorem d_X5_add_0 : decode (gw_mC M_X5_add) 0 = .ok (.iload_n 1, 1) := by decide +kernel
theorem d_X5_add_1 : decode (gw_mC M_X5_add) 1 = .ok (.iconst 3, 1) := by decide +kernel
theorem d_X5_add_2 : decode (gw_mC M_X5_add) 2 = .ok (.if_icmp .ne 13, 3) := by decide +kernel
theorem d_X5_add_5 : decode (gw_mC M_X5_add) 5 = .ok (.aload_n 0, 1) := by decide +kernel
theorem d_X5_add_6 : decode (gw_mC M_X5_add) 6 = .ok (.invokevirtual 26, 3) := by decide +kernel
theorem d_X5_add_9 : decode (gw_mC M_X5_add) 9 = .ok (.ifCond .lt 6, 3) := by decide +kernel
theorem d_X5_add_12 : decode (gw_mC M_X5_add) 12 = .ok (.bipush (-2), 2) := by decide +kernel
theorem d_X5_add_14 : decode (gw_mC M_X5_add) 14 = .ok (.ireturn, 1) := by decide +kernel
theorem d_X5_add_15 : decode (gw_mC M_X5_add) 15 = .ok (.aload_n 0, 1) := by decide +kernel
theorem d_X5_add_16 : decode (gw_mC M_X5_add) 16 = .ok (.getfield 9, 3) := by decide +kernel
theorem d_X5_add_19 : decode (gw_mC M_X5_add) 19 = .ok (.bipush 10, 2) := by decide +kernel
theorem d_X5_add_21 : decode (gw_mC M_X5_add) 21 = .ok (.if_icmp .lt 6, 3) := by decide +kernel
theorem d_X5_add_24 : decode (gw_mC M_X5_add) 24 = .ok (.bipush (-3), 2) := by decide +kernel
theorem d_X5_add_26 : decode (gw_mC M_X5_add) 26 = .ok (.ireturn, 1) := by decide +kernel
theorem d_X5_add_27 : decode (gw_mC M_X5_add) 27 = .ok (.aload_n 0, 1) := by decide +kernel
theorem d_X5_add_28 : decode (gw_mC M_X5_add) 28 = .ok (.getfield 15, 3) := by decide +kernel
theorem d_X5_add_31 : decode (gw_mC M_X5_add) 31 = .ok (.aload_n 0, 1) := by decide +kernel
theorem d_X5_add_32 : decode (gw_mC M_X5_add) 32 = .ok (.getfield 9, 3) := by decide +kernel
theorem d_X5_add_35 : decode (gw_mC M_X5_add) 35 = .ok (.iload_n 1, 1) := by decide +kernel
theorem d_X5_add_36 : decode (gw_mC M_X5_add) 36 = .ok (.iastore, 1) := by decide +kernel
theorem d_X5_add_37 : decode (gw_mC M_X5_add) 37 = .ok (.aload_n 0, 1) := by decide +kernel
theorem d_X5_add_38 : decode (gw_mC M_X5_add) 38 = .ok (.getfield 19, 3) := by decide +kernel
theorem d_X5_add_41 : decode (gw_mC M_X5_add) 41 = .ok (.aload_n 0, 1) := by decide +kernel
theorem d_X5_add_42 : decode (gw_mC M_X5_add) 42 = .ok (.getfield 9, 3) := by decide +kernel
theorem d_X5_add_45 : decode (gw_mC M_X5_add) 45 = .ok (.iload_n 2, 1) := by decide +kernel
theorem d_X5_add_46 : decode (gw_mC M_X5_add) 46 = .ok (.iastore, 1) := by decide +kernel
theorem d_X5_add_47 : decode (gw_mC M_X5_add) 47 = .ok (.aload_n 0, 1) := by decide +kernel
theorem d_X5_add_48 : decode (gw_mC M_X5_add) 48 = .ok (.getfield 22, 3) := by decide +kernel
theorem d_X5_add_51 : decode (gw_mC M_X5_add) 51 = .ok (.aload_n 0, 1) := by decide +kernel
theorem d_X5_add_52 : decode (gw_mC M_X5_add) 52 = .ok (.getfield 9, 3) := by decide +kernel
theorem d_X5_add_55 : decode (gw_mC M_X5_add) 55 = .ok (.iload_n 3, 1) := by decide +kernel
theorem d_X5_add_56 : decode (gw_mC M_X5_add) 56 = .ok (.bastore, 1) := by decide +kernel
theorem d_X5_add_57 : decode (gw_mC M_X5_add) 57 = .ok (.aload_n 0, 1) := by decide +kernel
theorem d_X5_add_58 : decode (gw_mC M_X5_add) 58 = .ok (.dup, 1) := by decide +kernel
theorem d_X5_add_59 : decode (gw_mC M_X5_add) 59 = .ok (.getfield 9, 3) := by decide +kernel
theorem d_X5_add_62 : decode (gw_mC M_X5_add) 62 = .ok (.iconst 1, 1) := by decide +kernel
theorem d_X5_add_63 : decode (gw_mC M_X5_add) 63 = .ok (.iadd, 1) := by decide +kernel
theorem d_X5_add_64 : decode (gw_mC M_X5_add) 64 = .ok (.putfield 9, 3) := by decide +kernel
theorem d_X5_add_67 : decode (gw_mC M_X5_add) 67 = .ok (.aload_n 0, 1) := by decide +kernel
theorem d_X5_add_68 : decode (gw_mC M_X5_add) 68 = .ok (.getfield 9, 3) := by decide +kernel
theorem d_X5_add_71 : decode (gw_mC M_X5_add) 71 = .ok (.iconst 1, 1) := by decide +kernel
theorem d_X5_add_72 : decode (gw_mC M_X5_add) 72 = .ok (.isub, 1) := by decide +kernel
theorem d_X5_add_73 : decode (gw_mC M_X5_add) 73 = .ok (.ireturn, 1) := by decide +kernel
theorem d_X5_take_0 : decode (gw_mC M_X5_take) 0 = .ok (.aload_n 0, 1) := by decide +kernel
theorem d_X5_take_1 : decode (gw_mC M_X5_take) 1 = .ok (.aload_n 1, 1) := by decide +kernel
theorem d_X5_take_2 : decode (gw_mC M_X5_take) 2 = .ok (.getfield 9, 3) := by decide +kernel
theorem d_X5_take_5 : decode (gw_mC M_X5_take) 5 = .ok (.putfield 9, 3) := by decide +kernel
theorem d_X5_take_8 : decode (gw_mC M_X5_take) 8 = .ok (.aload_n 1, 1) := by decide +kernel
theorem d_X5_take_9 : decode (gw_mC M_X5_take) 9 = .ok (.getfield 15, 3) := by decide +kernel
theorem d_X5_take_12 : decode (gw_mC M_X5_take) 12 = .ok (.iconst 0, 1) := by decide +kernel
theorem d_X5_take_13 : decode (gw_mC M_X5_take) 13 = .ok (.aload_n 0, 1) := by decide +kernel
theorem d_X5_take_14 : decode (gw_mC M_X5_take) 14 = .ok (.getfield 15, 3) := by decide +kernel
theorem d_X5_take_17 : decode (gw_mC M_X5_take) 17 = .ok (.iconst 0, 1) := by decide +kernel
theorem d_X5_take_18 : decode (gw_mC M_X5_take) 18 = .ok (.bipush 10, 2) := by decide +kernel
theorem d_X5_take_20 : decode (gw_mC M_X5_take) 20 = .ok (.invokestatic 30, 3) := by decide +kernel
theorem d_X5_take_23 : decode (gw_mC M_X5_take) 23 = .ok (.aload_n 1, 1) := by decide +kernel
theorem d_X5_take_24 : decode (gw_mC M_X5_take) 24 = .ok (.getfield 19, 3) := by decide +kernel
theorem d_X5_take_27 : decode (gw_mC M_X5_take) 27 = .ok (.iconst 0, 1) := by decide +kernel
theorem d_X5_take_28 : decode (gw_mC M_X5_take) 28 = .ok (.aload_n 0, 1) := by decide +kernel
theorem d_X5_take_29 : decode (gw_mC M_X5_take) 29 = .ok (.getfield 19, 3) := by decide +kernel
theorem d_X5_take_32 : decode (gw_mC M_X5_take) 32 = .ok (.iconst 0, 1) := by decide +kernel
theorem d_X5_take_33 : decode (gw_mC M_X5_take) 33 = .ok (.bipush 10, 2) := by decide +kernel
theorem d_X5_take_35 : decode (gw_mC M_X5_take) 35 = .ok (.invokestatic 30, 3) := by decide +kernel
theorem d_X5_take_38 : decode (gw_mC M_X5_take) 38 = .ok (.aload_n 1, 1) := by decide +kernel
theorem d_X5_take_39 : decode (gw_mC M_X5_take) 39 = .ok (.getfield 22, 3) := by decide +kernel
theorem d_X5_take_42 : decode (gw_mC M_X5_take) 42 = .ok (.iconst 0, 1) := by decide +kernel
theorem d_X5_take_43 : decode (gw_mC M_X5_take) 43 = .ok (.aload_n 0, 1) := by decide +kernel
theorem d_X5_take_44 : decode (gw_mC M_X5_take) 44 = .ok (.getfield 22, 3) := by decide +kernel
theorem d_X5_take_47 : decode (gw_mC M_X5_take) 47 = .ok (.iconst 0, 1) := by decide +kernel
theorem d_X5_take_48 : decode (gw_mC M_X5_take) 48 = .ok (.bipush 10, 2) := by decide +kernel
theorem d_X5_take_50 : decode (gw_mC M_X5_take) 50 = .ok (.invokestatic 30, 3) := by decide +kernel
theorem d_X5_take_53 : decode (gw_mC M_X5_take) 53 = .ok (.return_, 1) := by decide +kernel
theorem d_X6_init_0 : decode (gw_mC M_X6_init) 0 = .ok (.aload_n 0, 1) := by decide +kernel
theorem d_X6_init_1 : decode (gw_mC M_X6_init) 1 = .ok (.invokespecial 3, 3) := by decide +kernel
theorem d_X6_init_4 : decode (gw_mC M_X6_init) 4 = .ok (.aload_n 0, 1) := by decide +kernel
theorem d_X6_init_5 : decode (gw_mC M_X6_init) 5 = .ok (.bipush 40, 2) := by decide +kernel
theorem d_X6_init_7 : decode (gw_mC M_X6_init) 7 = .ok (.putfield 9, 3) := by decide +kernel
theorem d_X6_init_10 : decode (gw_mC M_X6_init) 10 = .ok (.aload_n 0, 1) := by decide +kernel
theorem d_X6_init_11 : decode (gw_mC M_X6_init) 11 = .ok (.new 15, 3) := by decide +kernel
theorem d_X6_init_14 : decode (gw_mC M_X6_init) 14 = .ok (.dup, 1) := by decide +kernel
theorem d_X6_init_15 : decode (gw_mC M_X6_init) 15 = .ok (.invokespecial 17, 3) := by decide +kernel
theorem d_X6_init_18 : decode (gw_mC M_X6_init) 18 = .ok (.putfield 18, 3) := by decide +kernel
theorem d_X6_init_21 : decode (gw_mC M_X6_init) 21 = .ok (.aload_n 0, 1) := by decide +kernel
theorem d_X6_init_22 : decode (gw_mC M_X6_init) 22 = .ok (.new 22, 3) := by decide +kernel
theorem d_X6_init_25 : decode (gw_mC M_X6_init) 25 = .ok (.dup, 1) := by decide +kernel
theorem d_X6_init_26 : decode (gw_mC M_X6_init) 26 = .ok (.invokespecial 24, 3) := by decide +kernel
theorem d_X6_init_29 : decode (gw_mC M_X6_init) 29 = .ok (.putfield 25, 3) := by decide +kernel
theorem d_X6_init_32 : decode (gw_mC M_X6_init) 32 = .ok (.aload_n 0, 1) := by decide +kernel
theorem d_X6_init_33 : decode (gw_mC M_X6_init) 33 = .ok (.getstatic 29, 3) := by decide +kernel
theorem d_X6_init_36 : decode (gw_mC M_X6_init) 36 = .ok (.invokevirtual 33, 3) := by decide +kernel
theorem d_X6_init_39 : decode (gw_mC M_X6_init) 39 = .ok (.checkcast 34, 3) := by decide +kernel
theorem d_X6_init_42 : decode (gw_mC M_X6_init) 42 = .ok (.putfield 38, 3) := by decide +kernel
theorem d_X6_init_45 : decode (gw_mC M_X6_init) 45 = .ok (.aload_n 0, 1) := by decide +kernel
theorem d_X6_init_46 : decode (gw_mC M_X6_init) 46 = .ok (.new 41, 3) := by decide +kernel
theorem d_X6_init_49 : decode (gw_mC M_X6_init) 49 = .ok (.dup, 1) := by decide +kernel
theorem d_X6_init_50 : decode (gw_mC M_X6_init) 50 = .ok (.invokespecial 43, 3) := by decide +kernel
theorem d_X6_init_53 : decode (gw_mC M_X6_init) 53 = .ok (.putfield 44, 3) := by decide +kernel
theorem d_X6_init_56 : decode (gw_mC M_X6_init) 56 = .ok (.return_, 1) := by decide +kernel
theorem d_X6_take_0 : decode (gw_mC M_X6_take) 0 = .ok (.aload_n 0, 1) := by decide +kernel
theorem d_X6_take_1 : decode (gw_mC M_X6_take) 1 = .ok (.aload_n 1, 1) := by decide +kernel
theorem d_X6_take_2 : decode (gw_mC M_X6_take) 2 = .ok (.getfield 9, 3) := by decide +kernel
theorem d_X6_take_5 : decode (gw_mC M_X6_take) 5 = .ok (.putfield 9, 3) := by decide +kernel
theorem d_X6_take_8 : decode (gw_mC M_X6_take) 8 = .ok (.aload_n 0, 1) := by decide +kernel
theorem d_X6_take_9 : decode (gw_mC M_X6_take) 9 = .ok (.getfield 18, 3) := by decide +kernel
theorem d_X6_take_12 : decode (gw_mC M_X6_take) 12 = .ok (.aload_n 1, 1) := by decide +kernel
theorem d_X6_take_13 : decode (gw_mC M_X6_take) 13 = .ok (.getfield 18, 3) := by decide +kernel
theorem d_X6_take_16 : decode (gw_mC M_X6_take) 16 = .ok (.invokevirtual 48, 3) := by decide +kernel
theorem d_X6_take_19 : decode (gw_mC M_X6_take) 19 = .ok (.aload_n 0, 1) := by decide +kernel
theorem d_X6_take_20 : decode (gw_mC M_X6_take) 20 = .ok (.getfield 25, 3) := by decide +kernel
theorem d_X6_take_23 : decode (gw_mC M_X6_take) 23 = .ok (.aload_n 1, 1) := by decide +kernel
theorem d_X6_take_24 : decode (gw_mC M_X6_take) 24 = .ok (.getfield 25, 3) := by decide +kernel
theorem d_X6_take_27 : decode (gw_mC M_X6_take) 27 = .ok (.invokevirtual 52, 3) := by decide +kernel
theorem d_X6_take_30 : decode (gw_mC M_X6_take) 30 = .ok (.aload_n 1, 1) := by decide +kernel
theorem d_X6_take_31 : decode (gw_mC M_X6_take) 31 = .ok (.getfield 38, 3) := by decide +kernel
theorem d_X6_take_34 : decode (gw_mC M_X6_take) 34 = .ok (.iconst 0, 1) := by decide +kernel
theorem d_X6_take_35 : decode (gw_mC M_X6_take) 35 = .ok (.aload_n 0, 1) := by decide +kernel
theorem d_X6_take_36 : decode (gw_mC M_X6_take) 36 = .ok (.getfield 38, 3) := by decide +kernel
theorem d_X6_take_39 : decode (gw_mC M_X6_take) 39 = .ok (.iconst 0, 1) := by decide +kernel
theorem d_X6_take_40 : decode (gw_mC M_X6_take) 40 = .ok (.aload_n 0, 1) := by decide +kernel
theorem d_X6_take_41 : decode (gw_mC M_X6_take) 41 = .ok (.getfield 38, 3) := by decide +kernel
theorem d_X6_take_44 : decode (gw_mC M_X6_take) 44 = .ok (.arraylength, 1) := by decide +kernel
theorem d_X6_take_45 : decode (gw_mC M_X6_take) 45 = .ok (.invokestatic 55, 3) := by decide +kernel
theorem d_X6_take_48 : decode (gw_mC M_X6_take) 48 = .ok (.aload_n 1, 1) := by decide +kernel
theorem d_X6_take_49 : decode (gw_mC M_X6_take) 49 = .ok (.getfield 44, 3) := by decide +kernel
theorem d_X6_take_52 : decode (gw_mC M_X6_take) 52 = .ok (.getfield 61, 3) := by decide +kernel
theorem d_X6_take_55 : decode (gw_mC M_X6_take) 55 = .ok (.iconst 0, 1) := by decide +kernel
theorem d_X6_take_56 : decode (gw_mC M_X6_take) 56 = .ok (.aload_n 0, 1) := by decide +kernel
theorem d_X6_take_57 : decode (gw_mC M_X6_take) 57 = .ok (.getfield 44, 3) := by decide +kernel
theorem d_X6_take_60 : decode (gw_mC M_X6_take) 60 = .ok (.getfield 61, 3) := by decide +kernel
theorem d_X6_take_63 : decode (gw_mC M_X6_take) 63 = .ok (.iconst 0, 1) := by decide +kernel
theorem d_X6_take_64 : decode (gw_mC M_X6_take) 64 = .ok (.sipush 144, 3) := by decide +kernel
theorem d_X6_take_67 : decode (gw_mC M_X6_take) 67 = .ok (.invokestatic 55, 3) := by decide +kernel
theorem d_X6_take_70 : decode (gw_mC M_X6_take) 70 = .ok (.return_, 1) := by decide +kernel
theorem d_X6_isMet_0 : decode (gw_mC M_X6_isMet) 0 = .ok (.aload_n 0, 1) := by decide +kernel
theorem d_X6_isMet_1 : decode (gw_mC M_X6_isMet) 1 = .ok (.getfield 18, 3) := by decide +kernel
theorem d_X6_isMet_4 : decode (gw_mC M_X6_isMet) 4 = .ok (.getfield 64, 3) := by decide +kernel
theorem d_X6_isMet_7 : decode (gw_mC M_X6_isMet) 7 = .ok (.iconst 0, 1) := by decide +kernel
theorem d_X6_isMet_8 : decode (gw_mC M_X6_isMet) 8 = .ok (.aaload, 1) := by decide +kernel
theorem d_X6_isMet_9 : decode (gw_mC M_X6_isMet) 9 = .ok (.iload_n 1, 1) := by decide +kernel
theorem d_X6_isMet_10 : decode (gw_mC M_X6_isMet) 10 = .ok (.iaload, 1) := by decide +kernel
theorem d_X6_isMet_11 : decode (gw_mC M_X6_isMet) 11 = .ok (.aload_n 0, 1) := by decide +kernel
theorem d_X6_isMet_12 : decode (gw_mC M_X6_isMet) 12 = .ok (.getfield 9, 3) := by decide +kernel
theorem d_X6_isMet_15 : decode (gw_mC M_X6_isMet) 15 = .ok (.if_icmp .ge 7, 3) := by decide +kernel
theorem d_X6_isMet_18 : decode (gw_mC M_X6_isMet) 18 = .ok (.iconst 1, 1) := by decide +kernel
theorem d_X6_isMet_19 : decode (gw_mC M_X6_isMet) 19 = .ok (.goto 4, 3) := by decide +kernel
theorem d_X6_isMet_22 : decode (gw_mC M_X6_isMet) 22 = .ok (.iconst 0, 1) := by decide +kernel
theorem d_X6_isMet_23 : decode (gw_mC M_X6_isMet) 23 = .ok (.ireturn, 1) := by decide +kernel
theorem d_X6_minutesSpoken_0 : decode (gw_mC M_X6_minutesSpoken) 0 = .ok (.iconst 0, 1) := by decide +kernel
theorem d_X6_minutesSpoken_1 : decode (gw_mC M_X6_minutesSpoken) 1 = .ok (.istore_n 1, 1) := by decide +kernel
theorem d_X6_minutesSpoken_2 : decode (gw_mC M_X6_minutesSpoken) 2 = .ok (.iconst 0, 1) := by decide +kernel
theorem d_X6_minutesSpoken_3 : decode (gw_mC M_X6_minutesSpoken) 3 = .ok (.istore_n 2, 1) := by decide +kernel
theorem d_X6_minutesSpoken_4 : decode (gw_mC M_X6_minutesSpoken) 4 = .ok (.iload_n 2, 1) := by decide +kernel
theorem d_X6_minutesSpoken_5 : decode (gw_mC M_X6_minutesSpoken) 5 = .ok (.aload_n 0, 1) := by decide +kernel
theorem d_X6_minutesSpoken_6 : decode (gw_mC M_X6_minutesSpoken) 6 = .ok (.getfield 18, 3) := by decide +kernel
theorem d_X6_minutesSpoken_9 : decode (gw_mC M_X6_minutesSpoken) 9 = .ok (.getfield 68, 3) := by decide +kernel
theorem d_X6_minutesSpoken_12 : decode (gw_mC M_X6_minutesSpoken) 12 = .ok (.iconst 0, 1) := by decide +kernel
theorem d_X6_minutesSpoken_13 : decode (gw_mC M_X6_minutesSpoken) 13 = .ok (.iaload, 1) := by decide +kernel
theorem d_X6_minutesSpoken_14 : decode (gw_mC M_X6_minutesSpoken) 14 = .ok (.if_icmp .ge 35, 3) := by decide +kernel
theorem d_X6_minutesSpoken_17 : decode (gw_mC M_X6_minutesSpoken) 17 = .ok (.iload_n 1, 1) := by decide +kernel
theorem d_X6_minutesSpoken_18 : decode (gw_mC M_X6_minutesSpoken) 18 = .ok (.aload_n 0, 1) := by decide +kernel
theorem d_X6_minutesSpoken_19 : decode (gw_mC M_X6_minutesSpoken) 19 = .ok (.iload_n 2, 1) := by decide +kernel
theorem d_X6_minutesSpoken_20 : decode (gw_mC M_X6_minutesSpoken) 20 = .ok (.invokevirtual 71, 3) := by decide +kernel
theorem d_X6_minutesSpoken_23 : decode (gw_mC M_X6_minutesSpoken) 23 = .ok (.ifCond .eq 17, 3) := by decide +kernel
theorem d_X6_minutesSpoken_26 : decode (gw_mC M_X6_minutesSpoken) 26 = .ok (.aload_n 0, 1) := by decide +kernel
theorem d_X6_minutesSpoken_27 : decode (gw_mC M_X6_minutesSpoken) 27 = .ok (.getfield 18, 3) := by decide +kernel
theorem d_X6_minutesSpoken_30 : decode (gw_mC M_X6_minutesSpoken) 30 = .ok (.getfield 75, 3) := by decide +kernel
theorem d_X6_minutesSpoken_33 : decode (gw_mC M_X6_minutesSpoken) 33 = .ok (.iconst 0, 1) := by decide +kernel
theorem d_X6_minutesSpoken_34 : decode (gw_mC M_X6_minutesSpoken) 34 = .ok (.aaload, 1) := by decide +kernel
theorem d_X6_minutesSpoken_35 : decode (gw_mC M_X6_minutesSpoken) 35 = .ok (.iload_n 2, 1) := by decide +kernel
theorem d_X6_minutesSpoken_36 : decode (gw_mC M_X6_minutesSpoken) 36 = .ok (.iaload, 1) := by decide +kernel
theorem d_X6_minutesSpoken_37 : decode (gw_mC M_X6_minutesSpoken) 37 = .ok (.goto 4, 3) := by decide +kernel
theorem d_X6_minutesSpoken_40 : decode (gw_mC M_X6_minutesSpoken) 40 = .ok (.iconst 0, 1) := by decide +kernel
theorem d_X6_minutesSpoken_41 : decode (gw_mC M_X6_minutesSpoken) 41 = .ok (.iadd, 1) := by decide +kernel
theorem d_X6_minutesSpoken_42 : decode (gw_mC M_X6_minutesSpoken) 42 = .ok (.istore_n 1, 1) := by decide +kernel
theorem d_X6_minutesSpoken_43 : decode (gw_mC M_X6_minutesSpoken) 43 = .ok (.iinc 2 1, 3) := by decide +kernel
theorem d_X6_minutesSpoken_46 : decode (gw_mC M_X6_minutesSpoken) 46 = .ok (.goto (-42), 3) := by decide +kernel
theorem d_X6_minutesSpoken_49 : decode (gw_mC M_X6_minutesSpoken) 49 = .ok (.iload_n 1, 1) := by decide +kernel
theorem d_X6_minutesSpoken_50 : decode (gw_mC M_X6_minutesSpoken) 50 = .ok (.ireturn, 1) := by decide +kernel
theorem d_X6_valueIfFits_0 : decode (gw_mC M_X6_valueIfFits) 0 = .ok (.iload_n 2, 1) := by decide +kernel
theorem d_X6_valueIfFits_1 : decode (gw_mC M_X6_valueIfFits) 1 = .ok (.istore_n 3, 1) := by decide +kernel
theorem d_X6_valueIfFits_2 : decode (gw_mC M_X6_valueIfFits) 2 = .ok (.iconst 0, 1) := by decide +kernel
theorem d_X6_valueIfFits_3 : decode (gw_mC M_X6_valueIfFits) 3 = .ok (.istore 4, 2) := by decide +kernel
theorem d_X6_valueIfFits_5 : decode (gw_mC M_X6_valueIfFits) 5 = .ok (.iconst 0, 1) := by decide +kernel
theorem d_X6_valueIfFits_6 : decode (gw_mC M_X6_valueIfFits) 6 = .ok (.istore 5, 2) := by decide +kernel
theorem d_X6_valueIfFits_8 : decode (gw_mC M_X6_valueIfFits) 8 = .ok (.iload 5, 2) := by decide +kernel
theorem d_X6_valueIfFits_10 : decode (gw_mC M_X6_valueIfFits) 10 = .ok (.aload_n 0, 1) := by decide +kernel
theorem d_X6_valueIfFits_11 : decode (gw_mC M_X6_valueIfFits) 11 = .ok (.getfield 18, 3) := by decide +kernel
theorem d_X6_valueIfFits_14 : decode (gw_mC M_X6_valueIfFits) 14 = .ok (.getfield 68, 3) := by decide +kernel
theorem d_X6_valueIfFits_17 : decode (gw_mC M_X6_valueIfFits) 17 = .ok (.iconst 0, 1) := by decide +kernel
theorem d_X6_valueIfFits_18 : decode (gw_mC M_X6_valueIfFits) 18 = .ok (.iaload, 1) := by decide +kernel
theorem d_X6_valueIfFits_19 : decode (gw_mC M_X6_valueIfFits) 19 = .ok (.if_icmp .ge 60, 3) := by decide +kernel
theorem d_X6_valueIfFits_22 : decode (gw_mC M_X6_valueIfFits) 22 = .ok (.iload_n 1, 1) := by decide +kernel
theorem d_X6_valueIfFits_23 : decode (gw_mC M_X6_valueIfFits) 23 = .ok (.iload 5, 2) := by decide +kernel
theorem d_X6_valueIfFits_25 : decode (gw_mC M_X6_valueIfFits) 25 = .ok (.ishr, 1) := by decide +kernel
theorem d_X6_valueIfFits_26 : decode (gw_mC M_X6_valueIfFits) 26 = .ok (.iconst 1, 1) := by decide +kernel
theorem d_X6_valueIfFits_27 : decode (gw_mC M_X6_valueIfFits) 27 = .ok (.iand, 1) := by decide +kernel
theorem d_X6_valueIfFits_28 : decode (gw_mC M_X6_valueIfFits) 28 = .ok (.iconst 1, 1) := by decide +kernel
theorem d_X6_valueIfFits_29 : decode (gw_mC M_X6_valueIfFits) 29 = .ok (.if_icmp .ne 44, 3) := by decide +kernel
theorem d_X6_valueIfFits_32 : decode (gw_mC M_X6_valueIfFits) 32 = .ok (.aload_n 0, 1) := by decide +kernel
theorem d_X6_valueIfFits_33 : decode (gw_mC M_X6_valueIfFits) 33 = .ok (.iload 5, 2) := by decide +kernel
theorem d_X6_valueIfFits_35 : decode (gw_mC M_X6_valueIfFits) 35 = .ok (.invokevirtual 71, 3) := by decide +kernel
theorem d_X6_valueIfFits_38 : decode (gw_mC M_X6_valueIfFits) 38 = .ok (.ifCond .ne 5, 3) := by decide +kernel
theorem d_X6_valueIfFits_41 : decode (gw_mC M_X6_valueIfFits) 41 = .ok (.iconst (-1), 1) := by decide +kernel
theorem d_X6_valueIfFits_42 : decode (gw_mC M_X6_valueIfFits) 42 = .ok (.ireturn, 1) := by decide +kernel
theorem d_X6_valueIfFits_43 : decode (gw_mC M_X6_valueIfFits) 43 = .ok (.iload_n 3, 1) := by decide +kernel
theorem d_X6_valueIfFits_44 : decode (gw_mC M_X6_valueIfFits) 44 = .ok (.aload_n 0, 1) := by decide +kernel
theorem d_X6_valueIfFits_45 : decode (gw_mC M_X6_valueIfFits) 45 = .ok (.getfield 18, 3) := by decide +kernel
theorem d_X6_valueIfFits_48 : decode (gw_mC M_X6_valueIfFits) 48 = .ok (.getfield 75, 3) := by decide +kernel
theorem d_X6_valueIfFits_51 : decode (gw_mC M_X6_valueIfFits) 51 = .ok (.iconst 0, 1) := by decide +kernel
theorem d_X6_valueIfFits_52 : decode (gw_mC M_X6_valueIfFits) 52 = .ok (.aaload, 1) := by decide +kernel
theorem d_X6_valueIfFits_53 : decode (gw_mC M_X6_valueIfFits) 53 = .ok (.iload 5, 2) := by decide +kernel
theorem d_X6_valueIfFits_55 : decode (gw_mC M_X6_valueIfFits) 55 = .ok (.iaload, 1) := by decide +kernel
theorem d_X6_valueIfFits_56 : decode (gw_mC M_X6_valueIfFits) 56 = .ok (.isub, 1) := by decide +kernel
theorem d_X6_valueIfFits_57 : decode (gw_mC M_X6_valueIfFits) 57 = .ok (.istore_n 3, 1) := by decide +kernel
theorem d_X6_valueIfFits_58 : decode (gw_mC M_X6_valueIfFits) 58 = .ok (.iload 4, 2) := by decide +kernel
theorem d_X6_valueIfFits_60 : decode (gw_mC M_X6_valueIfFits) 60 = .ok (.aload_n 0, 1) := by decide +kernel
theorem d_X6_valueIfFits_61 : decode (gw_mC M_X6_valueIfFits) 61 = .ok (.getfield 18, 3) := by decide +kernel
theorem d_X6_valueIfFits_64 : decode (gw_mC M_X6_valueIfFits) 64 = .ok (.getfield 78, 3) := by decide +kernel
theorem d_X6_valueIfFits_67 : decode (gw_mC M_X6_valueIfFits) 67 = .ok (.iload 5, 2) := by decide +kernel
theorem d_X6_valueIfFits_69 : decode (gw_mC M_X6_valueIfFits) 69 = .ok (.iaload, 1) := by decide +kernel
theorem d_X6_valueIfFits_70 : decode (gw_mC M_X6_valueIfFits) 70 = .ok (.iadd, 1) := by decide +kernel
theorem d_X6_valueIfFits_71 : decode (gw_mC M_X6_valueIfFits) 71 = .ok (.istore 4, 2) := by decide +kernel
theorem d_X6_valueIfFits_73 : decode (gw_mC M_X6_valueIfFits) 73 = .ok (.iinc 5 1, 3) := by decide +kernel
theorem d_X6_valueIfFits_76 : decode (gw_mC M_X6_valueIfFits) 76 = .ok (.goto (-68), 3) := by decide +kernel
theorem d_X6_valueIfFits_79 : decode (gw_mC M_X6_valueIfFits) 79 = .ok (.iload_n 3, 1) := by decide +kernel
theorem d_X6_valueIfFits_80 : decode (gw_mC M_X6_valueIfFits) 80 = .ok (.ifCond .ge 7, 3) := by decide +kernel
theorem d_X6_valueIfFits_83 : decode (gw_mC M_X6_valueIfFits) 83 = .ok (.iconst (-1), 1) := by decide +kernel
theorem d_X6_valueIfFits_84 : decode (gw_mC M_X6_valueIfFits) 84 = .ok (.goto 5, 3) := by decide +kernel
theorem d_X6_valueIfFits_87 : decode (gw_mC M_X6_valueIfFits) 87 = .ok (.iload 4, 2) := by decide +kernel
theorem d_X6_valueIfFits_89 : decode (gw_mC M_X6_valueIfFits) 89 = .ok (.ireturn, 1) := by decide +kernel
theorem d_X7_init_0 : decode (gw_mC M_X7_init) 0 = .ok (.aload_n 0, 1) := by decide +kernel
theorem d_X7_init_1 : decode (gw_mC M_X7_init) 1 = .ok (.invokespecial 3, 3) := by decide +kernel
theorem d_X7_init_4 : decode (gw_mC M_X7_init) 4 = .ok (.aload_n 0, 1) := by decide +kernel
theorem d_X7_init_5 : decode (gw_mC M_X7_init) 5 = .ok (.iconst (-1), 1) := by decide +kernel
theorem d_X7_init_6 : decode (gw_mC M_X7_init) 6 = .ok (.putfield 9, 3) := by decide +kernel
theorem d_X7_init_9 : decode (gw_mC M_X7_init) 9 = .ok (.aload_n 0, 1) := by decide +kernel
theorem d_X7_init_10 : decode (gw_mC M_X7_init) 10 = .ok (.iconst 0, 1) := by decide +kernel
theorem d_X7_init_11 : decode (gw_mC M_X7_init) 11 = .ok (.putfield 15, 3) := by decide +kernel
theorem d_X7_init_14 : decode (gw_mC M_X7_init) 14 = .ok (.aload_n 0, 1) := by decide +kernel
theorem d_X7_init_15 : decode (gw_mC M_X7_init) 15 = .ok (.bipush 24, 2) := by decide +kernel
theorem d_X7_init_17 : decode (gw_mC M_X7_init) 17 = .ok (.newarray .int, 2) := by decide +kernel
theorem d_X7_init_19 : decode (gw_mC M_X7_init) 19 = .ok (.putfield 18, 3) := by decide +kernel
theorem d_X7_init_22 : decode (gw_mC M_X7_init) 22 = .ok (.return_, 1) := by decide +kernel
theorem d_X8_init_0 : decode (gw_mC M_X8_init) 0 = .ok (.aload_n 0, 1) := by decide +kernel
theorem d_X8_init_1 : decode (gw_mC M_X8_init) 1 = .ok (.invokespecial 3, 3) := by decide +kernel
theorem d_X8_init_4 : decode (gw_mC M_X8_init) 4 = .ok (.aload_n 0, 1) := by decide +kernel
theorem d_X8_init_5 : decode (gw_mC M_X8_init) 5 = .ok (.sipush 144, 3) := by decide +kernel
theorem d_X8_init_8 : decode (gw_mC M_X8_init) 8 = .ok (.newarray .int, 2) := by decide +kernel
theorem d_X8_init_10 : decode (gw_mC M_X8_init) 10 = .ok (.putfield 9, 3) := by decide +kernel
theorem d_X8_init_13 : decode (gw_mC M_X8_init) 13 = .ok (.aload_n 0, 1) := by decide +kernel
theorem d_X8_init_14 : decode (gw_mC M_X8_init) 14 = .ok (.iconst 0, 1) := by decide +kernel
theorem d_X8_init_15 : decode (gw_mC M_X8_init) 15 = .ok (.putfield 15, 3) := by decide +kernel
theorem d_X8_init_18 : decode (gw_mC M_X8_init) 18 = .ok (.aload_n 0, 1) := by decide +kernel
theorem d_X8_init_19 : decode (gw_mC M_X8_init) 19 = .ok (.iconst 0, 1) := by decide +kernel
theorem d_X8_init_20 : decode (gw_mC M_X8_init) 20 = .ok (.putfield 19, 3) := by decide +kernel
theorem d_X8_init_23 : decode (gw_mC M_X8_init) 23 = .ok (.aload_n 0, 1) := by decide +kernel
theorem d_X8_init_24 : decode (gw_mC M_X8_init) 24 = .ok (.iconst 0, 1) := by decide +kernel
theorem d_X8_init_25 : decode (gw_mC M_X8_init) 25 = .ok (.putfield 22, 3) := by decide +kernel
theorem d_X8_init_28 : decode (gw_mC M_X8_init) 28 = .ok (.aload_n 0, 1) := by decide +kernel
theorem d_X8_init_29 : decode (gw_mC M_X8_init) 29 = .ok (.iconst 0, 1) := by decide +kernel
theorem d_X8_init_30 : decode (gw_mC M_X8_init) 30 = .ok (.putfield 25, 3) := by decide +kernel
theorem d_X8_init_33 : decode (gw_mC M_X8_init) 33 = .ok (.aload_n 0, 1) := by decide +kernel
theorem d_X8_init_34 : decode (gw_mC M_X8_init) 34 = .ok (.iconst 0, 1) := by decide +kernel
theorem d_X8_init_35 : decode (gw_mC M_X8_init) 35 = .ok (.putfield 28, 3) := by decide +kernel
theorem d_X8_init_38 : decode (gw_mC M_X8_init) 38 = .ok (.aload_n 0, 1) := by decide +kernel
theorem d_X8_init_39 : decode (gw_mC M_X8_init) 39 = .ok (.iconst 0, 1) := by decide +kernel
theorem d_X8_init_40 : decode (gw_mC M_X8_init) 40 = .ok (.putfield 31, 3) := by decide +kernel
theorem d_X8_init_43 : decode (gw_mC M_X8_init) 43 = .ok (.aload_n 0, 1) := by decide +kernel
theorem d_X8_init_44 : decode (gw_mC M_X8_init) 44 = .ok (.iconst 0, 1) := by decide +kernel
theorem d_X8_init_45 : decode (gw_mC M_X8_init) 45 = .ok (.putfield 34, 3) := by decide +kernel
theorem d_X8_init_48 : decode (gw_mC M_X8_init) 48 = .ok (.return_, 1) := by decide +kernel
theorem d_X9_init_0 : decode (gw_mC M_X9_init) 0 = .ok (.aload_n 0, 1) := by decide +kernel
theorem d_X9_init_1 : decode (gw_mC M_X9_init) 1 = .ok (.invokespecial 3, 3) := by decide +kernel
theorem d_X9_init_4 : decode (gw_mC M_X9_init) 4 = .ok (.aload_n 0, 1) := by decide +kernel
theorem d_X9_init_5 : decode (gw_mC M_X9_init) 5 = .ok (.bipush 80, 2) := by decide +kernel
theorem d_X9_init_7 : decode (gw_mC M_X9_init) 7 = .ok (.newarray .byte, 2) := by decide +kernel
theorem d_X9_init_9 : decode (gw_mC M_X9_init) 9 = .ok (.putfield 9, 3) := by decide +kernel
theorem d_X9_init_12 : decode (gw_mC M_X9_init) 12 = .ok (.aload_n 0, 1) := by decide +kernel
theorem d_X9_init_13 : decode (gw_mC M_X9_init) 13 = .ok (.iconst 0, 1) := by decide +kernel
theorem d_X9_init_14 : decode (gw_mC M_X9_init) 14 = .ok (.putfield 15, 3) := by decide +kernel
theorem d_X9_init_17 : decode (gw_mC M_X9_init) 17 = .ok (.aload_n 0, 1) := by decide +kernel
theorem d_X9_init_18 : decode (gw_mC M_X9_init) 18 = .ok (.iconst 0, 1) := by decide +kernel
theorem d_X9_init_19 : decode (gw_mC M_X9_init) 19 = .ok (.putfield 19, 3) := by decide +kernel
theorem d_X9_init_22 : decode (gw_mC M_X9_init) 22 = .ok (.aload_n 0, 1) := by decide +kernel
theorem d_X9_init_23 : decode (gw_mC M_X9_init) 23 = .ok (.iconst 0, 1) := by decide +kernel
theorem d_X9_init_24 : decode (gw_mC M_X9_init) 24 = .ok (.putfield 22, 3) := by decide +kernel
theorem d_X9_init_27 : decode (gw_mC M_X9_init) 27 = .ok (.return_, 1) := by decide +kernel
theorem d_X10_init_0 : decode (gw_mC M_X10_init) 0 = .ok (.aload_n 0, 1) := by decide +kernel
theorem d_X10_init_1 : decode (gw_mC M_X10_init) 1 = .ok (.invokespecial 3, 3) := by decide +kernel
theorem d_X10_init_4 : decode (gw_mC M_X10_init) 4 = .ok (.aload_n 0, 1) := by decide +kernel
theorem d_X10_init_5 : decode (gw_mC M_X10_init) 5 = .ok (.new 9, 3) := by decide +kernel
theorem d_X10_init_8 : decode (gw_mC M_X10_init) 8 = .ok (.dup, 1) := by decide +kernel
theorem d_X10_init_9 : decode (gw_mC M_X10_init) 9 = .ok (.invokespecial 11, 3) := by decide +kernel
theorem d_X10_init_12 : decode (gw_mC M_X10_init) 12 = .ok (.putfield 12, 3) := by decide +kernel
theorem d_X10_init_15 : decode (gw_mC M_X10_init) 15 = .ok (.aload_n 0, 1) := by decide +kernel
theorem d_X10_init_16 : decode (gw_mC M_X10_init) 16 = .ok (.new 18, 3) := by decide +kernel
theorem d_X10_init_19 : decode (gw_mC M_X10_init) 19 = .ok (.dup, 1) := by decide +kernel
theorem d_X10_init_20 : decode (gw_mC M_X10_init) 20 = .ok (.invokespecial 20, 3) := by decide +kernel
theorem d_X10_init_23 : decode (gw_mC M_X10_init) 23 = .ok (.putfield 21, 3) := by decide +kernel
theorem d_X10_init_26 : decode (gw_mC M_X10_init) 26 = .ok (.aload_n 0, 1) := by decide +kernel
theorem d_X10_init_27 : decode (gw_mC M_X10_init) 27 = .ok (.iconst 5, 1) := by decide +kernel
theorem d_X10_init_28 : decode (gw_mC M_X10_init) 28 = .ok (.newarray .int, 2) := by decide +kernel
theorem d_X10_init_30 : decode (gw_mC M_X10_init) 30 = .ok (.putfield 25, 3) := by decide +kernel
theorem d_X10_init_33 : decode (gw_mC M_X10_init) 33 = .ok (.aload_n 0, 1) := by decide +kernel
theorem d_X10_init_34 : decode (gw_mC M_X10_init) 34 = .ok (.new 29, 3) := by decide +kernel
theorem d_X10_init_37 : decode (gw_mC M_X10_init) 37 = .ok (.dup, 1) := by decide +kernel
theorem d_X10_init_38 : decode (gw_mC M_X10_init) 38 = .ok (.invokespecial 31, 3) := by decide +kernel
theorem d_X10_init_41 : decode (gw_mC M_X10_init) 41 = .ok (.putfield 32, 3) := by decide +kernel
theorem d_X10_init_44 : decode (gw_mC M_X10_init) 44 = .ok (.aload_n 0, 1) := by decide +kernel
theorem d_X10_init_45 : decode (gw_mC M_X10_init) 45 = .ok (.iconst 0, 1) := by decide +kernel
theorem d_X10_init_46 : decode (gw_mC M_X10_init) 46 = .ok (.putfield 36, 3) := by decide +kernel
theorem d_X10_init_49 : decode (gw_mC M_X10_init) 49 = .ok (.aload_n 0, 1) := by decide +kernel
theorem d_X10_init_50 : decode (gw_mC M_X10_init) 50 = .ok (.bipush (-4), 2) := by decide +kernel
theorem d_X10_init_52 : decode (gw_mC M_X10_init) 52 = .ok (.putfield 40, 3) := by decide +kernel
theorem d_X10_init_55 : decode (gw_mC M_X10_init) 55 = .ok (.aload_n 0, 1) := by decide +kernel
theorem d_X10_init_56 : decode (gw_mC M_X10_init) 56 = .ok (.bipush (-4), 2) := by decide +kernel
theorem d_X10_init_58 : decode (gw_mC M_X10_init) 58 = .ok (.putfield 43, 3) := by decide +kernel
theorem d_X10_init_61 : decode (gw_mC M_X10_init) 61 = .ok (.aload_n 0, 1) := by decide +kernel
theorem d_X10_init_62 : decode (gw_mC M_X10_init) 62 = .ok (.iconst (-1), 1) := by decide +kernel
theorem d_X10_init_63 : decode (gw_mC M_X10_init) 63 = .ok (.putfield 46, 3) := by decide +kernel
theorem d_X10_init_66 : decode (gw_mC M_X10_init) 66 = .ok (.aload_n 0, 1) := by decide +kernel
theorem d_X10_init_67 : decode (gw_mC M_X10_init) 67 = .ok (.iconst 0, 1) := by decide +kernel
theorem d_X10_init_68 : decode (gw_mC M_X10_init) 68 = .ok (.putfield 49, 3) := by decide +kernel
theorem d_X10_init_71 : decode (gw_mC M_X10_init) 71 = .ok (.aload_n 0, 1) := by decide +kernel
theorem d_X10_init_72 : decode (gw_mC M_X10_init) 72 = .ok (.iconst (-1), 1) := by decide +kernel
theorem d_X10_init_73 : decode (gw_mC M_X10_init) 73 = .ok (.putfield 52, 3) := by decide +kernel
theorem d_X10_init_76 : decode (gw_mC M_X10_init) 76 = .ok (.aload_n 0, 1) := by decide +kernel
theorem d_X10_init_77 : decode (gw_mC M_X10_init) 77 = .ok (.bipush 10, 2) := by decide +kernel
theorem d_X10_init_79 : decode (gw_mC M_X10_init) 79 = .ok (.newarray .int, 2) := by decide +kernel
theorem d_X10_init_81 : decode (gw_mC M_X10_init) 81 = .ok (.putfield 55, 3) := by decide +kernel
theorem d_X10_init_84 : decode (gw_mC M_X10_init) 84 = .ok (.aload_n 0, 1) := by decide +kernel
theorem d_X10_init_85 : decode (gw_mC M_X10_init) 85 = .ok (.bipush 10, 2) := by decide +kernel
theorem d_X10_init_87 : decode (gw_mC M_X10_init) 87 = .ok (.newarray .int, 2) := by decide +kernel
theorem d_X10_init_89 : decode (gw_mC M_X10_init) 89 = .ok (.putfield 58, 3) := by decide +kernel
theorem d_X10_init_92 : decode (gw_mC M_X10_init) 92 = .ok (.aload_n 0, 1) := by decide +kernel
theorem d_X10_init_93 : decode (gw_mC M_X10_init) 93 = .ok (.bipush 10, 2) := by decide +kernel
theorem d_X10_init_95 : decode (gw_mC M_X10_init) 95 = .ok (.newarray .int, 2) := by decide +kernel
theorem d_X10_init_97 : decode (gw_mC M_X10_init) 97 = .ok (.putfield 61, 3) := by decide +kernel
theorem d_X10_init_100 : decode (gw_mC M_X10_init) 100 = .ok (.aload_n 0, 1) := by decide +kernel
theorem d_X10_init_101 : decode (gw_mC M_X10_init) 101 = .ok (.bipush 10, 2) := by decide +kernel
theorem d_X10_init_103 : decode (gw_mC M_X10_init) 103 = .ok (.newarray .int, 2) := by decide +kernel
theorem d_X10_init_105 : decode (gw_mC M_X10_init) 105 = .ok (.putfield 64, 3) := by decide +kernel
theorem d_X10_init_108 : decode (gw_mC M_X10_init) 108 = .ok (.aload_n 0, 1) := by decide +kernel
theorem d_X10_init_109 : decode (gw_mC M_X10_init) 109 = .ok (.bipush 10, 2) := by decide +kernel
theorem d_X10_init_111 : decode (gw_mC M_X10_init) 111 = .ok (.newarray .int, 2) := by decide +kernel
theorem d_X10_init_113 : decode (gw_mC M_X10_init) 113 = .ok (.putfield 67, 3) := by decide +kernel
theorem d_X10_init_116 : decode (gw_mC M_X10_init) 116 = .ok (.aload_n 0, 1) := by decide +kernel
theorem d_X10_init_117 : decode (gw_mC M_X10_init) 117 = .ok (.bipush 10, 2) := by decide +kernel
theorem d_X10_init_119 : decode (gw_mC M_X10_init) 119 = .ok (.newarray .int, 2) := by decide +kernel
theorem d_X10_init_121 : decode (gw_mC M_X10_init) 121 = .ok (.putfield 70, 3) := by decide +kernel
theorem d_X10_init_124 : decode (gw_mC M_X10_init) 124 = .ok (.return_, 1) := by decide +kernel
theorem d_X10_load_0 : decode (gw_mC M_X10_load) 0 = .ok (.aload_n 0, 1) := by decide +kernel
theorem d_X10_load_1 : decode (gw_mC M_X10_load) 1 = .ok (.getfield 12, 3) := by decide +kernel
theorem d_X10_load_4 : decode (gw_mC M_X10_load) 4 = .ok (.aload_n 1, 1) := by decide +kernel
theorem d_X10_load_5 : decode (gw_mC M_X10_load) 5 = .ok (.getfield 73, 3) := by decide +kernel
theorem d_X10_load_8 : decode (gw_mC M_X10_load) 8 = .ok (.aload_n 1, 1) := by decide +kernel
theorem d_X10_load_9 : decode (gw_mC M_X10_load) 9 = .ok (.getfield 79, 3) := by decide +kernel
theorem d_X10_load_12 : decode (gw_mC M_X10_load) 12 = .ok (.invokevirtual 82, 3) := by decide +kernel
theorem d_X10_load_15 : decode (gw_mC M_X10_load) 15 = .ok (.aload_n 0, 1) := by decide +kernel
theorem d_X10_load_16 : decode (gw_mC M_X10_load) 16 = .ok (.getfield 21, 3) := by decide +kernel
theorem d_X10_load_19 : decode (gw_mC M_X10_load) 19 = .ok (.aload_n 1, 1) := by decide +kernel
theorem d_X10_load_20 : decode (gw_mC M_X10_load) 20 = .ok (.getfield 86, 3) := by decide +kernel
theorem d_X10_load_23 : decode (gw_mC M_X10_load) 23 = .ok (.invokevirtual 87, 3) := by decide +kernel
theorem d_X10_load_26 : decode (gw_mC M_X10_load) 26 = .ok (.aload_n 1, 1) := by decide +kernel
theorem d_X10_load_27 : decode (gw_mC M_X10_load) 27 = .ok (.getfield 91, 3) := by decide +kernel
theorem d_X10_load_30 : decode (gw_mC M_X10_load) 30 = .ok (.iconst 0, 1) := by decide +kernel
theorem d_X10_load_31 : decode (gw_mC M_X10_load) 31 = .ok (.aload_n 0, 1) := by decide +kernel
theorem d_X10_load_32 : decode (gw_mC M_X10_load) 32 = .ok (.getfield 25, 3) := by decide +kernel
theorem d_X10_load_35 : decode (gw_mC M_X10_load) 35 = .ok (.iconst 0, 1) := by decide +kernel
theorem d_X10_load_36 : decode (gw_mC M_X10_load) 36 = .ok (.aload_n 0, 1) := by decide +kernel
theorem d_X10_load_37 : decode (gw_mC M_X10_load) 37 = .ok (.getfield 25, 3) := by decide +kernel
theorem d_X10_load_40 : decode (gw_mC M_X10_load) 40 = .ok (.arraylength, 1) := by decide +kernel
theorem d_X10_load_41 : decode (gw_mC M_X10_load) 41 = .ok (.invokestatic 92, 3) := by decide +kernel
theorem d_X10_load_44 : decode (gw_mC M_X10_load) 44 = .ok (.return_, 1) := by decide +kernel
theorem d_X10_takeRule_0 : decode (gw_mC M_X10_takeRule) 0 = .ok (.aload_n 0, 1) := by decide +kernel
theorem d_X10_takeRule_1 : decode (gw_mC M_X10_takeRule) 1 = .ok (.getfield 25, 3) := by decide +kernel
theorem d_X10_takeRule_4 : decode (gw_mC M_X10_takeRule) 4 = .ok (.iconst 0, 1) := by decide +kernel
theorem d_X10_takeRule_5 : decode (gw_mC M_X10_takeRule) 5 = .ok (.iload_n 1, 1) := by decide +kernel
theorem d_X10_takeRule_6 : decode (gw_mC M_X10_takeRule) 6 = .ok (.iastore, 1) := by decide +kernel
theorem d_X10_takeRule_7 : decode (gw_mC M_X10_takeRule) 7 = .ok (.aload_n 0, 1) := by decide +kernel
theorem d_X10_takeRule_8 : decode (gw_mC M_X10_takeRule) 8 = .ok (.getfield 25, 3) := by decide +kernel
theorem d_X10_takeRule_11 : decode (gw_mC M_X10_takeRule) 11 = .ok (.iconst 1, 1) := by decide +kernel
theorem d_X10_takeRule_12 : decode (gw_mC M_X10_takeRule) 12 = .ok (.iload_n 2, 1) := by decide +kernel
theorem d_X10_takeRule_13 : decode (gw_mC M_X10_takeRule) 13 = .ok (.iastore, 1) := by decide +kernel
theorem d_X10_takeRule_14 : decode (gw_mC M_X10_takeRule) 14 = .ok (.aload_n 0, 1) := by decide +kernel
theorem d_X10_takeRule_15 : decode (gw_mC M_X10_takeRule) 15 = .ok (.getfield 25, 3) := by decide +kernel
theorem d_X10_takeRule_18 : decode (gw_mC M_X10_takeRule) 18 = .ok (.iconst 2, 1) := by decide +kernel
theorem d_X10_takeRule_19 : decode (gw_mC M_X10_takeRule) 19 = .ok (.iload_n 3, 1) := by decide +kernel
theorem d_X10_takeRule_20 : decode (gw_mC M_X10_takeRule) 20 = .ok (.iastore, 1) := by decide +kernel
theorem d_X10_takeRule_21 : decode (gw_mC M_X10_takeRule) 21 = .ok (.return_, 1) := by decide +kernel
theorem d_X10_start_0 : decode (gw_mC M_X10_start) 0 = .ok (.aload_n 0, 1) := by decide +kernel
theorem d_X10_start_1 : decode (gw_mC M_X10_start) 1 = .ok (.getfield 32, 3) := by decide +kernel
theorem d_X10_start_4 : decode (gw_mC M_X10_start) 4 = .ok (.invokevirtual 98, 3) := by decide +kernel
theorem d_X10_start_7 : decode (gw_mC M_X10_start) 7 = .ok (.aload_n 0, 1) := by decide +kernel
theorem d_X10_start_8 : decode (gw_mC M_X10_start) 8 = .ok (.iconst 0, 1) := by decide +kernel
theorem d_X10_start_9 : decode (gw_mC M_X10_start) 9 = .ok (.putfield 36, 3) := by decide +kernel
theorem d_X10_start_12 : decode (gw_mC M_X10_start) 12 = .ok (.aload_n 0, 1) := by decide +kernel
theorem d_X10_start_13 : decode (gw_mC M_X10_start) 13 = .ok (.bipush (-4), 2) := by decide +kernel
theorem d_X10_start_15 : decode (gw_mC M_X10_start) 15 = .ok (.putfield 40, 3) := by decide +kernel
theorem d_X10_start_18 : decode (gw_mC M_X10_start) 18 = .ok (.aload_n 0, 1) := by decide +kernel
theorem d_X10_start_19 : decode (gw_mC M_X10_start) 19 = .ok (.bipush (-4), 2) := by decide +kernel
theorem d_X10_start_21 : decode (gw_mC M_X10_start) 21 = .ok (.putfield 43, 3) := by decide +kernel
theorem d_X10_start_24 : decode (gw_mC M_X10_start) 24 = .ok (.aload_n 0, 1) := by decide +kernel
theorem d_X10_start_25 : decode (gw_mC M_X10_start) 25 = .ok (.aload_n 0, 1) := by decide +kernel
theorem d_X10_start_26 : decode (gw_mC M_X10_start) 26 = .ok (.getfield 21, 3) := by decide +kernel
theorem d_X10_start_29 : decode (gw_mC M_X10_start) 29 = .ok (.invokevirtual 101, 3) := by decide +kernel
theorem d_X10_start_32 : decode (gw_mC M_X10_start) 32 = .ok (.putfield 46, 3) := by decide +kernel
theorem d_X10_start_35 : decode (gw_mC M_X10_start) 35 = .ok (.aload_n 0, 1) := by decide +kernel
theorem d_X10_start_36 : decode (gw_mC M_X10_start) 36 = .ok (.iconst 0, 1) := by decide +kernel
theorem d_X10_start_37 : decode (gw_mC M_X10_start) 37 = .ok (.putfield 49, 3) := by decide +kernel
theorem d_X10_start_40 : decode (gw_mC M_X10_start) 40 = .ok (.aload_n 0, 1) := by decide +kernel
theorem d_X10_start_41 : decode (gw_mC M_X10_start) 41 = .ok (.aload_n 0, 1) := by decide +kernel
theorem d_X10_start_42 : decode (gw_mC M_X10_start) 42 = .ok (.getfield 21, 3) := by decide +kernel
theorem d_X10_start_45 : decode (gw_mC M_X10_start) 45 = .ok (.getfield 105, 3) := by decide +kernel
theorem d_X10_start_48 : decode (gw_mC M_X10_start) 48 = .ok (.ifCond .le 7, 3) := by decide +kernel
theorem d_X10_start_51 : decode (gw_mC M_X10_start) 51 = .ok (.iconst 0, 1) := by decide +kernel
theorem d_X10_start_52 : decode (gw_mC M_X10_start) 52 = .ok (.goto 4, 3) := by decide +kernel
theorem d_X10_start_55 : decode (gw_mC M_X10_start) 55 = .ok (.iconst (-1), 1) := by decide +kernel
theorem d_X10_start_56 : decode (gw_mC M_X10_start) 56 = .ok (.putfield 52, 3) := by decide +kernel
theorem d_X10_start_59 : decode (gw_mC M_X10_start) 59 = .ok (.iconst 0, 1) := by decide +kernel
theorem d_X10_start_60 : decode (gw_mC M_X10_start) 60 = .ok (.istore_n 1, 1) := by decide +kernel
theorem d_X10_start_61 : decode (gw_mC M_X10_start) 61 = .ok (.iload_n 1, 1) := by decide +kernel
theorem d_X10_start_62 : decode (gw_mC M_X10_start) 62 = .ok (.aload_n 0, 1) := by decide +kernel
theorem d_X10_start_63 : decode (gw_mC M_X10_start) 63 = .ok (.getfield 21, 3) := by decide +kernel
theorem d_X10_start_66 : decode (gw_mC M_X10_start) 66 = .ok (.getfield 105, 3) := by decide +kernel
theorem d_X10_start_69 : decode (gw_mC M_X10_start) 69 = .ok (.if_icmp .ge 53, 3) := by decide +kernel
theorem d_X10_start_72 : decode (gw_mC M_X10_start) 72 = .ok (.aload_n 0, 1) := by decide +kernel
theorem d_X10_start_73 : decode (gw_mC M_X10_start) 73 = .ok (.getfield 55, 3) := by decide +kernel
theorem d_X10_start_76 : decode (gw_mC M_X10_start) 76 = .ok (.iload_n 1, 1) := by decide +kernel
theorem d_X10_start_77 : decode (gw_mC M_X10_start) 77 = .ok (.iconst 0, 1) := by decide +kernel
theorem d_X10_start_78 : decode (gw_mC M_X10_start) 78 = .ok (.iastore, 1) := by decide +kernel
theorem d_X10_start_79 : decode (gw_mC M_X10_start) 79 = .ok (.aload_n 0, 1) := by decide +kernel
theorem d_X10_start_80 : decode (gw_mC M_X10_start) 80 = .ok (.getfield 58, 3) := by decide +kernel
theorem d_X10_start_83 : decode (gw_mC M_X10_start) 83 = .ok (.iload_n 1, 1) := by decide +kernel
theorem d_X10_start_84 : decode (gw_mC M_X10_start) 84 = .ok (.iconst 0, 1) := by decide +kernel
theorem d_X10_start_85 : decode (gw_mC M_X10_start) 85 = .ok (.iastore, 1) := by decide +kernel
theorem d_X10_start_86 : decode (gw_mC M_X10_start) 86 = .ok (.aload_n 0, 1) := by decide +kernel
theorem d_X10_start_87 : decode (gw_mC M_X10_start) 87 = .ok (.getfield 61, 3) := by decide +kernel
theorem d_X10_start_90 : decode (gw_mC M_X10_start) 90 = .ok (.iload_n 1, 1) := by decide +kernel
theorem d_X10_start_91 : decode (gw_mC M_X10_start) 91 = .ok (.iconst 0, 1) := by decide +kernel
theorem d_X10_start_92 : decode (gw_mC M_X10_start) 92 = .ok (.iastore, 1) := by decide +kernel
theorem d_X10_start_93 : decode (gw_mC M_X10_start) 93 = .ok (.aload_n 0, 1) := by decide +kernel
theorem d_X10_start_94 : decode (gw_mC M_X10_start) 94 = .ok (.getfield 64, 3) := by decide +kernel
theorem d_X10_start_97 : decode (gw_mC M_X10_start) 97 = .ok (.iload_n 1, 1) := by decide +kernel
theorem d_X10_start_98 : decode (gw_mC M_X10_start) 98 = .ok (.iconst 0, 1) := by decide +kernel
theorem d_X10_start_99 : decode (gw_mC M_X10_start) 99 = .ok (.iastore, 1) := by decide +kernel
theorem d_X10_start_100 : decode (gw_mC M_X10_start) 100 = .ok (.aload_n 0, 1) := by decide +kernel
theorem d_X10_start_101 : decode (gw_mC M_X10_start) 101 = .ok (.getfield 67, 3) := by decide +kernel
theorem d_X10_start_104 : decode (gw_mC M_X10_start) 104 = .ok (.iload_n 1, 1) := by decide +kernel
theorem d_X10_start_105 : decode (gw_mC M_X10_start) 105 = .ok (.bipush (-4), 2) := by decide +kernel
theorem d_X10_start_107 : decode (gw_mC M_X10_start) 107 = .ok (.iastore, 1) := by decide +kernel
theorem d_X10_start_108 : decode (gw_mC M_X10_start) 108 = .ok (.aload_n 0, 1) := by decide +kernel
theorem d_X10_start_109 : decode (gw_mC M_X10_start) 109 = .ok (.getfield 70, 3) := by decide +kernel
theorem d_X10_start_112 : decode (gw_mC M_X10_start) 112 = .ok (.iload_n 1, 1) := by decide +kernel
theorem d_X10_start_113 : decode (gw_mC M_X10_start) 113 = .ok (.bipush (-4), 2) := by decide +kernel
theorem d_X10_start_115 : decode (gw_mC M_X10_start) 115 = .ok (.iastore, 1) := by decide +kernel
theorem d_X10_start_116 : decode (gw_mC M_X10_start) 116 = .ok (.iinc 1 1, 3) := by decide +kernel
theorem d_X10_start_119 : decode (gw_mC M_X10_start) 119 = .ok (.goto (-58), 3) := by decide +kernel
theorem d_X10_start_122 : decode (gw_mC M_X10_start) 122 = .ok (.return_, 1) := by decide +kernel
theorem d_X10_isOver_0 : decode (gw_mC M_X10_isOver) 0 = .ok (.aload_n 0, 1) := by decide +kernel
theorem d_X10_isOver_1 : decode (gw_mC M_X10_isOver) 1 = .ok (.getfield 36, 3) := by decide +kernel
theorem d_X10_isOver_4 : decode (gw_mC M_X10_isOver) 4 = .ok (.aload_n 0, 1) := by decide +kernel
theorem d_X10_isOver_5 : decode (gw_mC M_X10_isOver) 5 = .ok (.getfield 12, 3) := by decide +kernel
theorem d_X10_isOver_8 : decode (gw_mC M_X10_isOver) 8 = .ok (.getfield 108, 3) := by decide +kernel
theorem d_X10_isOver_11 : decode (gw_mC M_X10_isOver) 11 = .ok (.if_icmp .ne 28, 3) := by decide +kernel
theorem d_X10_isOver_14 : decode (gw_mC M_X10_isOver) 14 = .ok (.aload_n 0, 1) := by decide +kernel
theorem d_X10_isOver_15 : decode (gw_mC M_X10_isOver) 15 = .ok (.getfield 52, 3) := by decide +kernel
theorem d_X10_isOver_18 : decode (gw_mC M_X10_isOver) 18 = .ok (.ifCond .lt 17, 3) := by decide +kernel
theorem d_X10_isOver_21 : decode (gw_mC M_X10_isOver) 21 = .ok (.aload_n 0, 1) := by decide +kernel
theorem d_X10_isOver_22 : decode (gw_mC M_X10_isOver) 22 = .ok (.getfield 52, 3) := by decide +kernel
theorem d_X10_isOver_25 : decode (gw_mC M_X10_isOver) 25 = .ok (.aload_n 0, 1) := by decide +kernel
theorem d_X10_isOver_26 : decode (gw_mC M_X10_isOver) 26 = .ok (.getfield 12, 3) := by decide +kernel
theorem d_X10_isOver_29 : decode (gw_mC M_X10_isOver) 29 = .ok (.getfield 108, 3) := by decide +kernel
theorem d_X10_isOver_32 : decode (gw_mC M_X10_isOver) 32 = .ok (.if_icmp .ne 7, 3) := by decide +kernel
theorem d_X10_isOver_35 : decode (gw_mC M_X10_isOver) 35 = .ok (.iconst 1, 1) := by decide +kernel
theorem d_X10_isOver_36 : decode (gw_mC M_X10_isOver) 36 = .ok (.goto 4, 3) := by decide +kernel
theorem d_X10_isOver_39 : decode (gw_mC M_X10_isOver) 39 = .ok (.iconst 0, 1) := by decide +kernel
theorem d_X10_isOver_40 : decode (gw_mC M_X10_isOver) 40 = .ok (.ireturn, 1) := by decide +kernel
theorem d_X10_live_0 : decode (gw_mC M_X10_live) 0 = .ok (.aload_n 0, 1) := by decide +kernel
theorem d_X10_live_1 : decode (gw_mC M_X10_live) 1 = .ok (.getfield 36, 3) := by decide +kernel
theorem d_X10_live_4 : decode (gw_mC M_X10_live) 4 = .ok (.aload_n 0, 1) := by decide +kernel
theorem d_X10_live_5 : decode (gw_mC M_X10_live) 5 = .ok (.getfield 12, 3) := by decide +kernel
theorem d_X10_live_8 : decode (gw_mC M_X10_live) 8 = .ok (.getfield 108, 3) := by decide +kernel
theorem d_X10_live_11 : decode (gw_mC M_X10_live) 11 = .ok (.if_icmp .ge 8, 3) := by decide +kernel
theorem d_X10_live_14 : decode (gw_mC M_X10_live) 14 = .ok (.aload_n 0, 1) := by decide +kernel
theorem d_X10_live_15 : decode (gw_mC M_X10_live) 15 = .ok (.iload_n 1, 1) := by decide +kernel
theorem d_X10_live_16 : decode (gw_mC M_X10_live) 16 = .ok (.invokevirtual 109, 3) := by decide +kernel
theorem d_X10_live_19 : decode (gw_mC M_X10_live) 19 = .ok (.iconst 0, 1) := by decide +kernel
theorem d_X10_live_20 : decode (gw_mC M_X10_live) 20 = .ok (.istore_n 2, 1) := by decide +kernel
theorem d_X10_live_21 : decode (gw_mC M_X10_live) 21 = .ok (.iload_n 2, 1) := by decide +kernel
theorem d_X10_live_22 : decode (gw_mC M_X10_live) 22 = .ok (.aload_n 0, 1) := by decide +kernel
theorem d_X10_live_23 : decode (gw_mC M_X10_live) 23 = .ok (.getfield 21, 3) := by decide +kernel
theorem d_X10_live_26 : decode (gw_mC M_X10_live) 26 = .ok (.getfield 105, 3) := by decide +kernel
theorem d_X10_live_29 : decode (gw_mC M_X10_live) 29 = .ok (.if_icmp .ge 24, 3) := by decide +kernel
theorem d_X10_live_32 : decode (gw_mC M_X10_live) 32 = .ok (.aload_n 0, 1) := by decide +kernel
theorem d_X10_live_33 : decode (gw_mC M_X10_live) 33 = .ok (.getfield 70, 3) := by decide +kernel
theorem d_X10_live_36 : decode (gw_mC M_X10_live) 36 = .ok (.iload_n 2, 1) := by decide +kernel
theorem d_X10_live_37 : decode (gw_mC M_X10_live) 37 = .ok (.iaload, 1) := by decide +kernel
theorem d_X10_live_38 : decode (gw_mC M_X10_live) 38 = .ok (.ifCond .ge 9, 3) := by decide +kernel
theorem d_X10_live_41 : decode (gw_mC M_X10_live) 41 = .ok (.aload_n 0, 1) := by decide +kernel
theorem d_X10_live_42 : decode (gw_mC M_X10_live) 42 = .ok (.iload_n 2, 1) := by decide +kernel
theorem d_X10_live_43 : decode (gw_mC M_X10_live) 43 = .ok (.iload_n 1, 1) := by decide +kernel
theorem d_X10_live_44 : decode (gw_mC M_X10_live) 44 = .ok (.invokevirtual 113, 3) := by decide +kernel
theorem d_X10_live_47 : decode (gw_mC M_X10_live) 47 = .ok (.iinc 2 1, 3) := by decide +kernel
theorem d_X10_live_50 : decode (gw_mC M_X10_live) 50 = .ok (.goto (-29), 3) := by decide +kernel
theorem d_X10_live_53 : decode (gw_mC M_X10_live) 53 = .ok (.aload_n 0, 1) := by decide +kernel
theorem d_X10_live_54 : decode (gw_mC M_X10_live) 54 = .ok (.iload_n 1, 1) := by decide +kernel
theorem d_X10_live_55 : decode (gw_mC M_X10_live) 55 = .ok (.invokevirtual 117, 3) := by decide +kernel
theorem d_X10_live_58 : decode (gw_mC M_X10_live) 58 = .ok (.return_, 1) := by decide +kernel
theorem d_X10_lead_0 : decode (gw_mC M_X10_lead) 0 = .ok (.aload_n 0, 1) := by decide +kernel
theorem d_X10_lead_1 : decode (gw_mC M_X10_lead) 1 = .ok (.invokevirtual 120, 3) := by decide +kernel
theorem d_X10_lead_4 : decode (gw_mC M_X10_lead) 4 = .ok (.ifCond .eq 11, 3) := by decide +kernel
theorem d_X10_lead_7 : decode (gw_mC M_X10_lead) 7 = .ok (.aload_n 0, 1) := by decide +kernel
theorem d_X10_lead_8 : decode (gw_mC M_X10_lead) 8 = .ok (.invokevirtual 124, 3) := by decide +kernel
theorem d_X10_lead_11 : decode (gw_mC M_X10_lead) 11 = .ok (.ifCond .eq 4, 3) := by decide +kernel
theorem d_X10_lead_14 : decode (gw_mC M_X10_lead) 14 = .ok (.return_, 1) := by decide +kernel
theorem d_X10_lead_15 : decode (gw_mC M_X10_lead) 15 = .ok (.iconst 0, 1) := by decide +kernel
theorem d_X10_lead_16 : decode (gw_mC M_X10_lead) 16 = .ok (.istore_n 2, 1) := by decide +kernel
theorem d_X10_lead_17 : decode (gw_mC M_X10_lead) 17 = .ok (.iload_n 2, 1) := by decide +kernel
theorem d_X10_lead_18 : decode (gw_mC M_X10_lead) 18 = .ok (.aload_n 0, 1) := by decide +kernel
theorem d_X10_lead_19 : decode (gw_mC M_X10_lead) 19 = .ok (.getfield 25, 3) := by decide +kernel
theorem d_X10_lead_22 : decode (gw_mC M_X10_lead) 22 = .ok (.iconst 0, 1) := by decide +kernel
theorem d_X10_lead_23 : decode (gw_mC M_X10_lead) 23 = .ok (.iaload, 1) := by decide +kernel
theorem d_X10_lead_24 : decode (gw_mC M_X10_lead) 24 = .ok (.if_icmp .ge 63, 3) := by decide +kernel
theorem d_X10_lead_27 : decode (gw_mC M_X10_lead) 27 = .ok (.aload_n 0, 1) := by decide +kernel
theorem d_X10_lead_28 : decode (gw_mC M_X10_lead) 28 = .ok (.getfield 36, 3) := by decide +kernel
theorem d_X10_lead_31 : decode (gw_mC M_X10_lead) 31 = .ok (.aload_n 0, 1) := by decide +kernel
theorem d_X10_lead_32 : decode (gw_mC M_X10_lead) 32 = .ok (.getfield 12, 3) := by decide +kernel
theorem d_X10_lead_35 : decode (gw_mC M_X10_lead) 35 = .ok (.getfield 108, 3) := by decide +kernel
theorem d_X10_lead_38 : decode (gw_mC M_X10_lead) 38 = .ok (.if_icmp .ge 25, 3) := by decide +kernel
theorem d_X10_lead_41 : decode (gw_mC M_X10_lead) 41 = .ok (.aload_n 0, 1) := by decide +kernel
theorem d_X10_lead_42 : decode (gw_mC M_X10_lead) 42 = .ok (.invokevirtual 120, 3) := by decide +kernel
theorem d_X10_lead_45 : decode (gw_mC M_X10_lead) 45 = .ok (.ifCond .ne 18, 3) := by decide +kernel
theorem d_X10_lead_48 : decode (gw_mC M_X10_lead) 48 = .ok (.aload_n 0, 1) := by decide +kernel
theorem d_X10_lead_49 : decode (gw_mC M_X10_lead) 49 = .ok (.getfield 12, 3) := by decide +kernel
theorem d_X10_lead_52 : decode (gw_mC M_X10_lead) 52 = .ok (.aload_n 0, 1) := by decide +kernel
theorem d_X10_lead_53 : decode (gw_mC M_X10_lead) 53 = .ok (.getfield 36, 3) := by decide +kernel
theorem d_X10_lead_56 : decode (gw_mC M_X10_lead) 56 = .ok (.iload_n 1, 1) := by decide +kernel
theorem d_X10_lead_57 : decode (gw_mC M_X10_lead) 57 = .ok (.invokevirtual 127, 3) := by decide +kernel
theorem d_X10_lead_60 : decode (gw_mC M_X10_lead) 60 = .ok (.ifCond .eq 4, 3) := by decide +kernel
theorem d_X10_lead_63 : decode (gw_mC M_X10_lead) 63 = .ok (.return_, 1) := by decide +kernel
theorem d_X10_lead_64 : decode (gw_mC M_X10_lead) 64 = .ok (.aload_n 0, 1) := by decide +kernel
theorem d_X10_lead_65 : decode (gw_mC M_X10_lead) 65 = .ok (.dup, 1) := by decide +kernel
theorem d_X10_lead_66 : decode (gw_mC M_X10_lead) 66 = .ok (.getfield 36, 3) := by decide +kernel
theorem d_X10_lead_69 : decode (gw_mC M_X10_lead) 69 = .ok (.iconst 1, 1) := by decide +kernel
theorem d_X10_lead_70 : decode (gw_mC M_X10_lead) 70 = .ok (.iadd, 1) := by decide +kernel
theorem d_X10_lead_71 : decode (gw_mC M_X10_lead) 71 = .ok (.putfield 36, 3) := by decide +kernel
theorem d_X10_lead_74 : decode (gw_mC M_X10_lead) 74 = .ok (.aload_n 0, 1) := by decide +kernel
theorem d_X10_lead_75 : decode (gw_mC M_X10_lead) 75 = .ok (.getfield 32, 3) := by decide +kernel
theorem d_X10_lead_78 : decode (gw_mC M_X10_lead) 78 = .ok (.invokevirtual 98, 3) := by decide +kernel
theorem d_X10_lead_81 : decode (gw_mC M_X10_lead) 81 = .ok (.iinc 2 1, 3) := by decide +kernel
theorem d_X10_lead_84 : decode (gw_mC M_X10_lead) 84 = .ok (.goto (-67), 3) := by decide +kernel
theorem d_X10_lead_87 : decode (gw_mC M_X10_lead) 87 = .ok (.return_, 1) := by decide +kernel
theorem d_X10_isAtOpenStop_0 : decode (gw_mC M_X10_isAtOpenStop) 0 = .ok (.aload_n 0, 1) := by decide +kernel
theorem d_X10_isAtOpenStop_1 : decode (gw_mC M_X10_isAtOpenStop) 1 = .ok (.getfield 12, 3) := by decide +kernel
theorem d_X10_isAtOpenStop_4 : decode (gw_mC M_X10_isAtOpenStop) 4 = .ok (.getfield 131, 3) := by decide +kernel
theorem d_X10_isAtOpenStop_7 : decode (gw_mC M_X10_isAtOpenStop) 7 = .ok (.aload_n 0, 1) := by decide +kernel
theorem d_X10_isAtOpenStop_8 : decode (gw_mC M_X10_isAtOpenStop) 8 = .ok (.getfield 36, 3) := by decide +kernel
theorem d_X10_isAtOpenStop_11 : decode (gw_mC M_X10_isAtOpenStop) 11 = .ok (.iaload, 1) := by decide +kernel
theorem d_X10_isAtOpenStop_12 : decode (gw_mC M_X10_isAtOpenStop) 12 = .ok (.ifCond .le 17, 3) := by decide +kernel
theorem d_X10_isAtOpenStop_15 : decode (gw_mC M_X10_isAtOpenStop) 15 = .ok (.aload_n 0, 1) := by decide +kernel
theorem d_X10_isAtOpenStop_16 : decode (gw_mC M_X10_isAtOpenStop) 16 = .ok (.getfield 32, 3) := by decide +kernel
theorem d_X10_isAtOpenStop_19 : decode (gw_mC M_X10_isAtOpenStop) 19 = .ok (.getfield 134, 3) := by decide +kernel
theorem d_X10_isAtOpenStop_22 : decode (gw_mC M_X10_isAtOpenStop) 22 = .ok (.ifCond .ne 7, 3) := by decide +kernel
theorem d_X10_isAtOpenStop_25 : decode (gw_mC M_X10_isAtOpenStop) 25 = .ok (.iconst 1, 1) := by decide +kernel
theorem d_X10_isAtOpenStop_26 : decode (gw_mC M_X10_isAtOpenStop) 26 = .ok (.goto 4, 3) := by decide +kernel
theorem d_X10_isAtOpenStop_29 : decode (gw_mC M_X10_isAtOpenStop) 29 = .ok (.iconst 0, 1) := by decide +kernel
theorem d_X10_isAtOpenStop_30 : decode (gw_mC M_X10_isAtOpenStop) 30 = .ok (.ireturn, 1) := by decide +kernel
theorem d_X10_isKept_0 : decode (gw_mC M_X10_isKept) 0 = .ok (.aload_n 0, 1) := by decide +kernel
theorem d_X10_isKept_1 : decode (gw_mC M_X10_isKept) 1 = .ok (.getfield 32, 3) := by decide +kernel
theorem d_X10_isKept_4 : decode (gw_mC M_X10_isKept) 4 = .ok (.getfield 138, 3) := by decide +kernel
theorem d_X10_isKept_7 : decode (gw_mC M_X10_isKept) 7 = .ok (.ifCond .ne 33, 3) := by decide +kernel
theorem d_X10_isKept_10 : decode (gw_mC M_X10_isKept) 10 = .ok (.aload_n 0, 1) := by decide +kernel
theorem d_X10_isKept_11 : decode (gw_mC M_X10_isKept) 11 = .ok (.invokevirtual 141, 3) := by decide +kernel
theorem d_X10_isKept_14 : decode (gw_mC M_X10_isKept) 14 = .ok (.ifCond .ne 18, 3) := by decide +kernel
theorem d_X10_isKept_17 : decode (gw_mC M_X10_isKept) 17 = .ok (.aload_n 0, 1) := by decide +kernel
theorem d_X10_isKept_18 : decode (gw_mC M_X10_isKept) 18 = .ok (.getfield 32, 3) := by decide +kernel
theorem d_X10_isKept_21 : decode (gw_mC M_X10_isKept) 21 = .ok (.dup, 1) := by decide +kernel
theorem d_X10_isKept_22 : decode (gw_mC M_X10_isKept) 22 = .ok (.getfield 144, 3) := by decide +kernel
theorem d_X10_isKept_25 : decode (gw_mC M_X10_isKept) 25 = .ok (.iconst 1, 1) := by decide +kernel
theorem d_X10_isKept_26 : decode (gw_mC M_X10_isKept) 26 = .ok (.iadd, 1) := by decide +kernel
theorem d_X10_isKept_27 : decode (gw_mC M_X10_isKept) 27 = .ok (.putfield 144, 3) := by decide +kernel
theorem d_X10_isKept_30 : decode (gw_mC M_X10_isKept) 30 = .ok (.iconst 1, 1) := by decide +kernel
theorem d_X10_isKept_31 : decode (gw_mC M_X10_isKept) 31 = .ok (.ireturn, 1) := by decide +kernel
theorem d_X10_isKept_32 : decode (gw_mC M_X10_isKept) 32 = .ok (.aload_n 0, 1) := by decide +kernel
theorem d_X10_isKept_33 : decode (gw_mC M_X10_isKept) 33 = .ok (.getfield 32, 3) := by decide +kernel
theorem d_X10_isKept_36 : decode (gw_mC M_X10_isKept) 36 = .ok (.iconst 1, 1) := by decide +kernel
theorem d_X10_isKept_37 : decode (gw_mC M_X10_isKept) 37 = .ok (.putfield 138, 3) := by decide +kernel
theorem d_X10_isKept_40 : decode (gw_mC M_X10_isKept) 40 = .ok (.aload_n 0, 1) := by decide +kernel
theorem d_X10_isKept_41 : decode (gw_mC M_X10_isKept) 41 = .ok (.getfield 32, 3) := by decide +kernel
theorem d_X10_isKept_44 : decode (gw_mC M_X10_isKept) 44 = .ok (.getfield 147, 3) := by decide +kernel
theorem d_X10_isKept_47 : decode (gw_mC M_X10_isKept) 47 = .ok (.aload_n 0, 1) := by decide +kernel
theorem d_X10_isKept_48 : decode (gw_mC M_X10_isKept) 48 = .ok (.getfield 12, 3) := by decide +kernel
theorem d_X10_isKept_51 : decode (gw_mC M_X10_isKept) 51 = .ok (.getfield 131, 3) := by decide +kernel
theorem d_X10_isKept_54 : decode (gw_mC M_X10_isKept) 54 = .ok (.aload_n 0, 1) := by decide +kernel
theorem d_X10_isKept_55 : decode (gw_mC M_X10_isKept) 55 = .ok (.getfield 36, 3) := by decide +kernel
theorem d_X10_isKept_58 : decode (gw_mC M_X10_isKept) 58 = .ok (.iaload, 1) := by decide +kernel
theorem d_X10_isKept_59 : decode (gw_mC M_X10_isKept) 59 = .ok (.if_icmp .ge 22, 3) := by decide +kernel
theorem d_X10_isKept_62 : decode (gw_mC M_X10_isKept) 62 = .ok (.aload_n 0, 1) := by decide +kernel
theorem d_X10_isKept_63 : decode (gw_mC M_X10_isKept) 63 = .ok (.getfield 32, 3) := by decide +kernel
theorem d_X10_isKept_66 : decode (gw_mC M_X10_isKept) 66 = .ok (.dup, 1) := by decide +kernel
theorem d_X10_isKept_67 : decode (gw_mC M_X10_isKept) 67 = .ok (.getfield 147, 3) := by decide +kernel
theorem d_X10_isKept_70 : decode (gw_mC M_X10_isKept) 70 = .ok (.iconst 1, 1) := by decide +kernel
theorem d_X10_isKept_71 : decode (gw_mC M_X10_isKept) 71 = .ok (.iadd, 1) := by decide +kernel
theorem d_X10_isKept_72 : decode (gw_mC M_X10_isKept) 72 = .ok (.putfield 147, 3) := by decide +kernel
theorem d_X10_isKept_75 : decode (gw_mC M_X10_isKept) 75 = .ok (.aload_n 0, 1) := by decide +kernel
theorem d_X10_isKept_76 : decode (gw_mC M_X10_isKept) 76 = .ok (.invokevirtual 150, 3) := by decide +kernel
theorem d_X10_isKept_79 : decode (gw_mC M_X10_isKept) 79 = .ok (.iconst 1, 1) := by decide +kernel
theorem d_X10_isKept_80 : decode (gw_mC M_X10_isKept) 80 = .ok (.ireturn, 1) := by decide +kernel
theorem d_X10_isKept_81 : decode (gw_mC M_X10_isKept) 81 = .ok (.aload_n 0, 1) := by decide +kernel
theorem d_X10_isKept_82 : decode (gw_mC M_X10_isKept) 82 = .ok (.getfield 32, 3) := by decide +kernel
theorem d_X10_isKept_85 : decode (gw_mC M_X10_isKept) 85 = .ok (.getfield 153, 3) := by decide +kernel
theorem d_X10_isKept_88 : decode (gw_mC M_X10_isKept) 88 = .ok (.aload_n 0, 1) := by decide +kernel
theorem d_X10_isKept_89 : decode (gw_mC M_X10_isKept) 89 = .ok (.getfield 25, 3) := by decide +kernel
theorem d_X10_isKept_92 : decode (gw_mC M_X10_isKept) 92 = .ok (.iconst 2, 1) := by decide +kernel
theorem d_X10_isKept_93 : decode (gw_mC M_X10_isKept) 93 = .ok (.iaload, 1) := by decide +kernel
theorem d_X10_isKept_94 : decode (gw_mC M_X10_isKept) 94 = .ok (.if_icmp .ge 19, 3) := by decide +kernel
theorem d_X10_isKept_97 : decode (gw_mC M_X10_isKept) 97 = .ok (.aload_n 0, 1) := by decide +kernel
theorem d_X10_isKept_98 : decode (gw_mC M_X10_isKept) 98 = .ok (.getfield 32, 3) := by decide +kernel
theorem d_X10_isKept_101 : decode (gw_mC M_X10_isKept) 101 = .ok (.getfield 156, 3) := by decide +kernel
theorem d_X10_isKept_104 : decode (gw_mC M_X10_isKept) 104 = .ok (.aload_n 0, 1) := by decide +kernel
theorem d_X10_isKept_105 : decode (gw_mC M_X10_isKept) 105 = .ok (.getfield 25, 3) := by decide +kernel
theorem d_X10_isKept_108 : decode (gw_mC M_X10_isKept) 108 = .ok (.iconst 3, 1) := by decide +kernel
theorem d_X10_isKept_109 : decode (gw_mC M_X10_isKept) 109 = .ok (.iaload, 1) := by decide +kernel
theorem d_X10_isKept_110 : decode (gw_mC M_X10_isKept) 110 = .ok (.if_icmp .lt 13, 3) := by decide +kernel
theorem d_X10_isKept_113 : decode (gw_mC M_X10_isKept) 113 = .ok (.aload_n 0, 1) := by decide +kernel
theorem d_X10_isKept_114 : decode (gw_mC M_X10_isKept) 114 = .ok (.getfield 32, 3) := by decide +kernel
theorem d_X10_isKept_117 : decode (gw_mC M_X10_isKept) 117 = .ok (.iconst 1, 1) := by decide +kernel
theorem d_X10_isKept_118 : decode (gw_mC M_X10_isKept) 118 = .ok (.putfield 134, 3) := by decide +kernel
theorem d_X10_isKept_121 : decode (gw_mC M_X10_isKept) 121 = .ok (.iconst 0, 1) := by decide +kernel
theorem d_X10_isKept_122 : decode (gw_mC M_X10_isKept) 122 = .ok (.ireturn, 1) := by decide +kernel
theorem d_X10_isKept_123 : decode (gw_mC M_X10_isKept) 123 = .ok (.aload_n 0, 1) := by decide +kernel
theorem d_X10_isKept_124 : decode (gw_mC M_X10_isKept) 124 = .ok (.getfield 32, 3) := by decide +kernel
theorem d_X10_isKept_127 : decode (gw_mC M_X10_isKept) 127 = .ok (.dup, 1) := by decide +kernel
theorem d_X10_isKept_128 : decode (gw_mC M_X10_isKept) 128 = .ok (.getfield 156, 3) := by decide +kernel
theorem d_X10_isKept_131 : decode (gw_mC M_X10_isKept) 131 = .ok (.iconst 1, 1) := by decide +kernel
theorem d_X10_isKept_132 : decode (gw_mC M_X10_isKept) 132 = .ok (.iadd, 1) := by decide +kernel
theorem d_X10_isKept_133 : decode (gw_mC M_X10_isKept) 133 = .ok (.putfield 156, 3) := by decide +kernel
theorem d_X10_isKept_136 : decode (gw_mC M_X10_isKept) 136 = .ok (.iconst 1, 1) := by decide +kernel
theorem d_X10_isKept_137 : decode (gw_mC M_X10_isKept) 137 = .ok (.ireturn, 1) := by decide +kernel
theorem d_X10_isToBegin_0 : decode (gw_mC M_X10_isToBegin) 0 = .ok (.iconst 0, 1) := by decide +kernel
theorem d_X10_isToBegin_1 : decode (gw_mC M_X10_isToBegin) 1 = .ok (.istore_n 1, 1) := by decide +kernel
theorem d_X10_isToBegin_2 : decode (gw_mC M_X10_isToBegin) 2 = .ok (.iconst 0, 1) := by decide +kernel
theorem d_X10_isToBegin_3 : decode (gw_mC M_X10_isToBegin) 3 = .ok (.istore_n 2, 1) := by decide +kernel
theorem d_X10_isToBegin_4 : decode (gw_mC M_X10_isToBegin) 4 = .ok (.iload_n 2, 1) := by decide +kernel
theorem d_X10_isToBegin_5 : decode (gw_mC M_X10_isToBegin) 5 = .ok (.aload_n 0, 1) := by decide +kernel
theorem d_X10_isToBegin_6 : decode (gw_mC M_X10_isToBegin) 6 = .ok (.getfield 21, 3) := by decide +kernel
theorem d_X10_isToBegin_9 : decode (gw_mC M_X10_isToBegin) 9 = .ok (.getfield 105, 3) := by decide +kernel
theorem d_X10_isToBegin_12 : decode (gw_mC M_X10_isToBegin) 12 = .ok (.if_icmp .ge 46, 3) := by decide +kernel
theorem d_X10_isToBegin_15 : decode (gw_mC M_X10_isToBegin) 15 = .ok (.iload_n 1, 1) := by decide +kernel
theorem d_X10_isToBegin_16 : decode (gw_mC M_X10_isToBegin) 16 = .ok (.aload_n 0, 1) := by decide +kernel
theorem d_X10_isToBegin_17 : decode (gw_mC M_X10_isToBegin) 17 = .ok (.getfield 70, 3) := by decide +kernel
theorem d_X10_isToBegin_20 : decode (gw_mC M_X10_isToBegin) 20 = .ok (.iload_n 2, 1) := by decide +kernel
theorem d_X10_isToBegin_21 : decode (gw_mC M_X10_isToBegin) 21 = .ok (.iaload, 1) := by decide +kernel
theorem d_X10_isToBegin_22 : decode (gw_mC M_X10_isToBegin) 22 = .ok (.ifCond .ge 27, 3) := by decide +kernel
theorem d_X10_isToBegin_25 : decode (gw_mC M_X10_isToBegin) 25 = .ok (.aload_n 0, 1) := by decide +kernel
