theorem d_X11_rule_37 : decode (gw_mC M_X11_rule) 37 = .ok (.istore_n 3, 1) := by decide +kernel
theorem d_X11_rule_38 : decode (gw_mC M_X11_rule) 38 = .ok (.aload_n 0, 1) := by decide +kernel
theorem d_X11_rule_39 : decode (gw_mC M_X11_rule) 39 = .ok (.getfield 10, 3) := by decide +kernel
theorem d_X11_rule_42 : decode (gw_mC M_X11_rule) 42 = .ok (.getfield 154, 3) := by decide +kernel
theorem d_X11_rule_45 : decode (gw_mC M_X11_rule) 45 = .ok (.iload_n 1, 1) := by decide +kernel
theorem d_X11_rule_46 : decode (gw_mC M_X11_rule) 46 = .ok (.iload_n 2, 1) := by decide +kernel
theorem d_X11_rule_47 : decode (gw_mC M_X11_rule) 47 = .ok (.iastore, 1) := by decide +kernel
theorem d_X11_rule_48 : decode (gw_mC M_X11_rule) 48 = .ok (.aload_n 0, 1) := by decide +kernel
theorem d_X11_rule_49 : decode (gw_mC M_X11_rule) 49 = .ok (.invokevirtual 99, 3) := by decide +kernel
theorem d_X11_rule_52 : decode (gw_mC M_X11_rule) 52 = .ok (.iload_n 3, 1) := by decide +kernel
theorem d_X11_rule_53 : decode (gw_mC M_X11_rule) 53 = .ok (.ireturn, 1) := by decide +kernel
theorem d_X11_type_0 : decode (gw_mC M_X11_type) 0 = .ok (.iload_n 3, 1) := by decide +kernel
theorem d_X11_type_1 : decode (gw_mC M_X11_type) 1 = .ok (.iconst 1, 1) := by decide +kernel
theorem d_X11_type_2 : decode (gw_mC M_X11_type) 2 = .ok (.bipush 8, 2) := by decide +kernel
theorem d_X11_type_4 : decode (gw_mC M_X11_type) 4 = .ok (.invokestatic 92, 3) := by decide +kernel
theorem d_X11_type_7 : decode (gw_mC M_X11_type) 7 = .ok (.ifCond .eq 11, 3) := by decide +kernel
theorem d_X11_type_10 : decode (gw_mC M_X11_type) 10 = .ok (.lload_n 1, 1) := by decide +kernel
theorem d_X11_type_11 : decode (gw_mC M_X11_type) 11 = .ok (.iload_n 3, 1) := by decide +kernel
theorem d_X11_type_12 : decode (gw_mC M_X11_type) 12 = .ok (.invokestatic 157, 3) := by decide +kernel
theorem d_X11_type_15 : decode (gw_mC M_X11_type) 15 = .ok (.ifCond .ne 5, 3) := by decide +kernel
theorem d_X11_type_18 : decode (gw_mC M_X11_type) 18 = .ok (.iconst (-1), 1) := by decide +kernel
theorem d_X11_type_19 : decode (gw_mC M_X11_type) 19 = .ok (.ireturn, 1) := by decide +kernel
theorem d_X11_type_20 : decode (gw_mC M_X11_type) 20 = .ok (.aload_n 0, 1) := by decide +kernel
theorem d_X11_type_21 : decode (gw_mC M_X11_type) 21 = .ok (.getfield 26, 3) := by decide +kernel
theorem d_X11_type_24 : decode (gw_mC M_X11_type) 24 = .ok (.lload_n 1, 1) := by decide +kernel
theorem d_X11_type_25 : decode (gw_mC M_X11_type) 25 = .ok (.iload_n 3, 1) := by decide +kernel
theorem d_X11_type_26 : decode (gw_mC M_X11_type) 26 = .ok (.invokevirtual 161, 3) := by decide +kernel
theorem d_X11_type_29 : decode (gw_mC M_X11_type) 29 = .ok (.ireturn, 1) := by decide +kernel
theorem d_X11_way_0 : decode (gw_mC M_X11_way) 0 = .ok (.aload_n 0, 1) := by decide +kernel
theorem d_X11_way_1 : decode (gw_mC M_X11_way) 1 = .ok (.getfield 26, 3) := by decide +kernel
theorem d_X11_way_4 : decode (gw_mC M_X11_way) 4 = .ok (.aload_n 0, 1) := by decide +kernel
theorem d_X11_way_5 : decode (gw_mC M_X11_way) 5 = .ok (.getfield 33, 3) := by decide +kernel
theorem d_X11_way_8 : decode (gw_mC M_X11_way) 8 = .ok (.invokevirtual 165, 3) := by decide +kernel
theorem d_X11_way_11 : decode (gw_mC M_X11_way) 11 = .ok (.istore_n 1, 1) := by decide +kernel
theorem d_X11_way_12 : decode (gw_mC M_X11_way) 12 = .ok (.iload_n 1, 1) := by decide +kernel
theorem d_X11_way_13 : decode (gw_mC M_X11_way) 13 = .ok (.ifCond .lt 21, 3) := by decide +kernel
theorem d_X11_way_16 : decode (gw_mC M_X11_way) 16 = .ok (.aload_n 0, 1) := by decide +kernel
theorem d_X11_way_17 : decode (gw_mC M_X11_way) 17 = .ok (.getfield 10, 3) := by decide +kernel
theorem d_X11_way_20 : decode (gw_mC M_X11_way) 20 = .ok (.getfield 108, 3) := by decide +kernel
theorem d_X11_way_23 : decode (gw_mC M_X11_way) 23 = .ok (.aload_n 0, 1) := by decide +kernel
theorem d_X11_way_24 : decode (gw_mC M_X11_way) 24 = .ok (.getfield 33, 3) := by decide +kernel
theorem d_X11_way_27 : decode (gw_mC M_X11_way) 27 = .ok (.invokevirtual 169, 3) := by decide +kernel
theorem d_X11_way_30 : decode (gw_mC M_X11_way) 30 = .ok (.aload_n 0, 1) := by decide +kernel
theorem d_X11_way_31 : decode (gw_mC M_X11_way) 31 = .ok (.invokevirtual 99, 3) := by decide +kernel
theorem d_X11_way_34 : decode (gw_mC M_X11_way) 34 = .ok (.iload_n 1, 1) := by decide +kernel
theorem d_X11_way_35 : decode (gw_mC M_X11_way) 35 = .ok (.ireturn, 1) := by decide +kernel
theorem d_X11_group_0 : decode (gw_mC M_X11_group) 0 = .ok (.aload_n 0, 1) := by decide +kernel
theorem d_X11_group_1 : decode (gw_mC M_X11_group) 1 = .ok (.getfield 26, 3) := by decide +kernel
theorem d_X11_group_4 : decode (gw_mC M_X11_group) 4 = .ok (.aload_n 0, 1) := by decide +kernel
theorem d_X11_group_5 : decode (gw_mC M_X11_group) 5 = .ok (.getfield 40, 3) := by decide +kernel
theorem d_X11_group_8 : decode (gw_mC M_X11_group) 8 = .ok (.invokevirtual 173, 3) := by decide +kernel
theorem d_X11_group_11 : decode (gw_mC M_X11_group) 11 = .ok (.istore_n 1, 1) := by decide +kernel
theorem d_X11_group_12 : decode (gw_mC M_X11_group) 12 = .ok (.iload_n 1, 1) := by decide +kernel
theorem d_X11_group_13 : decode (gw_mC M_X11_group) 13 = .ok (.ifCond .lt 21, 3) := by decide +kernel
theorem d_X11_group_16 : decode (gw_mC M_X11_group) 16 = .ok (.aload_n 0, 1) := by decide +kernel
theorem d_X11_group_17 : decode (gw_mC M_X11_group) 17 = .ok (.getfield 10, 3) := by decide +kernel
theorem d_X11_group_20 : decode (gw_mC M_X11_group) 20 = .ok (.getfield 128, 3) := by decide +kernel
theorem d_X11_group_23 : decode (gw_mC M_X11_group) 23 = .ok (.aload_n 0, 1) := by decide +kernel
theorem d_X11_group_24 : decode (gw_mC M_X11_group) 24 = .ok (.getfield 40, 3) := by decide +kernel
theorem d_X11_group_27 : decode (gw_mC M_X11_group) 27 = .ok (.invokevirtual 177, 3) := by decide +kernel
theorem d_X11_group_30 : decode (gw_mC M_X11_group) 30 = .ok (.aload_n 0, 1) := by decide +kernel
theorem d_X11_group_31 : decode (gw_mC M_X11_group) 31 = .ok (.invokevirtual 99, 3) := by decide +kernel
theorem d_X11_group_34 : decode (gw_mC M_X11_group) 34 = .ok (.iload_n 1, 1) := by decide +kernel
theorem d_X11_group_35 : decode (gw_mC M_X11_group) 35 = .ok (.ireturn, 1) := by decide +kernel
theorem d_X11_count_0 : decode (gw_mC M_X11_count) 0 = .ok (.iload_n 1, 1) := by decide +kernel
theorem d_X11_count_1 : decode (gw_mC M_X11_count) 1 = .ok (.iconst 0, 1) := by decide +kernel
theorem d_X11_count_2 : decode (gw_mC M_X11_count) 2 = .ok (.iconst 3, 1) := by decide +kernel
theorem d_X11_count_3 : decode (gw_mC M_X11_count) 3 = .ok (.invokestatic 92, 3) := by decide +kernel
theorem d_X11_count_6 : decode (gw_mC M_X11_count) 6 = .ok (.ifCond .eq 16, 3) := by decide +kernel
theorem d_X11_count_9 : decode (gw_mC M_X11_count) 9 = .ok (.aload_n 0, 1) := by decide +kernel
theorem d_X11_count_10 : decode (gw_mC M_X11_count) 10 = .ok (.getfield 10, 3) := by decide +kernel
theorem d_X11_count_13 : decode (gw_mC M_X11_count) 13 = .ok (.getfield 108, 3) := by decide +kernel
theorem d_X11_count_16 : decode (gw_mC M_X11_count) 16 = .ok (.getfield 115, 3) := by decide +kernel
theorem d_X11_count_19 : decode (gw_mC M_X11_count) 19 = .ok (.iload_n 1, 1) := by decide +kernel
theorem d_X11_count_20 : decode (gw_mC M_X11_count) 20 = .ok (.iaload, 1) := by decide +kernel
theorem d_X11_count_21 : decode (gw_mC M_X11_count) 21 = .ok (.ireturn, 1) := by decide +kernel
theorem d_X11_count_22 : decode (gw_mC M_X11_count) 22 = .ok (.iload_n 1, 1) := by decide +kernel
theorem d_X11_count_23 : decode (gw_mC M_X11_count) 23 = .ok (.iconst 4, 1) := by decide +kernel
theorem d_X11_count_24 : decode (gw_mC M_X11_count) 24 = .ok (.if_icmp .ne 14, 3) := by decide +kernel
theorem d_X11_count_27 : decode (gw_mC M_X11_count) 27 = .ok (.aload_n 0, 1) := by decide +kernel
theorem d_X11_count_28 : decode (gw_mC M_X11_count) 28 = .ok (.getfield 10, 3) := by decide +kernel
theorem d_X11_count_31 : decode (gw_mC M_X11_count) 31 = .ok (.getfield 128, 3) := by decide +kernel
theorem d_X11_count_34 : decode (gw_mC M_X11_count) 34 = .ok (.getfield 180, 3) := by decide +kernel
theorem d_X11_count_37 : decode (gw_mC M_X11_count) 37 = .ok (.ireturn, 1) := by decide +kernel
theorem d_X11_count_38 : decode (gw_mC M_X11_count) 38 = .ok (.iload_n 1, 1) := by decide +kernel
theorem d_X11_count_39 : decode (gw_mC M_X11_count) 39 = .ok (.iconst 5, 1) := by decide +kernel
theorem d_X11_count_40 : decode (gw_mC M_X11_count) 40 = .ok (.if_icmp .ne 13, 3) := by decide +kernel
theorem d_X11_count_43 : decode (gw_mC M_X11_count) 43 = .ok (.aload_n 0, 1) := by decide +kernel
theorem d_X11_count_44 : decode (gw_mC M_X11_count) 44 = .ok (.getfield 10, 3) := by decide +kernel
theorem d_X11_count_47 : decode (gw_mC M_X11_count) 47 = .ok (.invokevirtual 183, 3) := by decide +kernel
theorem d_X11_count_50 : decode (gw_mC M_X11_count) 50 = .ok (.goto 4, 3) := by decide +kernel
theorem d_X11_count_53 : decode (gw_mC M_X11_count) 53 = .ok (.iconst (-1), 1) := by decide +kernel
theorem d_X11_count_54 : decode (gw_mC M_X11_count) 54 = .ok (.ireturn, 1) := by decide +kernel
theorem d_X11_fate_0 : decode (gw_mC M_X11_fate) 0 = .ok (.aload_n 0, 1) := by decide +kernel
theorem d_X11_fate_1 : decode (gw_mC M_X11_fate) 1 = .ok (.iload_n 1, 1) := by decide +kernel
theorem d_X11_fate_2 : decode (gw_mC M_X11_fate) 2 = .ok (.invokevirtual 134, 3) := by decide +kernel
theorem d_X11_fate_5 : decode (gw_mC M_X11_fate) 5 = .ok (.ifCond .eq 12, 3) := by decide +kernel
theorem d_X11_fate_8 : decode (gw_mC M_X11_fate) 8 = .ok (.iload_n 2, 1) := by decide +kernel
theorem d_X11_fate_9 : decode (gw_mC M_X11_fate) 9 = .ok (.iconst 0, 1) := by decide +kernel
theorem d_X11_fate_10 : decode (gw_mC M_X11_fate) 10 = .ok (.iconst 3, 1) := by decide +kernel
theorem d_X11_fate_11 : decode (gw_mC M_X11_fate) 11 = .ok (.invokestatic 92, 3) := by decide +kernel
theorem d_X11_fate_14 : decode (gw_mC M_X11_fate) 14 = .ok (.ifCond .ne 5, 3) := by decide +kernel
theorem d_X11_fate_17 : decode (gw_mC M_X11_fate) 17 = .ok (.iconst (-1), 1) := by decide +kernel
theorem d_X11_fate_18 : decode (gw_mC M_X11_fate) 18 = .ok (.ireturn, 1) := by decide +kernel
theorem d_X11_fate_19 : decode (gw_mC M_X11_fate) 19 = .ok (.aload_n 0, 1) := by decide +kernel
theorem d_X11_fate_20 : decode (gw_mC M_X11_fate) 20 = .ok (.invokevirtual 187, 3) := by decide +kernel
theorem d_X11_fate_23 : decode (gw_mC M_X11_fate) 23 = .ok (.iload_n 2, 1) := by decide +kernel
theorem d_X11_fate_24 : decode (gw_mC M_X11_fate) 24 = .ok (.tableswitch 58 0 2 #[28, 38, 48], 28) := by decide +kernel
theorem d_X11_fate_52 : decode (gw_mC M_X11_fate) 52 = .ok (.aload_n 0, 1) := by decide +kernel
theorem d_X11_fate_53 : decode (gw_mC M_X11_fate) 53 = .ok (.getfield 47, 3) := by decide +kernel
theorem d_X11_fate_56 : decode (gw_mC M_X11_fate) 56 = .ok (.getfield 190, 3) := by decide +kernel
theorem d_X11_fate_59 : decode (gw_mC M_X11_fate) 59 = .ok (.iload_n 1, 1) := by decide +kernel
theorem d_X11_fate_60 : decode (gw_mC M_X11_fate) 60 = .ok (.iaload, 1) := by decide +kernel
theorem d_X11_fate_61 : decode (gw_mC M_X11_fate) 61 = .ok (.ireturn, 1) := by decide +kernel
theorem d_X11_fate_62 : decode (gw_mC M_X11_fate) 62 = .ok (.aload_n 0, 1) := by decide +kernel
theorem d_X11_fate_63 : decode (gw_mC M_X11_fate) 63 = .ok (.getfield 47, 3) := by decide +kernel
theorem d_X11_fate_66 : decode (gw_mC M_X11_fate) 66 = .ok (.getfield 193, 3) := by decide +kernel
theorem d_X11_fate_69 : decode (gw_mC M_X11_fate) 69 = .ok (.iload_n 1, 1) := by decide +kernel
theorem d_X11_fate_70 : decode (gw_mC M_X11_fate) 70 = .ok (.iaload, 1) := by decide +kernel
theorem d_X11_fate_71 : decode (gw_mC M_X11_fate) 71 = .ok (.ireturn, 1) := by decide +kernel
theorem d_X11_fate_72 : decode (gw_mC M_X11_fate) 72 = .ok (.aload_n 0, 1) := by decide +kernel
theorem d_X11_fate_73 : decode (gw_mC M_X11_fate) 73 = .ok (.getfield 47, 3) := by decide +kernel
theorem d_X11_fate_76 : decode (gw_mC M_X11_fate) 76 = .ok (.getfield 196, 3) := by decide +kernel
theorem d_X11_fate_79 : decode (gw_mC M_X11_fate) 79 = .ok (.iload_n 1, 1) := by decide +kernel
theorem d_X11_fate_80 : decode (gw_mC M_X11_fate) 80 = .ok (.iaload, 1) := by decide +kernel
theorem d_X11_fate_81 : decode (gw_mC M_X11_fate) 81 = .ok (.ireturn, 1) := by decide +kernel
theorem d_X11_fate_82 : decode (gw_mC M_X11_fate) 82 = .ok (.aload_n 0, 1) := by decide +kernel
theorem d_X11_fate_83 : decode (gw_mC M_X11_fate) 83 = .ok (.getfield 47, 3) := by decide +kernel
theorem d_X11_fate_86 : decode (gw_mC M_X11_fate) 86 = .ok (.getfield 199, 3) := by decide +kernel
theorem d_X11_fate_89 : decode (gw_mC M_X11_fate) 89 = .ok (.iload_n 1, 1) := by decide +kernel
theorem d_X11_fate_90 : decode (gw_mC M_X11_fate) 90 = .ok (.iaload, 1) := by decide +kernel
theorem d_X11_fate_91 : decode (gw_mC M_X11_fate) 91 = .ok (.ireturn, 1) := by decide +kernel
theorem d_X11_at_0 : decode (gw_mC M_X11_at) 0 = .ok (.iload_n 1, 1) := by decide +kernel
theorem d_X11_at_1 : decode (gw_mC M_X11_at) 1 = .ok (.iconst 0, 1) := by decide +kernel
theorem d_X11_at_2 : decode (gw_mC M_X11_at) 2 = .ok (.sipush 299, 3) := by decide +kernel
theorem d_X11_at_5 : decode (gw_mC M_X11_at) 5 = .ok (.invokestatic 92, 3) := by decide +kernel
theorem d_X11_at_8 : decode (gw_mC M_X11_at) 8 = .ok (.ifCond .eq 24, 3) := by decide +kernel
theorem d_X11_at_11 : decode (gw_mC M_X11_at) 11 = .ok (.iload_n 2, 1) := by decide +kernel
theorem d_X11_at_12 : decode (gw_mC M_X11_at) 12 = .ok (.bipush (-2), 2) := by decide +kernel
theorem d_X11_at_14 : decode (gw_mC M_X11_at) 14 = .ok (.aload_n 0, 1) := by decide +kernel
theorem d_X11_at_15 : decode (gw_mC M_X11_at) 15 = .ok (.getfield 10, 3) := by decide +kernel
theorem d_X11_at_18 : decode (gw_mC M_X11_at) 18 = .ok (.getfield 128, 3) := by decide +kernel
theorem d_X11_at_21 : decode (gw_mC M_X11_at) 21 = .ok (.getfield 180, 3) := by decide +kernel
theorem d_X11_at_24 : decode (gw_mC M_X11_at) 24 = .ok (.iconst 1, 1) := by decide +kernel
theorem d_X11_at_25 : decode (gw_mC M_X11_at) 25 = .ok (.isub, 1) := by decide +kernel
theorem d_X11_at_26 : decode (gw_mC M_X11_at) 26 = .ok (.invokestatic 92, 3) := by decide +kernel
theorem d_X11_at_29 : decode (gw_mC M_X11_at) 29 = .ok (.ifCond .ne 5, 3) := by decide +kernel
theorem d_X11_at_32 : decode (gw_mC M_X11_at) 32 = .ok (.iconst (-1), 1) := by decide +kernel
theorem d_X11_at_33 : decode (gw_mC M_X11_at) 33 = .ok (.ireturn, 1) := by decide +kernel
theorem d_X11_at_34 : decode (gw_mC M_X11_at) 34 = .ok (.aload_n 0, 1) := by decide +kernel
theorem d_X11_at_35 : decode (gw_mC M_X11_at) 35 = .ok (.invokevirtual 187, 3) := by decide +kernel
theorem d_X11_at_38 : decode (gw_mC M_X11_at) 38 = .ok (.iconst 0, 1) := by decide +kernel
theorem d_X11_at_39 : decode (gw_mC M_X11_at) 39 = .ok (.iload_n 1, 1) := by decide +kernel
theorem d_X11_at_40 : decode (gw_mC M_X11_at) 40 = .ok (.aload_n 0, 1) := by decide +kernel
theorem d_X11_at_41 : decode (gw_mC M_X11_at) 41 = .ok (.getfield 61, 3) := by decide +kernel
theorem d_X11_at_44 : decode (gw_mC M_X11_at) 44 = .ok (.iconst 1, 1) := by decide +kernel
theorem d_X11_at_45 : decode (gw_mC M_X11_at) 45 = .ok (.isub, 1) := by decide +kernel
theorem d_X11_at_46 : decode (gw_mC M_X11_at) 46 = .ok (.invokestatic 202, 3) := by decide +kernel
theorem d_X11_at_49 : decode (gw_mC M_X11_at) 49 = .ok (.invokestatic 208, 3) := by decide +kernel
theorem d_X11_at_52 : decode (gw_mC M_X11_at) 52 = .ok (.istore_n 3, 1) := by decide +kernel
theorem d_X11_at_53 : decode (gw_mC M_X11_at) 53 = .ok (.aload_n 0, 1) := by decide +kernel
theorem d_X11_at_54 : decode (gw_mC M_X11_at) 54 = .ok (.getfield 57, 3) := by decide +kernel
theorem d_X11_at_57 : decode (gw_mC M_X11_at) 57 = .ok (.iload_n 3, 1) := by decide +kernel
theorem d_X11_at_58 : decode (gw_mC M_X11_at) 58 = .ok (.bipush 12, 2) := by decide +kernel
theorem d_X11_at_60 : decode (gw_mC M_X11_at) 60 = .ok (.imul, 1) := by decide +kernel
theorem d_X11_at_61 : decode (gw_mC M_X11_at) 61 = .ok (.iload_n 2, 1) := by decide +kernel
theorem d_X11_at_62 : decode (gw_mC M_X11_at) 62 = .ok (.iadd, 1) := by decide +kernel
theorem d_X11_at_63 : decode (gw_mC M_X11_at) 63 = .ok (.iconst 2, 1) := by decide +kernel
theorem d_X11_at_64 : decode (gw_mC M_X11_at) 64 = .ok (.iadd, 1) := by decide +kernel
theorem d_X11_at_65 : decode (gw_mC M_X11_at) 65 = .ok (.iaload, 1) := by decide +kernel
theorem d_X11_at_66 : decode (gw_mC M_X11_at) 66 = .ok (.ireturn, 1) := by decide +kernel
theorem d_X11_all_0 : decode (gw_mC M_X11_all) 0 = .ok (.iload_n 1, 1) := by decide +kernel
theorem d_X11_all_1 : decode (gw_mC M_X11_all) 1 = .ok (.iconst 0, 1) := by decide +kernel
theorem d_X11_all_2 : decode (gw_mC M_X11_all) 2 = .ok (.iconst 5, 1) := by decide +kernel
theorem d_X11_all_3 : decode (gw_mC M_X11_all) 3 = .ok (.invokestatic 92, 3) := by decide +kernel
theorem d_X11_all_6 : decode (gw_mC M_X11_all) 6 = .ok (.ifCond .ne 5, 3) := by decide +kernel
theorem d_X11_all_9 : decode (gw_mC M_X11_all) 9 = .ok (.iconst (-1), 1) := by decide +kernel
theorem d_X11_all_10 : decode (gw_mC M_X11_all) 10 = .ok (.ireturn, 1) := by decide +kernel
theorem d_X11_all_11 : decode (gw_mC M_X11_all) 11 = .ok (.aload_n 0, 1) := by decide +kernel
theorem d_X11_all_12 : decode (gw_mC M_X11_all) 12 = .ok (.invokevirtual 187, 3) := by decide +kernel
theorem d_X11_all_15 : decode (gw_mC M_X11_all) 15 = .ok (.iload_n 1, 1) := by decide +kernel
theorem d_X11_all_16 : decode (gw_mC M_X11_all) 16 = .ok (.tableswitch 76 0 4 #[36, 44, 52, 60, 68], 36) := by decide +kernel
theorem d_X11_all_52 : decode (gw_mC M_X11_all) 52 = .ok (.aload_n 0, 1) := by decide +kernel
theorem d_X11_all_53 : decode (gw_mC M_X11_all) 53 = .ok (.getfield 47, 3) := by decide +kernel
theorem d_X11_all_56 : decode (gw_mC M_X11_all) 56 = .ok (.invokevirtual 211, 3) := by decide +kernel
theorem d_X11_all_59 : decode (gw_mC M_X11_all) 59 = .ok (.ireturn, 1) := by decide +kernel
theorem d_X11_all_60 : decode (gw_mC M_X11_all) 60 = .ok (.aload_n 0, 1) := by decide +kernel
theorem d_X11_all_61 : decode (gw_mC M_X11_all) 61 = .ok (.getfield 47, 3) := by decide +kernel
theorem d_X11_all_64 : decode (gw_mC M_X11_all) 64 = .ok (.invokevirtual 214, 3) := by decide +kernel
theorem d_X11_all_67 : decode (gw_mC M_X11_all) 67 = .ok (.ireturn, 1) := by decide +kernel
theorem d_X11_all_68 : decode (gw_mC M_X11_all) 68 = .ok (.aload_n 0, 1) := by decide +kernel
theorem d_X11_all_69 : decode (gw_mC M_X11_all) 69 = .ok (.getfield 47, 3) := by decide +kernel
theorem d_X11_all_72 : decode (gw_mC M_X11_all) 72 = .ok (.getfield 217, 3) := by decide +kernel
theorem d_X11_all_75 : decode (gw_mC M_X11_all) 75 = .ok (.ireturn, 1) := by decide +kernel
theorem d_X11_all_76 : decode (gw_mC M_X11_all) 76 = .ok (.aload_n 0, 1) := by decide +kernel
theorem d_X11_all_77 : decode (gw_mC M_X11_all) 77 = .ok (.getfield 47, 3) := by decide +kernel
theorem d_X11_all_80 : decode (gw_mC M_X11_all) 80 = .ok (.invokevirtual 220, 3) := by decide +kernel
theorem d_X11_all_83 : decode (gw_mC M_X11_all) 83 = .ok (.ireturn, 1) := by decide +kernel
theorem d_X11_all_84 : decode (gw_mC M_X11_all) 84 = .ok (.aload_n 0, 1) := by decide +kernel
theorem d_X11_all_85 : decode (gw_mC M_X11_all) 85 = .ok (.getfield 47, 3) := by decide +kernel
theorem d_X11_all_88 : decode (gw_mC M_X11_all) 88 = .ok (.getfield 223, 3) := by decide +kernel
theorem d_X11_all_91 : decode (gw_mC M_X11_all) 91 = .ok (.ireturn, 1) := by decide +kernel
theorem d_X11_all_92 : decode (gw_mC M_X11_all) 92 = .ok (.aload_n 0, 1) := by decide +kernel
theorem d_X11_all_93 : decode (gw_mC M_X11_all) 93 = .ok (.getfield 47, 3) := by decide +kernel
theorem d_X11_all_96 : decode (gw_mC M_X11_all) 96 = .ok (.invokevirtual 226, 3) := by decide +kernel
theorem d_X11_all_99 : decode (gw_mC M_X11_all) 99 = .ok (.ireturn, 1) := by decide +kernel
theorem d_X11_best_0 : decode (gw_mC M_X11_best) 0 = .ok (.iload_n 1, 1) := by decide +kernel
theorem d_X11_best_1 : decode (gw_mC M_X11_best) 1 = .ok (.iconst 0, 1) := by decide +kernel
theorem d_X11_best_2 : decode (gw_mC M_X11_best) 2 = .ok (.sipush 299, 3) := by decide +kernel
theorem d_X11_best_5 : decode (gw_mC M_X11_best) 5 = .ok (.invokestatic 92, 3) := by decide +kernel
theorem d_X11_best_8 : decode (gw_mC M_X11_best) 8 = .ok (.ifCond .eq 12, 3) := by decide +kernel
theorem d_X11_best_11 : decode (gw_mC M_X11_best) 11 = .ok (.iload_n 2, 1) := by decide +kernel
theorem d_X11_best_12 : decode (gw_mC M_X11_best) 12 = .ok (.iconst 0, 1) := by decide +kernel
theorem d_X11_best_13 : decode (gw_mC M_X11_best) 13 = .ok (.iconst 3, 1) := by decide +kernel
theorem d_X11_best_14 : decode (gw_mC M_X11_best) 14 = .ok (.invokestatic 92, 3) := by decide +kernel
theorem d_X11_best_17 : decode (gw_mC M_X11_best) 17 = .ok (.ifCond .ne 5, 3) := by decide +kernel
theorem d_X11_best_20 : decode (gw_mC M_X11_best) 20 = .ok (.iconst (-1), 1) := by decide +kernel
theorem d_X11_best_21 : decode (gw_mC M_X11_best) 21 = .ok (.ireturn, 1) := by decide +kernel
theorem d_X11_best_22 : decode (gw_mC M_X11_best) 22 = .ok (.aload_n 0, 1) := by decide +kernel
theorem d_X11_best_23 : decode (gw_mC M_X11_best) 23 = .ok (.getfield 10, 3) := by decide +kernel
theorem d_X11_best_26 : decode (gw_mC M_X11_best) 26 = .ok (.getfield 128, 3) := by decide +kernel
theorem d_X11_best_29 : decode (gw_mC M_X11_best) 29 = .ok (.getfield 180, 3) := by decide +kernel
theorem d_X11_best_32 : decode (gw_mC M_X11_best) 32 = .ok (.ifCond .ne 6, 3) := by decide +kernel
theorem d_X11_best_35 : decode (gw_mC M_X11_best) 35 = .ok (.bipush (-2), 2) := by decide +kernel
theorem d_X11_best_37 : decode (gw_mC M_X11_best) 37 = .ok (.ireturn, 1) := by decide +kernel
theorem d_X11_best_38 : decode (gw_mC M_X11_best) 38 = .ok (.aload_n 0, 1) := by decide +kernel
theorem d_X11_best_39 : decode (gw_mC M_X11_best) 39 = .ok (.getfield 68, 3) := by decide +kernel
theorem d_X11_best_42 : decode (gw_mC M_X11_best) 42 = .ok (.iload_n 1, 1) := by decide +kernel
theorem d_X11_best_43 : decode (gw_mC M_X11_best) 43 = .ok (.if_icmp .eq 13, 3) := by decide +kernel
theorem d_X11_best_46 : decode (gw_mC M_X11_best) 46 = .ok (.aload_n 0, 1) := by decide +kernel
theorem d_X11_best_47 : decode (gw_mC M_X11_best) 47 = .ok (.iload_n 1, 1) := by decide +kernel
theorem d_X11_best_48 : decode (gw_mC M_X11_best) 48 = .ok (.invokevirtual 229, 3) := by decide +kernel
theorem d_X11_best_51 : decode (gw_mC M_X11_best) 51 = .ok (.aload_n 0, 1) := by decide +kernel
theorem d_X11_best_52 : decode (gw_mC M_X11_best) 52 = .ok (.iload_n 1, 1) := by decide +kernel
theorem d_X11_best_53 : decode (gw_mC M_X11_best) 53 = .ok (.putfield 68, 3) := by decide +kernel
theorem d_X11_best_56 : decode (gw_mC M_X11_best) 56 = .ok (.aload_n 0, 1) := by decide +kernel
theorem d_X11_best_57 : decode (gw_mC M_X11_best) 57 = .ok (.getfield 65, 3) := by decide +kernel
theorem d_X11_best_60 : decode (gw_mC M_X11_best) 60 = .ok (.iconst 3, 1) := by decide +kernel
theorem d_X11_best_61 : decode (gw_mC M_X11_best) 61 = .ok (.iaload, 1) := by decide +kernel
theorem d_X11_best_62 : decode (gw_mC M_X11_best) 62 = .ok (.ifCond .ge 8, 3) := by decide +kernel
theorem d_X11_best_65 : decode (gw_mC M_X11_best) 65 = .ok (.bipush (-4), 2) := by decide +kernel
theorem d_X11_best_67 : decode (gw_mC M_X11_best) 67 = .ok (.goto 9, 3) := by decide +kernel
theorem d_X11_best_70 : decode (gw_mC M_X11_best) 70 = .ok (.aload_n 0, 1) := by decide +kernel
theorem d_X11_best_71 : decode (gw_mC M_X11_best) 71 = .ok (.getfield 65, 3) := by decide +kernel
theorem d_X11_best_74 : decode (gw_mC M_X11_best) 74 = .ok (.iload_n 2, 1) := by decide +kernel
theorem d_X11_best_75 : decode (gw_mC M_X11_best) 75 = .ok (.iaload, 1) := by decide +kernel
theorem d_X11_best_76 : decode (gw_mC M_X11_best) 76 = .ok (.ireturn, 1) := by decide +kernel
theorem d_X11_worth_0 : decode (gw_mC M_X11_worth) 0 = .ok (.aload_n 0, 1) := by decide +kernel
theorem d_X11_worth_1 : decode (gw_mC M_X11_worth) 1 = .ok (.iload_n 1, 1) := by decide +kernel
theorem d_X11_worth_2 : decode (gw_mC M_X11_worth) 2 = .ok (.invokevirtual 134, 3) := by decide +kernel
theorem d_X11_worth_5 : decode (gw_mC M_X11_worth) 5 = .ok (.ifCond .ne 6, 3) := by decide +kernel
theorem d_X11_worth_8 : decode (gw_mC M_X11_worth) 8 = .ok (.ldc 233, 2) := by decide +kernel
theorem d_X11_worth_10 : decode (gw_mC M_X11_worth) 10 = .ok (.ireturn, 1) := by decide +kernel
theorem d_X11_worth_11 : decode (gw_mC M_X11_worth) 11 = .ok (.aload_n 0, 1) := by decide +kernel
theorem d_X11_worth_12 : decode (gw_mC M_X11_worth) 12 = .ok (.getfield 10, 3) := by decide +kernel
theorem d_X11_worth_15 : decode (gw_mC M_X11_worth) 15 = .ok (.getfield 128, 3) := by decide +kernel
theorem d_X11_worth_18 : decode (gw_mC M_X11_worth) 18 = .ok (.getfield 138, 3) := by decide +kernel
theorem d_X11_worth_21 : decode (gw_mC M_X11_worth) 21 = .ok (.iload_n 1, 1) := by decide +kernel
theorem d_X11_worth_22 : decode (gw_mC M_X11_worth) 22 = .ok (.iaload, 1) := by decide +kernel
theorem d_X11_worth_23 : decode (gw_mC M_X11_worth) 23 = .ok (.iconst 3, 1) := by decide +kernel
theorem d_X11_worth_24 : decode (gw_mC M_X11_worth) 24 = .ok (.if_icmp .ne 7, 3) := by decide +kernel
theorem d_X11_worth_27 : decode (gw_mC M_X11_worth) 27 = .ok (.iconst 1, 1) := by decide +kernel
theorem d_X11_worth_28 : decode (gw_mC M_X11_worth) 28 = .ok (.goto 4, 3) := by decide +kernel
theorem d_X11_worth_31 : decode (gw_mC M_X11_worth) 31 = .ok (.iconst 0, 1) := by decide +kernel
theorem d_X11_worth_32 : decode (gw_mC M_X11_worth) 32 = .ok (.istore_n 2, 1) := by decide +kernel
theorem d_X11_worth_33 : decode (gw_mC M_X11_worth) 33 = .ok (.iload_n 2, 1) := by decide +kernel
theorem d_X11_worth_34 : decode (gw_mC M_X11_worth) 34 = .ok (.ifCond .ne 21, 3) := by decide +kernel
theorem d_X11_worth_37 : decode (gw_mC M_X11_worth) 37 = .ok (.aload_n 0, 1) := by decide +kernel
theorem d_X11_worth_38 : decode (gw_mC M_X11_worth) 38 = .ok (.getfield 10, 3) := by decide +kernel
theorem d_X11_worth_41 : decode (gw_mC M_X11_worth) 41 = .ok (.getfield 128, 3) := by decide +kernel
theorem d_X11_worth_44 : decode (gw_mC M_X11_worth) 44 = .ok (.getfield 144, 3) := by decide +kernel
theorem d_X11_worth_47 : decode (gw_mC M_X11_worth) 47 = .ok (.iload_n 1, 1) := by decide +kernel
theorem d_X11_worth_48 : decode (gw_mC M_X11_worth) 48 = .ok (.baload, 1) := by decide +kernel
theorem d_X11_worth_49 : decode (gw_mC M_X11_worth) 49 = .ok (.ifCond .ne 6, 3) := by decide +kernel
theorem d_X11_worth_52 : decode (gw_mC M_X11_worth) 52 = .ok (.ldc 234, 2) := by decide +kernel
theorem d_X11_worth_54 : decode (gw_mC M_X11_worth) 54 = .ok (.ireturn, 1) := by decide +kernel
theorem d_X11_worth_55 : decode (gw_mC M_X11_worth) 55 = .ok (.aload_n 0, 1) := by decide +kernel
theorem d_X11_worth_56 : decode (gw_mC M_X11_worth) 56 = .ok (.invokevirtual 187, 3) := by decide +kernel
theorem d_X11_worth_59 : decode (gw_mC M_X11_worth) 59 = .ok (.aload_n 0, 1) := by decide +kernel
theorem d_X11_worth_60 : decode (gw_mC M_X11_worth) 60 = .ok (.getfield 51, 3) := by decide +kernel
theorem d_X11_worth_63 : decode (gw_mC M_X11_worth) 63 = .ok (.aload_n 0, 1) := by decide +kernel
theorem d_X11_worth_64 : decode (gw_mC M_X11_worth) 64 = .ok (.getfield 10, 3) := by decide +kernel
theorem d_X11_worth_67 : decode (gw_mC M_X11_worth) 67 = .ok (.invokevirtual 235, 3) := by decide +kernel
theorem d_X11_worth_70 : decode (gw_mC M_X11_worth) 70 = .ok (.iload_n 2, 1) := by decide +kernel
theorem d_X11_worth_71 : decode (gw_mC M_X11_worth) 71 = .ok (.ifCond .eq 19, 3) := by decide +kernel
theorem d_X11_worth_74 : decode (gw_mC M_X11_worth) 74 = .ok (.aload_n 0, 1) := by decide +kernel
theorem d_X11_worth_75 : decode (gw_mC M_X11_worth) 75 = .ok (.getfield 51, 3) := by decide +kernel
theorem d_X11_worth_78 : decode (gw_mC M_X11_worth) 78 = .ok (.getfield 239, 3) := by decide +kernel
theorem d_X11_worth_81 : decode (gw_mC M_X11_worth) 81 = .ok (.getfield 138, 3) := by decide +kernel
theorem d_X11_worth_84 : decode (gw_mC M_X11_worth) 84 = .ok (.iload_n 1, 1) := by decide +kernel
theorem d_X11_worth_85 : decode (gw_mC M_X11_worth) 85 = .ok (.iconst 0, 1) := by decide +kernel
theorem d_X11_worth_86 : decode (gw_mC M_X11_worth) 86 = .ok (.iastore, 1) := by decide +kernel
theorem d_X11_worth_87 : decode (gw_mC M_X11_worth) 87 = .ok (.goto 16, 3) := by decide +kernel
theorem d_X11_worth_90 : decode (gw_mC M_X11_worth) 90 = .ok (.aload_n 0, 1) := by decide +kernel
theorem d_X11_worth_91 : decode (gw_mC M_X11_worth) 91 = .ok (.getfield 51, 3) := by decide +kernel
theorem d_X11_worth_94 : decode (gw_mC M_X11_worth) 94 = .ok (.getfield 239, 3) := by decide +kernel
theorem d_X11_worth_97 : decode (gw_mC M_X11_worth) 97 = .ok (.getfield 144, 3) := by decide +kernel
theorem d_X11_worth_100 : decode (gw_mC M_X11_worth) 100 = .ok (.iload_n 1, 1) := by decide +kernel
theorem d_X11_worth_101 : decode (gw_mC M_X11_worth) 101 = .ok (.iconst 0, 1) := by decide +kernel
theorem d_X11_worth_102 : decode (gw_mC M_X11_worth) 102 = .ok (.bastore, 1) := by decide +kernel
theorem d_X11_worth_103 : decode (gw_mC M_X11_worth) 103 = .ok (.aload_n 0, 1) := by decide +kernel
theorem d_X11_worth_104 : decode (gw_mC M_X11_worth) 104 = .ok (.getfield 51, 3) := by decide +kernel
theorem d_X11_worth_107 : decode (gw_mC M_X11_worth) 107 = .ok (.invokevirtual 240, 3) := by decide +kernel
theorem d_X11_worth_110 : decode (gw_mC M_X11_worth) 110 = .ok (.iconst 0, 1) := by decide +kernel
theorem d_X11_worth_111 : decode (gw_mC M_X11_worth) 111 = .ok (.istore_n 3, 1) := by decide +kernel
theorem d_X11_worth_112 : decode (gw_mC M_X11_worth) 112 = .ok (.iload_n 3, 1) := by decide +kernel
theorem d_X11_worth_113 : decode (gw_mC M_X11_worth) 113 = .ok (.sipush 300, 3) := by decide +kernel
theorem d_X11_worth_116 : decode (gw_mC M_X11_worth) 116 = .ok (.if_icmp .ge 27, 3) := by decide +kernel
theorem d_X11_worth_119 : decode (gw_mC M_X11_worth) 119 = .ok (.aload_n 0, 1) := by decide +kernel
theorem d_X11_worth_120 : decode (gw_mC M_X11_worth) 120 = .ok (.getfield 51, 3) := by decide +kernel
theorem d_X11_worth_123 : decode (gw_mC M_X11_worth) 123 = .ok (.invokevirtual 243, 3) := by decide +kernel
theorem d_X11_worth_126 : decode (gw_mC M_X11_worth) 126 = .ok (.ifCond .ne 17, 3) := by decide +kernel
theorem d_X11_worth_129 : decode (gw_mC M_X11_worth) 129 = .ok (.aload_n 0, 1) := by decide +kernel
theorem d_X11_worth_130 : decode (gw_mC M_X11_worth) 130 = .ok (.getfield 51, 3) := by decide +kernel
theorem d_X11_worth_133 : decode (gw_mC M_X11_worth) 133 = .ok (.iload_n 3, 1) := by decide +kernel
theorem d_X11_worth_134 : decode (gw_mC M_X11_worth) 134 = .ok (.invokevirtual 247, 3) := by decide +kernel
theorem d_X11_worth_137 : decode (gw_mC M_X11_worth) 137 = .ok (.iinc 3 1, 3) := by decide +kernel
theorem d_X11_worth_140 : decode (gw_mC M_X11_worth) 140 = .ok (.goto (-28), 3) := by decide +kernel
theorem d_X11_worth_143 : decode (gw_mC M_X11_worth) 143 = .ok (.aload_n 0, 1) := by decide +kernel
theorem d_X11_worth_144 : decode (gw_mC M_X11_worth) 144 = .ok (.getfield 47, 3) := by decide +kernel
theorem d_X11_worth_147 : decode (gw_mC M_X11_worth) 147 = .ok (.invokevirtual 211, 3) := by decide +kernel
theorem d_X11_worth_150 : decode (gw_mC M_X11_worth) 150 = .ok (.aload_n 0, 1) := by decide +kernel
theorem d_X11_worth_151 : decode (gw_mC M_X11_worth) 151 = .ok (.getfield 51, 3) := by decide +kernel
theorem d_X11_worth_154 : decode (gw_mC M_X11_worth) 154 = .ok (.invokevirtual 211, 3) := by decide +kernel
theorem d_X11_worth_157 : decode (gw_mC M_X11_worth) 157 = .ok (.isub, 1) := by decide +kernel
theorem d_X11_worth_158 : decode (gw_mC M_X11_worth) 158 = .ok (.ireturn, 1) := by decide +kernel
theorem d_X11_chosen_0 : decode (gw_mC M_X11_chosen) 0 = .ok (.iload_n 1, 1) := by decide +kernel
theorem d_X11_chosen_1 : decode (gw_mC M_X11_chosen) 1 = .ok (.iconst 0, 1) := by decide +kernel
theorem d_X11_chosen_2 : decode (gw_mC M_X11_chosen) 2 = .ok (.sipush 999, 3) := by decide +kernel
theorem d_X11_chosen_5 : decode (gw_mC M_X11_chosen) 5 = .ok (.invokestatic 92, 3) := by decide +kernel
theorem d_X11_chosen_8 : decode (gw_mC M_X11_chosen) 8 = .ok (.ifCond .eq 12, 3) := by decide +kernel
theorem d_X11_chosen_11 : decode (gw_mC M_X11_chosen) 11 = .ok (.iload_n 2, 1) := by decide +kernel
theorem d_X11_chosen_12 : decode (gw_mC M_X11_chosen) 12 = .ok (.iconst 0, 1) := by decide +kernel
theorem d_X11_chosen_13 : decode (gw_mC M_X11_chosen) 13 = .ok (.iconst 1, 1) := by decide +kernel
theorem d_X11_chosen_14 : decode (gw_mC M_X11_chosen) 14 = .ok (.invokestatic 92, 3) := by decide +kernel
theorem d_X11_chosen_17 : decode (gw_mC M_X11_chosen) 17 = .ok (.ifCond .ne 5, 3) := by decide +kernel
theorem d_X11_chosen_20 : decode (gw_mC M_X11_chosen) 20 = .ok (.iconst (-1), 1) := by decide +kernel
theorem d_X11_chosen_21 : decode (gw_mC M_X11_chosen) 21 = .ok (.ireturn, 1) := by decide +kernel
theorem d_X11_chosen_22 : decode (gw_mC M_X11_chosen) 22 = .ok (.iload_n 1, 1) := by decide +kernel
theorem d_X11_chosen_23 : decode (gw_mC M_X11_chosen) 23 = .ok (.aload_n 0, 1) := by decide +kernel
theorem d_X11_chosen_24 : decode (gw_mC M_X11_chosen) 24 = .ok (.getfield 10, 3) := by decide +kernel
theorem d_X11_chosen_27 : decode (gw_mC M_X11_chosen) 27 = .ok (.getfield 96, 3) := by decide +kernel
theorem d_X11_chosen_30 : decode (gw_mC M_X11_chosen) 30 = .ok (.aload_n 0, 1) := by decide +kernel
theorem d_X11_chosen_31 : decode (gw_mC M_X11_chosen) 31 = .ok (.getfield 10, 3) := by decide +kernel
theorem d_X11_chosen_34 : decode (gw_mC M_X11_chosen) 34 = .ok (.getfield 154, 3) := by decide +kernel
theorem d_X11_chosen_37 : decode (gw_mC M_X11_chosen) 37 = .ok (.iconst 0, 1) := by decide +kernel
theorem d_X11_chosen_38 : decode (gw_mC M_X11_chosen) 38 = .ok (.iaload, 1) := by decide +kernel
theorem d_X11_chosen_39 : decode (gw_mC M_X11_chosen) 39 = .ok (.invokestatic 250, 3) := by decide +kernel
theorem d_X11_chosen_42 : decode (gw_mC M_X11_chosen) 42 = .ok (.isub, 1) := by decide +kernel
theorem d_X11_chosen_43 : decode (gw_mC M_X11_chosen) 43 = .ok (.istore_n 3, 1) := by decide +kernel
theorem d_X11_chosen_44 : decode (gw_mC M_X11_chosen) 44 = .ok (.iload_n 3, 1) := by decide +kernel
theorem d_X11_chosen_45 : decode (gw_mC M_X11_chosen) 45 = .ok (.ifCond .ge 6, 3) := by decide +kernel
theorem d_X11_chosen_48 : decode (gw_mC M_X11_chosen) 48 = .ok (.bipush (-4), 2) := by decide +kernel
theorem d_X11_chosen_50 : decode (gw_mC M_X11_chosen) 50 = .ok (.ireturn, 1) := by decide +kernel
theorem d_X11_chosen_51 : decode (gw_mC M_X11_chosen) 51 = .ok (.iconst 0, 1) := by decide +kernel
theorem d_X11_chosen_52 : decode (gw_mC M_X11_chosen) 52 = .ok (.istore 4, 2) := by decide +kernel
theorem d_X11_chosen_54 : decode (gw_mC M_X11_chosen) 54 = .ok (.iconst 0, 1) := by decide +kernel
theorem d_X11_chosen_55 : decode (gw_mC M_X11_chosen) 55 = .ok (.istore 5, 2) := by decide +kernel
theorem d_X11_chosen_57 : decode (gw_mC M_X11_chosen) 57 = .ok (.iconst 1, 1) := by decide +kernel
theorem d_X11_chosen_58 : decode (gw_mC M_X11_chosen) 58 = .ok (.aload_n 0, 1) := by decide +kernel
theorem d_X11_chosen_59 : decode (gw_mC M_X11_chosen) 59 = .ok (.getfield 10, 3) := by decide +kernel
theorem d_X11_chosen_62 : decode (gw_mC M_X11_chosen) 62 = .ok (.getfield 108, 3) := by decide +kernel
theorem d_X11_chosen_65 : decode (gw_mC M_X11_chosen) 65 = .ok (.getfield 115, 3) := by decide +kernel
theorem d_X11_chosen_68 : decode (gw_mC M_X11_chosen) 68 = .ok (.iconst 0, 1) := by decide +kernel
theorem d_X11_chosen_69 : decode (gw_mC M_X11_chosen) 69 = .ok (.iaload, 1) := by decide +kernel
theorem d_X11_chosen_70 : decode (gw_mC M_X11_chosen) 70 = .ok (.ishl, 1) := by decide +kernel
theorem d_X11_chosen_71 : decode (gw_mC M_X11_chosen) 71 = .ok (.istore 6, 2) := by decide +kernel
theorem d_X11_chosen_73 : decode (gw_mC M_X11_chosen) 73 = .ok (.iconst 1, 1) := by decide +kernel
theorem d_X11_chosen_74 : decode (gw_mC M_X11_chosen) 74 = .ok (.istore 7, 2) := by decide +kernel
theorem d_X11_chosen_76 : decode (gw_mC M_X11_chosen) 76 = .ok (.iload 7, 2) := by decide +kernel
theorem d_X11_chosen_78 : decode (gw_mC M_X11_chosen) 78 = .ok (.iload 6, 2) := by decide +kernel
theorem d_X11_chosen_80 : decode (gw_mC M_X11_chosen) 80 = .ok (.if_icmp .ge 36, 3) := by decide +kernel
theorem d_X11_chosen_83 : decode (gw_mC M_X11_chosen) 83 = .ok (.aload_n 0, 1) := by decide +kernel
theorem d_X11_chosen_84 : decode (gw_mC M_X11_chosen) 84 = .ok (.getfield 10, 3) := by decide +kernel
theorem d_X11_chosen_87 : decode (gw_mC M_X11_chosen) 87 = .ok (.iload 7, 2) := by decide +kernel
theorem d_X11_chosen_89 : decode (gw_mC M_X11_chosen) 89 = .ok (.iload_n 3, 1) := by decide +kernel
theorem d_X11_chosen_90 : decode (gw_mC M_X11_chosen) 90 = .ok (.invokevirtual 253, 3) := by decide +kernel
theorem d_X11_chosen_93 : decode (gw_mC M_X11_chosen) 93 = .ok (.istore 8, 2) := by decide +kernel
theorem d_X11_chosen_95 : decode (gw_mC M_X11_chosen) 95 = .ok (.iload 8, 2) := by decide +kernel
theorem d_X11_chosen_97 : decode (gw_mC M_X11_chosen) 97 = .ok (.iload 5, 2) := by decide +kernel
theorem d_X11_chosen_99 : decode (gw_mC M_X11_chosen) 99 = .ok (.if_icmp .le 11, 3) := by decide +kernel
theorem d_X11_chosen_102 : decode (gw_mC M_X11_chosen) 102 = .ok (.iload 7, 2) := by decide +kernel
theorem d_X11_chosen_104 : decode (gw_mC M_X11_chosen) 104 = .ok (.istore 4, 2) := by decide +kernel
theorem d_X11_chosen_106 : decode (gw_mC M_X11_chosen) 106 = .ok (.iload 8, 2) := by decide +kernel
theorem d_X11_chosen_108 : decode (gw_mC M_X11_chosen) 108 = .ok (.istore 5, 2) := by decide +kernel
theorem d_X11_chosen_110 : decode (gw_mC M_X11_chosen) 110 = .ok (.iinc 7 1, 3) := by decide +kernel
theorem d_X11_chosen_113 : decode (gw_mC M_X11_chosen) 113 = .ok (.goto (-37), 3) := by decide +kernel
theorem d_X11_chosen_116 : decode (gw_mC M_X11_chosen) 116 = .ok (.iload_n 2, 1) := by decide +kernel
theorem d_X11_chosen_117 : decode (gw_mC M_X11_chosen) 117 = .ok (.ifCond .ne 8, 3) := by decide +kernel
theorem d_X11_chosen_120 : decode (gw_mC M_X11_chosen) 120 = .ok (.iload 4, 2) := by decide +kernel
theorem d_X11_chosen_122 : decode (gw_mC M_X11_chosen) 122 = .ok (.goto 5, 3) := by decide +kernel
theorem d_X11_chosen_125 : decode (gw_mC M_X11_chosen) 125 = .ok (.iload 5, 2) := by decide +kernel
theorem d_X11_chosen_127 : decode (gw_mC M_X11_chosen) 127 = .ok (.ireturn, 1) := by decide +kernel
theorem d_X11_counted_0 : decode (gw_mC M_X11_counted) 0 = .ok (.iload_n 1, 1) := by decide +kernel
theorem d_X11_counted_1 : decode (gw_mC M_X11_counted) 1 = .ok (.iconst 1, 1) := by decide +kernel
theorem d_X11_counted_2 : decode (gw_mC M_X11_counted) 2 = .ok (.bipush 8, 2) := by decide +kernel
theorem d_X11_counted_4 : decode (gw_mC M_X11_counted) 4 = .ok (.invokestatic 92, 3) := by decide +kernel
theorem d_X11_counted_7 : decode (gw_mC M_X11_counted) 7 = .ok (.ifCond .eq 13, 3) := by decide +kernel
theorem d_X11_counted_10 : decode (gw_mC M_X11_counted) 10 = .ok (.iload_n 2, 1) := by decide +kernel
theorem d_X11_counted_11 : decode (gw_mC M_X11_counted) 11 = .ok (.iload_n 3, 1) := by decide +kernel
theorem d_X11_counted_12 : decode (gw_mC M_X11_counted) 12 = .ok (.iload 4, 2) := by decide +kernel
theorem d_X11_counted_14 : decode (gw_mC M_X11_counted) 14 = .ok (.invokestatic 256, 3) := by decide +kernel
theorem d_X11_counted_17 : decode (gw_mC M_X11_counted) 17 = .ok (.ifCond .ne 5, 3) := by decide +kernel
theorem d_X11_counted_20 : decode (gw_mC M_X11_counted) 20 = .ok (.iconst (-1), 1) := by decide +kernel
theorem d_X11_counted_21 : decode (gw_mC M_X11_counted) 21 = .ok (.ireturn, 1) := by decide +kernel
theorem d_X11_counted_22 : decode (gw_mC M_X11_counted) 22 = .ok (.aload_n 0, 1) := by decide +kernel
theorem d_X11_counted_23 : decode (gw_mC M_X11_counted) 23 = .ok (.getfield 10, 3) := by decide +kernel
theorem d_X11_counted_26 : decode (gw_mC M_X11_counted) 26 = .ok (.invokevirtual 183, 3) := by decide +kernel
theorem d_X11_counted_29 : decode (gw_mC M_X11_counted) 29 = .ok (.istore 5, 2) := by decide +kernel
theorem d_X11_counted_31 : decode (gw_mC M_X11_counted) 31 = .ok (.iload 5, 2) := by decide +kernel
theorem d_X11_counted_33 : decode (gw_mC M_X11_counted) 33 = .ok (.ifCond .ne 8, 3) := by decide +kernel
theorem d_X11_counted_36 : decode (gw_mC M_X11_counted) 36 = .ok (.bipush (-2), 2) := by decide +kernel
theorem d_X11_counted_38 : decode (gw_mC M_X11_counted) 38 = .ok (.goto 17, 3) := by decide +kernel
theorem d_X11_counted_41 : decode (gw_mC M_X11_counted) 41 = .ok (.iload 5, 2) := by decide +kernel
theorem d_X11_counted_43 : decode (gw_mC M_X11_counted) 43 = .ok (.iload_n 1, 1) := by decide +kernel
theorem d_X11_counted_44 : decode (gw_mC M_X11_counted) 44 = .ok (.bipush 100, 2) := by decide +kernel
theorem d_X11_counted_46 : decode (gw_mC M_X11_counted) 46 = .ok (.iload_n 2, 1) := by decide +kernel
theorem d_X11_counted_47 : decode (gw_mC M_X11_counted) 47 = .ok (.imul, 1) := by decide +kernel
theorem d_X11_counted_48 : decode (gw_mC M_X11_counted) 48 = .ok (.iload 4, 2) := by decide +kernel
theorem d_X11_counted_50 : decode (gw_mC M_X11_counted) 50 = .ok (.iload_n 3, 1) := by decide +kernel
theorem d_X11_counted_51 : decode (gw_mC M_X11_counted) 51 = .ok (.imul, 1) := by decide +kernel
theorem d_X11_counted_52 : decode (gw_mC M_X11_counted) 52 = .ok (.invokestatic 259, 3) := by decide +kernel
theorem d_X11_counted_55 : decode (gw_mC M_X11_counted) 55 = .ok (.ireturn, 1) := by decide +kernel
theorem d_X11_often_0 : decode (gw_mC M_X11_often) 0 = .ok (.iload_n 1, 1) := by decide +kernel
theorem d_X11_often_1 : decode (gw_mC M_X11_often) 1 = .ok (.iload_n 2, 1) := by decide +kernel
theorem d_X11_often_2 : decode (gw_mC M_X11_often) 2 = .ok (.iload_n 3, 1) := by decide +kernel
theorem d_X11_often_3 : decode (gw_mC M_X11_often) 3 = .ok (.invokestatic 256, 3) := by decide +kernel
theorem d_X11_often_6 : decode (gw_mC M_X11_often) 6 = .ok (.ifCond .ne 5, 3) := by decide +kernel
theorem d_X11_often_9 : decode (gw_mC M_X11_often) 9 = .ok (.iconst (-1), 1) := by decide +kernel
theorem d_X11_often_10 : decode (gw_mC M_X11_often) 10 = .ok (.ireturn, 1) := by decide +kernel
theorem d_X11_often_11 : decode (gw_mC M_X11_often) 11 = .ok (.aload_n 0, 1) := by decide +kernel
theorem d_X11_often_12 : decode (gw_mC M_X11_often) 12 = .ok (.getfield 10, 3) := by decide +kernel
theorem d_X11_often_15 : decode (gw_mC M_X11_often) 15 = .ok (.invokevirtual 183, 3) := by decide +kernel
theorem d_X11_often_18 : decode (gw_mC M_X11_often) 18 = .ok (.istore 4, 2) := by decide +kernel
theorem d_X11_often_20 : decode (gw_mC M_X11_often) 20 = .ok (.iload 4, 2) := by decide +kernel
theorem d_X11_often_22 : decode (gw_mC M_X11_often) 22 = .ok (.ifCond .ne 6, 3) := by decide +kernel
theorem d_X11_often_25 : decode (gw_mC M_X11_often) 25 = .ok (.bipush (-2), 2) := by decide +kernel
theorem d_X11_often_27 : decode (gw_mC M_X11_often) 27 = .ok (.ireturn, 1) := by decide +kernel
theorem d_X11_often_28 : decode (gw_mC M_X11_often) 28 = .ok (.iconst 1, 1) := by decide +kernel
theorem d_X11_often_29 : decode (gw_mC M_X11_often) 29 = .ok (.istore 5, 2) := by decide +kernel
theorem d_X11_often_31 : decode (gw_mC M_X11_often) 31 = .ok (.iload 4, 2) := by decide +kernel
theorem d_X11_often_33 : decode (gw_mC M_X11_often) 33 = .ok (.iconst 1, 1) := by decide +kernel
theorem d_X11_often_34 : decode (gw_mC M_X11_often) 34 = .ok (.bipush 100, 2) := by decide +kernel
theorem d_X11_often_36 : decode (gw_mC M_X11_often) 36 = .ok (.iload_n 1, 1) := by decide +kernel
theorem d_X11_often_37 : decode (gw_mC M_X11_often) 37 = .ok (.imul, 1) := by decide +kernel
theorem d_X11_often_38 : decode (gw_mC M_X11_often) 38 = .ok (.iload_n 3, 1) := by decide +kernel
theorem d_X11_often_39 : decode (gw_mC M_X11_often) 39 = .ok (.iload_n 2, 1) := by decide +kernel
theorem d_X11_often_40 : decode (gw_mC M_X11_often) 40 = .ok (.imul, 1) := by decide +kernel
theorem d_X11_often_41 : decode (gw_mC M_X11_often) 41 = .ok (.invokestatic 259, 3) := by decide +kernel
theorem d_X11_often_44 : decode (gw_mC M_X11_often) 44 = .ok (.istore 6, 2) := by decide +kernel
theorem d_X11_often_46 : decode (gw_mC M_X11_often) 46 = .ok (.iconst 2, 1) := by decide +kernel
theorem d_X11_often_47 : decode (gw_mC M_X11_often) 47 = .ok (.istore 7, 2) := by decide +kernel
theorem d_X11_often_49 : decode (gw_mC M_X11_often) 49 = .ok (.iload 7, 2) := by decide +kernel
theorem d_X11_often_51 : decode (gw_mC M_X11_often) 51 = .ok (.bipush 8, 2) := by decide +kernel
theorem d_X11_often_53 : decode (gw_mC M_X11_often) 53 = .ok (.if_icmp .gt 40, 3) := by decide +kernel
theorem d_X11_often_56 : decode (gw_mC M_X11_often) 56 = .ok (.iload 4, 2) := by decide +kernel
theorem d_X11_often_58 : decode (gw_mC M_X11_often) 58 = .ok (.iload 7, 2) := by decide +kernel
theorem d_X11_often_60 : decode (gw_mC M_X11_often) 60 = .ok (.bipush 100, 2) := by decide +kernel
theorem d_X11_often_62 : decode (gw_mC M_X11_often) 62 = .ok (.iload_n 1, 1) := by decide +kernel
theorem d_X11_often_63 : decode (gw_mC M_X11_often) 63 = .ok (.imul, 1) := by decide +kernel
theorem d_X11_often_64 : decode (gw_mC M_X11_often) 64 = .ok (.iload_n 3, 1) := by decide +kernel
theorem d_X11_often_65 : decode (gw_mC M_X11_often) 65 = .ok (.iload_n 2, 1) := by decide +kernel
theorem d_X11_often_66 : decode (gw_mC M_X11_often) 66 = .ok (.imul, 1) := by decide +kernel
theorem d_X11_often_67 : decode (gw_mC M_X11_often) 67 = .ok (.invokestatic 259, 3) := by decide +kernel
theorem d_X11_often_70 : decode (gw_mC M_X11_often) 70 = .ok (.istore 8, 2) := by decide +kernel
theorem d_X11_often_72 : decode (gw_mC M_X11_often) 72 = .ok (.iload 8, 2) := by decide +kernel
theorem d_X11_often_74 : decode (gw_mC M_X11_often) 74 = .ok (.iload 6, 2) := by decide +kernel
theorem d_X11_often_76 : decode (gw_mC M_X11_often) 76 = .ok (.if_icmp .ge 11, 3) := by decide +kernel
theorem d_X11_often_79 : decode (gw_mC M_X11_often) 79 = .ok (.iload 7, 2) := by decide +kernel
theorem d_X11_often_81 : decode (gw_mC M_X11_often) 81 = .ok (.istore 5, 2) := by decide +kernel
theorem d_X11_often_83 : decode (gw_mC M_X11_often) 83 = .ok (.iload 8, 2) := by decide +kernel
theorem d_X11_often_85 : decode (gw_mC M_X11_often) 85 = .ok (.istore 6, 2) := by decide +kernel
theorem d_X11_often_87 : decode (gw_mC M_X11_often) 87 = .ok (.iinc 7 1, 3) := by decide +kernel
theorem d_X11_often_90 : decode (gw_mC M_X11_often) 90 = .ok (.goto (-41), 3) := by decide +kernel
theorem d_X11_often_93 : decode (gw_mC M_X11_often) 93 = .ok (.iload 5, 2) := by decide +kernel
theorem d_X11_often_95 : decode (gw_mC M_X11_often) 95 = .ok (.ireturn, 1) := by decide +kernel
theorem d_X11_square_0 : decode (gw_mC M_X11_square) 0 = .ok (.iload_n 1, 1) := by decide +kernel
theorem d_X11_square_1 : decode (gw_mC M_X11_square) 1 = .ok (.iconst 0, 1) := by decide +kernel
theorem d_X11_square_2 : decode (gw_mC M_X11_square) 2 = .ok (.sipush 143, 3) := by decide +kernel
theorem d_X11_square_5 : decode (gw_mC M_X11_square) 5 = .ok (.invokestatic 92, 3) := by decide +kernel
theorem d_X11_square_8 : decode (gw_mC M_X11_square) 8 = .ok (.ifCond .eq 12, 3) := by decide +kernel
theorem d_X11_square_11 : decode (gw_mC M_X11_square) 11 = .ok (.iload_n 2, 1) := by decide +kernel
theorem d_X11_square_12 : decode (gw_mC M_X11_square) 12 = .ok (.iconst 0, 1) := by decide +kernel
theorem d_X11_square_13 : decode (gw_mC M_X11_square) 13 = .ok (.iconst 2, 1) := by decide +kernel
theorem d_X11_square_14 : decode (gw_mC M_X11_square) 14 = .ok (.invokestatic 92, 3) := by decide +kernel
theorem d_X11_square_17 : decode (gw_mC M_X11_square) 17 = .ok (.ifCond .ne 5, 3) := by decide +kernel
theorem d_X11_square_20 : decode (gw_mC M_X11_square) 20 = .ok (.iconst (-1), 1) := by decide +kernel
theorem d_X11_square_21 : decode (gw_mC M_X11_square) 21 = .ok (.ireturn, 1) := by decide +kernel
theorem d_X11_square_22 : decode (gw_mC M_X11_square) 22 = .ok (.aload_n 0, 1) := by decide +kernel
theorem d_X11_square_23 : decode (gw_mC M_X11_square) 23 = .ok (.getfield 10, 3) := by decide +kernel
theorem d_X11_square_26 : decode (gw_mC M_X11_square) 26 = .ok (.getfield 263, 3) := by decide +kernel
theorem d_X11_square_29 : decode (gw_mC M_X11_square) 29 = .ok (.getfield 267, 3) := by decide +kernel
theorem d_X11_square_32 : decode (gw_mC M_X11_square) 32 = .ok (.iload_n 1, 1) := by decide +kernel
theorem d_X11_square_33 : decode (gw_mC M_X11_square) 33 = .ok (.iaload, 1) := by decide +kernel
theorem d_X11_square_34 : decode (gw_mC M_X11_square) 34 = .ok (.istore_n 3, 1) := by decide +kernel
theorem d_X11_square_35 : decode (gw_mC M_X11_square) 35 = .ok (.aload_n 0, 1) := by decide +kernel
theorem d_X11_square_36 : decode (gw_mC M_X11_square) 36 = .ok (.getfield 10, 3) := by decide +kernel
theorem d_X11_square_39 : decode (gw_mC M_X11_square) 39 = .ok (.getfield 263, 3) := by decide +kernel
theorem d_X11_square_42 : decode (gw_mC M_X11_square) 42 = .ok (.getfield 267, 3) := by decide +kernel
theorem d_X11_square_45 : decode (gw_mC M_X11_square) 45 = .ok (.iload_n 1, 1) := by decide +kernel
theorem d_X11_square_46 : decode (gw_mC M_X11_square) 46 = .ok (.iload_n 2, 1) := by decide +kernel
theorem d_X11_square_47 : decode (gw_mC M_X11_square) 47 = .ok (.iastore, 1) := by decide +kernel
theorem d_X11_square_48 : decode (gw_mC M_X11_square) 48 = .ok (.iload_n 3, 1) := by decide +kernel
theorem d_X11_square_49 : decode (gw_mC M_X11_square) 49 = .ok (.ireturn, 1) := by decide +kernel
theorem d_X11_stand_0 : decode (gw_mC M_X11_stand) 0 = .ok (.iload_n 1, 1) := by decide +kernel
theorem d_X11_stand_1 : decode (gw_mC M_X11_stand) 1 = .ok (.iconst 0, 1) := by decide +kernel
theorem d_X11_stand_2 : decode (gw_mC M_X11_stand) 2 = .ok (.iconst 2, 1) := by decide +kernel
theorem d_X11_stand_3 : decode (gw_mC M_X11_stand) 3 = .ok (.invokestatic 92, 3) := by decide +kernel
theorem d_X11_stand_6 : decode (gw_mC M_X11_stand) 6 = .ok (.ifCond .ne 5, 3) := by decide +kernel
theorem d_X11_stand_9 : decode (gw_mC M_X11_stand) 9 = .ok (.iconst (-1), 1) := by decide +kernel
theorem d_X11_stand_10 : decode (gw_mC M_X11_stand) 10 = .ok (.ireturn, 1) := by decide +kernel
theorem d_X11_stand_11 : decode (gw_mC M_X11_stand) 11 = .ok (.aload_n 0, 1) := by decide +kernel
theorem d_X11_stand_12 : decode (gw_mC M_X11_stand) 12 = .ok (.getfield 10, 3) := by decide +kernel
theorem d_X11_stand_15 : decode (gw_mC M_X11_stand) 15 = .ok (.getfield 263, 3) := by decide +kernel
theorem d_X11_stand_18 : decode (gw_mC M_X11_stand) 18 = .ok (.aload_n 0, 1) := by decide +kernel
theorem d_X11_stand_19 : decode (gw_mC M_X11_stand) 19 = .ok (.getfield 10, 3) := by decide +kernel
theorem d_X11_stand_22 : decode (gw_mC M_X11_stand) 22 = .ok (.getfield 154, 3) := by decide +kernel
theorem d_X11_stand_25 : decode (gw_mC M_X11_stand) 25 = .ok (.iconst 4, 1) := by decide +kernel
theorem d_X11_stand_26 : decode (gw_mC M_X11_stand) 26 = .ok (.iaload, 1) := by decide +kernel
theorem d_X11_stand_27 : decode (gw_mC M_X11_stand) 27 = .ok (.invokevirtual 272, 3) := by decide +kernel
theorem d_X11_stand_30 : decode (gw_mC M_X11_stand) 30 = .ok (.iload_n 1, 1) := by decide +kernel
theorem d_X11_stand_31 : decode (gw_mC M_X11_stand) 31 = .ok (.ifCond .ne 14, 3) := by decide +kernel
theorem d_X11_stand_34 : decode (gw_mC M_X11_stand) 34 = .ok (.aload_n 0, 1) := by decide +kernel
theorem d_X11_stand_35 : decode (gw_mC M_X11_stand) 35 = .ok (.getfield 10, 3) := by decide +kernel
theorem d_X11_stand_38 : decode (gw_mC M_X11_stand) 38 = .ok (.getfield 263, 3) := by decide +kernel
theorem d_X11_stand_41 : decode (gw_mC M_X11_stand) 41 = .ok (.getfield 275, 3) := by decide +kernel
theorem d_X11_stand_44 : decode (gw_mC M_X11_stand) 44 = .ok (.ireturn, 1) := by decide +kernel
theorem d_X11_stand_45 : decode (gw_mC M_X11_stand) 45 = .ok (.aload_n 0, 1) := by decide +kernel
theorem d_X11_stand_46 : decode (gw_mC M_X11_stand) 46 = .ok (.getfield 10, 3) := by decide +kernel
theorem d_X11_stand_49 : decode (gw_mC M_X11_stand) 49 = .ok (.getfield 263, 3) := by decide +kernel
theorem d_X11_stand_52 : decode (gw_mC M_X11_stand) 52 = .ok (.getfield 275, 3) := by decide +kernel
theorem d_X11_stand_55 : decode (gw_mC M_X11_stand) 55 = .ok (.ifCond .ne 6, 3) := by decide +kernel
theorem d_X11_stand_58 : decode (gw_mC M_X11_stand) 58 = .ok (.bipush (-4), 2) := by decide +kernel
theorem d_X11_stand_60 : decode (gw_mC M_X11_stand) 60 = .ok (.ireturn, 1) := by decide +kernel
theorem d_X11_stand_61 : decode (gw_mC M_X11_stand) 61 = .ok (.iload_n 1, 1) := by decide +kernel
theorem d_X11_stand_62 : decode (gw_mC M_X11_stand) 62 = .ok (.iconst 1, 1) := by decide +kernel
theorem d_X11_stand_63 : decode (gw_mC M_X11_stand) 63 = .ok (.if_icmp .ne 16, 3) := by decide +kernel
theorem d_X11_stand_66 : decode (gw_mC M_X11_stand) 66 = .ok (.aload_n 0, 1) := by decide +kernel
theorem d_X11_stand_67 : decode (gw_mC M_X11_stand) 67 = .ok (.getfield 10, 3) := by decide +kernel
theorem d_X11_stand_70 : decode (gw_mC M_X11_stand) 70 = .ok (.getfield 263, 3) := by decide +kernel
theorem d_X11_stand_73 : decode (gw_mC M_X11_stand) 73 = .ok (.getfield 278, 3) := by decide +kernel
theorem d_X11_stand_76 : decode (gw_mC M_X11_stand) 76 = .ok (.goto 13, 3) := by decide +kernel
theorem d_X11_stand_79 : decode (gw_mC M_X11_stand) 79 = .ok (.aload_n 0, 1) := by decide +kernel
theorem d_X11_stand_80 : decode (gw_mC M_X11_stand) 80 = .ok (.getfield 10, 3) := by decide +kernel
theorem d_X11_stand_83 : decode (gw_mC M_X11_stand) 83 = .ok (.getfield 263, 3) := by decide +kernel
theorem d_X11_stand_86 : decode (gw_mC M_X11_stand) 86 = .ok (.getfield 281, 3) := by decide +kernel
theorem d_X11_stand_89 : decode (gw_mC M_X11_stand) 89 = .ok (.ireturn, 1) := by decide +kernel
theorem d_X11_colours_0 : decode (gw_mC M_X11_colours) 0 = .ok (.iload_n 1, 1) := by decide +kernel
theorem d_X11_colours_1 : decode (gw_mC M_X11_colours) 1 = .ok (.iconst 1, 1) := by decide +kernel
theorem d_X11_colours_2 : decode (gw_mC M_X11_colours) 2 = .ok (.bipush 8, 2) := by decide +kernel
theorem d_X11_colours_4 : decode (gw_mC M_X11_colours) 4 = .ok (.invokestatic 92, 3) := by decide +kernel
theorem d_X11_colours_7 : decode (gw_mC M_X11_colours) 7 = .ok (.ifCond .eq 22, 3) := by decide +kernel
theorem d_X11_colours_10 : decode (gw_mC M_X11_colours) 10 = .ok (.iload_n 3, 1) := by decide +kernel
theorem d_X11_colours_11 : decode (gw_mC M_X11_colours) 11 = .ok (.iconst (-1), 1) := by decide +kernel
theorem d_X11_colours_12 : decode (gw_mC M_X11_colours) 12 = .ok (.iload_n 1, 1) := by decide +kernel
theorem d_X11_colours_13 : decode (gw_mC M_X11_colours) 13 = .ok (.iconst 1, 1) := by decide +kernel
theorem d_X11_colours_14 : decode (gw_mC M_X11_colours) 14 = .ok (.isub, 1) := by decide +kernel
theorem d_X11_colours_15 : decode (gw_mC M_X11_colours) 15 = .ok (.invokestatic 92, 3) := by decide +kernel
theorem d_X11_colours_18 : decode (gw_mC M_X11_colours) 18 = .ok (.ifCond .eq 11, 3) := by decide +kernel
theorem d_X11_colours_21 : decode (gw_mC M_X11_colours) 21 = .ok (.iload_n 1, 1) := by decide +kernel
theorem d_X11_colours_22 : decode (gw_mC M_X11_colours) 22 = .ok (.iload_n 2, 1) := by decide +kernel
theorem d_X11_colours_23 : decode (gw_mC M_X11_colours) 23 = .ok (.invokestatic 284, 3) := by decide +kernel
theorem d_X11_colours_26 : decode (gw_mC M_X11_colours) 26 = .ok (.ifCond .ne 5, 3) := by decide +kernel
theorem d_X11_colours_29 : decode (gw_mC M_X11_colours) 29 = .ok (.iconst (-1), 1) := by decide +kernel
theorem d_X11_colours_30 : decode (gw_mC M_X11_colours) 30 = .ok (.ireturn, 1) := by decide +kernel
theorem d_X11_colours_31 : decode (gw_mC M_X11_colours) 31 = .ok (.aload_n 0, 1) := by decide +kernel
theorem d_X11_colours_32 : decode (gw_mC M_X11_colours) 32 = .ok (.getfield 74, 3) := by decide +kernel
theorem d_X11_colours_35 : decode (gw_mC M_X11_colours) 35 = .ok (.iload_n 1, 1) := by decide +kernel
theorem d_X11_colours_36 : decode (gw_mC M_X11_colours) 36 = .ok (.iload_n 2, 1) := by decide +kernel
theorem d_X11_colours_37 : decode (gw_mC M_X11_colours) 37 = .ok (.invokevirtual 288, 3) := by decide +kernel
theorem d_X11_colours_40 : decode (gw_mC M_X11_colours) 40 = .ok (.aload_n 0, 1) := by decide +kernel
theorem d_X11_colours_41 : decode (gw_mC M_X11_colours) 41 = .ok (.getfield 74, 3) := by decide +kernel
theorem d_X11_colours_44 : decode (gw_mC M_X11_colours) 44 = .ok (.invokevirtual 291, 3) := by decide +kernel
theorem d_X11_colours_47 : decode (gw_mC M_X11_colours) 47 = .ok (.istore 4, 2) := by decide +kernel
theorem d_X11_colours_49 : decode (gw_mC M_X11_colours) 49 = .ok (.iload_n 3, 1) := by decide +kernel
theorem d_X11_colours_50 : decode (gw_mC M_X11_colours) 50 = .ok (.ifCond .ge 8, 3) := by decide +kernel
theorem d_X11_colours_53 : decode (gw_mC M_X11_colours) 53 = .ok (.iload 4, 2) := by decide +kernel
theorem d_X11_colours_55 : decode (gw_mC M_X11_colours) 55 = .ok (.goto 12, 3) := by decide +kernel
theorem d_X11_colours_58 : decode (gw_mC M_X11_colours) 58 = .ok (.aload_n 0, 1) := by decide +kernel
theorem d_X11_colours_59 : decode (gw_mC M_X11_colours) 59 = .ok (.getfield 74, 3) := by decide +kernel
theorem d_X11_colours_62 : decode (gw_mC M_X11_colours) 62 = .ok (.getfield 294, 3) := by decide +kernel
theorem d_X11_colours_65 : decode (gw_mC M_X11_colours) 65 = .ok (.iload_n 3, 1) := by decide +kernel
theorem d_X11_colours_66 : decode (gw_mC M_X11_colours) 66 = .ok (.iaload, 1) := by decide +kernel
theorem d_X11_colours_67 : decode (gw_mC M_X11_colours) 67 = .ok (.ireturn, 1) := by decide +kernel
theorem d_X11_image_0 : decode (gw_mC M_X11_image) 0 = .ok (.aload_n 0, 1) := by decide +kernel
theorem d_X11_image_1 : decode (gw_mC M_X11_image) 1 = .ok (.getfield 16, 3) := by decide +kernel
theorem d_X11_image_4 : decode (gw_mC M_X11_image) 4 = .ok (.aload_n 0, 1) := by decide +kernel
theorem d_X11_image_5 : decode (gw_mC M_X11_image) 5 = .ok (.getfield 10, 3) := by decide +kernel
theorem d_X11_image_8 : decode (gw_mC M_X11_image) 8 = .ok (.invokevirtual 297, 3) := by decide +kernel
theorem d_X11_image_11 : decode (gw_mC M_X11_image) 11 = .ok (.aload_n 0, 1) := by decide +kernel
theorem d_X11_image_12 : decode (gw_mC M_X11_image) 12 = .ok (.iconst 1, 1) := by decide +kernel
theorem d_X11_image_13 : decode (gw_mC M_X11_image) 13 = .ok (.putfield 19, 3) := by decide +kernel
theorem d_X11_image_16 : decode (gw_mC M_X11_image) 16 = .ok (.iconst 1, 1) := by decide +kernel
theorem d_X11_image_17 : decode (gw_mC M_X11_image) 17 = .ok (.ireturn, 1) := by decide +kernel
theorem d_X11_restore_0 : decode (gw_mC M_X11_restore) 0 = .ok (.aload_n 0, 1) := by decide +kernel
theorem d_X11_restore_1 : decode (gw_mC M_X11_restore) 1 = .ok (.getfield 19, 3) := by decide +kernel
theorem d_X11_restore_4 : decode (gw_mC M_X11_restore) 4 = .ok (.ifCond .ne 6, 3) := by decide +kernel
theorem d_X11_restore_7 : decode (gw_mC M_X11_restore) 7 = .ok (.bipush (-4), 2) := by decide +kernel
theorem d_X11_restore_9 : decode (gw_mC M_X11_restore) 9 = .ok (.ireturn, 1) := by decide +kernel
theorem d_X11_restore_10 : decode (gw_mC M_X11_restore) 10 = .ok (.aload_n 0, 1) := by decide +kernel
theorem d_X11_restore_11 : decode (gw_mC M_X11_restore) 11 = .ok (.getfield 10, 3) := by decide +kernel
theorem d_X11_restore_14 : decode (gw_mC M_X11_restore) 14 = .ok (.aload_n 0, 1) := by decide +kernel
theorem d_X11_restore_15 : decode (gw_mC M_X11_restore) 15 = .ok (.getfield 16, 3) := by decide +kernel
theorem d_X11_restore_18 : decode (gw_mC M_X11_restore) 18 = .ok (.invokevirtual 297, 3) := by decide +kernel
theorem d_X11_restore_21 : decode (gw_mC M_X11_restore) 21 = .ok (.aload_n 0, 1) := by decide +kernel
theorem d_X11_restore_22 : decode (gw_mC M_X11_restore) 22 = .ok (.invokevirtual 99, 3) := by decide +kernel
theorem d_X11_restore_25 : decode (gw_mC M_X11_restore) 25 = .ok (.iconst 1, 1) := by decide +kernel
theorem d_X11_restore_26 : decode (gw_mC M_X11_restore) 26 = .ok (.ireturn, 1) := by decide +kernel
theorem d_X11_slots_0 : decode (gw_mC M_X11_slots) 0 = .ok (.iload_n 1, 1) := by decide +kernel
theorem d_X11_slots_1 : decode (gw_mC M_X11_slots) 1 = .ok (.invokestatic 299, 3) := by decide +kernel
theorem d_X11_slots_4 : decode (gw_mC M_X11_slots) 4 = .ok (.ifCond .eq 34, 3) := by decide +kernel
theorem d_X11_slots_7 : decode (gw_mC M_X11_slots) 7 = .ok (.iload_n 2, 1) := by decide +kernel
theorem d_X11_slots_8 : decode (gw_mC M_X11_slots) 8 = .ok (.invokestatic 302, 3) := by decide +kernel
theorem d_X11_slots_11 : decode (gw_mC M_X11_slots) 11 = .ok (.ifCond .eq 27, 3) := by decide +kernel
theorem d_X11_slots_14 : decode (gw_mC M_X11_slots) 14 = .ok (.iload 4, 2) := by decide +kernel
theorem d_X11_slots_16 : decode (gw_mC M_X11_slots) 16 = .ok (.iconst 2, 1) := by decide +kernel
theorem d_X11_slots_17 : decode (gw_mC M_X11_slots) 17 = .ok (.bipush 6, 2) := by decide +kernel
theorem d_X11_slots_19 : decode (gw_mC M_X11_slots) 19 = .ok (.invokestatic 92, 3) := by decide +kernel
theorem d_X11_slots_22 : decode (gw_mC M_X11_slots) 22 = .ok (.ifCond .eq 16, 3) := by decide +kernel
theorem d_X11_slots_25 : decode (gw_mC M_X11_slots) 25 = .ok (.iload 5, 2) := by decide +kernel
theorem d_X11_slots_27 : decode (gw_mC M_X11_slots) 27 = .ok (.iconst (-1), 1) := by decide +kernel
theorem d_X11_slots_28 : decode (gw_mC M_X11_slots) 28 = .ok (.iload 4, 2) := by decide +kernel
theorem d_X11_slots_30 : decode (gw_mC M_X11_slots) 30 = .ok (.iconst 1, 1) := by decide +kernel
theorem d_X11_slots_31 : decode (gw_mC M_X11_slots) 31 = .ok (.isub, 1) := by decide +kernel
theorem d_X11_slots_32 : decode (gw_mC M_X11_slots) 32 = .ok (.invokestatic 92, 3) := by decide +kernel
theorem d_X11_slots_35 : decode (gw_mC M_X11_slots) 35 = .ok (.ifCond .ne 5, 3) := by decide +kernel
theorem d_X11_slots_38 : decode (gw_mC M_X11_slots) 38 = .ok (.iconst (-1), 1) := by decide +kernel
theorem d_X11_slots_39 : decode (gw_mC M_X11_slots) 39 = .ok (.ireturn, 1) := by decide +kernel
theorem d_X11_slots_40 : decode (gw_mC M_X11_slots) 40 = .ok (.aload_n 0, 1) := by decide +kernel
theorem d_X11_slots_41 : decode (gw_mC M_X11_slots) 41 = .ok (.getfield 87, 3) := by decide +kernel
theorem d_X11_slots_44 : decode (gw_mC M_X11_slots) 44 = .ok (.iload_n 1, 1) := by decide +kernel
theorem d_X11_slots_45 : decode (gw_mC M_X11_slots) 45 = .ok (.aaload, 1) := by decide +kernel
theorem d_X11_slots_46 : decode (gw_mC M_X11_slots) 46 = .ok (.iload_n 2, 1) := by decide +kernel
theorem d_X11_slots_47 : decode (gw_mC M_X11_slots) 47 = .ok (.iload_n 3, 1) := by decide +kernel
theorem d_X11_slots_48 : decode (gw_mC M_X11_slots) 48 = .ok (.iconst 2, 1) := by decide +kernel
theorem d_X11_slots_49 : decode (gw_mC M_X11_slots) 49 = .ok (.iload 4, 2) := by decide +kernel
theorem d_X11_slots_51 : decode (gw_mC M_X11_slots) 51 = .ok (.imul, 1) := by decide +kernel
theorem d_X11_slots_52 : decode (gw_mC M_X11_slots) 52 = .ok (.invokevirtual 305, 3) := by decide +kernel
theorem d_X11_slots_55 : decode (gw_mC M_X11_slots) 55 = .ok (.istore 6, 2) := by decide +kernel
theorem d_X11_slots_57 : decode (gw_mC M_X11_slots) 57 = .ok (.iload 6, 2) := by decide +kernel
theorem d_X11_slots_59 : decode (gw_mC M_X11_slots) 59 = .ok (.ifCond .ge 6, 3) := by decide +kernel
theorem d_X11_slots_62 : decode (gw_mC M_X11_slots) 62 = .ok (.iload 6, 2) := by decide +kernel
theorem d_X11_slots_64 : decode (gw_mC M_X11_slots) 64 = .ok (.ireturn, 1) := by decide +kernel
theorem d_X11_slots_65 : decode (gw_mC M_X11_slots) 65 = .ok (.aload_n 0, 1) := by decide +kernel
theorem d_X11_slots_66 : decode (gw_mC M_X11_slots) 66 = .ok (.getfield 81, 3) := by decide +kernel
theorem d_X11_slots_69 : decode (gw_mC M_X11_slots) 69 = .ok (.aload_n 0, 1) := by decide +kernel
theorem d_X11_slots_70 : decode (gw_mC M_X11_slots) 70 = .ok (.getfield 87, 3) := by decide +kernel
theorem d_X11_slots_73 : decode (gw_mC M_X11_slots) 73 = .ok (.iload_n 1, 1) := by decide +kernel
theorem d_X11_slots_74 : decode (gw_mC M_X11_slots) 74 = .ok (.aaload, 1) := by decide +kernel
theorem d_X11_slots_75 : decode (gw_mC M_X11_slots) 75 = .ok (.getfield 308, 3) := by decide +kernel
theorem d_X11_slots_78 : decode (gw_mC M_X11_slots) 78 = .ok (.iload_n 3, 1) := by decide +kernel
theorem d_X11_slots_79 : decode (gw_mC M_X11_slots) 79 = .ok (.iload 4, 2) := by decide +kernel
theorem d_X11_slots_81 : decode (gw_mC M_X11_slots) 81 = .ok (.invokevirtual 311, 3) := by decide +kernel
theorem d_X11_slots_84 : decode (gw_mC M_X11_slots) 84 = .ok (.ifCond .ne 6, 3) := by decide +kernel
theorem d_X11_slots_87 : decode (gw_mC M_X11_slots) 87 = .ok (.bipush (-2), 2) := by decide +kernel
theorem d_X11_slots_89 : decode (gw_mC M_X11_slots) 89 = .ok (.ireturn, 1) := by decide +kernel
theorem d_X11_slots_90 : decode (gw_mC M_X11_slots) 90 = .ok (.aload_n 0, 1) := by decide +kernel
theorem d_X11_slots_91 : decode (gw_mC M_X11_slots) 91 = .ok (.getfield 81, 3) := by decide +kernel
theorem d_X11_slots_94 : decode (gw_mC M_X11_slots) 94 = .ok (.invokevirtual 314, 3) := by decide +kernel
theorem d_X11_slots_97 : decode (gw_mC M_X11_slots) 97 = .ok (.iload 5, 2) := by decide +kernel
theorem d_X11_slots_99 : decode (gw_mC M_X11_slots) 99 = .ok (.ifCond .ge 13, 3) := by decide +kernel
theorem d_X11_slots_102 : decode (gw_mC M_X11_slots) 102 = .ok (.aload_n 0, 1) := by decide +kernel
theorem d_X11_slots_103 : decode (gw_mC M_X11_slots) 103 = .ok (.getfield 81, 3) := by decide +kernel
theorem d_X11_slots_106 : decode (gw_mC M_X11_slots) 106 = .ok (.getfield 317, 3) := by decide +kernel
theorem d_X11_slots_109 : decode (gw_mC M_X11_slots) 109 = .ok (.goto 13, 3) := by decide +kernel
theorem d_X11_slots_112 : decode (gw_mC M_X11_slots) 112 = .ok (.aload_n 0, 1) := by decide +kernel
theorem d_X11_slots_113 : decode (gw_mC M_X11_slots) 113 = .ok (.getfield 81, 3) := by decide +kernel
theorem d_X11_slots_116 : decode (gw_mC M_X11_slots) 116 = .ok (.getfield 320, 3) := by decide +kernel
theorem d_X11_slots_119 : decode (gw_mC M_X11_slots) 119 = .ok (.iload 5, 2) := by decide +kernel
theorem d_X11_slots_121 : decode (gw_mC M_X11_slots) 121 = .ok (.iaload, 1) := by decide +kernel
theorem d_X11_slots_122 : decode (gw_mC M_X11_slots) 122 = .ok (.ireturn, 1) := by decide +kernel
theorem d_X11_sheet_0 : decode (gw_mC M_X11_sheet) 0 = .ok (.iload_n 1, 1) := by decide +kernel
theorem d_X11_sheet_1 : decode (gw_mC M_X11_sheet) 1 = .ok (.invokestatic 299, 3) := by decide +kernel
theorem d_X11_sheet_4 : decode (gw_mC M_X11_sheet) 4 = .ok (.ifCond .eq 16, 3) := by decide +kernel
theorem d_X11_sheet_7 : decode (gw_mC M_X11_sheet) 7 = .ok (.iload_n 2, 1) := by decide +kernel
theorem d_X11_sheet_8 : decode (gw_mC M_X11_sheet) 8 = .ok (.invokestatic 302, 3) := by decide +kernel
theorem d_X11_sheet_11 : decode (gw_mC M_X11_sheet) 11 = .ok (.ifCond .eq 9, 3) := by decide +kernel
theorem d_X11_sheet_14 : decode (gw_mC M_X11_sheet) 14 = .ok (.iload_n 3, 1) := by decide +kernel
theorem d_X11_sheet_15 : decode (gw_mC M_X11_sheet) 15 = .ok (.bipush 24, 2) := by decide +kernel
theorem d_X11_sheet_17 : decode (gw_mC M_X11_sheet) 17 = .ok (.if_icmp .le 5, 3) := by decide +kernel
theorem d_X11_sheet_20 : decode (gw_mC M_X11_sheet) 20 = .ok (.iconst (-1), 1) := by decide +kernel
theorem d_X11_sheet_21 : decode (gw_mC M_X11_sheet) 21 = .ok (.ireturn, 1) := by decide +kernel
theorem d_X11_sheet_22 : decode (gw_mC M_X11_sheet) 22 = .ok (.iload_n 3, 1) := by decide +kernel
theorem d_X11_sheet_23 : decode (gw_mC M_X11_sheet) 23 = .ok (.ifCond .ge 6, 3) := by decide +kernel
theorem d_X11_sheet_26 : decode (gw_mC M_X11_sheet) 26 = .ok (.bipush (-14), 2) := by decide +kernel
theorem d_X11_sheet_28 : decode (gw_mC M_X11_sheet) 28 = .ok (.ireturn, 1) := by decide +kernel
theorem d_X11_sheet_29 : decode (gw_mC M_X11_sheet) 29 = .ok (.aload_n 0, 1) := by decide +kernel
theorem d_X11_sheet_30 : decode (gw_mC M_X11_sheet) 30 = .ok (.getfield 87, 3) := by decide +kernel
theorem d_X11_sheet_33 : decode (gw_mC M_X11_sheet) 33 = .ok (.iload_n 1, 1) := by decide +kernel
theorem d_X11_sheet_34 : decode (gw_mC M_X11_sheet) 34 = .ok (.aaload, 1) := by decide +kernel
theorem d_X11_sheet_35 : decode (gw_mC M_X11_sheet) 35 = .ok (.iload_n 2, 1) := by decide +kernel
theorem d_X11_sheet_36 : decode (gw_mC M_X11_sheet) 36 = .ok (.iload_n 3, 1) := by decide +kernel
theorem d_X11_sheet_37 : decode (gw_mC M_X11_sheet) 37 = .ok (.invokevirtual 323, 3) := by decide +kernel
theorem d_X11_sheet_40 : decode (gw_mC M_X11_sheet) 40 = .ok (.iload_n 3, 1) := by decide +kernel
theorem d_X11_sheet_41 : decode (gw_mC M_X11_sheet) 41 = .ok (.ireturn, 1) := by decide +kernel
theorem d_X11_drop_0 : decode (gw_mC M_X11_drop) 0 = .ok (.iload_n 1, 1) := by decide +kernel
theorem d_X11_drop_1 : decode (gw_mC M_X11_drop) 1 = .ok (.invokestatic 299, 3) := by decide +kernel
theorem d_X11_drop_4 : decode (gw_mC M_X11_drop) 4 = .ok (.ifCond .ne 5, 3) := by decide +kernel
theorem d_X11_drop_7 : decode (gw_mC M_X11_drop) 7 = .ok (.iconst (-1), 1) := by decide +kernel
theorem d_X11_drop_8 : decode (gw_mC M_X11_drop) 8 = .ok (.ireturn, 1) := by decide +kernel
theorem d_X11_drop_9 : decode (gw_mC M_X11_drop) 9 = .ok (.aload_n 0, 1) := by decide +kernel
theorem d_X11_drop_10 : decode (gw_mC M_X11_drop) 10 = .ok (.getfield 87, 3) := by decide +kernel
theorem d_X11_drop_13 : decode (gw_mC M_X11_drop) 13 = .ok (.iload_n 1, 1) := by decide +kernel
theorem d_X11_drop_14 : decode (gw_mC M_X11_drop) 14 = .ok (.aaload, 1) := by decide +kernel
theorem d_X11_drop_15 : decode (gw_mC M_X11_drop) 15 = .ok (.astore_n 2, 1) := by decide +kernel
theorem d_X11_drop_16 : decode (gw_mC M_X11_drop) 16 = .ok (.aload_n 2, 1) := by decide +kernel
theorem d_X11_drop_17 : decode (gw_mC M_X11_drop) 17 = .ok (.getfield 326, 3) := by decide +kernel
theorem d_X11_drop_20 : decode (gw_mC M_X11_drop) 20 = .ok (.ifCond .ge 6, 3) := by decide +kernel
theorem d_X11_drop_23 : decode (gw_mC M_X11_drop) 23 = .ok (.bipush (-11), 2) := by decide +kernel
theorem d_X11_drop_25 : decode (gw_mC M_X11_drop) 25 = .ok (.ireturn, 1) := by decide +kernel
theorem d_X11_drop_26 : decode (gw_mC M_X11_drop) 26 = .ok (.aload_n 2, 1) := by decide +kernel
theorem d_X11_drop_27 : decode (gw_mC M_X11_drop) 27 = .ok (.iconst (-1), 1) := by decide +kernel
theorem d_X11_drop_28 : decode (gw_mC M_X11_drop) 28 = .ok (.putfield 326, 3) := by decide +kernel
theorem d_X11_drop_31 : decode (gw_mC M_X11_drop) 31 = .ok (.aload_n 2, 1) := by decide +kernel
theorem d_X11_drop_32 : decode (gw_mC M_X11_drop) 32 = .ok (.getfield 329, 3) := by decide +kernel
theorem d_X11_drop_35 : decode (gw_mC M_X11_drop) 35 = .ok (.ireturn, 1) := by decide +kernel
theorem d_X11_item_0 : decode (gw_mC M_X11_item) 0 = .ok (.iload_n 1, 1) := by decide +kernel
theorem d_X11_item_1 : decode (gw_mC M_X11_item) 1 = .ok (.invokestatic 299, 3) := by decide +kernel
theorem d_X11_item_4 : decode (gw_mC M_X11_item) 4 = .ok (.ifCond .eq 10, 3) := by decide +kernel
theorem d_X11_item_7 : decode (gw_mC M_X11_item) 7 = .ok (.iload_n 2, 1) := by decide +kernel
theorem d_X11_item_8 : decode (gw_mC M_X11_item) 8 = .ok (.invokestatic 302, 3) := by decide +kernel
theorem d_X11_item_11 : decode (gw_mC M_X11_item) 11 = .ok (.ifCond .ne 5, 3) := by decide +kernel
theorem d_X11_item_14 : decode (gw_mC M_X11_item) 14 = .ok (.iconst (-1), 1) := by decide +kernel
theorem d_X11_item_15 : decode (gw_mC M_X11_item) 15 = .ok (.ireturn, 1) := by decide +kernel
theorem d_X11_item_16 : decode (gw_mC M_X11_item) 16 = .ok (.aload_n 0, 1) := by decide +kernel
theorem d_X11_item_17 : decode (gw_mC M_X11_item) 17 = .ok (.getfield 87, 3) := by decide +kernel
theorem d_X11_item_20 : decode (gw_mC M_X11_item) 20 = .ok (.iload_n 1, 1) := by decide +kernel
theorem d_X11_item_21 : decode (gw_mC M_X11_item) 21 = .ok (.aaload, 1) := by decide +kernel
theorem d_X11_item_22 : decode (gw_mC M_X11_item) 22 = .ok (.iload_n 2, 1) := by decide +kernel
theorem d_X11_item_23 : decode (gw_mC M_X11_item) 23 = .ok (.iload_n 3, 1) := by decide +kernel
theorem d_X11_item_24 : decode (gw_mC M_X11_item) 24 = .ok (.iconst 1, 1) := by decide +kernel
theorem d_X11_item_25 : decode (gw_mC M_X11_item) 25 = .ok (.invokevirtual 305, 3) := by decide +kernel
theorem d_X11_item_28 : decode (gw_mC M_X11_item) 28 = .ok (.istore 5, 2) := by decide +kernel
theorem d_X11_item_30 : decode (gw_mC M_X11_item) 30 = .ok (.iload 5, 2) := by decide +kernel
theorem d_X11_item_32 : decode (gw_mC M_X11_item) 32 = .ok (.ifCond .ge 6, 3) := by decide +kernel
theorem d_X11_item_35 : decode (gw_mC M_X11_item) 35 = .ok (.iload 5, 2) := by decide +kernel
theorem d_X11_item_37 : decode (gw_mC M_X11_item) 37 = .ok (.ireturn, 1) := by decide +kernel
theorem d_X11_item_38 : decode (gw_mC M_X11_item) 38 = .ok (.aload_n 0, 1) := by decide +kernel
theorem d_X11_item_39 : decode (gw_mC M_X11_item) 39 = .ok (.getfield 87, 3) := by decide +kernel
theorem d_X11_item_42 : decode (gw_mC M_X11_item) 42 = .ok (.iload_n 1, 1) := by decide +kernel
theorem d_X11_item_43 : decode (gw_mC M_X11_item) 43 = .ok (.aaload, 1) := by decide +kernel
theorem d_X11_item_44 : decode (gw_mC M_X11_item) 44 = .ok (.iload_n 3, 1) := by decide +kernel
theorem d_X11_item_45 : decode (gw_mC M_X11_item) 45 = .ok (.iload 4, 2) := by decide +kernel
theorem d_X11_item_47 : decode (gw_mC M_X11_item) 47 = .ok (.invokevirtual 330, 3) := by decide +kernel
theorem d_X11_item_50 : decode (gw_mC M_X11_item) 50 = .ok (.iconst 1, 1) := by decide +kernel
theorem d_X11_item_51 : decode (gw_mC M_X11_item) 51 = .ok (.ireturn, 1) := by decide +kernel
theorem d_X11_copy_0 : decode (gw_mC M_X11_copy) 0 = .ok (.iload_n 1, 1) := by decide +kernel
theorem d_X11_copy_1 : decode (gw_mC M_X11_copy) 1 = .ok (.invokestatic 299, 3) := by decide +kernel
theorem d_X11_copy_4 : decode (gw_mC M_X11_copy) 4 = .ok (.ifCond .eq 10, 3) := by decide +kernel
theorem d_X11_copy_7 : decode (gw_mC M_X11_copy) 7 = .ok (.iload_n 3, 1) := by decide +kernel
theorem d_X11_copy_8 : decode (gw_mC M_X11_copy) 8 = .ok (.invokestatic 299, 3) := by decide +kernel
theorem d_X11_copy_11 : decode (gw_mC M_X11_copy) 11 = .ok (.ifCond .ne 5, 3) := by decide +kernel
theorem d_X11_copy_14 : decode (gw_mC M_X11_copy) 14 = .ok (.iconst (-1), 1) := by decide +kernel
theorem d_X11_copy_15 : decode (gw_mC M_X11_copy) 15 = .ok (.ireturn, 1) := by decide +kernel
theorem d_X11_copy_16 : decode (gw_mC M_X11_copy) 16 = .ok (.aload_n 0, 1) := by decide +kernel
theorem d_X11_copy_17 : decode (gw_mC M_X11_copy) 17 = .ok (.getfield 87, 3) := by decide +kernel
theorem d_X11_copy_20 : decode (gw_mC M_X11_copy) 20 = .ok (.iload_n 1, 1) := by decide +kernel
theorem d_X11_copy_21 : decode (gw_mC M_X11_copy) 21 = .ok (.aaload, 1) := by decide +kernel
theorem d_X11_copy_22 : decode (gw_mC M_X11_copy) 22 = .ok (.astore 6, 2) := by decide +kernel
theorem d_X11_copy_24 : decode (gw_mC M_X11_copy) 24 = .ok (.aload_n 0, 1) := by decide +kernel
theorem d_X11_copy_25 : decode (gw_mC M_X11_copy) 25 = .ok (.getfield 87, 3) := by decide +kernel
theorem d_X11_copy_28 : decode (gw_mC M_X11_copy) 28 = .ok (.iload_n 3, 1) := by decide +kernel
theorem d_X11_copy_29 : decode (gw_mC M_X11_copy) 29 = .ok (.aaload, 1) := by decide +kernel
theorem d_X11_copy_30 : decode (gw_mC M_X11_copy) 30 = .ok (.astore 7, 2) := by decide +kernel
theorem d_X11_copy_32 : decode (gw_mC M_X11_copy) 32 = .ok (.aload 6, 2) := by decide +kernel
theorem d_X11_copy_34 : decode (gw_mC M_X11_copy) 34 = .ok (.getfield 326, 3) := by decide +kernel
theorem d_X11_copy_37 : decode (gw_mC M_X11_copy) 37 = .ok (.ifCond .lt 11, 3) := by decide +kernel
theorem d_X11_copy_40 : decode (gw_mC M_X11_copy) 40 = .ok (.aload 7, 2) := by decide +kernel
theorem d_X11_copy_42 : decode (gw_mC M_X11_copy) 42 = .ok (.getfield 326, 3) := by decide +kernel
theorem d_X11_copy_45 : decode (gw_mC M_X11_copy) 45 = .ok (.ifCond .ge 6, 3) := by decide +kernel
theorem d_X11_copy_48 : decode (gw_mC M_X11_copy) 48 = .ok (.bipush (-11), 2) := by decide +kernel
theorem d_X11_copy_50 : decode (gw_mC M_X11_copy) 50 = .ok (.ireturn, 1) := by decide +kernel
theorem d_X11_copy_51 : decode (gw_mC M_X11_copy) 51 = .ok (.aload 6, 2) := by decide +kernel
theorem d_X11_copy_53 : decode (gw_mC M_X11_copy) 53 = .ok (.getfield 326, 3) := by decide +kernel
theorem d_X11_copy_56 : decode (gw_mC M_X11_copy) 56 = .ok (.aload 7, 2) := by decide +kernel
theorem d_X11_copy_58 : decode (gw_mC M_X11_copy) 58 = .ok (.getfield 326, 3) := by decide +kernel
theorem d_X11_copy_61 : decode (gw_mC M_X11_copy) 61 = .ok (.if_icmp .eq 6, 3) := by decide +kernel
theorem d_X11_copy_64 : decode (gw_mC M_X11_copy) 64 = .ok (.bipush (-12), 2) := by decide +kernel
theorem d_X11_copy_66 : decode (gw_mC M_X11_copy) 66 = .ok (.ireturn, 1) := by decide +kernel
theorem d_X11_copy_67 : decode (gw_mC M_X11_copy) 67 = .ok (.aload 6, 2) := by decide +kernel
theorem d_X11_copy_69 : decode (gw_mC M_X11_copy) 69 = .ok (.iload_n 2, 1) := by decide +kernel
theorem d_X11_copy_70 : decode (gw_mC M_X11_copy) 70 = .ok (.iload 5, 2) := by decide +kernel
theorem d_X11_copy_72 : decode (gw_mC M_X11_copy) 72 = .ok (.invokevirtual 333, 3) := by decide +kernel
theorem d_X11_copy_75 : decode (gw_mC M_X11_copy) 75 = .ok (.ifCond .eq 15, 3) := by decide +kernel
theorem d_X11_copy_78 : decode (gw_mC M_X11_copy) 78 = .ok (.aload 7, 2) := by decide +kernel
theorem d_X11_copy_80 : decode (gw_mC M_X11_copy) 80 = .ok (.iload 4, 2) := by decide +kernel
theorem d_X11_copy_82 : decode (gw_mC M_X11_copy) 82 = .ok (.iload 5, 2) := by decide +kernel
theorem d_X11_copy_84 : decode (gw_mC M_X11_copy) 84 = .ok (.invokevirtual 333, 3) := by decide +kernel
theorem d_X11_copy_87 : decode (gw_mC M_X11_copy) 87 = .ok (.ifCond .ne 6, 3) := by decide +kernel
theorem d_X11_copy_90 : decode (gw_mC M_X11_copy) 90 = .ok (.bipush (-13), 2) := by decide +kernel
theorem d_X11_copy_92 : decode (gw_mC M_X11_copy) 92 = .ok (.ireturn, 1) := by decide +kernel
theorem d_X11_copy_93 : decode (gw_mC M_X11_copy) 93 = .ok (.aload 6, 2) := by decide +kernel
theorem d_X11_copy_95 : decode (gw_mC M_X11_copy) 95 = .ok (.getfield 308, 3) := by decide +kernel
theorem d_X11_copy_98 : decode (gw_mC M_X11_copy) 98 = .ok (.iload_n 2, 1) := by decide +kernel
theorem d_X11_copy_99 : decode (gw_mC M_X11_copy) 99 = .ok (.aload 7, 2) := by decide +kernel
theorem d_X11_copy_101 : decode (gw_mC M_X11_copy) 101 = .ok (.getfield 308, 3) := by decide +kernel
theorem d_X11_copy_104 : decode (gw_mC M_X11_copy) 104 = .ok (.iload 4, 2) := by decide +kernel
theorem d_X11_copy_106 : decode (gw_mC M_X11_copy) 106 = .ok (.iload 5, 2) := by decide +kernel
theorem d_X11_copy_108 : decode (gw_mC M_X11_copy) 108 = .ok (.invokestatic 336, 3) := by decide +kernel
theorem d_X11_copy_111 : decode (gw_mC M_X11_copy) 111 = .ok (.iload 5, 2) := by decide +kernel
theorem d_X11_copy_113 : decode (gw_mC M_X11_copy) 113 = .ok (.ireturn, 1) := by decide +kernel
theorem d_X11_within_0 : decode (gw_mC M_X11_within) 0 = .ok (.iload_n 0, 1) := by decide +kernel
theorem d_X11_within_1 : decode (gw_mC M_X11_within) 1 = .ok (.iload_n 1, 1) := by decide +kernel
theorem d_X11_within_2 : decode (gw_mC M_X11_within) 2 = .ok (.if_icmp .lt 12, 3) := by decide +kernel
theorem d_X11_within_5 : decode (gw_mC M_X11_within) 5 = .ok (.iload_n 0, 1) := by decide +kernel
theorem d_X11_within_6 : decode (gw_mC M_X11_within) 6 = .ok (.iload_n 2, 1) := by decide +kernel
theorem d_X11_within_7 : decode (gw_mC M_X11_within) 7 = .ok (.if_icmp .gt 7, 3) := by decide +kernel
theorem d_X11_within_10 : decode (gw_mC M_X11_within) 10 = .ok (.iconst 1, 1) := by decide +kernel
theorem d_X11_within_11 : decode (gw_mC M_X11_within) 11 = .ok (.goto 4, 3) := by decide +kernel
theorem d_X11_within_14 : decode (gw_mC M_X11_within) 14 = .ok (.iconst 0, 1) := by decide +kernel
theorem d_X11_within_15 : decode (gw_mC M_X11_within) 15 = .ok (.ireturn, 1) := by decide +kernel
theorem d_X11_cutUp_0 : decode (gw_mC M_X11_cutUp) 0 = .ok (.iload_n 1, 1) := by decide +kernel
theorem d_X11_cutUp_1 : decode (gw_mC M_X11_cutUp) 1 = .ok (.ifCond .le 13, 3) := by decide +kernel
theorem d_X11_cutUp_4 : decode (gw_mC M_X11_cutUp) 4 = .ok (.iload_n 0, 1) := by decide +kernel
theorem d_X11_cutUp_5 : decode (gw_mC M_X11_cutUp) 5 = .ok (.iload_n 1, 1) := by decide +kernel
theorem d_X11_cutUp_6 : decode (gw_mC M_X11_cutUp) 6 = .ok (.iadd, 1) := by decide +kernel
theorem d_X11_cutUp_7 : decode (gw_mC M_X11_cutUp) 7 = .ok (.iconst 1, 1) := by decide +kernel
theorem d_X11_cutUp_8 : decode (gw_mC M_X11_cutUp) 8 = .ok (.isub, 1) := by decide +kernel
theorem d_X11_cutUp_9 : decode (gw_mC M_X11_cutUp) 9 = .ok (.iload_n 1, 1) := by decide +kernel
theorem d_X11_cutUp_10 : decode (gw_mC M_X11_cutUp) 10 = .ok (.idiv, 1) := by decide +kernel
theorem d_X11_cutUp_11 : decode (gw_mC M_X11_cutUp) 11 = .ok (.goto 4, 3) := by decide +kernel
theorem d_X11_cutUp_14 : decode (gw_mC M_X11_cutUp) 14 = .ok (.iconst 0, 1) := by decide +kernel
theorem d_X11_cutUp_15 : decode (gw_mC M_X11_cutUp) 15 = .ok (.ireturn, 1) := by decide +kernel
theorem d_X11_isSheet_0 : decode (gw_mC M_X11_isSheet) 0 = .ok (.iload_n 0, 1) := by decide +kernel
theorem d_X11_isSheet_1 : decode (gw_mC M_X11_isSheet) 1 = .ok (.iconst 0, 1) := by decide +kernel
theorem d_X11_isSheet_2 : decode (gw_mC M_X11_isSheet) 2 = .ok (.iconst 3, 1) := by decide +kernel
theorem d_X11_isSheet_3 : decode (gw_mC M_X11_isSheet) 3 = .ok (.invokestatic 92, 3) := by decide +kernel
theorem d_X11_isSheet_6 : decode (gw_mC M_X11_isSheet) 6 = .ok (.ireturn, 1) := by decide +kernel
theorem d_X11_isLane_0 : decode (gw_mC M_X11_isLane) 0 = .ok (.iload_n 0, 1) := by decide +kernel
theorem d_X11_isLane_1 : decode (gw_mC M_X11_isLane) 1 = .ok (.iconst 0, 1) := by decide +kernel
theorem d_X11_isLane_2 : decode (gw_mC M_X11_isLane) 2 = .ok (.iconst 2, 1) := by decide +kernel
theorem d_X11_isLane_3 : decode (gw_mC M_X11_isLane) 3 = .ok (.invokestatic 92, 3) := by decide +kernel
theorem d_X11_isLane_6 : decode (gw_mC M_X11_isLane) 6 = .ok (.ireturn, 1) := by decide +kernel
theorem d_X11_areCosts_0 : decode (gw_mC M_X11_areCosts) 0 = .ok (.iload_n 0, 1) := by decide +kernel
theorem d_X11_areCosts_1 : decode (gw_mC M_X11_areCosts) 1 = .ok (.iconst 0, 1) := by decide +kernel
theorem d_X11_areCosts_2 : decode (gw_mC M_X11_areCosts) 2 = .ok (.bipush 9, 2) := by decide +kernel
theorem d_X11_areCosts_4 : decode (gw_mC M_X11_areCosts) 4 = .ok (.invokestatic 92, 3) := by decide +kernel
theorem d_X11_areCosts_7 : decode (gw_mC M_X11_areCosts) 7 = .ok (.ifCond .eq 27, 3) := by decide +kernel
theorem d_X11_areCosts_10 : decode (gw_mC M_X11_areCosts) 10 = .ok (.iload_n 1, 1) := by decide +kernel
theorem d_X11_areCosts_11 : decode (gw_mC M_X11_areCosts) 11 = .ok (.iconst 0, 1) := by decide +kernel
theorem d_X11_areCosts_12 : decode (gw_mC M_X11_areCosts) 12 = .ok (.bipush 30, 2) := by decide +kernel
theorem d_X11_areCosts_14 : decode (gw_mC M_X11_areCosts) 14 = .ok (.invokestatic 92, 3) := by decide +kernel
theorem d_X11_areCosts_17 : decode (gw_mC M_X11_areCosts) 17 = .ok (.ifCond .eq 17, 3) := by decide +kernel
theorem d_X11_areCosts_20 : decode (gw_mC M_X11_areCosts) 20 = .ok (.iload_n 2, 1) := by decide +kernel
theorem d_X11_areCosts_21 : decode (gw_mC M_X11_areCosts) 21 = .ok (.iconst 0, 1) := by decide +kernel
theorem d_X11_areCosts_22 : decode (gw_mC M_X11_areCosts) 22 = .ok (.bipush 99, 2) := by decide +kernel
theorem d_X11_areCosts_24 : decode (gw_mC M_X11_areCosts) 24 = .ok (.invokestatic 92, 3) := by decide +kernel
theorem d_X11_areCosts_27 : decode (gw_mC M_X11_areCosts) 27 = .ok (.ifCond .eq 7, 3) := by decide +kernel
theorem d_X11_areCosts_30 : decode (gw_mC M_X11_areCosts) 30 = .ok (.iconst 1, 1) := by decide +kernel
theorem d_X11_areCosts_31 : decode (gw_mC M_X11_areCosts) 31 = .ok (.goto 4, 3) := by decide +kernel
theorem d_X11_areCosts_34 : decode (gw_mC M_X11_areCosts) 34 = .ok (.iconst 0, 1) := by decide +kernel
theorem d_X11_areCosts_35 : decode (gw_mC M_X11_areCosts) 35 = .ok (.ireturn, 1) := by decide +kernel
theorem d_X11_arePairs_0 : decode (gw_mC M_X11_arePairs) 0 = .ok (.iload_n 1, 1) := by decide +kernel
theorem d_X11_arePairs_1 : decode (gw_mC M_X11_arePairs) 1 = .ok (.ifCond .lt 19, 3) := by decide +kernel
theorem d_X11_arePairs_4 : decode (gw_mC M_X11_arePairs) 4 = .ok (.iload_n 1, 1) := by decide +kernel
theorem d_X11_arePairs_5 : decode (gw_mC M_X11_arePairs) 5 = .ok (.iload_n 0, 1) := by decide +kernel
theorem d_X11_arePairs_6 : decode (gw_mC M_X11_arePairs) 6 = .ok (.iload_n 0, 1) := by decide +kernel
theorem d_X11_arePairs_7 : decode (gw_mC M_X11_arePairs) 7 = .ok (.iconst 1, 1) := by decide +kernel
theorem d_X11_arePairs_8 : decode (gw_mC M_X11_arePairs) 8 = .ok (.isub, 1) := by decide +kernel
theorem d_X11_arePairs_9 : decode (gw_mC M_X11_arePairs) 9 = .ok (.imul, 1) := by decide +kernel
theorem d_X11_arePairs_10 : decode (gw_mC M_X11_arePairs) 10 = .ok (.iconst 2, 1) := by decide +kernel
theorem d_X11_arePairs_11 : decode (gw_mC M_X11_arePairs) 11 = .ok (.idiv, 1) := by decide +kernel
theorem d_X11_arePairs_12 : decode (gw_mC M_X11_arePairs) 12 = .ok (.ishr, 1) := by decide +kernel
theorem d_X11_arePairs_13 : decode (gw_mC M_X11_arePairs) 13 = .ok (.ifCond .ne 7, 3) := by decide +kernel
theorem d_X11_arePairs_16 : decode (gw_mC M_X11_arePairs) 16 = .ok (.iconst 1, 1) := by decide +kernel
theorem d_X11_arePairs_17 : decode (gw_mC M_X11_arePairs) 17 = .ok (.goto 4, 3) := by decide +kernel
theorem d_X11_arePairs_20 : decode (gw_mC M_X11_arePairs) 20 = .ok (.iconst 0, 1) := by decide +kernel
theorem d_X11_arePairs_21 : decode (gw_mC M_X11_arePairs) 21 = .ok (.ireturn, 1) := by decide +kernel
theorem d_X11_costOfCounting_0 : decode (gw_mC M_X11_costOfCounting) 0 = .ok (.iconst 0, 1) := by decide +kernel
theorem d_X11_costOfCounting_1 : decode (gw_mC M_X11_costOfCounting) 1 = .ok (.istore 4, 2) := by decide +kernel
theorem d_X11_costOfCounting_3 : decode (gw_mC M_X11_costOfCounting) 3 = .ok (.iconst 1, 1) := by decide +kernel
theorem d_X11_costOfCounting_4 : decode (gw_mC M_X11_costOfCounting) 4 = .ok (.istore 5, 2) := by decide +kernel
theorem d_X11_costOfCounting_6 : decode (gw_mC M_X11_costOfCounting) 6 = .ok (.iload 5, 2) := by decide +kernel
theorem d_X11_costOfCounting_8 : decode (gw_mC M_X11_costOfCounting) 8 = .ok (.iload_n 0, 1) := by decide +kernel
theorem d_X11_costOfCounting_9 : decode (gw_mC M_X11_costOfCounting) 9 = .ok (.if_icmp .gt 29, 3) := by decide +kernel
theorem d_X11_costOfCounting_12 : decode (gw_mC M_X11_costOfCounting) 12 = .ok (.iload 4, 2) := by decide +kernel
theorem d_X11_costOfCounting_14 : decode (gw_mC M_X11_costOfCounting) 14 = .ok (.iload 5, 2) := by decide +kernel
theorem d_X11_costOfCounting_16 : decode (gw_mC M_X11_costOfCounting) 16 = .ok (.iload_n 1, 1) := by decide +kernel
theorem d_X11_costOfCounting_17 : decode (gw_mC M_X11_costOfCounting) 17 = .ok (.invokestatic 250, 3) := by decide +kernel
theorem d_X11_costOfCounting_20 : decode (gw_mC M_X11_costOfCounting) 20 = .ok (.iload_n 1, 1) := by decide +kernel
theorem d_X11_costOfCounting_21 : decode (gw_mC M_X11_costOfCounting) 21 = .ok (.imul, 1) := by decide +kernel
theorem d_X11_costOfCounting_22 : decode (gw_mC M_X11_costOfCounting) 22 = .ok (.iload_n 0, 1) := by decide +kernel
theorem d_X11_costOfCounting_23 : decode (gw_mC M_X11_costOfCounting) 23 = .ok (.invokestatic 202, 3) := by decide +kernel
theorem d_X11_costOfCounting_26 : decode (gw_mC M_X11_costOfCounting) 26 = .ok (.iload 5, 2) := by decide +kernel
theorem d_X11_costOfCounting_28 : decode (gw_mC M_X11_costOfCounting) 28 = .ok (.isub, 1) := by decide +kernel
theorem d_X11_costOfCounting_29 : decode (gw_mC M_X11_costOfCounting) 29 = .ok (.iadd, 1) := by decide +kernel
theorem d_X11_costOfCounting_30 : decode (gw_mC M_X11_costOfCounting) 30 = .ok (.istore 4, 2) := by decide +kernel
theorem d_X11_costOfCounting_32 : decode (gw_mC M_X11_costOfCounting) 32 = .ok (.iinc 5 1, 3) := by decide +kernel
theorem d_X11_costOfCounting_35 : decode (gw_mC M_X11_costOfCounting) 35 = .ok (.goto (-29), 3) := by decide +kernel
theorem d_X11_costOfCounting_38 : decode (gw_mC M_X11_costOfCounting) 38 = .ok (.iload_n 2, 1) := by decide +kernel
theorem d_X11_costOfCounting_39 : decode (gw_mC M_X11_costOfCounting) 39 = .ok (.iload_n 0, 1) := by decide +kernel
theorem d_X11_costOfCounting_40 : decode (gw_mC M_X11_costOfCounting) 40 = .ok (.iload_n 1, 1) := by decide +kernel
theorem d_X11_costOfCounting_41 : decode (gw_mC M_X11_costOfCounting) 41 = .ok (.invokestatic 250, 3) := by decide +kernel
theorem d_X11_costOfCounting_44 : decode (gw_mC M_X11_costOfCounting) 44 = .ok (.imul, 1) := by decide +kernel
theorem d_X11_costOfCounting_45 : decode (gw_mC M_X11_costOfCounting) 45 = .ok (.iload_n 3, 1) := by decide +kernel
theorem d_X11_costOfCounting_46 : decode (gw_mC M_X11_costOfCounting) 46 = .ok (.iload 4, 2) := by decide +kernel
theorem d_X11_costOfCounting_48 : decode (gw_mC M_X11_costOfCounting) 48 = .ok (.imul, 1) := by decide +kernel
theorem d_X11_costOfCounting_49 : decode (gw_mC M_X11_costOfCounting) 49 = .ok (.iadd, 1) := by decide +kernel
theorem d_X11_costOfCounting_50 : decode (gw_mC M_X11_costOfCounting) 50 = .ok (.ireturn, 1) := by decide +kernel
theorem d_X11_isPerson_0 : decode (gw_mC M_X11_isPerson) 0 = .ok (.iload_n 1, 1) := by decide +kernel
theorem d_X11_isPerson_1 : decode (gw_mC M_X11_isPerson) 1 = .ok (.iconst 0, 1) := by decide +kernel
theorem d_X11_isPerson_2 : decode (gw_mC M_X11_isPerson) 2 = .ok (.aload_n 0, 1) := by decide +kernel
theorem d_X11_isPerson_3 : decode (gw_mC M_X11_isPerson) 3 = .ok (.getfield 10, 3) := by decide +kernel
theorem d_X11_isPerson_6 : decode (gw_mC M_X11_isPerson) 6 = .ok (.getfield 128, 3) := by decide +kernel
theorem d_X11_isPerson_9 : decode (gw_mC M_X11_isPerson) 9 = .ok (.getfield 180, 3) := by decide +kernel
theorem d_X11_isPerson_12 : decode (gw_mC M_X11_isPerson) 12 = .ok (.iconst 1, 1) := by decide +kernel
theorem d_X11_isPerson_13 : decode (gw_mC M_X11_isPerson) 13 = .ok (.isub, 1) := by decide +kernel
theorem d_X11_isPerson_14 : decode (gw_mC M_X11_isPerson) 14 = .ok (.invokestatic 92, 3) := by decide +kernel
theorem d_X11_isPerson_17 : decode (gw_mC M_X11_isPerson) 17 = .ok (.ireturn, 1) := by decide +kernel
theorem d_X11_forget_0 : decode (gw_mC M_X11_forget) 0 = .ok (.aload_n 0, 1) := by decide +kernel
theorem d_X11_forget_1 : decode (gw_mC M_X11_forget) 1 = .ok (.iconst 0, 1) := by decide +kernel
theorem d_X11_forget_2 : decode (gw_mC M_X11_forget) 2 = .ok (.putfield 54, 3) := by decide +kernel
theorem d_X11_forget_5 : decode (gw_mC M_X11_forget) 5 = .ok (.aload_n 0, 1) := by decide +kernel
theorem d_X11_forget_6 : decode (gw_mC M_X11_forget) 6 = .ok (.iconst (-1), 1) := by decide +kernel
theorem d_X11_forget_7 : decode (gw_mC M_X11_forget) 7 = .ok (.putfield 68, 3) := by decide +kernel
theorem d_X11_forget_10 : decode (gw_mC M_X11_forget) 10 = .ok (.return_, 1) := by decide +kernel
theorem d_X11_goAlong_0 : decode (gw_mC M_X11_goAlong) 0 = .ok (.aload_n 0, 1) := by decide +kernel
theorem d_X11_goAlong_1 : decode (gw_mC M_X11_goAlong) 1 = .ok (.getfield 54, 3) := by decide +kernel
theorem d_X11_goAlong_4 : decode (gw_mC M_X11_goAlong) 4 = .ok (.ifCond .eq 4, 3) := by decide +kernel
theorem d_X11_goAlong_7 : decode (gw_mC M_X11_goAlong) 7 = .ok (.return_, 1) := by decide +kernel
theorem d_X11_goAlong_8 : decode (gw_mC M_X11_goAlong) 8 = .ok (.aload_n 0, 1) := by decide +kernel
theorem d_X11_goAlong_9 : decode (gw_mC M_X11_goAlong) 9 = .ok (.getfield 47, 3) := by decide +kernel
theorem d_X11_goAlong_12 : decode (gw_mC M_X11_goAlong) 12 = .ok (.aload_n 0, 1) := by decide +kernel
theorem d_X11_goAlong_13 : decode (gw_mC M_X11_goAlong) 13 = .ok (.getfield 10, 3) := by decide +kernel
theorem d_X11_goAlong_16 : decode (gw_mC M_X11_goAlong) 16 = .ok (.invokevirtual 235, 3) := by decide +kernel
theorem d_X11_goAlong_19 : decode (gw_mC M_X11_goAlong) 19 = .ok (.aload_n 0, 1) := by decide +kernel
theorem d_X11_goAlong_20 : decode (gw_mC M_X11_goAlong) 20 = .ok (.getfield 47, 3) := by decide +kernel
theorem d_X11_goAlong_23 : decode (gw_mC M_X11_goAlong) 23 = .ok (.invokevirtual 240, 3) := by decide +kernel
theorem d_X11_goAlong_26 : decode (gw_mC M_X11_goAlong) 26 = .ok (.aload_n 0, 1) := by decide +kernel
theorem d_X11_goAlong_27 : decode (gw_mC M_X11_goAlong) 27 = .ok (.iconst 0, 1) := by decide +kernel
theorem d_X11_goAlong_28 : decode (gw_mC M_X11_goAlong) 28 = .ok (.putfield 61, 3) := by decide +kernel
theorem d_X11_goAlong_31 : decode (gw_mC M_X11_goAlong) 31 = .ok (.iconst 0, 1) := by decide +kernel
theorem d_X11_goAlong_32 : decode (gw_mC M_X11_goAlong) 32 = .ok (.istore_n 1, 1) := by decide +kernel
theorem d_X11_goAlong_33 : decode (gw_mC M_X11_goAlong) 33 = .ok (.iload_n 1, 1) := by decide +kernel
theorem d_X11_goAlong_34 : decode (gw_mC M_X11_goAlong) 34 = .ok (.sipush 300, 3) := by decide +kernel
theorem d_X11_goAlong_37 : decode (gw_mC M_X11_goAlong) 37 = .ok (.if_icmp .ge 42, 3) := by decide +kernel
theorem d_X11_goAlong_40 : decode (gw_mC M_X11_goAlong) 40 = .ok (.aload_n 0, 1) := by decide +kernel
theorem d_X11_goAlong_41 : decode (gw_mC M_X11_goAlong) 41 = .ok (.getfield 47, 3) := by decide +kernel
theorem d_X11_goAlong_44 : decode (gw_mC M_X11_goAlong) 44 = .ok (.invokevirtual 243, 3) := by decide +kernel
theorem d_X11_goAlong_47 : decode (gw_mC M_X11_goAlong) 47 = .ok (.ifCond .ne 32, 3) := by decide +kernel
theorem d_X11_goAlong_50 : decode (gw_mC M_X11_goAlong) 50 = .ok (.aload_n 0, 1) := by decide +kernel
theorem d_X11_goAlong_51 : decode (gw_mC M_X11_goAlong) 51 = .ok (.getfield 47, 3) := by decide +kernel
theorem d_X11_goAlong_54 : decode (gw_mC M_X11_goAlong) 54 = .ok (.iload_n 1, 1) := by decide +kernel
theorem d_X11_goAlong_55 : decode (gw_mC M_X11_goAlong) 55 = .ok (.invokevirtual 247, 3) := by decide +kernel
theorem d_X11_goAlong_58 : decode (gw_mC M_X11_goAlong) 58 = .ok (.aload_n 0, 1) := by decide +kernel
theorem d_X11_goAlong_59 : decode (gw_mC M_X11_goAlong) 59 = .ok (.iload_n 1, 1) := by decide +kernel
theorem d_X11_goAlong_60 : decode (gw_mC M_X11_goAlong) 60 = .ok (.bipush 12, 2) := by decide +kernel
theorem d_X11_goAlong_62 : decode (gw_mC M_X11_goAlong) 62 = .ok (.imul, 1) := by decide +kernel
theorem d_X11_goAlong_63 : decode (gw_mC M_X11_goAlong) 63 = .ok (.invokevirtual 342, 3) := by decide +kernel
theorem d_X11_goAlong_66 : decode (gw_mC M_X11_goAlong) 66 = .ok (.aload_n 0, 1) := by decide +kernel
theorem d_X11_goAlong_67 : decode (gw_mC M_X11_goAlong) 67 = .ok (.iload_n 1, 1) := by decide +kernel
theorem d_X11_goAlong_68 : decode (gw_mC M_X11_goAlong) 68 = .ok (.iconst 1, 1) := by decide +kernel
theorem d_X11_goAlong_69 : decode (gw_mC M_X11_goAlong) 69 = .ok (.iadd, 1) := by decide +kernel
theorem d_X11_goAlong_70 : decode (gw_mC M_X11_goAlong) 70 = .ok (.putfield 61, 3) := by decide +kernel
theorem d_X11_goAlong_73 : decode (gw_mC M_X11_goAlong) 73 = .ok (.iinc 1 1, 3) := by decide +kernel
theorem d_X11_goAlong_76 : decode (gw_mC M_X11_goAlong) 76 = .ok (.goto (-43), 3) := by decide +kernel
theorem d_X11_goAlong_79 : decode (gw_mC M_X11_goAlong) 79 = .ok (.aload_n 0, 1) := by decide +kernel
theorem d_X11_goAlong_80 : decode (gw_mC M_X11_goAlong) 80 = .ok (.iconst 1, 1) := by decide +kernel
theorem d_X11_goAlong_81 : decode (gw_mC M_X11_goAlong) 81 = .ok (.putfield 54, 3) := by decide +kernel
theorem d_X11_goAlong_84 : decode (gw_mC M_X11_goAlong) 84 = .ok (.return_, 1) := by decide +kernel
theorem d_X11_writeTrail_0 : decode (gw_mC M_X11_writeTrail) 0 = .ok (.aload_n 0, 1) := by decide +kernel
theorem d_X11_writeTrail_1 : decode (gw_mC M_X11_writeTrail) 1 = .ok (.getfield 57, 3) := by decide +kernel
theorem d_X11_writeTrail_4 : decode (gw_mC M_X11_writeTrail) 4 = .ok (.iload_n 1, 1) := by decide +kernel
theorem d_X11_writeTrail_5 : decode (gw_mC M_X11_writeTrail) 5 = .ok (.aload_n 0, 1) := by decide +kernel
theorem d_X11_writeTrail_6 : decode (gw_mC M_X11_writeTrail) 6 = .ok (.getfield 47, 3) := by decide +kernel
theorem d_X11_writeTrail_9 : decode (gw_mC M_X11_writeTrail) 9 = .ok (.invokevirtual 345, 3) := by decide +kernel
theorem d_X11_writeTrail_12 : decode (gw_mC M_X11_writeTrail) 12 = .ok (.iastore, 1) := by decide +kernel
theorem d_X11_writeTrail_13 : decode (gw_mC M_X11_writeTrail) 13 = .ok (.aload_n 0, 1) := by decide +kernel
theorem d_X11_writeTrail_14 : decode (gw_mC M_X11_writeTrail) 14 = .ok (.getfield 57, 3) := by decide +kernel
theorem d_X11_writeTrail_17 : decode (gw_mC M_X11_writeTrail) 17 = .ok (.iload_n 1, 1) := by decide +kernel
theorem d_X11_writeTrail_18 : decode (gw_mC M_X11_writeTrail) 18 = .ok (.iconst 1, 1) := by decide +kernel
theorem d_X11_writeTrail_19 : decode (gw_mC M_X11_writeTrail) 19 = .ok (.iadd, 1) := by decide +kernel
theorem d_X11_writeTrail_20 : decode (gw_mC M_X11_writeTrail) 20 = .ok (.aload_n 0, 1) := by decide +kernel
theorem d_X11_writeTrail_21 : decode (gw_mC M_X11_writeTrail) 21 = .ok (.getfield 47, 3) := by decide +kernel
theorem d_X11_writeTrail_24 : decode (gw_mC M_X11_writeTrail) 24 = .ok (.getfield 348, 3) := by decide +kernel
theorem d_X11_writeTrail_27 : decode (gw_mC M_X11_writeTrail) 27 = .ok (.iastore, 1) := by decide +kernel
theorem d_X11_writeTrail_28 : decode (gw_mC M_X11_writeTrail) 28 = .ok (.iconst 0, 1) := by decide +kernel
theorem d_X11_writeTrail_29 : decode (gw_mC M_X11_writeTrail) 29 = .ok (.istore_n 2, 1) := by decide +kernel
theorem d_X11_writeTrail_30 : decode (gw_mC M_X11_writeTrail) 30 = .ok (.iload_n 2, 1) := by decide +kernel
theorem d_X11_writeTrail_31 : decode (gw_mC M_X11_writeTrail) 31 = .ok (.aload_n 0, 1) := by decide +kernel
theorem d_X11_writeTrail_32 : decode (gw_mC M_X11_writeTrail) 32 = .ok (.getfield 47, 3) := by decide +kernel
theorem d_X11_writeTrail_35 : decode (gw_mC M_X11_writeTrail) 35 = .ok (.getfield 239, 3) := by decide +kernel
theorem d_X11_writeTrail_38 : decode (gw_mC M_X11_writeTrail) 38 = .ok (.getfield 180, 3) := by decide +kernel
theorem d_X11_writeTrail_41 : decode (gw_mC M_X11_writeTrail) 41 = .ok (.if_icmp .ge 28, 3) := by decide +kernel
theorem d_X11_writeTrail_44 : decode (gw_mC M_X11_writeTrail) 44 = .ok (.aload_n 0, 1) := by decide +kernel
theorem d_X11_writeTrail_45 : decode (gw_mC M_X11_writeTrail) 45 = .ok (.getfield 57, 3) := by decide +kernel
theorem d_X11_writeTrail_48 : decode (gw_mC M_X11_writeTrail) 48 = .ok (.iload_n 1, 1) := by decide +kernel
theorem d_X11_writeTrail_49 : decode (gw_mC M_X11_writeTrail) 49 = .ok (.iconst 2, 1) := by decide +kernel
theorem d_X11_writeTrail_50 : decode (gw_mC M_X11_writeTrail) 50 = .ok (.iadd, 1) := by decide +kernel
theorem d_X11_writeTrail_51 : decode (gw_mC M_X11_writeTrail) 51 = .ok (.iload_n 2, 1) := by decide +kernel
theorem d_X11_writeTrail_52 : decode (gw_mC M_X11_writeTrail) 52 = .ok (.iadd, 1) := by decide +kernel
theorem d_X11_writeTrail_53 : decode (gw_mC M_X11_writeTrail) 53 = .ok (.aload_n 0, 1) := by decide +kernel
theorem d_X11_writeTrail_54 : decode (gw_mC M_X11_writeTrail) 54 = .ok (.getfield 47, 3) := by decide +kernel
theorem d_X11_writeTrail_57 : decode (gw_mC M_X11_writeTrail) 57 = .ok (.getfield 351, 3) := by decide +kernel
theorem d_X11_writeTrail_60 : decode (gw_mC M_X11_writeTrail) 60 = .ok (.iload_n 2, 1) := by decide +kernel
theorem d_X11_writeTrail_61 : decode (gw_mC M_X11_writeTrail) 61 = .ok (.iaload, 1) := by decide +kernel
theorem d_X11_writeTrail_62 : decode (gw_mC M_X11_writeTrail) 62 = .ok (.iastore, 1) := by decide +kernel
theorem d_X11_writeTrail_63 : decode (gw_mC M_X11_writeTrail) 63 = .ok (.iinc 2 1, 3) := by decide +kernel
theorem d_X11_writeTrail_66 : decode (gw_mC M_X11_writeTrail) 66 = .ok (.goto (-36), 3) := by decide +kernel
theorem d_X11_writeTrail_69 : decode (gw_mC M_X11_writeTrail) 69 = .ok (.return_, 1) := by decide +kernel
theorem d_X11_seekBest_0 : decode (gw_mC M_X11_seekBest) 0 = .ok (.aload_n 0, 1) := by decide +kernel
theorem d_X11_seekBest_1 : decode (gw_mC M_X11_seekBest) 1 = .ok (.getfield 65, 3) := by decide +kernel
theorem d_X11_seekBest_4 : decode (gw_mC M_X11_seekBest) 4 = .ok (.iconst 3, 1) := by decide +kernel
theorem d_X11_seekBest_5 : decode (gw_mC M_X11_seekBest) 5 = .ok (.iconst (-1), 1) := by decide +kernel
theorem d_X11_seekBest_6 : decode (gw_mC M_X11_seekBest) 6 = .ok (.iastore, 1) := by decide +kernel
theorem d_X11_seekBest_7 : decode (gw_mC M_X11_seekBest) 7 = .ok (.aload_n 0, 1) := by decide +kernel
theorem d_X11_seekBest_8 : decode (gw_mC M_X11_seekBest) 8 = .ok (.getfield 51, 3) := by decide +kernel
theorem d_X11_seekBest_11 : decode (gw_mC M_X11_seekBest) 11 = .ok (.aload_n 0, 1) := by decide +kernel
theorem d_X11_seekBest_12 : decode (gw_mC M_X11_seekBest) 12 = .ok (.getfield 10, 3) := by decide +kernel
theorem d_X11_seekBest_15 : decode (gw_mC M_X11_seekBest) 15 = .ok (.invokevirtual 235, 3) := by decide +kernel
theorem d_X11_seekBest_18 : decode (gw_mC M_X11_seekBest) 18 = .ok (.aload_n 0, 1) := by decide +kernel
theorem d_X11_seekBest_19 : decode (gw_mC M_X11_seekBest) 19 = .ok (.getfield 10, 3) := by decide +kernel
theorem d_X11_seekBest_22 : decode (gw_mC M_X11_seekBest) 22 = .ok (.invokevirtual 354, 3) := by decide +kernel
theorem d_X11_seekBest_25 : decode (gw_mC M_X11_seekBest) 25 = .ok (.istore_n 2, 1) := by decide +kernel
theorem d_X11_seekBest_26 : decode (gw_mC M_X11_seekBest) 26 = .ok (.bipush 10, 2) := by decide +kernel
theorem d_X11_seekBest_28 : decode (gw_mC M_X11_seekBest) 28 = .ok (.aload_n 0, 1) := by decide +kernel
theorem d_X11_seekBest_29 : decode (gw_mC M_X11_seekBest) 29 = .ok (.getfield 10, 3) := by decide +kernel
theorem d_X11_seekBest_32 : decode (gw_mC M_X11_seekBest) 32 = .ok (.getfield 128, 3) := by decide +kernel
theorem d_X11_seekBest_35 : decode (gw_mC M_X11_seekBest) 35 = .ok (.getfield 180, 3) := by decide +kernel
theorem d_X11_seekBest_38 : decode (gw_mC M_X11_seekBest) 38 = .ok (.invokestatic 202, 3) := by decide +kernel
theorem d_X11_seekBest_41 : decode (gw_mC M_X11_seekBest) 41 = .ok (.istore_n 3, 1) := by decide +kernel
theorem d_X11_seekBest_42 : decode (gw_mC M_X11_seekBest) 42 = .ok (.getstatic 148, 3) := by decide +kernel
theorem d_X11_seekBest_45 : decode (gw_mC M_X11_seekBest) 45 = .ok (.iconst 0, 1) := by decide +kernel
theorem d_X11_seekBest_46 : decode (gw_mC M_X11_seekBest) 46 = .ok (.iaload, 1) := by decide +kernel
theorem d_X11_seekBest_47 : decode (gw_mC M_X11_seekBest) 47 = .ok (.istore 4, 2) := by decide +kernel
theorem d_X11_seekBest_49 : decode (gw_mC M_X11_seekBest) 49 = .ok (.iload 4, 2) := by decide +kernel
theorem d_X11_seekBest_51 : decode (gw_mC M_X11_seekBest) 51 = .ok (.getstatic 151, 3) := by decide +kernel
theorem d_X11_seekBest_54 : decode (gw_mC M_X11_seekBest) 54 = .ok (.iconst 0, 1) := by decide +kernel
theorem d_X11_seekBest_55 : decode (gw_mC M_X11_seekBest) 55 = .ok (.iaload, 1) := by decide +kernel
theorem d_X11_seekBest_56 : decode (gw_mC M_X11_seekBest) 56 = .ok (.if_icmp .gt 92, 3) := by decide +kernel
theorem d_X11_seekBest_59 : decode (gw_mC M_X11_seekBest) 59 = .ok (.iconst 0, 1) := by decide +kernel
theorem d_X11_seekBest_60 : decode (gw_mC M_X11_seekBest) 60 = .ok (.istore 5, 2) := by decide +kernel
theorem d_X11_seekBest_62 : decode (gw_mC M_X11_seekBest) 62 = .ok (.iload 5, 2) := by decide +kernel
theorem d_X11_seekBest_64 : decode (gw_mC M_X11_seekBest) 64 = .ok (.iload_n 3, 1) := by decide +kernel
theorem d_X11_seekBest_65 : decode (gw_mC M_X11_seekBest) 65 = .ok (.if_icmp .gt 77, 3) := by decide +kernel
theorem d_X11_seekBest_68 : decode (gw_mC M_X11_seekBest) 68 = .ok (.iconst 0, 1) := by decide +kernel
theorem d_X11_seekBest_69 : decode (gw_mC M_X11_seekBest) 69 = .ok (.istore 6, 2) := by decide +kernel
theorem d_X11_seekBest_71 : decode (gw_mC M_X11_seekBest) 71 = .ok (.iload 6, 2) := by decide +kernel
theorem d_X11_seekBest_73 : decode (gw_mC M_X11_seekBest) 73 = .ok (.iconst 4, 1) := by decide +kernel
theorem d_X11_seekBest_74 : decode (gw_mC M_X11_seekBest) 74 = .ok (.if_icmp .gt 62, 3) := by decide +kernel
theorem d_X11_seekBest_77 : decode (gw_mC M_X11_seekBest) 77 = .ok (.aload_n 0, 1) := by decide +kernel
theorem d_X11_seekBest_78 : decode (gw_mC M_X11_seekBest) 78 = .ok (.getfield 51, 3) := by decide +kernel
theorem d_X11_seekBest_81 : decode (gw_mC M_X11_seekBest) 81 = .ok (.iload 4, 2) := by decide +kernel
theorem d_X11_seekBest_83 : decode (gw_mC M_X11_seekBest) 83 = .ok (.iload 5, 2) := by decide +kernel
theorem d_X11_seekBest_85 : decode (gw_mC M_X11_seekBest) 85 = .ok (.iload 6, 2) := by decide +kernel
theorem d_X11_seekBest_87 : decode (gw_mC M_X11_seekBest) 87 = .ok (.invokevirtual 357, 3) := by decide +kernel
theorem d_X11_seekBest_90 : decode (gw_mC M_X11_seekBest) 90 = .ok (.aload_n 0, 1) := by decide +kernel
theorem d_X11_seekBest_91 : decode (gw_mC M_X11_seekBest) 91 = .ok (.getfield 51, 3) := by decide +kernel
theorem d_X11_seekBest_94 : decode (gw_mC M_X11_seekBest) 94 = .ok (.iload_n 1, 1) := by decide +kernel
theorem d_X11_seekBest_95 : decode (gw_mC M_X11_seekBest) 95 = .ok (.invokevirtual 361, 3) := by decide +kernel
theorem d_X11_seekBest_98 : decode (gw_mC M_X11_seekBest) 98 = .ok (.istore 7, 2) := by decide +kernel
theorem d_X11_seekBest_100 : decode (gw_mC M_X11_seekBest) 100 = .ok (.iload 7, 2) := by decide +kernel
theorem d_X11_seekBest_102 : decode (gw_mC M_X11_seekBest) 102 = .ok (.aload_n 0, 1) := by decide +kernel
theorem d_X11_seekBest_103 : decode (gw_mC M_X11_seekBest) 103 = .ok (.getfield 65, 3) := by decide +kernel
theorem d_X11_seekBest_106 : decode (gw_mC M_X11_seekBest) 106 = .ok (.iconst 3, 1) := by decide +kernel
theorem d_X11_seekBest_107 : decode (gw_mC M_X11_seekBest) 107 = .ok (.iaload, 1) := by decide +kernel
theorem d_X11_seekBest_108 : decode (gw_mC M_X11_seekBest) 108 = .ok (.if_icmp .le 15, 3) := by decide +kernel
theorem d_X11_seekBest_111 : decode (gw_mC M_X11_seekBest) 111 = .ok (.aload_n 0, 1) := by decide +kernel
theorem d_X11_seekBest_112 : decode (gw_mC M_X11_seekBest) 112 = .ok (.iload 4, 2) := by decide +kernel
theorem d_X11_seekBest_114 : decode (gw_mC M_X11_seekBest) 114 = .ok (.iload 5, 2) := by decide +kernel
theorem d_X11_seekBest_116 : decode (gw_mC M_X11_seekBest) 116 = .ok (.iload 6, 2) := by decide +kernel
theorem d_X11_seekBest_118 : decode (gw_mC M_X11_seekBest) 118 = .ok (.iload 7, 2) := by decide +kernel
theorem d_X11_seekBest_120 : decode (gw_mC M_X11_seekBest) 120 = .ok (.invokevirtual 365, 3) := by decide +kernel
theorem d_X11_seekBest_123 : decode (gw_mC M_X11_seekBest) 123 = .ok (.iload 7, 2) := by decide +kernel
theorem d_X11_seekBest_125 : decode (gw_mC M_X11_seekBest) 125 = .ok (.iload_n 2, 1) := by decide +kernel
theorem d_X11_seekBest_126 : decode (gw_mC M_X11_seekBest) 126 = .ok (.if_icmp .lt 4, 3) := by decide +kernel
theorem d_X11_seekBest_129 : decode (gw_mC M_X11_seekBest) 129 = .ok (.return_, 1) := by decide +kernel
theorem d_X11_seekBest_130 : decode (gw_mC M_X11_seekBest) 130 = .ok (.iinc 6 1, 3) := by decide +kernel
theorem d_X11_seekBest_133 : decode (gw_mC M_X11_seekBest) 133 = .ok (.goto (-62), 3) := by decide +kernel
theorem d_X11_seekBest_136 : decode (gw_mC M_X11_seekBest) 136 = .ok (.iinc 5 1, 3) := by decide +kernel
theorem d_X11_seekBest_139 : decode (gw_mC M_X11_seekBest) 139 = .ok (.goto (-77), 3) := by decide +kernel
theorem d_X11_seekBest_142 : decode (gw_mC M_X11_seekBest) 142 = .ok (.iinc 4 1, 3) := by decide +kernel
theorem d_X11_seekBest_145 : decode (gw_mC M_X11_seekBest) 145 = .ok (.goto (-96), 3) := by decide +kernel
theorem d_X11_seekBest_148 : decode (gw_mC M_X11_seekBest) 148 = .ok (.return_, 1) := by decide +kernel
theorem d_X11_noteBest_0 : decode (gw_mC M_X11_noteBest) 0 = .ok (.aload_n 0, 1) := by decide +kernel
theorem d_X11_noteBest_1 : decode (gw_mC M_X11_noteBest) 1 = .ok (.getfield 65, 3) := by decide +kernel
theorem d_X11_noteBest_4 : decode (gw_mC M_X11_noteBest) 4 = .ok (.iconst 0, 1) := by decide +kernel
theorem d_X11_noteBest_5 : decode (gw_mC M_X11_noteBest) 5 = .ok (.iload_n 1, 1) := by decide +kernel
theorem d_X11_noteBest_6 : decode (gw_mC M_X11_noteBest) 6 = .ok (.iastore, 1) := by decide +kernel
theorem d_X11_noteBest_7 : decode (gw_mC M_X11_noteBest) 7 = .ok (.aload_n 0, 1) := by decide +kernel
theorem d_X11_noteBest_8 : decode (gw_mC M_X11_noteBest) 8 = .ok (.getfield 65, 3) := by decide +kernel
theorem d_X11_noteBest_11 : decode (gw_mC M_X11_noteBest) 11 = .ok (.iconst 1, 1) := by decide +kernel
theorem d_X11_noteBest_12 : decode (gw_mC M_X11_noteBest) 12 = .ok (.iload_n 2, 1) := by decide +kernel
theorem d_X11_noteBest_13 : decode (gw_mC M_X11_noteBest) 13 = .ok (.iastore, 1) := by decide +kernel
theorem d_X11_noteBest_14 : decode (gw_mC M_X11_noteBest) 14 = .ok (.aload_n 0, 1) := by decide +kernel
theorem d_X11_noteBest_15 : decode (gw_mC M_X11_noteBest) 15 = .ok (.getfield 65, 3) := by decide +kernel
theorem d_X11_noteBest_18 : decode (gw_mC M_X11_noteBest) 18 = .ok (.iconst 2, 1) := by decide +kernel
theorem d_X11_noteBest_19 : decode (gw_mC M_X11_noteBest) 19 = .ok (.iload_n 3, 1) := by decide +kernel
theorem d_X11_noteBest_20 : decode (gw_mC M_X11_noteBest) 20 = .ok (.iastore, 1) := by decide +kernel
theorem d_X11_noteBest_21 : decode (gw_mC M_X11_noteBest) 21 = .ok (.aload_n 0, 1) := by decide +kernel
theorem d_X11_noteBest_22 : decode (gw_mC M_X11_noteBest) 22 = .ok (.getfield 65, 3) := by decide +kernel
theorem d_X11_noteBest_25 : decode (gw_mC M_X11_noteBest) 25 = .ok (.iconst 3, 1) := by decide +kernel
theorem d_X11_noteBest_26 : decode (gw_mC M_X11_noteBest) 26 = .ok (.iload 4, 2) := by decide +kernel
theorem d_X11_noteBest_28 : decode (gw_mC M_X11_noteBest) 28 = .ok (.iastore, 1) := by decide +kernel
theorem d_X11_noteBest_29 : decode (gw_mC M_X11_noteBest) 29 = .ok (.return_, 1) := by decide +kernel
theorem d_X12_in_0 : decode (gw_mC M_X12_in) 0 = .ok (.lload_n 0, 1) := by decide +kernel
theorem d_X12_in_1 : decode (gw_mC M_X12_in) 1 = .ok (.lload_n 2, 1) := by decide +kernel
theorem d_X12_in_2 : decode (gw_mC M_X12_in) 2 = .ok (.lcmp, 1) := by decide +kernel
theorem d_X12_in_3 : decode (gw_mC M_X12_in) 3 = .ok (.ifCond .lt 14, 3) := by decide +kernel
theorem d_X12_in_6 : decode (gw_mC M_X12_in) 6 = .ok (.lload_n 0, 1) := by decide +kernel
theorem d_X12_in_7 : decode (gw_mC M_X12_in) 7 = .ok (.lload 4, 2) := by decide +kernel
theorem d_X12_in_9 : decode (gw_mC M_X12_in) 9 = .ok (.lcmp, 1) := by decide +kernel
theorem d_X12_in_10 : decode (gw_mC M_X12_in) 10 = .ok (.ifCond .gt 7, 3) := by decide +kernel
theorem d_X12_in_13 : decode (gw_mC M_X12_in) 13 = .ok (.iconst 1, 1) := by decide +kernel
theorem d_X12_in_14 : decode (gw_mC M_X12_in) 14 = .ok (.goto 4, 3) := by decide +kernel
theorem d_X12_in_17 : decode (gw_mC M_X12_in) 17 = .ok (.iconst 0, 1) := by decide +kernel
theorem d_X12_in_18 : decode (gw_mC M_X12_in) 18 = .ok (.ireturn, 1) := by decide +kernel
theorem d_X12_init_0 : decode (gw_mC M_X12_init) 0 = .ok (.aload_n 0, 1) := by decide +kernel
theorem d_X12_init_1 : decode (gw_mC M_X12_init) 1 = .ok (.invokespecial 1, 3) := by decide +kernel
theorem d_X12_init_4 : decode (gw_mC M_X12_init) 4 = .ok (.aload_n 0, 1) := by decide +kernel
theorem d_X12_init_5 : decode (gw_mC M_X12_init) 5 = .ok (.iconst 4, 1) := by decide +kernel
theorem d_X12_init_6 : decode (gw_mC M_X12_init) 6 = .ok (.newarray .int, 2) := by decide +kernel
theorem d_X12_init_8 : decode (gw_mC M_X12_init) 8 = .ok (.putfield 7, 3) := by decide +kernel
theorem d_X12_init_11 : decode (gw_mC M_X12_init) 11 = .ok (.aload_n 0, 1) := by decide +kernel
theorem d_X12_init_12 : decode (gw_mC M_X12_init) 12 = .ok (.bipush 32, 2) := by decide +kernel
theorem d_X12_init_14 : decode (gw_mC M_X12_init) 14 = .ok (.newarray .int, 2) := by decide +kernel
theorem d_X12_init_16 : decode (gw_mC M_X12_init) 16 = .ok (.putfield 13, 3) := by decide +kernel
theorem d_X12_init_19 : decode (gw_mC M_X12_init) 19 = .ok (.aload_n 0, 1) := by decide +kernel
theorem d_X12_init_20 : decode (gw_mC M_X12_init) 20 = .ok (.bipush 32, 2) := by decide +kernel
theorem d_X12_init_22 : decode (gw_mC M_X12_init) 22 = .ok (.newarray .int, 2) := by decide +kernel
theorem d_X12_init_24 : decode (gw_mC M_X12_init) 24 = .ok (.putfield 16, 3) := by decide +kernel
theorem d_X12_init_27 : decode (gw_mC M_X12_init) 27 = .ok (.aload_n 0, 1) := by decide +kernel
theorem d_X12_init_28 : decode (gw_mC M_X12_init) 28 = .ok (.bipush 8, 2) := by decide +kernel
theorem d_X12_init_30 : decode (gw_mC M_X12_init) 30 = .ok (.newarray .int, 2) := by decide +kernel
theorem d_X12_init_32 : decode (gw_mC M_X12_init) 32 = .ok (.putfield 19, 3) := by decide +kernel
theorem d_X12_init_35 : decode (gw_mC M_X12_init) 35 = .ok (.aload_n 0, 1) := by decide +kernel
theorem d_X12_init_36 : decode (gw_mC M_X12_init) 36 = .ok (.iconst 5, 1) := by decide +kernel
theorem d_X12_init_37 : decode (gw_mC M_X12_init) 37 = .ok (.newarray .int, 2) := by decide +kernel
theorem d_X12_init_39 : decode (gw_mC M_X12_init) 39 = .ok (.putfield 22, 3) := by decide +kernel
theorem d_X12_init_42 : decode (gw_mC M_X12_init) 42 = .ok (.aload_n 0, 1) := by decide +kernel
theorem d_X12_init_43 : decode (gw_mC M_X12_init) 43 = .ok (.bipush 10, 2) := by decide +kernel
theorem d_X12_init_45 : decode (gw_mC M_X12_init) 45 = .ok (.newarray .int, 2) := by decide +kernel
theorem d_X12_init_47 : decode (gw_mC M_X12_init) 47 = .ok (.putfield 25, 3) := by decide +kernel
theorem d_X12_init_50 : decode (gw_mC M_X12_init) 50 = .ok (.aload_n 0, 1) := by decide +kernel
theorem d_X12_init_51 : decode (gw_mC M_X12_init) 51 = .ok (.bipush 10, 2) := by decide +kernel
theorem d_X12_init_53 : decode (gw_mC M_X12_init) 53 = .ok (.newarray .int, 2) := by decide +kernel
theorem d_X12_init_55 : decode (gw_mC M_X12_init) 55 = .ok (.putfield 28, 3) := by decide +kernel
theorem d_X12_init_58 : decode (gw_mC M_X12_init) 58 = .ok (.aload_n 0, 1) := by decide +kernel
theorem d_X12_init_59 : decode (gw_mC M_X12_init) 59 = .ok (.bipush 10, 2) := by decide +kernel
theorem d_X12_init_61 : decode (gw_mC M_X12_init) 61 = .ok (.newarray .int, 2) := by decide +kernel
theorem d_X12_init_63 : decode (gw_mC M_X12_init) 63 = .ok (.putfield 31, 3) := by decide +kernel
theorem d_X12_init_66 : decode (gw_mC M_X12_init) 66 = .ok (.aload_n 0, 1) := by decide +kernel
theorem d_X12_init_67 : decode (gw_mC M_X12_init) 67 = .ok (.sipush 144, 3) := by decide +kernel
theorem d_X12_init_70 : decode (gw_mC M_X12_init) 70 = .ok (.newarray .int, 2) := by decide +kernel
theorem d_X12_init_72 : decode (gw_mC M_X12_init) 72 = .ok (.putfield 34, 3) := by decide +kernel
theorem d_X12_init_75 : decode (gw_mC M_X12_init) 75 = .ok (.aload_n 0, 1) := by decide +kernel
theorem d_X12_init_76 : decode (gw_mC M_X12_init) 76 = .ok (.bipush 80, 2) := by decide +kernel
theorem d_X12_init_78 : decode (gw_mC M_X12_init) 78 = .ok (.newarray .int, 2) := by decide +kernel
theorem d_X12_init_80 : decode (gw_mC M_X12_init) 80 = .ok (.putfield 37, 3) := by decide +kernel
theorem d_X12_init_83 : decode (gw_mC M_X12_init) 83 = .ok (.aload_n 0, 1) := by decide +kernel
theorem d_X12_init_84 : decode (gw_mC M_X12_init) 84 = .ok (.bipush 30, 2) := by decide +kernel
theorem d_X12_init_86 : decode (gw_mC M_X12_init) 86 = .ok (.newarray .int, 2) := by decide +kernel
theorem d_X12_init_88 : decode (gw_mC M_X12_init) 88 = .ok (.putfield 40, 3) := by decide +kernel
theorem d_X12_init_91 : decode (gw_mC M_X12_init) 91 = .ok (.aload_n 0, 1) := by decide +kernel
theorem d_X12_init_92 : decode (gw_mC M_X12_init) 92 = .ok (.bipush 10, 2) := by decide +kernel
theorem d_X12_init_94 : decode (gw_mC M_X12_init) 94 = .ok (.newarray .int, 2) := by decide +kernel
theorem d_X12_init_96 : decode (gw_mC M_X12_init) 96 = .ok (.putfield 43, 3) := by decide +kernel
theorem d_X12_init_99 : decode (gw_mC M_X12_init) 99 = .ok (.aload_n 0, 1) := by decide +kernel
theorem d_X12_init_100 : decode (gw_mC M_X12_init) 100 = .ok (.bipush 10, 2) := by decide +kernel
theorem d_X12_init_102 : decode (gw_mC M_X12_init) 102 = .ok (.newarray .int, 2) := by decide +kernel
theorem d_X12_init_104 : decode (gw_mC M_X12_init) 104 = .ok (.putfield 46, 3) := by decide +kernel
theorem d_X12_init_107 : decode (gw_mC M_X12_init) 107 = .ok (.aload_n 0, 1) := by decide +kernel
theorem d_X12_init_108 : decode (gw_mC M_X12_init) 108 = .ok (.bipush 10, 2) := by decide +kernel
theorem d_X12_init_110 : decode (gw_mC M_X12_init) 110 = .ok (.newarray .int, 2) := by decide +kernel
theorem d_X12_init_112 : decode (gw_mC M_X12_init) 112 = .ok (.putfield 49, 3) := by decide +kernel
theorem d_X12_init_115 : decode (gw_mC M_X12_init) 115 = .ok (.aload_n 0, 1) := by decide +kernel
theorem d_X12_init_116 : decode (gw_mC M_X12_init) 116 = .ok (.bipush 10, 2) := by decide +kernel
theorem d_X12_init_118 : decode (gw_mC M_X12_init) 118 = .ok (.newarray .int, 2) := by decide +kernel
theorem d_X12_init_120 : decode (gw_mC M_X12_init) 120 = .ok (.putfield 52, 3) := by decide +kernel
theorem d_X12_init_123 : decode (gw_mC M_X12_init) 123 = .ok (.aload_n 0, 1) := by decide +kernel
theorem d_X12_init_124 : decode (gw_mC M_X12_init) 124 = .ok (.bipush 10, 2) := by decide +kernel
theorem d_X12_init_126 : decode (gw_mC M_X12_init) 126 = .ok (.newarray .int, 2) := by decide +kernel
theorem d_X12_init_128 : decode (gw_mC M_X12_init) 128 = .ok (.putfield 55, 3) := by decide +kernel
theorem d_X12_init_131 : decode (gw_mC M_X12_init) 131 = .ok (.aload_n 0, 1) := by decide +kernel
theorem d_X12_init_132 : decode (gw_mC M_X12_init) 132 = .ok (.bipush 10, 2) := by decide +kernel
theorem d_X12_init_134 : decode (gw_mC M_X12_init) 134 = .ok (.newarray .int, 2) := by decide +kernel
theorem d_X12_init_136 : decode (gw_mC M_X12_init) 136 = .ok (.putfield 58, 3) := by decide +kernel
theorem d_X12_init_139 : decode (gw_mC M_X12_init) 139 = .ok (.aload_n 0, 1) := by decide +kernel
theorem d_X12_init_140 : decode (gw_mC M_X12_init) 140 = .ok (.sipush 3600, 3) := by decide +kernel
theorem d_X12_init_143 : decode (gw_mC M_X12_init) 143 = .ok (.newarray .int, 2) := by decide +kernel
theorem d_X12_init_145 : decode (gw_mC M_X12_init) 145 = .ok (.putfield 61, 3) := by decide +kernel
theorem d_X12_init_148 : decode (gw_mC M_X12_init) 148 = .ok (.aload_n 0, 1) := by decide +kernel
theorem d_X12_init_149 : decode (gw_mC M_X12_init) 149 = .ok (.bipush 8, 2) := by decide +kernel
theorem d_X12_init_151 : decode (gw_mC M_X12_init) 151 = .ok (.newarray .int, 2) := by decide +kernel
theorem d_X12_init_153 : decode (gw_mC M_X12_init) 153 = .ok (.putfield 64, 3) := by decide +kernel
theorem d_X12_init_156 : decode (gw_mC M_X12_init) 156 = .ok (.aload_n 0, 1) := by decide +kernel
theorem d_X12_init_157 : decode (gw_mC M_X12_init) 157 = .ok (.sipush 270, 3) := by decide +kernel
theorem d_X12_init_160 : decode (gw_mC M_X12_init) 160 = .ok (.newarray .int, 2) := by decide +kernel
theorem d_X12_init_162 : decode (gw_mC M_X12_init) 162 = .ok (.putfield 67, 3) := by decide +kernel
theorem d_X12_init_165 : decode (gw_mC M_X12_init) 165 = .ok (.aload_n 0, 1) := by decide +kernel
theorem d_X12_init_166 : decode (gw_mC M_X12_init) 166 = .ok (.iconst 4, 1) := by decide +kernel
theorem d_X12_init_167 : decode (gw_mC M_X12_init) 167 = .ok (.newarray .int, 2) := by decide +kernel
theorem d_X12_init_169 : decode (gw_mC M_X12_init) 169 = .ok (.putfield 70, 3) := by decide +kernel
theorem d_X12_init_172 : decode (gw_mC M_X12_init) 172 = .ok (.aload_n 0, 1) := by decide +kernel
theorem d_X12_init_173 : decode (gw_mC M_X12_init) 173 = .ok (.iconst 4, 1) := by decide +kernel
theorem d_X12_init_174 : decode (gw_mC M_X12_init) 174 = .ok (.newarray .int, 2) := by decide +kernel
theorem d_X12_init_176 : decode (gw_mC M_X12_init) 176 = .ok (.putfield 73, 3) := by decide +kernel
theorem d_X12_init_179 : decode (gw_mC M_X12_init) 179 = .ok (.aload_n 0, 1) := by decide +kernel
theorem d_X12_init_180 : decode (gw_mC M_X12_init) 180 = .ok (.bipush 96, 2) := by decide +kernel
theorem d_X12_init_182 : decode (gw_mC M_X12_init) 182 = .ok (.newarray .int, 2) := by decide +kernel
theorem d_X12_init_184 : decode (gw_mC M_X12_init) 184 = .ok (.putfield 76, 3) := by decide +kernel
theorem d_X12_init_187 : decode (gw_mC M_X12_init) 187 = .ok (.aload_n 0, 1) := by decide +kernel
theorem d_X12_init_188 : decode (gw_mC M_X12_init) 188 = .ok (.bipush 24, 2) := by decide +kernel
theorem d_X12_init_190 : decode (gw_mC M_X12_init) 190 = .ok (.newarray .int, 2) := by decide +kernel
theorem d_X12_init_192 : decode (gw_mC M_X12_init) 192 = .ok (.putfield 79, 3) := by decide +kernel
theorem d_X12_init_195 : decode (gw_mC M_X12_init) 195 = .ok (.aload_n 0, 1) := by decide +kernel
theorem d_X12_init_196 : decode (gw_mC M_X12_init) 196 = .ok (.bipush 6, 2) := by decide +kernel
theorem d_X12_init_198 : decode (gw_mC M_X12_init) 198 = .ok (.newarray .int, 2) := by decide +kernel
theorem d_X12_init_200 : decode (gw_mC M_X12_init) 200 = .ok (.putfield 82, 3) := by decide +kernel
theorem d_X12_init_203 : decode (gw_mC M_X12_init) 203 = .ok (.aload_n 0, 1) := by decide +kernel
theorem d_X12_init_204 : decode (gw_mC M_X12_init) 204 = .ok (.bipush 6, 2) := by decide +kernel
theorem d_X12_init_206 : decode (gw_mC M_X12_init) 206 = .ok (.newarray .int, 2) := by decide +kernel
theorem d_X12_init_208 : decode (gw_mC M_X12_init) 208 = .ok (.putfield 85, 3) := by decide +kernel
theorem d_X12_init_211 : decode (gw_mC M_X12_init) 211 = .ok (.iconst 0, 1) := by decide +kernel
theorem d_X12_init_212 : decode (gw_mC M_X12_init) 212 = .ok (.istore_n 1, 1) := by decide +kernel
theorem d_X12_init_213 : decode (gw_mC M_X12_init) 213 = .ok (.iload_n 1, 1) := by decide +kernel
theorem d_X12_init_214 : decode (gw_mC M_X12_init) 214 = .ok (.iconst 4, 1) := by decide +kernel
theorem d_X12_init_215 : decode (gw_mC M_X12_init) 215 = .ok (.if_icmp .ge 16, 3) := by decide +kernel
theorem d_X12_init_218 : decode (gw_mC M_X12_init) 218 = .ok (.aload_n 0, 1) := by decide +kernel
theorem d_X12_init_219 : decode (gw_mC M_X12_init) 219 = .ok (.getfield 70, 3) := by decide +kernel
theorem d_X12_init_222 : decode (gw_mC M_X12_init) 222 = .ok (.iload_n 1, 1) := by decide +kernel
theorem d_X12_init_223 : decode (gw_mC M_X12_init) 223 = .ok (.iconst (-1), 1) := by decide +kernel
theorem d_X12_init_224 : decode (gw_mC M_X12_init) 224 = .ok (.iastore, 1) := by decide +kernel
theorem d_X12_init_225 : decode (gw_mC M_X12_init) 225 = .ok (.iinc 1 1, 3) := by decide +kernel
theorem d_X12_init_228 : decode (gw_mC M_X12_init) 228 = .ok (.goto (-15), 3) := by decide +kernel
theorem d_X12_init_231 : decode (gw_mC M_X12_init) 231 = .ok (.aload_n 0, 1) := by decide +kernel
theorem d_X12_init_232 : decode (gw_mC M_X12_init) 232 = .ok (.bipush 40, 2) := by decide +kernel
theorem d_X12_init_234 : decode (gw_mC M_X12_init) 234 = .ok (.putfield 88, 3) := by decide +kernel
theorem d_X12_init_237 : decode (gw_mC M_X12_init) 237 = .ok (.aload_n 0, 1) := by decide +kernel
theorem d_X12_init_238 : decode (gw_mC M_X12_init) 238 = .ok (.getfield 22, 3) := by decide +kernel
theorem d_X12_init_241 : decode (gw_mC M_X12_init) 241 = .ok (.iconst 0, 1) := by decide +kernel
theorem d_X12_init_242 : decode (gw_mC M_X12_init) 242 = .ok (.iconst 2, 1) := by decide +kernel
theorem d_X12_init_243 : decode (gw_mC M_X12_init) 243 = .ok (.iastore, 1) := by decide +kernel
theorem d_X12_init_244 : decode (gw_mC M_X12_init) 244 = .ok (.aload_n 0, 1) := by decide +kernel
theorem d_X12_init_245 : decode (gw_mC M_X12_init) 245 = .ok (.getfield 22, 3) := by decide +kernel
theorem d_X12_init_248 : decode (gw_mC M_X12_init) 248 = .ok (.iconst 1, 1) := by decide +kernel
theorem d_X12_init_249 : decode (gw_mC M_X12_init) 249 = .ok (.iconst 5, 1) := by decide +kernel
theorem d_X12_init_250 : decode (gw_mC M_X12_init) 250 = .ok (.iastore, 1) := by decide +kernel
theorem d_X12_init_251 : decode (gw_mC M_X12_init) 251 = .ok (.aload_n 0, 1) := by decide +kernel
theorem d_X12_init_252 : decode (gw_mC M_X12_init) 252 = .ok (.getfield 22, 3) := by decide +kernel
theorem d_X12_init_255 : decode (gw_mC M_X12_init) 255 = .ok (.iconst 3, 1) := by decide +kernel
theorem d_X12_init_256 : decode (gw_mC M_X12_init) 256 = .ok (.bipush 10, 2) := by decide +kernel
theorem d_X12_init_258 : decode (gw_mC M_X12_init) 258 = .ok (.iastore, 1) := by decide +kernel
theorem d_X12_init_259 : decode (gw_mC M_X12_init) 259 = .ok (.aload_n 0, 1) := by decide +kernel
theorem d_X12_init_260 : decode (gw_mC M_X12_init) 260 = .ok (.getfield 22, 3) := by decide +kernel
theorem d_X12_init_263 : decode (gw_mC M_X12_init) 263 = .ok (.iconst 4, 1) := by decide +kernel
theorem d_X12_init_264 : decode (gw_mC M_X12_init) 264 = .ok (.iconst 3, 1) := by decide +kernel
theorem d_X12_init_265 : decode (gw_mC M_X12_init) 265 = .ok (.iastore, 1) := by decide +kernel
theorem d_X12_init_266 : decode (gw_mC M_X12_init) 266 = .ok (.iconst 0, 1) := by decide +kernel
theorem d_X12_init_267 : decode (gw_mC M_X12_init) 267 = .ok (.istore_n 1, 1) := by decide +kernel
theorem d_X12_init_268 : decode (gw_mC M_X12_init) 268 = .ok (.iload_n 1, 1) := by decide +kernel
theorem d_X12_init_269 : decode (gw_mC M_X12_init) 269 = .ok (.bipush 8, 2) := by decide +kernel
theorem d_X12_init_271 : decode (gw_mC M_X12_init) 271 = .ok (.if_icmp .ge 17, 3) := by decide +kernel
theorem d_X12_init_274 : decode (gw_mC M_X12_init) 274 = .ok (.aload_n 0, 1) := by decide +kernel
theorem d_X12_init_275 : decode (gw_mC M_X12_init) 275 = .ok (.getfield 19, 3) := by decide +kernel
theorem d_X12_init_278 : decode (gw_mC M_X12_init) 278 = .ok (.iload_n 1, 1) := by decide +kernel
theorem d_X12_init_279 : decode (gw_mC M_X12_init) 279 = .ok (.bipush 10, 2) := by decide +kernel
theorem d_X12_init_281 : decode (gw_mC M_X12_init) 281 = .ok (.iastore, 1) := by decide +kernel
theorem d_X12_init_282 : decode (gw_mC M_X12_init) 282 = .ok (.iinc 1 1, 3) := by decide +kernel
theorem d_X12_init_285 : decode (gw_mC M_X12_init) 285 = .ok (.goto (-17), 3) := by decide +kernel
theorem d_X12_init_288 : decode (gw_mC M_X12_init) 288 = .ok (.return_, 1) := by decide +kernel
theorem d_X12_isLength_0 : decode (gw_mC M_X12_isLength) 0 = .ok (.iload_n 1, 1) := by decide +kernel
theorem d_X12_isLength_1 : decode (gw_mC M_X12_isLength) 1 = .ok (.i2l, 1) := by decide +kernel
theorem d_X12_isLength_2 : decode (gw_mC M_X12_isLength) 2 = .ok (.iload_n 0, 1) := by decide +kernel
theorem d_X12_isLength_3 : decode (gw_mC M_X12_isLength) 3 = .ok (.iconst 1, 1) := by decide +kernel
theorem d_X12_isLength_4 : decode (gw_mC M_X12_isLength) 4 = .ok (.if_icmp .ne 9, 3) := by decide +kernel
theorem d_X12_isLength_7 : decode (gw_mC M_X12_isLength) 7 = .ok (.ldc2_w 92, 3) := by decide +kernel
theorem d_X12_isLength_10 : decode (gw_mC M_X12_isLength) 10 = .ok (.goto 4, 3) := by decide +kernel
theorem d_X12_isLength_13 : decode (gw_mC M_X12_isLength) 13 = .ok (.lconst 1, 1) := by decide +kernel
theorem d_X12_isLength_14 : decode (gw_mC M_X12_isLength) 14 = .ok (.iload_n 0, 1) := by decide +kernel
theorem d_X12_isLength_15 : decode (gw_mC M_X12_isLength) 15 = .ok (.iconst 3, 1) := by decide +kernel
theorem d_X12_isLength_16 : decode (gw_mC M_X12_isLength) 16 = .ok (.if_icmp .ne 9, 3) := by decide +kernel
theorem d_X12_isLength_19 : decode (gw_mC M_X12_isLength) 19 = .ok (.ldc2_w 94, 3) := by decide +kernel
theorem d_X12_isLength_22 : decode (gw_mC M_X12_isLength) 22 = .ok (.goto 6, 3) := by decide +kernel
theorem d_X12_isLength_25 : decode (gw_mC M_X12_isLength) 25 = .ok (.ldc2_w 96, 3) := by decide +kernel
theorem d_X12_isLength_28 : decode (gw_mC M_X12_isLength) 28 = .ok (.invokestatic 98, 3) := by decide +kernel
theorem d_X12_isLength_31 : decode (gw_mC M_X12_isLength) 31 = .ok (.ireturn, 1) := by decide +kernel
theorem d_X12_end_0 : decode (gw_mC M_X12_end) 0 = .ok (.iload_n 1, 1) := by decide +kernel
theorem d_X12_end_1 : decode (gw_mC M_X12_end) 1 = .ok (.i2l, 1) := by decide +kernel
theorem d_X12_end_2 : decode (gw_mC M_X12_end) 2 = .ok (.ldc2_w 102, 3) := by decide +kernel
theorem d_X12_end_5 : decode (gw_mC M_X12_end) 5 = .ok (.ldc2_w 104, 3) := by decide +kernel
theorem d_X12_end_8 : decode (gw_mC M_X12_end) 8 = .ok (.invokestatic 98, 3) := by decide +kernel
theorem d_X12_end_11 : decode (gw_mC M_X12_end) 11 = .ok (.ifCond .ne 5, 3) := by decide +kernel
theorem d_X12_end_14 : decode (gw_mC M_X12_end) 14 = .ok (.iconst (-1), 1) := by decide +kernel
theorem d_X12_end_15 : decode (gw_mC M_X12_end) 15 = .ok (.ireturn, 1) := by decide +kernel
theorem d_X12_end_16 : decode (gw_mC M_X12_end) 16 = .ok (.aload_n 0, 1) := by decide +kernel
theorem d_X12_end_17 : decode (gw_mC M_X12_end) 17 = .ok (.getfield 88, 3) := by decide +kernel
theorem d_X12_end_20 : decode (gw_mC M_X12_end) 20 = .ok (.istore_n 2, 1) := by decide +kernel
theorem d_X12_end_21 : decode (gw_mC M_X12_end) 21 = .ok (.aload_n 0, 1) := by decide +kernel
theorem d_X12_end_22 : decode (gw_mC M_X12_end) 22 = .ok (.iload_n 1, 1) := by decide +kernel
theorem d_X12_end_23 : decode (gw_mC M_X12_end) 23 = .ok (.putfield 88, 3) := by decide +kernel
theorem d_X12_end_26 : decode (gw_mC M_X12_end) 26 = .ok (.iload_n 2, 1) := by decide +kernel
theorem d_X12_end_27 : decode (gw_mC M_X12_end) 27 = .ok (.ireturn, 1) := by decide +kernel
theorem d_X12_markAt_0 : decode (gw_mC M_X12_markAt) 0 = .ok (.bipush (-4), 2) := by decide +kernel
theorem d_X12_markAt_2 : decode (gw_mC M_X12_markAt) 2 = .ok (.istore_n 3, 1) := by decide +kernel
theorem d_X12_markAt_3 : decode (gw_mC M_X12_markAt) 3 = .ok (.iconst 0, 1) := by decide +kernel
theorem d_X12_markAt_4 : decode (gw_mC M_X12_markAt) 4 = .ok (.istore 4, 2) := by decide +kernel
theorem d_X12_markAt_6 : decode (gw_mC M_X12_markAt) 6 = .ok (.iload 4, 2) := by decide +kernel
theorem d_X12_markAt_8 : decode (gw_mC M_X12_markAt) 8 = .ok (.aload_n 0, 1) := by decide +kernel
theorem d_X12_markAt_9 : decode (gw_mC M_X12_markAt) 9 = .ok (.getfield 7, 3) := by decide +kernel
theorem d_X12_markAt_12 : decode (gw_mC M_X12_markAt) 12 = .ok (.iload_n 1, 1) := by decide +kernel
theorem d_X12_markAt_13 : decode (gw_mC M_X12_markAt) 13 = .ok (.iaload, 1) := by decide +kernel
theorem d_X12_markAt_14 : decode (gw_mC M_X12_markAt) 14 = .ok (.if_icmp .ge 32, 3) := by decide +kernel
theorem d_X12_markAt_17 : decode (gw_mC M_X12_markAt) 17 = .ok (.aload_n 0, 1) := by decide +kernel
theorem d_X12_markAt_18 : decode (gw_mC M_X12_markAt) 18 = .ok (.getfield 13, 3) := by decide +kernel
theorem d_X12_markAt_21 : decode (gw_mC M_X12_markAt) 21 = .ok (.bipush 8, 2) := by decide +kernel
theorem d_X12_markAt_23 : decode (gw_mC M_X12_markAt) 23 = .ok (.iload_n 1, 1) := by decide +kernel
theorem d_X12_markAt_24 : decode (gw_mC M_X12_markAt) 24 = .ok (.imul, 1) := by decide +kernel
theorem d_X12_markAt_25 : decode (gw_mC M_X12_markAt) 25 = .ok (.iload 4, 2) := by decide +kernel
theorem d_X12_markAt_27 : decode (gw_mC M_X12_markAt) 27 = .ok (.iadd, 1) := by decide +kernel
theorem d_X12_markAt_28 : decode (gw_mC M_X12_markAt) 28 = .ok (.iaload, 1) := by decide +kernel
theorem d_X12_markAt_29 : decode (gw_mC M_X12_markAt) 29 = .ok (.iload_n 2, 1) := by decide +kernel
theorem d_X12_markAt_30 : decode (gw_mC M_X12_markAt) 30 = .ok (.if_icmp .ne 8, 3) := by decide +kernel
theorem d_X12_markAt_33 : decode (gw_mC M_X12_markAt) 33 = .ok (.iload 4, 2) := by decide +kernel
theorem d_X12_markAt_35 : decode (gw_mC M_X12_markAt) 35 = .ok (.goto 4, 3) := by decide +kernel
theorem d_X12_markAt_38 : decode (gw_mC M_X12_markAt) 38 = .ok (.iload_n 3, 1) := by decide +kernel
theorem d_X12_markAt_39 : decode (gw_mC M_X12_markAt) 39 = .ok (.istore_n 3, 1) := by decide +kernel
theorem d_X12_markAt_40 : decode (gw_mC M_X12_markAt) 40 = .ok (.iinc 4 1, 3) := by decide +kernel
theorem d_X12_markAt_43 : decode (gw_mC M_X12_markAt) 43 = .ok (.goto (-37), 3) := by decide +kernel
theorem d_X12_markAt_46 : decode (gw_mC M_X12_markAt) 46 = .ok (.iload_n 3, 1) := by decide +kernel
theorem d_X12_markAt_47 : decode (gw_mC M_X12_markAt) 47 = .ok (.ireturn, 1) := by decide +kernel
theorem d_X12_comes_0 : decode (gw_mC M_X12_comes) 0 = .ok (.aload_n 0, 1) := by decide +kernel
theorem d_X12_comes_1 : decode (gw_mC M_X12_comes) 1 = .ok (.getfield 7, 3) := by decide +kernel
theorem d_X12_comes_4 : decode (gw_mC M_X12_comes) 4 = .ok (.iload_n 1, 1) := by decide +kernel
theorem d_X12_comes_5 : decode (gw_mC M_X12_comes) 5 = .ok (.iaload, 1) := by decide +kernel
theorem d_X12_comes_6 : decode (gw_mC M_X12_comes) 6 = .ok (.istore 4, 2) := by decide +kernel
theorem d_X12_comes_8 : decode (gw_mC M_X12_comes) 8 = .ok (.aload_n 0, 1) := by decide +kernel
theorem d_X12_comes_9 : decode (gw_mC M_X12_comes) 9 = .ok (.getfield 13, 3) := by decide +kernel
theorem d_X12_comes_12 : decode (gw_mC M_X12_comes) 12 = .ok (.bipush 8, 2) := by decide +kernel
theorem d_X12_comes_14 : decode (gw_mC M_X12_comes) 14 = .ok (.iload_n 1, 1) := by decide +kernel
theorem d_X12_comes_15 : decode (gw_mC M_X12_comes) 15 = .ok (.imul, 1) := by decide +kernel
theorem d_X12_comes_16 : decode (gw_mC M_X12_comes) 16 = .ok (.iload 4, 2) := by decide +kernel
theorem d_X12_comes_18 : decode (gw_mC M_X12_comes) 18 = .ok (.iadd, 1) := by decide +kernel
theorem d_X12_comes_19 : decode (gw_mC M_X12_comes) 19 = .ok (.iload_n 2, 1) := by decide +kernel
theorem d_X12_comes_20 : decode (gw_mC M_X12_comes) 20 = .ok (.iastore, 1) := by decide +kernel
theorem d_X12_comes_21 : decode (gw_mC M_X12_comes) 21 = .ok (.aload_n 0, 1) := by decide +kernel
theorem d_X12_comes_22 : decode (gw_mC M_X12_comes) 22 = .ok (.getfield 16, 3) := by decide +kernel
theorem d_X12_comes_25 : decode (gw_mC M_X12_comes) 25 = .ok (.bipush 8, 2) := by decide +kernel
theorem d_X12_comes_27 : decode (gw_mC M_X12_comes) 27 = .ok (.iload_n 1, 1) := by decide +kernel
theorem d_X12_comes_28 : decode (gw_mC M_X12_comes) 28 = .ok (.imul, 1) := by decide +kernel
theorem d_X12_comes_29 : decode (gw_mC M_X12_comes) 29 = .ok (.iload 4, 2) := by decide +kernel
theorem d_X12_comes_31 : decode (gw_mC M_X12_comes) 31 = .ok (.iadd, 1) := by decide +kernel
theorem d_X12_comes_32 : decode (gw_mC M_X12_comes) 32 = .ok (.iload_n 3, 1) := by decide +kernel
theorem d_X12_comes_33 : decode (gw_mC M_X12_comes) 33 = .ok (.iastore, 1) := by decide +kernel
theorem d_X12_comes_34 : decode (gw_mC M_X12_comes) 34 = .ok (.iload_n 1, 1) := by decide +kernel
theorem d_X12_comes_35 : decode (gw_mC M_X12_comes) 35 = .ok (.ifCond .ne 12, 3) := by decide +kernel
theorem d_X12_comes_38 : decode (gw_mC M_X12_comes) 38 = .ok (.aload_n 0, 1) := by decide +kernel
theorem d_X12_comes_39 : decode (gw_mC M_X12_comes) 39 = .ok (.getfield 19, 3) := by decide +kernel
theorem d_X12_comes_42 : decode (gw_mC M_X12_comes) 42 = .ok (.iload 4, 2) := by decide +kernel
theorem d_X12_comes_44 : decode (gw_mC M_X12_comes) 44 = .ok (.bipush 10, 2) := by decide +kernel
theorem d_X12_comes_46 : decode (gw_mC M_X12_comes) 46 = .ok (.iastore, 1) := by decide +kernel
theorem d_X12_comes_47 : decode (gw_mC M_X12_comes) 47 = .ok (.aload_n 0, 1) := by decide +kernel
theorem d_X12_comes_48 : decode (gw_mC M_X12_comes) 48 = .ok (.getfield 7, 3) := by decide +kernel
theorem d_X12_comes_51 : decode (gw_mC M_X12_comes) 51 = .ok (.iload_n 1, 1) := by decide +kernel
theorem d_X12_comes_52 : decode (gw_mC M_X12_comes) 52 = .ok (.dup2, 1) := by decide +kernel
theorem d_X12_comes_53 : decode (gw_mC M_X12_comes) 53 = .ok (.iaload, 1) := by decide +kernel
theorem d_X12_comes_54 : decode (gw_mC M_X12_comes) 54 = .ok (.iconst 1, 1) := by decide +kernel
theorem d_X12_comes_55 : decode (gw_mC M_X12_comes) 55 = .ok (.iadd, 1) := by decide +kernel
theorem d_X12_comes_56 : decode (gw_mC M_X12_comes) 56 = .ok (.iastore, 1) := by decide +kernel
theorem d_X12_comes_57 : decode (gw_mC M_X12_comes) 57 = .ok (.iload 4, 2) := by decide +kernel
theorem d_X12_comes_59 : decode (gw_mC M_X12_comes) 59 = .ok (.ireturn, 1) := by decide +kernel
theorem d_X12_mark_0 : decode (gw_mC M_X12_mark) 0 = .ok (.iload_n 1, 1) := by decide +kernel
theorem d_X12_mark_1 : decode (gw_mC M_X12_mark) 1 = .ok (.i2l, 1) := by decide +kernel
theorem d_X12_mark_2 : decode (gw_mC M_X12_mark) 2 = .ok (.lconst 0, 1) := by decide +kernel
theorem d_X12_mark_3 : decode (gw_mC M_X12_mark) 3 = .ok (.ldc2_w 106, 3) := by decide +kernel
theorem d_X12_mark_6 : decode (gw_mC M_X12_mark) 6 = .ok (.invokestatic 98, 3) := by decide +kernel
theorem d_X12_mark_9 : decode (gw_mC M_X12_mark) 9 = .ok (.ifCond .eq 23, 3) := by decide +kernel
theorem d_X12_mark_12 : decode (gw_mC M_X12_mark) 12 = .ok (.iload_n 2, 1) := by decide +kernel
theorem d_X12_mark_13 : decode (gw_mC M_X12_mark) 13 = .ok (.i2l, 1) := by decide +kernel
theorem d_X12_mark_14 : decode (gw_mC M_X12_mark) 14 = .ok (.lconst 0, 1) := by decide +kernel
theorem d_X12_mark_15 : decode (gw_mC M_X12_mark) 15 = .ok (.ldc2_w 104, 3) := by decide +kernel
theorem d_X12_mark_18 : decode (gw_mC M_X12_mark) 18 = .ok (.invokestatic 98, 3) := by decide +kernel
theorem d_X12_mark_21 : decode (gw_mC M_X12_mark) 21 = .ok (.ifCond .eq 11, 3) := by decide +kernel
theorem d_X12_mark_24 : decode (gw_mC M_X12_mark) 24 = .ok (.iload_n 1, 1) := by decide +kernel
theorem d_X12_mark_25 : decode (gw_mC M_X12_mark) 25 = .ok (.iload_n 3, 1) := by decide +kernel
theorem d_X12_mark_26 : decode (gw_mC M_X12_mark) 26 = .ok (.invokestatic 108, 3) := by decide +kernel
theorem d_X12_mark_29 : decode (gw_mC M_X12_mark) 29 = .ok (.ifCond .ne 5, 3) := by decide +kernel
theorem d_X12_mark_32 : decode (gw_mC M_X12_mark) 32 = .ok (.iconst (-1), 1) := by decide +kernel
theorem d_X12_mark_33 : decode (gw_mC M_X12_mark) 33 = .ok (.ireturn, 1) := by decide +kernel
theorem d_X12_mark_34 : decode (gw_mC M_X12_mark) 34 = .ok (.aload_n 0, 1) := by decide +kernel
theorem d_X12_mark_35 : decode (gw_mC M_X12_mark) 35 = .ok (.iload_n 1, 1) := by decide +kernel
theorem d_X12_mark_36 : decode (gw_mC M_X12_mark) 36 = .ok (.iload_n 2, 1) := by decide +kernel
theorem d_X12_mark_37 : decode (gw_mC M_X12_mark) 37 = .ok (.invokevirtual 112, 3) := by decide +kernel
theorem d_X12_mark_40 : decode (gw_mC M_X12_mark) 40 = .ok (.ifCond .lt 6, 3) := by decide +kernel
theorem d_X12_mark_43 : decode (gw_mC M_X12_mark) 43 = .ok (.bipush (-2), 2) := by decide +kernel
theorem d_X12_mark_45 : decode (gw_mC M_X12_mark) 45 = .ok (.ireturn, 1) := by decide +kernel
theorem d_X12_mark_46 : decode (gw_mC M_X12_mark) 46 = .ok (.aload_n 0, 1) := by decide +kernel
theorem d_X12_mark_47 : decode (gw_mC M_X12_mark) 47 = .ok (.getfield 7, 3) := by decide +kernel
theorem d_X12_mark_50 : decode (gw_mC M_X12_mark) 50 = .ok (.iload_n 1, 1) := by decide +kernel
theorem d_X12_mark_51 : decode (gw_mC M_X12_mark) 51 = .ok (.iaload, 1) := by decide +kernel
theorem d_X12_mark_52 : decode (gw_mC M_X12_mark) 52 = .ok (.bipush 8, 2) := by decide +kernel
theorem d_X12_mark_54 : decode (gw_mC M_X12_mark) 54 = .ok (.if_icmp .ne 8, 3) := by decide +kernel
theorem d_X12_mark_57 : decode (gw_mC M_X12_mark) 57 = .ok (.bipush (-3), 2) := by decide +kernel
theorem d_X12_mark_59 : decode (gw_mC M_X12_mark) 59 = .ok (.goto 10, 3) := by decide +kernel
theorem d_X12_mark_62 : decode (gw_mC M_X12_mark) 62 = .ok (.aload_n 0, 1) := by decide +kernel
theorem d_X12_mark_63 : decode (gw_mC M_X12_mark) 63 = .ok (.iload_n 1, 1) := by decide +kernel
theorem d_X12_mark_64 : decode (gw_mC M_X12_mark) 64 = .ok (.iload_n 2, 1) := by decide +kernel
theorem d_X12_mark_65 : decode (gw_mC M_X12_mark) 65 = .ok (.iload_n 3, 1) := by decide +kernel
theorem d_X12_mark_66 : decode (gw_mC M_X12_mark) 66 = .ok (.invokevirtual 116, 3) := by decide +kernel
theorem d_X12_mark_69 : decode (gw_mC M_X12_mark) 69 = .ok (.ireturn, 1) := by decide +kernel
theorem d_X12_told_0 : decode (gw_mC M_X12_told) 0 = .ok (.iload_n 1, 1) := by decide +kernel
theorem d_X12_told_1 : decode (gw_mC M_X12_told) 1 = .ok (.i2l, 1) := by decide +kernel
theorem d_X12_told_2 : decode (gw_mC M_X12_told) 2 = .ok (.lconst 0, 1) := by decide +kernel
theorem d_X12_told_3 : decode (gw_mC M_X12_told) 3 = .ok (.ldc2_w 106, 3) := by decide +kernel
theorem d_X12_told_6 : decode (gw_mC M_X12_told) 6 = .ok (.invokestatic 98, 3) := by decide +kernel
theorem d_X12_told_9 : decode (gw_mC M_X12_told) 9 = .ok (.ifCond .eq 41, 3) := by decide +kernel
theorem d_X12_told_12 : decode (gw_mC M_X12_told) 12 = .ok (.iload_n 2, 1) := by decide +kernel
theorem d_X12_told_13 : decode (gw_mC M_X12_told) 13 = .ok (.i2l, 1) := by decide +kernel
theorem d_X12_told_14 : decode (gw_mC M_X12_told) 14 = .ok (.lconst 0, 1) := by decide +kernel
theorem d_X12_told_15 : decode (gw_mC M_X12_told) 15 = .ok (.aload_n 0, 1) := by decide +kernel
theorem d_X12_told_16 : decode (gw_mC M_X12_told) 16 = .ok (.getfield 7, 3) := by decide +kernel
theorem d_X12_told_19 : decode (gw_mC M_X12_told) 19 = .ok (.iload_n 1, 1) := by decide +kernel
theorem d_X12_told_20 : decode (gw_mC M_X12_told) 20 = .ok (.iaload, 1) := by decide +kernel
theorem d_X12_told_21 : decode (gw_mC M_X12_told) 21 = .ok (.iconst 1, 1) := by decide +kernel
theorem d_X12_told_22 : decode (gw_mC M_X12_told) 22 = .ok (.isub, 1) := by decide +kernel
theorem d_X12_told_23 : decode (gw_mC M_X12_told) 23 = .ok (.i2l, 1) := by decide +kernel
theorem d_X12_told_24 : decode (gw_mC M_X12_told) 24 = .ok (.invokestatic 98, 3) := by decide +kernel
theorem d_X12_told_27 : decode (gw_mC M_X12_told) 27 = .ok (.ifCond .eq 23, 3) := by decide +kernel
theorem d_X12_told_30 : decode (gw_mC M_X12_told) 30 = .ok (.iload_n 3, 1) := by decide +kernel
theorem d_X12_told_31 : decode (gw_mC M_X12_told) 31 = .ok (.i2l, 1) := by decide +kernel
theorem d_X12_told_32 : decode (gw_mC M_X12_told) 32 = .ok (.lconst 0, 1) := by decide +kernel
theorem d_X12_told_33 : decode (gw_mC M_X12_told) 33 = .ok (.iload_n 1, 1) := by decide +kernel
theorem d_X12_told_34 : decode (gw_mC M_X12_told) 34 = .ok (.ifCond .ne 9, 3) := by decide +kernel
theorem d_X12_told_37 : decode (gw_mC M_X12_told) 37 = .ok (.ldc2_w 92, 3) := by decide +kernel
theorem d_X12_told_40 : decode (gw_mC M_X12_told) 40 = .ok (.goto 4, 3) := by decide +kernel
theorem d_X12_told_43 : decode (gw_mC M_X12_told) 43 = .ok (.lconst 1, 1) := by decide +kernel
theorem d_X12_told_44 : decode (gw_mC M_X12_told) 44 = .ok (.invokestatic 98, 3) := by decide +kernel
theorem d_X12_told_47 : decode (gw_mC M_X12_told) 47 = .ok (.ifCond .ne 5, 3) := by decide +kernel
theorem d_X12_told_50 : decode (gw_mC M_X12_told) 50 = .ok (.iconst (-1), 1) := by decide +kernel
theorem d_X12_told_51 : decode (gw_mC M_X12_told) 51 = .ok (.ireturn, 1) := by decide +kernel
theorem d_X12_told_52 : decode (gw_mC M_X12_told) 52 = .ok (.iload_n 3, 1) := by decide +kernel
theorem d_X12_told_53 : decode (gw_mC M_X12_told) 53 = .ok (.ifCond .ne 17, 3) := by decide +kernel
theorem d_X12_told_56 : decode (gw_mC M_X12_told) 56 = .ok (.aload_n 0, 1) := by decide +kernel
theorem d_X12_told_57 : decode (gw_mC M_X12_told) 57 = .ok (.getfield 13, 3) := by decide +kernel
theorem d_X12_told_60 : decode (gw_mC M_X12_told) 60 = .ok (.bipush 8, 2) := by decide +kernel
theorem d_X12_told_62 : decode (gw_mC M_X12_told) 62 = .ok (.iload_n 1, 1) := by decide +kernel
theorem d_X12_told_63 : decode (gw_mC M_X12_told) 63 = .ok (.imul, 1) := by decide +kernel
theorem d_X12_told_64 : decode (gw_mC M_X12_told) 64 = .ok (.iload_n 2, 1) := by decide +kernel
theorem d_X12_told_65 : decode (gw_mC M_X12_told) 65 = .ok (.iadd, 1) := by decide +kernel
theorem d_X12_told_66 : decode (gw_mC M_X12_told) 66 = .ok (.iaload, 1) := by decide +kernel
theorem d_X12_told_67 : decode (gw_mC M_X12_told) 67 = .ok (.goto 28, 3) := by decide +kernel
theorem d_X12_told_70 : decode (gw_mC M_X12_told) 70 = .ok (.iload_n 3, 1) := by decide +kernel
theorem d_X12_told_71 : decode (gw_mC M_X12_told) 71 = .ok (.iconst 1, 1) := by decide +kernel
theorem d_X12_told_72 : decode (gw_mC M_X12_told) 72 = .ok (.if_icmp .ne 17, 3) := by decide +kernel
theorem d_X12_told_75 : decode (gw_mC M_X12_told) 75 = .ok (.aload_n 0, 1) := by decide +kernel
theorem d_X12_told_76 : decode (gw_mC M_X12_told) 76 = .ok (.getfield 16, 3) := by decide +kernel
theorem d_X12_told_79 : decode (gw_mC M_X12_told) 79 = .ok (.bipush 8, 2) := by decide +kernel
theorem d_X12_told_81 : decode (gw_mC M_X12_told) 81 = .ok (.iload_n 1, 1) := by decide +kernel
theorem d_X12_told_82 : decode (gw_mC M_X12_told) 82 = .ok (.imul, 1) := by decide +kernel
theorem d_X12_told_83 : decode (gw_mC M_X12_told) 83 = .ok (.iload_n 2, 1) := by decide +kernel
theorem d_X12_told_84 : decode (gw_mC M_X12_told) 84 = .ok (.iadd, 1) := by decide +kernel
theorem d_X12_told_85 : decode (gw_mC M_X12_told) 85 = .ok (.iaload, 1) := by decide +kernel
theorem d_X12_told_86 : decode (gw_mC M_X12_told) 86 = .ok (.goto 9, 3) := by decide +kernel
theorem d_X12_told_89 : decode (gw_mC M_X12_told) 89 = .ok (.aload_n 0, 1) := by decide +kernel
theorem d_X12_told_90 : decode (gw_mC M_X12_told) 90 = .ok (.getfield 19, 3) := by decide +kernel
theorem d_X12_told_93 : decode (gw_mC M_X12_told) 93 = .ok (.iload_n 2, 1) := by decide +kernel
theorem d_X12_told_94 : decode (gw_mC M_X12_told) 94 = .ok (.iaload, 1) := by decide +kernel
theorem d_X12_told_95 : decode (gw_mC M_X12_told) 95 = .ok (.ireturn, 1) := by decide +kernel
theorem d_X12_value_0 : decode (gw_mC M_X12_value) 0 = .ok (.iload_n 1, 1) := by decide +kernel
theorem d_X12_value_1 : decode (gw_mC M_X12_value) 1 = .ok (.i2l, 1) := by decide +kernel
theorem d_X12_value_2 : decode (gw_mC M_X12_value) 2 = .ok (.lconst 0, 1) := by decide +kernel
theorem d_X12_value_3 : decode (gw_mC M_X12_value) 3 = .ok (.aload_n 0, 1) := by decide +kernel
theorem d_X12_value_4 : decode (gw_mC M_X12_value) 4 = .ok (.getfield 7, 3) := by decide +kernel
theorem d_X12_value_7 : decode (gw_mC M_X12_value) 7 = .ok (.iconst 0, 1) := by decide +kernel
theorem d_X12_value_8 : decode (gw_mC M_X12_value) 8 = .ok (.iaload, 1) := by decide +kernel
theorem d_X12_value_9 : decode (gw_mC M_X12_value) 9 = .ok (.iconst 1, 1) := by decide +kernel
theorem d_X12_value_10 : decode (gw_mC M_X12_value) 10 = .ok (.isub, 1) := by decide +kernel
theorem d_X12_value_11 : decode (gw_mC M_X12_value) 11 = .ok (.i2l, 1) := by decide +kernel
theorem d_X12_value_12 : decode (gw_mC M_X12_value) 12 = .ok (.invokestatic 98, 3) := by decide +kernel
theorem d_X12_value_15 : decode (gw_mC M_X12_value) 15 = .ok (.ifCond .eq 15, 3) := by decide +kernel
theorem d_X12_value_18 : decode (gw_mC M_X12_value) 18 = .ok (.iload_n 2, 1) := by decide +kernel
theorem d_X12_value_19 : decode (gw_mC M_X12_value) 19 = .ok (.i2l, 1) := by decide +kernel
theorem d_X12_value_20 : decode (gw_mC M_X12_value) 20 = .ok (.lconst 0, 1) := by decide +kernel
theorem d_X12_value_21 : decode (gw_mC M_X12_value) 21 = .ok (.ldc2_w 104, 3) := by decide +kernel
theorem d_X12_value_24 : decode (gw_mC M_X12_value) 24 = .ok (.invokestatic 98, 3) := by decide +kernel
theorem d_X12_value_27 : decode (gw_mC M_X12_value) 27 = .ok (.ifCond .ne 5, 3) := by decide +kernel
theorem d_X12_value_30 : decode (gw_mC M_X12_value) 30 = .ok (.iconst (-1), 1) := by decide +kernel
theorem d_X12_value_31 : decode (gw_mC M_X12_value) 31 = .ok (.ireturn, 1) := by decide +kernel
theorem d_X12_value_32 : decode (gw_mC M_X12_value) 32 = .ok (.aload_n 0, 1) := by decide +kernel
theorem d_X12_value_33 : decode (gw_mC M_X12_value) 33 = .ok (.getfield 19, 3) := by decide +kernel
theorem d_X12_value_36 : decode (gw_mC M_X12_value) 36 = .ok (.iload_n 1, 1) := by decide +kernel
theorem d_X12_value_37 : decode (gw_mC M_X12_value) 37 = .ok (.iaload, 1) := by decide +kernel
theorem d_X12_value_38 : decode (gw_mC M_X12_value) 38 = .ok (.istore_n 3, 1) := by decide +kernel
theorem d_X12_value_39 : decode (gw_mC M_X12_value) 39 = .ok (.aload_n 0, 1) := by decide +kernel
theorem d_X12_value_40 : decode (gw_mC M_X12_value) 40 = .ok (.getfield 19, 3) := by decide +kernel
theorem d_X12_value_43 : decode (gw_mC M_X12_value) 43 = .ok (.iload_n 1, 1) := by decide +kernel
theorem d_X12_value_44 : decode (gw_mC M_X12_value) 44 = .ok (.iload_n 2, 1) := by decide +kernel
theorem d_X12_value_45 : decode (gw_mC M_X12_value) 45 = .ok (.iastore, 1) := by decide +kernel
theorem d_X12_value_46 : decode (gw_mC M_X12_value) 46 = .ok (.iload_n 3, 1) := by decide +kernel
theorem d_X12_value_47 : decode (gw_mC M_X12_value) 47 = .ok (.ireturn, 1) := by decide +kernel
theorem d_X12_tail_0 : decode (gw_mC M_X12_tail) 0 = .ok (.bipush (-4), 2) := by decide +kernel
theorem d_X12_tail_2 : decode (gw_mC M_X12_tail) 2 = .ok (.istore_n 1, 1) := by decide +kernel
theorem d_X12_tail_3 : decode (gw_mC M_X12_tail) 3 = .ok (.iconst 0, 1) := by decide +kernel
theorem d_X12_tail_4 : decode (gw_mC M_X12_tail) 4 = .ok (.istore_n 2, 1) := by decide +kernel
theorem d_X12_tail_5 : decode (gw_mC M_X12_tail) 5 = .ok (.iload_n 2, 1) := by decide +kernel
theorem d_X12_tail_6 : decode (gw_mC M_X12_tail) 6 = .ok (.aload_n 0, 1) := by decide +kernel
theorem d_X12_tail_7 : decode (gw_mC M_X12_tail) 7 = .ok (.getfield 120, 3) := by decide +kernel
theorem d_X12_tail_10 : decode (gw_mC M_X12_tail) 10 = .ok (.if_icmp .ge 25, 3) := by decide +kernel
theorem d_X12_tail_13 : decode (gw_mC M_X12_tail) 13 = .ok (.aload_n 0, 1) := by decide +kernel
theorem d_X12_tail_14 : decode (gw_mC M_X12_tail) 14 = .ok (.getfield 25, 3) := by decide +kernel
theorem d_X12_tail_17 : decode (gw_mC M_X12_tail) 17 = .ok (.iload_n 2, 1) := by decide +kernel
theorem d_X12_tail_18 : decode (gw_mC M_X12_tail) 18 = .ok (.iaload, 1) := by decide +kernel
theorem d_X12_tail_19 : decode (gw_mC M_X12_tail) 19 = .ok (.iconst 3, 1) := by decide +kernel
theorem d_X12_tail_20 : decode (gw_mC M_X12_tail) 20 = .ok (.if_icmp .ne 7, 3) := by decide +kernel
theorem d_X12_tail_23 : decode (gw_mC M_X12_tail) 23 = .ok (.iload_n 2, 1) := by decide +kernel
theorem d_X12_tail_24 : decode (gw_mC M_X12_tail) 24 = .ok (.goto 4, 3) := by decide +kernel
theorem d_X12_tail_27 : decode (gw_mC M_X12_tail) 27 = .ok (.iload_n 1, 1) := by decide +kernel
theorem d_X12_tail_28 : decode (gw_mC M_X12_tail) 28 = .ok (.istore_n 1, 1) := by decide +kernel
theorem d_X12_tail_29 : decode (gw_mC M_X12_tail) 29 = .ok (.iinc 2 1, 3) := by decide +kernel
theorem d_X12_tail_32 : decode (gw_mC M_X12_tail) 32 = .ok (.goto (-27), 3) := by decide +kernel
theorem d_X12_tail_35 : decode (gw_mC M_X12_tail) 35 = .ok (.iload_n 1, 1) := by decide +kernel
theorem d_X12_tail_36 : decode (gw_mC M_X12_tail) 36 = .ok (.ireturn, 1) := by decide +kernel
theorem d_X12_joins_0 : decode (gw_mC M_X12_joins) 0 = .ok (.aload_n 0, 1) := by decide +kernel
theorem d_X12_joins_1 : decode (gw_mC M_X12_joins) 1 = .ok (.getfield 25, 3) := by decide +kernel
theorem d_X12_joins_4 : decode (gw_mC M_X12_joins) 4 = .ok (.aload_n 0, 1) := by decide +kernel
theorem d_X12_joins_5 : decode (gw_mC M_X12_joins) 5 = .ok (.getfield 120, 3) := by decide +kernel
theorem d_X12_joins_8 : decode (gw_mC M_X12_joins) 8 = .ok (.iload_n 1, 1) := by decide +kernel
theorem d_X12_joins_9 : decode (gw_mC M_X12_joins) 9 = .ok (.iastore, 1) := by decide +kernel
theorem d_X12_joins_10 : decode (gw_mC M_X12_joins) 10 = .ok (.aload_n 0, 1) := by decide +kernel
theorem d_X12_joins_11 : decode (gw_mC M_X12_joins) 11 = .ok (.getfield 28, 3) := by decide +kernel
theorem d_X12_joins_14 : decode (gw_mC M_X12_joins) 14 = .ok (.aload_n 0, 1) := by decide +kernel
theorem d_X12_joins_15 : decode (gw_mC M_X12_joins) 15 = .ok (.getfield 120, 3) := by decide +kernel
theorem d_X12_joins_18 : decode (gw_mC M_X12_joins) 18 = .ok (.iload_n 2, 1) := by decide +kernel
theorem d_X12_joins_19 : decode (gw_mC M_X12_joins) 19 = .ok (.iastore, 1) := by decide +kernel
theorem d_X12_joins_20 : decode (gw_mC M_X12_joins) 20 = .ok (.aload_n 0, 1) := by decide +kernel
theorem d_X12_joins_21 : decode (gw_mC M_X12_joins) 21 = .ok (.getfield 31, 3) := by decide +kernel
theorem d_X12_joins_24 : decode (gw_mC M_X12_joins) 24 = .ok (.aload_n 0, 1) := by decide +kernel
theorem d_X12_joins_25 : decode (gw_mC M_X12_joins) 25 = .ok (.getfield 120, 3) := by decide +kernel
theorem d_X12_joins_28 : decode (gw_mC M_X12_joins) 28 = .ok (.iload_n 3, 1) := by decide +kernel
theorem d_X12_joins_29 : decode (gw_mC M_X12_joins) 29 = .ok (.iastore, 1) := by decide +kernel
theorem d_X12_joins_30 : decode (gw_mC M_X12_joins) 30 = .ok (.aload_n 0, 1) := by decide +kernel
theorem d_X12_joins_31 : decode (gw_mC M_X12_joins) 31 = .ok (.dup, 1) := by decide +kernel
theorem d_X12_joins_32 : decode (gw_mC M_X12_joins) 32 = .ok (.getfield 120, 3) := by decide +kernel
theorem d_X12_joins_35 : decode (gw_mC M_X12_joins) 35 = .ok (.iconst 1, 1) := by decide +kernel
theorem d_X12_joins_36 : decode (gw_mC M_X12_joins) 36 = .ok (.iadd, 1) := by decide +kernel
theorem d_X12_joins_37 : decode (gw_mC M_X12_joins) 37 = .ok (.putfield 120, 3) := by decide +kernel
theorem d_X12_joins_40 : decode (gw_mC M_X12_joins) 40 = .ok (.aload_n 0, 1) := by decide +kernel
theorem d_X12_joins_41 : decode (gw_mC M_X12_joins) 41 = .ok (.getfield 120, 3) := by decide +kernel
theorem d_X12_joins_44 : decode (gw_mC M_X12_joins) 44 = .ok (.iconst 1, 1) := by decide +kernel
theorem d_X12_joins_45 : decode (gw_mC M_X12_joins) 45 = .ok (.isub, 1) := by decide +kernel
theorem d_X12_joins_46 : decode (gw_mC M_X12_joins) 46 = .ok (.ireturn, 1) := by decide +kernel
theorem d_X12_person_0 : decode (gw_mC M_X12_person) 0 = .ok (.iload_n 1, 1) := by decide +kernel
theorem d_X12_person_1 : decode (gw_mC M_X12_person) 1 = .ok (.i2l, 1) := by decide +kernel
theorem d_X12_person_2 : decode (gw_mC M_X12_person) 2 = .ok (.lconst 0, 1) := by decide +kernel
theorem d_X12_person_3 : decode (gw_mC M_X12_person) 3 = .ok (.ldc2_w 106, 3) := by decide +kernel
theorem d_X12_person_6 : decode (gw_mC M_X12_person) 6 = .ok (.invokestatic 98, 3) := by decide +kernel
theorem d_X12_person_9 : decode (gw_mC M_X12_person) 9 = .ok (.ifCond .eq 15, 3) := by decide +kernel
theorem d_X12_person_12 : decode (gw_mC M_X12_person) 12 = .ok (.iload_n 2, 1) := by decide +kernel
theorem d_X12_person_13 : decode (gw_mC M_X12_person) 13 = .ok (.i2l, 1) := by decide +kernel
theorem d_X12_person_14 : decode (gw_mC M_X12_person) 14 = .ok (.lconst 1, 1) := by decide +kernel
theorem d_X12_person_15 : decode (gw_mC M_X12_person) 15 = .ok (.ldc2_w 123, 3) := by decide +kernel
theorem d_X12_person_18 : decode (gw_mC M_X12_person) 18 = .ok (.invokestatic 98, 3) := by decide +kernel
theorem d_X12_person_21 : decode (gw_mC M_X12_person) 21 = .ok (.ifCond .ne 5, 3) := by decide +kernel
theorem d_X12_person_24 : decode (gw_mC M_X12_person) 24 = .ok (.iconst (-1), 1) := by decide +kernel
theorem d_X12_person_25 : decode (gw_mC M_X12_person) 25 = .ok (.ireturn, 1) := by decide +kernel
theorem d_X12_person_26 : decode (gw_mC M_X12_person) 26 = .ok (.iload_n 1, 1) := by decide +kernel
theorem d_X12_person_27 : decode (gw_mC M_X12_person) 27 = .ok (.iconst 3, 1) := by decide +kernel
theorem d_X12_person_28 : decode (gw_mC M_X12_person) 28 = .ok (.if_icmp .ne 13, 3) := by decide +kernel
theorem d_X12_person_31 : decode (gw_mC M_X12_person) 31 = .ok (.aload_n 0, 1) := by decide +kernel
theorem d_X12_person_32 : decode (gw_mC M_X12_person) 32 = .ok (.invokevirtual 125, 3) := by decide +kernel
theorem d_X12_person_35 : decode (gw_mC M_X12_person) 35 = .ok (.ifCond .lt 6, 3) := by decide +kernel
theorem d_X12_person_38 : decode (gw_mC M_X12_person) 38 = .ok (.bipush (-2), 2) := by decide +kernel
theorem d_X12_person_40 : decode (gw_mC M_X12_person) 40 = .ok (.ireturn, 1) := by decide +kernel
theorem d_X12_person_41 : decode (gw_mC M_X12_person) 41 = .ok (.aload_n 0, 1) := by decide +kernel
theorem d_X12_person_42 : decode (gw_mC M_X12_person) 42 = .ok (.getfield 120, 3) := by decide +kernel
theorem d_X12_person_45 : decode (gw_mC M_X12_person) 45 = .ok (.bipush 10, 2) := by decide +kernel
theorem d_X12_person_47 : decode (gw_mC M_X12_person) 47 = .ok (.if_icmp .ne 8, 3) := by decide +kernel
theorem d_X12_person_50 : decode (gw_mC M_X12_person) 50 = .ok (.bipush (-3), 2) := by decide +kernel
theorem d_X12_person_52 : decode (gw_mC M_X12_person) 52 = .ok (.goto 18, 3) := by decide +kernel
theorem d_X12_person_55 : decode (gw_mC M_X12_person) 55 = .ok (.aload_n 0, 1) := by decide +kernel
theorem d_X12_person_56 : decode (gw_mC M_X12_person) 56 = .ok (.iload_n 1, 1) := by decide +kernel
theorem d_X12_person_57 : decode (gw_mC M_X12_person) 57 = .ok (.iload_n 2, 1) := by decide +kernel
theorem d_X12_person_58 : decode (gw_mC M_X12_person) 58 = .ok (.iload_n 3, 1) := by decide +kernel
theorem d_X12_person_59 : decode (gw_mC M_X12_person) 59 = .ok (.ifCond .eq 7, 3) := by decide +kernel
theorem d_X12_person_62 : decode (gw_mC M_X12_person) 62 = .ok (.iconst 1, 1) := by decide +kernel
theorem d_X12_person_63 : decode (gw_mC M_X12_person) 63 = .ok (.goto 4, 3) := by decide +kernel
theorem d_X12_person_66 : decode (gw_mC M_X12_person) 66 = .ok (.iconst 0, 1) := by decide +kernel
theorem d_X12_person_67 : decode (gw_mC M_X12_person) 67 = .ok (.invokevirtual 129, 3) := by decide +kernel
theorem d_X12_person_70 : decode (gw_mC M_X12_person) 70 = .ok (.ireturn, 1) := by decide +kernel
theorem d_X12_isOne_0 : decode (gw_mC M_X12_isOne) 0 = .ok (.iload_n 1, 1) := by decide +kernel
theorem d_X12_isOne_1 : decode (gw_mC M_X12_isOne) 1 = .ok (.i2l, 1) := by decide +kernel
theorem d_X12_isOne_2 : decode (gw_mC M_X12_isOne) 2 = .ok (.lconst 0, 1) := by decide +kernel
theorem d_X12_isOne_3 : decode (gw_mC M_X12_isOne) 3 = .ok (.aload_n 0, 1) := by decide +kernel
theorem d_X12_isOne_4 : decode (gw_mC M_X12_isOne) 4 = .ok (.getfield 120, 3) := by decide +kernel
theorem d_X12_isOne_7 : decode (gw_mC M_X12_isOne) 7 = .ok (.iconst 1, 1) := by decide +kernel
theorem d_X12_isOne_8 : decode (gw_mC M_X12_isOne) 8 = .ok (.isub, 1) := by decide +kernel
theorem d_X12_isOne_9 : decode (gw_mC M_X12_isOne) 9 = .ok (.i2l, 1) := by decide +kernel
theorem d_X12_isOne_10 : decode (gw_mC M_X12_isOne) 10 = .ok (.invokestatic 98, 3) := by decide +kernel
theorem d_X12_isOne_13 : decode (gw_mC M_X12_isOne) 13 = .ok (.ireturn, 1) := by decide +kernel
theorem d_X12_of_0 : decode (gw_mC M_X12_of) 0 = .ok (.aload_n 0, 1) := by decide +kernel
theorem d_X12_of_1 : decode (gw_mC M_X12_of) 1 = .ok (.iload_n 1, 1) := by decide +kernel
theorem d_X12_of_2 : decode (gw_mC M_X12_of) 2 = .ok (.invokevirtual 132, 3) := by decide +kernel
theorem d_X12_of_5 : decode (gw_mC M_X12_of) 5 = .ok (.ifCond .eq 15, 3) := by decide +kernel
theorem d_X12_of_8 : decode (gw_mC M_X12_of) 8 = .ok (.iload_n 2, 1) := by decide +kernel
theorem d_X12_of_9 : decode (gw_mC M_X12_of) 9 = .ok (.i2l, 1) := by decide +kernel
theorem d_X12_of_10 : decode (gw_mC M_X12_of) 10 = .ok (.lconst 0, 1) := by decide +kernel
theorem d_X12_of_11 : decode (gw_mC M_X12_of) 11 = .ok (.ldc2_w 92, 3) := by decide +kernel
theorem d_X12_of_14 : decode (gw_mC M_X12_of) 14 = .ok (.invokestatic 98, 3) := by decide +kernel
theorem d_X12_of_17 : decode (gw_mC M_X12_of) 17 = .ok (.ifCond .ne 5, 3) := by decide +kernel
theorem d_X12_of_20 : decode (gw_mC M_X12_of) 20 = .ok (.iconst (-1), 1) := by decide +kernel
theorem d_X12_of_21 : decode (gw_mC M_X12_of) 21 = .ok (.ireturn, 1) := by decide +kernel
theorem d_X12_of_22 : decode (gw_mC M_X12_of) 22 = .ok (.iload_n 2, 1) := by decide +kernel
theorem d_X12_of_23 : decode (gw_mC M_X12_of) 23 = .ok (.ifCond .ne 12, 3) := by decide +kernel
theorem d_X12_of_26 : decode (gw_mC M_X12_of) 26 = .ok (.aload_n 0, 1) := by decide +kernel
theorem d_X12_of_27 : decode (gw_mC M_X12_of) 27 = .ok (.getfield 25, 3) := by decide +kernel
theorem d_X12_of_30 : decode (gw_mC M_X12_of) 30 = .ok (.iload_n 1, 1) := by decide +kernel
theorem d_X12_of_31 : decode (gw_mC M_X12_of) 31 = .ok (.iaload, 1) := by decide +kernel
theorem d_X12_of_32 : decode (gw_mC M_X12_of) 32 = .ok (.goto 23, 3) := by decide +kernel
theorem d_X12_of_35 : decode (gw_mC M_X12_of) 35 = .ok (.iload_n 2, 1) := by decide +kernel
theorem d_X12_of_36 : decode (gw_mC M_X12_of) 36 = .ok (.iconst 1, 1) := by decide +kernel
theorem d_X12_of_37 : decode (gw_mC M_X12_of) 37 = .ok (.if_icmp .ne 12, 3) := by decide +kernel
theorem d_X12_of_40 : decode (gw_mC M_X12_of) 40 = .ok (.aload_n 0, 1) := by decide +kernel
theorem d_X12_of_41 : decode (gw_mC M_X12_of) 41 = .ok (.getfield 28, 3) := by decide +kernel
theorem d_X12_of_44 : decode (gw_mC M_X12_of) 44 = .ok (.iload_n 1, 1) := by decide +kernel
theorem d_X12_of_45 : decode (gw_mC M_X12_of) 45 = .ok (.iaload, 1) := by decide +kernel
theorem d_X12_of_46 : decode (gw_mC M_X12_of) 46 = .ok (.goto 9, 3) := by decide +kernel
theorem d_X12_of_49 : decode (gw_mC M_X12_of) 49 = .ok (.aload_n 0, 1) := by decide +kernel
theorem d_X12_of_50 : decode (gw_mC M_X12_of) 50 = .ok (.getfield 31, 3) := by decide +kernel
theorem d_X12_of_53 : decode (gw_mC M_X12_of) 53 = .ok (.iload_n 1, 1) := by decide +kernel
theorem d_X12_of_54 : decode (gw_mC M_X12_of) 54 = .ok (.iaload, 1) := by decide +kernel
theorem d_X12_of_55 : decode (gw_mC M_X12_of) 55 = .ok (.ireturn, 1) := by decide +kernel
theorem d_X12_isRule_0 : decode (gw_mC M_X12_isRule) 0 = .ok (.iload_n 0, 1) := by decide +kernel
theorem d_X12_isRule_1 : decode (gw_mC M_X12_isRule) 1 = .ok (.tableswitch 71 0 3 #[31, 41, 51, 61], 31) := by decide +kernel
theorem d_X12_isRule_32 : decode (gw_mC M_X12_isRule) 32 = .ok (.iload_n 1, 1) := by decide +kernel
theorem d_X12_isRule_33 : decode (gw_mC M_X12_isRule) 33 = .ok (.i2l, 1) := by decide +kernel
theorem d_X12_isRule_34 : decode (gw_mC M_X12_isRule) 34 = .ok (.lconst 1, 1) := by decide +kernel
theorem d_X12_isRule_35 : decode (gw_mC M_X12_isRule) 35 = .ok (.ldc2_w 123, 3) := by decide +kernel
theorem d_X12_isRule_38 : decode (gw_mC M_X12_isRule) 38 = .ok (.invokestatic 98, 3) := by decide +kernel
theorem d_X12_isRule_41 : decode (gw_mC M_X12_isRule) 41 = .ok (.ireturn, 1) := by decide +kernel
theorem d_X12_isRule_42 : decode (gw_mC M_X12_isRule) 42 = .ok (.iload_n 1, 1) := by decide +kernel
theorem d_X12_isRule_43 : decode (gw_mC M_X12_isRule) 43 = .ok (.i2l, 1) := by decide +kernel
theorem d_X12_isRule_44 : decode (gw_mC M_X12_isRule) 44 = .ok (.lconst 0, 1) := by decide +kernel
theorem d_X12_isRule_45 : decode (gw_mC M_X12_isRule) 45 = .ok (.ldc2_w 102, 3) := by decide +kernel
theorem d_X12_isRule_48 : decode (gw_mC M_X12_isRule) 48 = .ok (.invokestatic 98, 3) := by decide +kernel
theorem d_X12_isRule_51 : decode (gw_mC M_X12_isRule) 51 = .ok (.ireturn, 1) := by decide +kernel
theorem d_X12_isRule_52 : decode (gw_mC M_X12_isRule) 52 = .ok (.iload_n 1, 1) := by decide +kernel
theorem d_X12_isRule_53 : decode (gw_mC M_X12_isRule) 53 = .ok (.i2l, 1) := by decide +kernel
theorem d_X12_isRule_54 : decode (gw_mC M_X12_isRule) 54 = .ok (.lconst 0, 1) := by decide +kernel
theorem d_X12_isRule_55 : decode (gw_mC M_X12_isRule) 55 = .ok (.ldc2_w 136, 3) := by decide +kernel
theorem d_X12_isRule_58 : decode (gw_mC M_X12_isRule) 58 = .ok (.invokestatic 98, 3) := by decide +kernel
theorem d_X12_isRule_61 : decode (gw_mC M_X12_isRule) 61 = .ok (.ireturn, 1) := by decide +kernel
theorem d_X12_isRule_62 : decode (gw_mC M_X12_isRule) 62 = .ok (.iload_n 1, 1) := by decide +kernel
theorem d_X12_isRule_63 : decode (gw_mC M_X12_isRule) 63 = .ok (.i2l, 1) := by decide +kernel
theorem d_X12_isRule_64 : decode (gw_mC M_X12_isRule) 64 = .ok (.lconst 0, 1) := by decide +kernel
theorem d_X12_isRule_65 : decode (gw_mC M_X12_isRule) 65 = .ok (.ldc2_w 138, 3) := by decide +kernel
theorem d_X12_isRule_68 : decode (gw_mC M_X12_isRule) 68 = .ok (.invokestatic 98, 3) := by decide +kernel
theorem d_X12_isRule_71 : decode (gw_mC M_X12_isRule) 71 = .ok (.ireturn, 1) := by decide +kernel
theorem d_X12_isRule_72 : decode (gw_mC M_X12_isRule) 72 = .ok (.iload_n 0, 1) := by decide +kernel
theorem d_X12_isRule_73 : decode (gw_mC M_X12_isRule) 73 = .ok (.iconst 4, 1) := by decide +kernel
theorem d_X12_isRule_74 : decode (gw_mC M_X12_isRule) 74 = .ok (.if_icmp .ne 19, 3) := by decide +kernel
theorem d_X12_isRule_77 : decode (gw_mC M_X12_isRule) 77 = .ok (.iload_n 1, 1) := by decide +kernel
theorem d_X12_isRule_78 : decode (gw_mC M_X12_isRule) 78 = .ok (.i2l, 1) := by decide +kernel
theorem d_X12_isRule_79 : decode (gw_mC M_X12_isRule) 79 = .ok (.lconst 1, 1) := by decide +kernel
theorem d_X12_isRule_80 : decode (gw_mC M_X12_isRule) 80 = .ok (.ldc2_w 96, 3) := by decide +kernel
theorem d_X12_isRule_83 : decode (gw_mC M_X12_isRule) 83 = .ok (.invokestatic 98, 3) := by decide +kernel
theorem d_X12_isRule_86 : decode (gw_mC M_X12_isRule) 86 = .ok (.ifCond .eq 7, 3) := by decide +kernel
theorem d_X12_isRule_89 : decode (gw_mC M_X12_isRule) 89 = .ok (.iconst 1, 1) := by decide +kernel
theorem d_X12_isRule_90 : decode (gw_mC M_X12_isRule) 90 = .ok (.goto 4, 3) := by decide +kernel
theorem d_X12_isRule_93 : decode (gw_mC M_X12_isRule) 93 = .ok (.iconst 0, 1) := by decide +kernel
theorem d_X12_isRule_94 : decode (gw_mC M_X12_isRule) 94 = .ok (.ireturn, 1) := by decide +kernel
theorem d_X12_rule_0 : decode (gw_mC M_X12_rule) 0 = .ok (.iload_n 1, 1) := by decide +kernel
theorem d_X12_rule_1 : decode (gw_mC M_X12_rule) 1 = .ok (.iload_n 2, 1) := by decide +kernel
theorem d_X12_rule_2 : decode (gw_mC M_X12_rule) 2 = .ok (.invokestatic 140, 3) := by decide +kernel
theorem d_X12_rule_5 : decode (gw_mC M_X12_rule) 5 = .ok (.ifCond .ne 5, 3) := by decide +kernel
theorem d_X12_rule_8 : decode (gw_mC M_X12_rule) 8 = .ok (.iconst (-1), 1) := by decide +kernel
theorem d_X12_rule_9 : decode (gw_mC M_X12_rule) 9 = .ok (.ireturn, 1) := by decide +kernel
theorem d_X12_rule_10 : decode (gw_mC M_X12_rule) 10 = .ok (.aload_n 0, 1) := by decide +kernel
theorem d_X12_rule_11 : decode (gw_mC M_X12_rule) 11 = .ok (.getfield 22, 3) := by decide +kernel
theorem d_X12_rule_14 : decode (gw_mC M_X12_rule) 14 = .ok (.iload_n 1, 1) := by decide +kernel
theorem d_X12_rule_15 : decode (gw_mC M_X12_rule) 15 = .ok (.iaload, 1) := by decide +kernel
theorem d_X12_rule_16 : decode (gw_mC M_X12_rule) 16 = .ok (.istore_n 3, 1) := by decide +kernel
theorem d_X12_rule_17 : decode (gw_mC M_X12_rule) 17 = .ok (.aload_n 0, 1) := by decide +kernel
theorem d_X12_rule_18 : decode (gw_mC M_X12_rule) 18 = .ok (.getfield 22, 3) := by decide +kernel
theorem d_X12_rule_21 : decode (gw_mC M_X12_rule) 21 = .ok (.iload_n 1, 1) := by decide +kernel
theorem d_X12_rule_22 : decode (gw_mC M_X12_rule) 22 = .ok (.iload_n 2, 1) := by decide +kernel
theorem d_X12_rule_23 : decode (gw_mC M_X12_rule) 23 = .ok (.iastore, 1) := by decide +kernel
theorem d_X12_rule_24 : decode (gw_mC M_X12_rule) 24 = .ok (.iload_n 3, 1) := by decide +kernel
theorem d_X12_rule_25 : decode (gw_mC M_X12_rule) 25 = .ok (.ireturn, 1) := by decide +kernel
theorem d_X12_type_0 : decode (gw_mC M_X12_type) 0 = .ok (.iload_n 3, 1) := by decide +kernel
theorem d_X12_type_1 : decode (gw_mC M_X12_type) 1 = .ok (.i2l, 1) := by decide +kernel
theorem d_X12_type_2 : decode (gw_mC M_X12_type) 2 = .ok (.lconst 1, 1) := by decide +kernel
theorem d_X12_type_3 : decode (gw_mC M_X12_type) 3 = .ok (.ldc2_w 143, 3) := by decide +kernel
theorem d_X12_type_6 : decode (gw_mC M_X12_type) 6 = .ok (.invokestatic 98, 3) := by decide +kernel
theorem d_X12_type_9 : decode (gw_mC M_X12_type) 9 = .ok (.ifCond .ne 5, 3) := by decide +kernel
theorem d_X12_type_12 : decode (gw_mC M_X12_type) 12 = .ok (.iconst (-1), 1) := by decide +kernel
theorem d_X12_type_13 : decode (gw_mC M_X12_type) 13 = .ok (.ireturn, 1) := by decide +kernel
theorem d_X12_type_14 : decode (gw_mC M_X12_type) 14 = .ok (.iconst 0, 1) := by decide +kernel
theorem d_X12_type_15 : decode (gw_mC M_X12_type) 15 = .ok (.istore 4, 2) := by decide +kernel
theorem d_X12_type_17 : decode (gw_mC M_X12_type) 17 = .ok (.iload 4, 2) := by decide +kernel
theorem d_X12_type_19 : decode (gw_mC M_X12_type) 19 = .ok (.iload_n 3, 1) := by decide +kernel
theorem d_X12_type_20 : decode (gw_mC M_X12_type) 20 = .ok (.if_icmp .ge 34, 3) := by decide +kernel
theorem d_X12_type_23 : decode (gw_mC M_X12_type) 23 = .ok (.lload_n 1, 1) := by decide +kernel
theorem d_X12_type_24 : decode (gw_mC M_X12_type) 24 = .ok (.bipush 8, 2) := by decide +kernel
theorem d_X12_type_26 : decode (gw_mC M_X12_type) 26 = .ok (.iload 4, 2) := by decide +kernel
theorem d_X12_type_28 : decode (gw_mC M_X12_type) 28 = .ok (.imul, 1) := by decide +kernel
theorem d_X12_type_29 : decode (gw_mC M_X12_type) 29 = .ok (.lshr, 1) := by decide +kernel
theorem d_X12_type_30 : decode (gw_mC M_X12_type) 30 = .ok (.ldc2_w 145, 3) := by decide +kernel
theorem d_X12_type_33 : decode (gw_mC M_X12_type) 33 = .ok (.land, 1) := by decide +kernel
theorem d_X12_type_34 : decode (gw_mC M_X12_type) 34 = .ok (.ldc2_w 147, 3) := by decide +kernel
theorem d_X12_type_37 : decode (gw_mC M_X12_type) 37 = .ok (.ldc2_w 149, 3) := by decide +kernel
theorem d_X12_type_40 : decode (gw_mC M_X12_type) 40 = .ok (.invokestatic 98, 3) := by decide +kernel
theorem d_X12_type_43 : decode (gw_mC M_X12_type) 43 = .ok (.ifCond .ne 5, 3) := by decide +kernel
theorem d_X12_type_46 : decode (gw_mC M_X12_type) 46 = .ok (.iconst (-1), 1) := by decide +kernel
theorem d_X12_type_47 : decode (gw_mC M_X12_type) 47 = .ok (.ireturn, 1) := by decide +kernel
theorem d_X12_type_48 : decode (gw_mC M_X12_type) 48 = .ok (.iinc 4 1, 3) := by decide +kernel
theorem d_X12_type_51 : decode (gw_mC M_X12_type) 51 = .ok (.goto (-34), 3) := by decide +kernel
theorem d_X12_type_54 : decode (gw_mC M_X12_type) 54 = .ok (.aload_n 0, 1) := by decide +kernel
theorem d_X12_type_55 : decode (gw_mC M_X12_type) 55 = .ok (.getfield 151, 3) := by decide +kernel
theorem d_X12_type_58 : decode (gw_mC M_X12_type) 58 = .ok (.iload_n 3, 1) := by decide +kernel
theorem d_X12_type_59 : decode (gw_mC M_X12_type) 59 = .ok (.iadd, 1) := by decide +kernel
theorem d_X12_type_60 : decode (gw_mC M_X12_type) 60 = .ok (.bipush 80, 2) := by decide +kernel
theorem d_X12_type_62 : decode (gw_mC M_X12_type) 62 = .ok (.if_icmp .le 6, 3) := by decide +kernel
theorem d_X12_type_65 : decode (gw_mC M_X12_type) 65 = .ok (.bipush (-3), 2) := by decide +kernel
theorem d_X12_type_67 : decode (gw_mC M_X12_type) 67 = .ok (.ireturn, 1) := by decide +kernel
theorem d_X12_type_68 : decode (gw_mC M_X12_type) 68 = .ok (.iload_n 3, 1) := by decide +kernel
theorem d_X12_type_69 : decode (gw_mC M_X12_type) 69 = .ok (.iconst 1, 1) := by decide +kernel
theorem d_X12_type_70 : decode (gw_mC M_X12_type) 70 = .ok (.isub, 1) := by decide +kernel
theorem d_X12_type_71 : decode (gw_mC M_X12_type) 71 = .ok (.istore 4, 2) := by decide +kernel
theorem d_X12_type_73 : decode (gw_mC M_X12_type) 73 = .ok (.iload 4, 2) := by decide +kernel
theorem d_X12_type_75 : decode (gw_mC M_X12_type) 75 = .ok (.ifCond .lt 40, 3) := by decide +kernel
theorem d_X12_type_78 : decode (gw_mC M_X12_type) 78 = .ok (.aload_n 0, 1) := by decide +kernel
theorem d_X12_type_79 : decode (gw_mC M_X12_type) 79 = .ok (.getfield 37, 3) := by decide +kernel
theorem d_X12_type_82 : decode (gw_mC M_X12_type) 82 = .ok (.aload_n 0, 1) := by decide +kernel
theorem d_X12_type_83 : decode (gw_mC M_X12_type) 83 = .ok (.getfield 151, 3) := by decide +kernel
theorem d_X12_type_86 : decode (gw_mC M_X12_type) 86 = .ok (.lload_n 1, 1) := by decide +kernel
theorem d_X12_type_87 : decode (gw_mC M_X12_type) 87 = .ok (.bipush 8, 2) := by decide +kernel
theorem d_X12_type_89 : decode (gw_mC M_X12_type) 89 = .ok (.iload 4, 2) := by decide +kernel
theorem d_X12_type_91 : decode (gw_mC M_X12_type) 91 = .ok (.imul, 1) := by decide +kernel
theorem d_X12_type_92 : decode (gw_mC M_X12_type) 92 = .ok (.lshr, 1) := by decide +kernel
theorem d_X12_type_93 : decode (gw_mC M_X12_type) 93 = .ok (.ldc2_w 145, 3) := by decide +kernel
theorem d_X12_type_96 : decode (gw_mC M_X12_type) 96 = .ok (.land, 1) := by decide +kernel
theorem d_X12_type_97 : decode (gw_mC M_X12_type) 97 = .ok (.l2i, 1) := by decide +kernel
theorem d_X12_type_98 : decode (gw_mC M_X12_type) 98 = .ok (.iastore, 1) := by decide +kernel
theorem d_X12_type_99 : decode (gw_mC M_X12_type) 99 = .ok (.aload_n 0, 1) := by decide +kernel
theorem d_X12_type_100 : decode (gw_mC M_X12_type) 100 = .ok (.dup, 1) := by decide +kernel
theorem d_X12_type_101 : decode (gw_mC M_X12_type) 101 = .ok (.getfield 151, 3) := by decide +kernel
theorem d_X12_type_104 : decode (gw_mC M_X12_type) 104 = .ok (.iconst 1, 1) := by decide +kernel
theorem d_X12_type_105 : decode (gw_mC M_X12_type) 105 = .ok (.iadd, 1) := by decide +kernel
theorem d_X12_type_106 : decode (gw_mC M_X12_type) 106 = .ok (.putfield 151, 3) := by decide +kernel
theorem d_X12_type_109 : decode (gw_mC M_X12_type) 109 = .ok (.iinc 4 (-1), 3) := by decide +kernel
theorem d_X12_type_112 : decode (gw_mC M_X12_type) 112 = .ok (.goto (-39), 3) := by decide +kernel
theorem d_X12_type_115 : decode (gw_mC M_X12_type) 115 = .ok (.aload_n 0, 1) := by decide +kernel
theorem d_X12_type_116 : decode (gw_mC M_X12_type) 116 = .ok (.getfield 151, 3) := by decide +kernel
theorem d_X12_type_119 : decode (gw_mC M_X12_type) 119 = .ok (.ireturn, 1) := by decide +kernel
theorem d_X12_here_0 : decode (gw_mC M_X12_here) 0 = .ok (.aload_n 0, 1) := by decide +kernel
theorem d_X12_here_1 : decode (gw_mC M_X12_here) 1 = .ok (.getfield 154, 3) := by decide +kernel
theorem d_X12_here_4 : decode (gw_mC M_X12_here) 4 = .ok (.aload_n 0, 1) := by decide +kernel
theorem d_X12_here_5 : decode (gw_mC M_X12_here) 5 = .ok (.getfield 151, 3) := by decide +kernel
theorem d_X12_here_8 : decode (gw_mC M_X12_here) 8 = .ok (.if_icmp .ge 30, 3) := by decide +kernel
theorem d_X12_here_11 : decode (gw_mC M_X12_here) 11 = .ok (.aload_n 0, 1) := by decide +kernel
theorem d_X12_here_12 : decode (gw_mC M_X12_here) 12 = .ok (.getfield 37, 3) := by decide +kernel
theorem d_X12_here_15 : decode (gw_mC M_X12_here) 15 = .ok (.aload_n 0, 1) := by decide +kernel
theorem d_X12_here_16 : decode (gw_mC M_X12_here) 16 = .ok (.getfield 154, 3) := by decide +kernel
theorem d_X12_here_19 : decode (gw_mC M_X12_here) 19 = .ok (.iaload, 1) := by decide +kernel
theorem d_X12_here_20 : decode (gw_mC M_X12_here) 20 = .ok (.bipush 32, 2) := by decide +kernel
theorem d_X12_here_22 : decode (gw_mC M_X12_here) 22 = .ok (.if_icmp .ne 16, 3) := by decide +kernel
theorem d_X12_here_25 : decode (gw_mC M_X12_here) 25 = .ok (.aload_n 0, 1) := by decide +kernel
theorem d_X12_here_26 : decode (gw_mC M_X12_here) 26 = .ok (.dup, 1) := by decide +kernel
theorem d_X12_here_27 : decode (gw_mC M_X12_here) 27 = .ok (.getfield 154, 3) := by decide +kernel
theorem d_X12_here_30 : decode (gw_mC M_X12_here) 30 = .ok (.iconst 1, 1) := by decide +kernel
theorem d_X12_here_31 : decode (gw_mC M_X12_here) 31 = .ok (.iadd, 1) := by decide +kernel
theorem d_X12_here_32 : decode (gw_mC M_X12_here) 32 = .ok (.putfield 154, 3) := by decide +kernel
theorem d_X12_here_35 : decode (gw_mC M_X12_here) 35 = .ok (.goto (-35), 3) := by decide +kernel
theorem d_X12_here_38 : decode (gw_mC M_X12_here) 38 = .ok (.aload_n 0, 1) := by decide +kernel
theorem d_X12_here_39 : decode (gw_mC M_X12_here) 39 = .ok (.getfield 154, 3) := by decide +kernel
theorem d_X12_here_42 : decode (gw_mC M_X12_here) 42 = .ok (.aload_n 0, 1) := by decide +kernel
theorem d_X12_here_43 : decode (gw_mC M_X12_here) 43 = .ok (.getfield 151, 3) := by decide +kernel
theorem d_X12_here_46 : decode (gw_mC M_X12_here) 46 = .ok (.if_icmp .ge 15, 3) := by decide +kernel
theorem d_X12_here_49 : decode (gw_mC M_X12_here) 49 = .ok (.aload_n 0, 1) := by decide +kernel
theorem d_X12_here_50 : decode (gw_mC M_X12_here) 50 = .ok (.getfield 37, 3) := by decide +kernel
theorem d_X12_here_53 : decode (gw_mC M_X12_here) 53 = .ok (.aload_n 0, 1) := by decide +kernel
theorem d_X12_here_54 : decode (gw_mC M_X12_here) 54 = .ok (.getfield 154, 3) := by decide +kernel
theorem d_X12_here_57 : decode (gw_mC M_X12_here) 57 = .ok (.iaload, 1) := by decide +kernel
theorem d_X12_here_58 : decode (gw_mC M_X12_here) 58 = .ok (.goto 4, 3) := by decide +kernel
theorem d_X12_here_61 : decode (gw_mC M_X12_here) 61 = .ok (.iconst 0, 1) := by decide +kernel
theorem d_X12_here_62 : decode (gw_mC M_X12_here) 62 = .ok (.ireturn, 1) := by decide +kernel
theorem d_X12_has_0 : decode (gw_mC M_X12_has) 0 = .ok (.aload_n 0, 1) := by decide +kernel
theorem d_X12_has_1 : decode (gw_mC M_X12_has) 1 = .ok (.getfield 157, 3) := by decide +kernel
theorem d_X12_has_4 : decode (gw_mC M_X12_has) 4 = .ok (.ifCond .ne 15, 3) := by decide +kernel
theorem d_X12_has_7 : decode (gw_mC M_X12_has) 7 = .ok (.aload_n 0, 1) := by decide +kernel
theorem d_X12_has_8 : decode (gw_mC M_X12_has) 8 = .ok (.invokevirtual 161, 3) := by decide +kernel
theorem d_X12_has_11 : decode (gw_mC M_X12_has) 11 = .ok (.iload_n 1, 1) := by decide +kernel
theorem d_X12_has_12 : decode (gw_mC M_X12_has) 12 = .ok (.if_icmp .ne 7, 3) := by decide +kernel
theorem d_X12_has_15 : decode (gw_mC M_X12_has) 15 = .ok (.iconst 1, 1) := by decide +kernel
theorem d_X12_has_16 : decode (gw_mC M_X12_has) 16 = .ok (.goto 4, 3) := by decide +kernel
theorem d_X12_has_19 : decode (gw_mC M_X12_has) 19 = .ok (.iconst 0, 1) := by decide +kernel
theorem d_X12_has_20 : decode (gw_mC M_X12_has) 20 = .ok (.istore_n 2, 1) := by decide +kernel
theorem d_X12_has_21 : decode (gw_mC M_X12_has) 21 = .ok (.aload_n 0, 1) := by decide +kernel
theorem d_X12_has_22 : decode (gw_mC M_X12_has) 22 = .ok (.dup, 1) := by decide +kernel
theorem d_X12_has_23 : decode (gw_mC M_X12_has) 23 = .ok (.getfield 154, 3) := by decide +kernel
theorem d_X12_has_26 : decode (gw_mC M_X12_has) 26 = .ok (.iload_n 2, 1) := by decide +kernel
theorem d_X12_has_27 : decode (gw_mC M_X12_has) 27 = .ok (.ifCond .eq 7, 3) := by decide +kernel
theorem d_X12_has_30 : decode (gw_mC M_X12_has) 30 = .ok (.iconst 1, 1) := by decide +kernel
theorem d_X12_has_31 : decode (gw_mC M_X12_has) 31 = .ok (.goto 4, 3) := by decide +kernel
theorem d_X12_has_34 : decode (gw_mC M_X12_has) 34 = .ok (.iconst 0, 1) := by decide +kernel
theorem d_X12_has_35 : decode (gw_mC M_X12_has) 35 = .ok (.iadd, 1) := by decide +kernel
theorem d_X12_has_36 : decode (gw_mC M_X12_has) 36 = .ok (.putfield 154, 3) := by decide +kernel
theorem d_X12_has_39 : decode (gw_mC M_X12_has) 39 = .ok (.iload_n 2, 1) := by decide +kernel
theorem d_X12_has_40 : decode (gw_mC M_X12_has) 40 = .ok (.ireturn, 1) := by decide +kernel
theorem d_X12_number_0 : decode (gw_mC M_X12_number) 0 = .ok (.aload_n 0, 1) := by decide +kernel
theorem d_X12_number_1 : decode (gw_mC M_X12_number) 1 = .ok (.getfield 157, 3) := by decide +kernel
theorem d_X12_number_4 : decode (gw_mC M_X12_number) 4 = .ok (.ifCond .ne 20, 3) := by decide +kernel
theorem d_X12_number_7 : decode (gw_mC M_X12_number) 7 = .ok (.aload_n 0, 1) := by decide +kernel
theorem d_X12_number_8 : decode (gw_mC M_X12_number) 8 = .ok (.invokevirtual 161, 3) := by decide +kernel
theorem d_X12_number_11 : decode (gw_mC M_X12_number) 11 = .ok (.i2l, 1) := by decide +kernel
theorem d_X12_number_12 : decode (gw_mC M_X12_number) 12 = .ok (.ldc2_w 164, 3) := by decide +kernel
theorem d_X12_number_15 : decode (gw_mC M_X12_number) 15 = .ok (.ldc2_w 166, 3) := by decide +kernel
theorem d_X12_number_18 : decode (gw_mC M_X12_number) 18 = .ok (.invokestatic 98, 3) := by decide +kernel
theorem d_X12_number_21 : decode (gw_mC M_X12_number) 21 = .ok (.ifCond .ne 10, 3) := by decide +kernel
theorem d_X12_number_24 : decode (gw_mC M_X12_number) 24 = .ok (.aload_n 0, 1) := by decide +kernel
theorem d_X12_number_25 : decode (gw_mC M_X12_number) 25 = .ok (.iconst 1, 1) := by decide +kernel
theorem d_X12_number_26 : decode (gw_mC M_X12_number) 26 = .ok (.putfield 157, 3) := by decide +kernel
theorem d_X12_number_29 : decode (gw_mC M_X12_number) 29 = .ok (.iconst 0, 1) := by decide +kernel
theorem d_X12_number_30 : decode (gw_mC M_X12_number) 30 = .ok (.ireturn, 1) := by decide +kernel
theorem d_X12_number_31 : decode (gw_mC M_X12_number) 31 = .ok (.aload_n 0, 1) := by decide +kernel
theorem d_X12_number_32 : decode (gw_mC M_X12_number) 32 = .ok (.getfield 154, 3) := by decide +kernel
theorem d_X12_number_35 : decode (gw_mC M_X12_number) 35 = .ok (.istore_n 3, 1) := by decide +kernel
theorem d_X12_number_36 : decode (gw_mC M_X12_number) 36 = .ok (.iconst 0, 1) := by decide +kernel
theorem d_X12_number_37 : decode (gw_mC M_X12_number) 37 = .ok (.istore 4, 2) := by decide +kernel
theorem d_X12_number_39 : decode (gw_mC M_X12_number) 39 = .ok (.aload_n 0, 1) := by decide +kernel
theorem d_X12_number_40 : decode (gw_mC M_X12_number) 40 = .ok (.getfield 154, 3) := by decide +kernel
theorem d_X12_number_43 : decode (gw_mC M_X12_number) 43 = .ok (.aload_n 0, 1) := by decide +kernel
theorem d_X12_number_44 : decode (gw_mC M_X12_number) 44 = .ok (.getfield 151, 3) := by decide +kernel
theorem d_X12_number_47 : decode (gw_mC M_X12_number) 47 = .ok (.if_icmp .ge 71, 3) := by decide +kernel
theorem d_X12_number_50 : decode (gw_mC M_X12_number) 50 = .ok (.aload_n 0, 1) := by decide +kernel
theorem d_X12_number_51 : decode (gw_mC M_X12_number) 51 = .ok (.getfield 37, 3) := by decide +kernel
theorem d_X12_number_54 : decode (gw_mC M_X12_number) 54 = .ok (.aload_n 0, 1) := by decide +kernel
theorem d_X12_number_55 : decode (gw_mC M_X12_number) 55 = .ok (.getfield 154, 3) := by decide +kernel
theorem d_X12_number_58 : decode (gw_mC M_X12_number) 58 = .ok (.iaload, 1) := by decide +kernel
theorem d_X12_number_59 : decode (gw_mC M_X12_number) 59 = .ok (.i2l, 1) := by decide +kernel
theorem d_X12_number_60 : decode (gw_mC M_X12_number) 60 = .ok (.ldc2_w 164, 3) := by decide +kernel
theorem d_X12_number_63 : decode (gw_mC M_X12_number) 63 = .ok (.ldc2_w 166, 3) := by decide +kernel
theorem d_X12_number_66 : decode (gw_mC M_X12_number) 66 = .ok (.invokestatic 98, 3) := by decide +kernel
theorem d_X12_number_69 : decode (gw_mC M_X12_number) 69 = .ok (.ifCond .eq 49, 3) := by decide +kernel
theorem d_X12_number_72 : decode (gw_mC M_X12_number) 72 = .ok (.iload 4, 2) := by decide +kernel
theorem d_X12_number_74 : decode (gw_mC M_X12_number) 74 = .ok (.sipush 999, 3) := by decide +kernel
theorem d_X12_number_77 : decode (gw_mC M_X12_number) 77 = .ok (.if_icmp .le 8, 3) := by decide +kernel
theorem d_X12_number_80 : decode (gw_mC M_X12_number) 80 = .ok (.iload 4, 2) := by decide +kernel
theorem d_X12_number_82 : decode (gw_mC M_X12_number) 82 = .ok (.goto 21, 3) := by decide +kernel
theorem d_X12_number_85 : decode (gw_mC M_X12_number) 85 = .ok (.bipush 10, 2) := by decide +kernel
theorem d_X12_number_87 : decode (gw_mC M_X12_number) 87 = .ok (.iload 4, 2) := by decide +kernel
theorem d_X12_number_89 : decode (gw_mC M_X12_number) 89 = .ok (.imul, 1) := by decide +kernel
theorem d_X12_number_90 : decode (gw_mC M_X12_number) 90 = .ok (.aload_n 0, 1) := by decide +kernel
theorem d_X12_number_91 : decode (gw_mC M_X12_number) 91 = .ok (.getfield 37, 3) := by decide +kernel
theorem d_X12_number_94 : decode (gw_mC M_X12_number) 94 = .ok (.aload_n 0, 1) := by decide +kernel
theorem d_X12_number_95 : decode (gw_mC M_X12_number) 95 = .ok (.getfield 154, 3) := by decide +kernel
theorem d_X12_number_98 : decode (gw_mC M_X12_number) 98 = .ok (.iaload, 1) := by decide +kernel
theorem d_X12_number_99 : decode (gw_mC M_X12_number) 99 = .ok (.iadd, 1) := by decide +kernel
theorem d_X12_number_100 : decode (gw_mC M_X12_number) 100 = .ok (.bipush 48, 2) := by decide +kernel
theorem d_X12_number_102 : decode (gw_mC M_X12_number) 102 = .ok (.isub, 1) := by decide +kernel
theorem d_X12_number_103 : decode (gw_mC M_X12_number) 103 = .ok (.istore 4, 2) := by decide +kernel
theorem d_X12_number_105 : decode (gw_mC M_X12_number) 105 = .ok (.aload_n 0, 1) := by decide +kernel
theorem d_X12_number_106 : decode (gw_mC M_X12_number) 106 = .ok (.dup, 1) := by decide +kernel
theorem d_X12_number_107 : decode (gw_mC M_X12_number) 107 = .ok (.getfield 154, 3) := by decide +kernel
theorem d_X12_number_110 : decode (gw_mC M_X12_number) 110 = .ok (.iconst 1, 1) := by decide +kernel
theorem d_X12_number_111 : decode (gw_mC M_X12_number) 111 = .ok (.iadd, 1) := by decide +kernel
theorem d_X12_number_112 : decode (gw_mC M_X12_number) 112 = .ok (.putfield 154, 3) := by decide +kernel
theorem d_X12_number_115 : decode (gw_mC M_X12_number) 115 = .ok (.goto (-76), 3) := by decide +kernel
theorem d_X12_number_118 : decode (gw_mC M_X12_number) 118 = .ok (.aload_n 0, 1) := by decide +kernel
theorem d_X12_number_119 : decode (gw_mC M_X12_number) 119 = .ok (.iload 4, 2) := by decide +kernel
theorem d_X12_number_121 : decode (gw_mC M_X12_number) 121 = .ok (.i2l, 1) := by decide +kernel
theorem d_X12_number_122 : decode (gw_mC M_X12_number) 122 = .ok (.iload_n 1, 1) := by decide +kernel
theorem d_X12_number_123 : decode (gw_mC M_X12_number) 123 = .ok (.i2l, 1) := by decide +kernel
theorem d_X12_number_124 : decode (gw_mC M_X12_number) 124 = .ok (.iload_n 2, 1) := by decide +kernel
theorem d_X12_number_125 : decode (gw_mC M_X12_number) 125 = .ok (.i2l, 1) := by decide +kernel
theorem d_X12_number_126 : decode (gw_mC M_X12_number) 126 = .ok (.invokestatic 98, 3) := by decide +kernel
theorem d_X12_number_129 : decode (gw_mC M_X12_number) 129 = .ok (.ifCond .ne 7, 3) := by decide +kernel
theorem d_X12_number_132 : decode (gw_mC M_X12_number) 132 = .ok (.iconst 1, 1) := by decide +kernel
theorem d_X12_number_133 : decode (gw_mC M_X12_number) 133 = .ok (.goto 4, 3) := by decide +kernel
theorem d_X12_number_136 : decode (gw_mC M_X12_number) 136 = .ok (.iconst 0, 1) := by decide +kernel
theorem d_X12_number_137 : decode (gw_mC M_X12_number) 137 = .ok (.putfield 157, 3) := by decide +kernel
theorem d_X12_number_140 : decode (gw_mC M_X12_number) 140 = .ok (.aload_n 0, 1) := by decide +kernel
theorem d_X12_number_141 : decode (gw_mC M_X12_number) 141 = .ok (.aload_n 0, 1) := by decide +kernel
theorem d_X12_number_142 : decode (gw_mC M_X12_number) 142 = .ok (.getfield 157, 3) := by decide +kernel
theorem d_X12_number_145 : decode (gw_mC M_X12_number) 145 = .ok (.ifCond .eq 7, 3) := by decide +kernel
theorem d_X12_number_148 : decode (gw_mC M_X12_number) 148 = .ok (.iload_n 3, 1) := by decide +kernel
theorem d_X12_number_149 : decode (gw_mC M_X12_number) 149 = .ok (.goto 7, 3) := by decide +kernel
theorem d_X12_number_152 : decode (gw_mC M_X12_number) 152 = .ok (.aload_n 0, 1) := by decide +kernel
theorem d_X12_number_153 : decode (gw_mC M_X12_number) 153 = .ok (.getfield 154, 3) := by decide +kernel
theorem d_X12_number_156 : decode (gw_mC M_X12_number) 156 = .ok (.putfield 154, 3) := by decide +kernel
theorem d_X12_number_159 : decode (gw_mC M_X12_number) 159 = .ok (.iload 4, 2) := by decide +kernel
theorem d_X12_number_161 : decode (gw_mC M_X12_number) 161 = .ok (.ireturn, 1) := by decide +kernel
theorem d_X12_letter_0 : decode (gw_mC M_X12_letter) 0 = .ok (.aload_n 0, 1) := by decide +kernel
theorem d_X12_letter_1 : decode (gw_mC M_X12_letter) 1 = .ok (.getfield 157, 3) := by decide +kernel
theorem d_X12_letter_4 : decode (gw_mC M_X12_letter) 4 = .ok (.ifCond .eq 7, 3) := by decide +kernel
theorem d_X12_letter_7 : decode (gw_mC M_X12_letter) 7 = .ok (.iconst 0, 1) := by decide +kernel
theorem d_X12_letter_8 : decode (gw_mC M_X12_letter) 8 = .ok (.goto 7, 3) := by decide +kernel
theorem d_X12_letter_11 : decode (gw_mC M_X12_letter) 11 = .ok (.aload_n 0, 1) := by decide +kernel
theorem d_X12_letter_12 : decode (gw_mC M_X12_letter) 12 = .ok (.invokevirtual 161, 3) := by decide +kernel
theorem d_X12_letter_15 : decode (gw_mC M_X12_letter) 15 = .ok (.istore 5, 2) := by decide +kernel
theorem d_X12_letter_17 : decode (gw_mC M_X12_letter) 17 = .ok (.iload 5, 2) := by decide +kernel
theorem d_X12_letter_19 : decode (gw_mC M_X12_letter) 19 = .ok (.ifCond .ne 8, 3) := by decide +kernel
theorem d_X12_letter_22 : decode (gw_mC M_X12_letter) 22 = .ok (.bipush (-4), 2) := by decide +kernel
theorem d_X12_letter_24 : decode (gw_mC M_X12_letter) 24 = .ok (.goto 46, 3) := by decide +kernel
theorem d_X12_letter_27 : decode (gw_mC M_X12_letter) 27 = .ok (.iload 5, 2) := by decide +kernel
theorem d_X12_letter_29 : decode (gw_mC M_X12_letter) 29 = .ok (.iload_n 1, 1) := by decide +kernel
theorem d_X12_letter_30 : decode (gw_mC M_X12_letter) 30 = .ok (.if_icmp .ne 7, 3) := by decide +kernel
theorem d_X12_letter_33 : decode (gw_mC M_X12_letter) 33 = .ok (.iconst 0, 1) := by decide +kernel
theorem d_X12_letter_34 : decode (gw_mC M_X12_letter) 34 = .ok (.goto 36, 3) := by decide +kernel
theorem d_X12_letter_37 : decode (gw_mC M_X12_letter) 37 = .ok (.iload 5, 2) := by decide +kernel
theorem d_X12_letter_39 : decode (gw_mC M_X12_letter) 39 = .ok (.iload_n 2, 1) := by decide +kernel
theorem d_X12_letter_40 : decode (gw_mC M_X12_letter) 40 = .ok (.if_icmp .ne 7, 3) := by decide +kernel
theorem d_X12_letter_43 : decode (gw_mC M_X12_letter) 43 = .ok (.iconst 1, 1) := by decide +kernel
theorem d_X12_letter_44 : decode (gw_mC M_X12_letter) 44 = .ok (.goto 26, 3) := by decide +kernel
theorem d_X12_letter_47 : decode (gw_mC M_X12_letter) 47 = .ok (.iload 5, 2) := by decide +kernel
theorem d_X12_letter_49 : decode (gw_mC M_X12_letter) 49 = .ok (.iload_n 3, 1) := by decide +kernel
theorem d_X12_letter_50 : decode (gw_mC M_X12_letter) 50 = .ok (.if_icmp .ne 7, 3) := by decide +kernel
theorem d_X12_letter_53 : decode (gw_mC M_X12_letter) 53 = .ok (.iconst 2, 1) := by decide +kernel
theorem d_X12_letter_54 : decode (gw_mC M_X12_letter) 54 = .ok (.goto 16, 3) := by decide +kernel
theorem d_X12_letter_57 : decode (gw_mC M_X12_letter) 57 = .ok (.iload 5, 2) := by decide +kernel
theorem d_X12_letter_59 : decode (gw_mC M_X12_letter) 59 = .ok (.iload 4, 2) := by decide +kernel
theorem d_X12_letter_61 : decode (gw_mC M_X12_letter) 61 = .ok (.if_icmp .ne 7, 3) := by decide +kernel
theorem d_X12_letter_64 : decode (gw_mC M_X12_letter) 64 = .ok (.iconst 3, 1) := by decide +kernel
theorem d_X12_letter_65 : decode (gw_mC M_X12_letter) 65 = .ok (.goto 5, 3) := by decide +kernel
theorem d_X12_letter_68 : decode (gw_mC M_X12_letter) 68 = .ok (.bipush (-4), 2) := by decide +kernel
theorem d_X12_letter_70 : decode (gw_mC M_X12_letter) 70 = .ok (.istore 6, 2) := by decide +kernel
theorem d_X12_letter_72 : decode (gw_mC M_X12_letter) 72 = .ok (.aload_n 0, 1) := by decide +kernel
theorem d_X12_letter_73 : decode (gw_mC M_X12_letter) 73 = .ok (.aload_n 0, 1) := by decide +kernel
theorem d_X12_letter_74 : decode (gw_mC M_X12_letter) 74 = .ok (.getfield 157, 3) := by decide +kernel
theorem d_X12_letter_77 : decode (gw_mC M_X12_letter) 77 = .ok (.ifCond .ne 8, 3) := by decide +kernel
theorem d_X12_letter_80 : decode (gw_mC M_X12_letter) 80 = .ok (.iload 6, 2) := by decide +kernel
theorem d_X12_letter_82 : decode (gw_mC M_X12_letter) 82 = .ok (.ifCond .ge 7, 3) := by decide +kernel
theorem d_X12_letter_85 : decode (gw_mC M_X12_letter) 85 = .ok (.iconst 1, 1) := by decide +kernel
theorem d_X12_letter_86 : decode (gw_mC M_X12_letter) 86 = .ok (.goto 4, 3) := by decide +kernel
theorem d_X12_letter_89 : decode (gw_mC M_X12_letter) 89 = .ok (.iconst 0, 1) := by decide +kernel
theorem d_X12_letter_90 : decode (gw_mC M_X12_letter) 90 = .ok (.putfield 157, 3) := by decide +kernel
theorem d_X12_letter_93 : decode (gw_mC M_X12_letter) 93 = .ok (.aload_n 0, 1) := by decide +kernel
theorem d_X12_letter_94 : decode (gw_mC M_X12_letter) 94 = .ok (.dup, 1) := by decide +kernel
theorem d_X12_letter_95 : decode (gw_mC M_X12_letter) 95 = .ok (.getfield 154, 3) := by decide +kernel
theorem d_X12_letter_98 : decode (gw_mC M_X12_letter) 98 = .ok (.aload_n 0, 1) := by decide +kernel
theorem d_X12_letter_99 : decode (gw_mC M_X12_letter) 99 = .ok (.getfield 157, 3) := by decide +kernel
theorem d_X12_letter_102 : decode (gw_mC M_X12_letter) 102 = .ok (.ifCond .eq 7, 3) := by decide +kernel
theorem d_X12_letter_105 : decode (gw_mC M_X12_letter) 105 = .ok (.iconst 0, 1) := by decide +kernel
theorem d_X12_letter_106 : decode (gw_mC M_X12_letter) 106 = .ok (.goto 4, 3) := by decide +kernel
theorem d_X12_letter_109 : decode (gw_mC M_X12_letter) 109 = .ok (.iconst 1, 1) := by decide +kernel
theorem d_X12_letter_110 : decode (gw_mC M_X12_letter) 110 = .ok (.iadd, 1) := by decide +kernel
theorem d_X12_letter_111 : decode (gw_mC M_X12_letter) 111 = .ok (.putfield 154, 3) := by decide +kernel
theorem d_X12_letter_114 : decode (gw_mC M_X12_letter) 114 = .ok (.iload 6, 2) := by decide +kernel
theorem d_X12_letter_116 : decode (gw_mC M_X12_letter) 116 = .ok (.ireturn, 1) := by decide +kernel
theorem d_X12_markClause_0 : decode (gw_mC M_X12_markClause) 0 = .ok (.aload_n 0, 1) := by decide +kernel
theorem d_X12_markClause_1 : decode (gw_mC M_X12_markClause) 1 = .ok (.bipush 115, 2) := by decide +kernel
theorem d_X12_markClause_3 : decode (gw_mC M_X12_markClause) 3 = .ok (.bipush 108, 2) := by decide +kernel
theorem d_X12_markClause_5 : decode (gw_mC M_X12_markClause) 5 = .ok (.bipush 119, 2) := by decide +kernel
theorem d_X12_markClause_7 : decode (gw_mC M_X12_markClause) 7 = .ok (.bipush 116, 2) := by decide +kernel
theorem d_X12_markClause_9 : decode (gw_mC M_X12_markClause) 9 = .ok (.invokevirtual 168, 3) := by decide +kernel
theorem d_X12_markClause_12 : decode (gw_mC M_X12_markClause) 12 = .ok (.istore_n 2, 1) := by decide +kernel
theorem d_X12_markClause_13 : decode (gw_mC M_X12_markClause) 13 = .ok (.aload_n 0, 1) := by decide +kernel
theorem d_X12_markClause_14 : decode (gw_mC M_X12_markClause) 14 = .ok (.invokevirtual 161, 3) := by decide +kernel
theorem d_X12_markClause_17 : decode (gw_mC M_X12_markClause) 17 = .ok (.pop, 1) := by decide +kernel
theorem d_X12_markClause_18 : decode (gw_mC M_X12_markClause) 18 = .ok (.aload_n 0, 1) := by decide +kernel
theorem d_X12_markClause_19 : decode (gw_mC M_X12_markClause) 19 = .ok (.getfield 154, 3) := by decide +kernel
theorem d_X12_markClause_22 : decode (gw_mC M_X12_markClause) 22 = .ok (.istore_n 3, 1) := by decide +kernel
theorem d_X12_markClause_23 : decode (gw_mC M_X12_markClause) 23 = .ok (.aload_n 0, 1) := by decide +kernel
theorem d_X12_markClause_24 : decode (gw_mC M_X12_markClause) 24 = .ok (.iconst 0, 1) := by decide +kernel
theorem d_X12_markClause_25 : decode (gw_mC M_X12_markClause) 25 = .ok (.bipush 99, 2) := by decide +kernel
theorem d_X12_markClause_27 : decode (gw_mC M_X12_markClause) 27 = .ok (.invokevirtual 172, 3) := by decide +kernel
theorem d_X12_markClause_30 : decode (gw_mC M_X12_markClause) 30 = .ok (.istore 4, 2) := by decide +kernel
theorem d_X12_markClause_32 : decode (gw_mC M_X12_markClause) 32 = .ok (.iconst 0, 1) := by decide +kernel
theorem d_X12_markClause_33 : decode (gw_mC M_X12_markClause) 33 = .ok (.istore 5, 2) := by decide +kernel
theorem d_X12_markClause_35 : decode (gw_mC M_X12_markClause) 35 = .ok (.iload 5, 2) := by decide +kernel
theorem d_X12_markClause_37 : decode (gw_mC M_X12_markClause) 37 = .ok (.iload_n 1, 1) := by decide +kernel
theorem d_X12_markClause_38 : decode (gw_mC M_X12_markClause) 38 = .ok (.if_icmp .ge 55, 3) := by decide +kernel
theorem d_X12_markClause_41 : decode (gw_mC M_X12_markClause) 41 = .ok (.aload_n 0, 1) := by decide +kernel
theorem d_X12_markClause_42 : decode (gw_mC M_X12_markClause) 42 = .ok (.getfield 157, 3) := by decide +kernel
theorem d_X12_markClause_45 : decode (gw_mC M_X12_markClause) 45 = .ok (.ifCond .ne 48, 3) := by decide +kernel
theorem d_X12_markClause_48 : decode (gw_mC M_X12_markClause) 48 = .ok (.aload_n 0, 1) := by decide +kernel
theorem d_X12_markClause_49 : decode (gw_mC M_X12_markClause) 49 = .ok (.getfield 40, 3) := by decide +kernel
theorem d_X12_markClause_52 : decode (gw_mC M_X12_markClause) 52 = .ok (.iconst 3, 1) := by decide +kernel
theorem d_X12_markClause_53 : decode (gw_mC M_X12_markClause) 53 = .ok (.iload 5, 2) := by decide +kernel
theorem d_X12_markClause_55 : decode (gw_mC M_X12_markClause) 55 = .ok (.imul, 1) := by decide +kernel
theorem d_X12_markClause_56 : decode (gw_mC M_X12_markClause) 56 = .ok (.iaload, 1) := by decide +kernel
theorem d_X12_markClause_57 : decode (gw_mC M_X12_markClause) 57 = .ok (.iload_n 2, 1) := by decide +kernel
theorem d_X12_markClause_58 : decode (gw_mC M_X12_markClause) 58 = .ok (.if_icmp .ne 29, 3) := by decide +kernel
theorem d_X12_markClause_61 : decode (gw_mC M_X12_markClause) 61 = .ok (.aload_n 0, 1) := by decide +kernel
theorem d_X12_markClause_62 : decode (gw_mC M_X12_markClause) 62 = .ok (.getfield 40, 3) := by decide +kernel
theorem d_X12_markClause_65 : decode (gw_mC M_X12_markClause) 65 = .ok (.iconst 3, 1) := by decide +kernel
theorem d_X12_markClause_66 : decode (gw_mC M_X12_markClause) 66 = .ok (.iload 5, 2) := by decide +kernel
theorem d_X12_markClause_68 : decode (gw_mC M_X12_markClause) 68 = .ok (.imul, 1) := by decide +kernel
theorem d_X12_markClause_69 : decode (gw_mC M_X12_markClause) 69 = .ok (.iconst 1, 1) := by decide +kernel
theorem d_X12_markClause_70 : decode (gw_mC M_X12_markClause) 70 = .ok (.iadd, 1) := by decide +kernel
theorem d_X12_markClause_71 : decode (gw_mC M_X12_markClause) 71 = .ok (.iaload, 1) := by decide +kernel
theorem d_X12_markClause_72 : decode (gw_mC M_X12_markClause) 72 = .ok (.iload 4, 2) := by decide +kernel
theorem d_X12_markClause_74 : decode (gw_mC M_X12_markClause) 74 = .ok (.if_icmp .ne 13, 3) := by decide +kernel
theorem d_X12_markClause_77 : decode (gw_mC M_X12_markClause) 77 = .ok (.aload_n 0, 1) := by decide +kernel
theorem d_X12_markClause_78 : decode (gw_mC M_X12_markClause) 78 = .ok (.iconst 1, 1) := by decide +kernel
theorem d_X12_markClause_79 : decode (gw_mC M_X12_markClause) 79 = .ok (.putfield 157, 3) := by decide +kernel
theorem d_X12_markClause_82 : decode (gw_mC M_X12_markClause) 82 = .ok (.aload_n 0, 1) := by decide +kernel
theorem d_X12_markClause_83 : decode (gw_mC M_X12_markClause) 83 = .ok (.iload_n 3, 1) := by decide +kernel
theorem d_X12_markClause_84 : decode (gw_mC M_X12_markClause) 84 = .ok (.putfield 154, 3) := by decide +kernel
theorem d_X12_markClause_87 : decode (gw_mC M_X12_markClause) 87 = .ok (.iinc 5 1, 3) := by decide +kernel
theorem d_X12_markClause_90 : decode (gw_mC M_X12_markClause) 90 = .ok (.goto (-55), 3) := by decide +kernel
theorem d_X12_markClause_93 : decode (gw_mC M_X12_markClause) 93 = .ok (.aload_n 0, 1) := by decide +kernel
theorem d_X12_markClause_94 : decode (gw_mC M_X12_markClause) 94 = .ok (.aload_n 0, 1) := by decide +kernel
theorem d_X12_markClause_95 : decode (gw_mC M_X12_markClause) 95 = .ok (.bipush 58, 2) := by decide +kernel
theorem d_X12_markClause_97 : decode (gw_mC M_X12_markClause) 97 = .ok (.invokevirtual 175, 3) := by decide +kernel
theorem d_X12_markClause_100 : decode (gw_mC M_X12_markClause) 100 = .ok (.ifCond .ne 7, 3) := by decide +kernel
theorem d_X12_markClause_103 : decode (gw_mC M_X12_markClause) 103 = .ok (.iconst 1, 1) := by decide +kernel
theorem d_X12_markClause_104 : decode (gw_mC M_X12_markClause) 104 = .ok (.goto 4, 3) := by decide +kernel
theorem d_X12_markClause_107 : decode (gw_mC M_X12_markClause) 107 = .ok (.iconst 0, 1) := by decide +kernel
theorem d_X12_markClause_108 : decode (gw_mC M_X12_markClause) 108 = .ok (.putfield 157, 3) := by decide +kernel
theorem d_X12_markClause_111 : decode (gw_mC M_X12_markClause) 111 = .ok (.aload_n 0, 1) := by decide +kernel
theorem d_X12_markClause_112 : decode (gw_mC M_X12_markClause) 112 = .ok (.getfield 40, 3) := by decide +kernel
theorem d_X12_markClause_115 : decode (gw_mC M_X12_markClause) 115 = .ok (.iconst 3, 1) := by decide +kernel
theorem d_X12_markClause_116 : decode (gw_mC M_X12_markClause) 116 = .ok (.iload_n 1, 1) := by decide +kernel
theorem d_X12_markClause_117 : decode (gw_mC M_X12_markClause) 117 = .ok (.imul, 1) := by decide +kernel
theorem d_X12_markClause_118 : decode (gw_mC M_X12_markClause) 118 = .ok (.iload_n 2, 1) := by decide +kernel
theorem d_X12_markClause_119 : decode (gw_mC M_X12_markClause) 119 = .ok (.iastore, 1) := by decide +kernel
theorem d_X12_markClause_120 : decode (gw_mC M_X12_markClause) 120 = .ok (.aload_n 0, 1) := by decide +kernel
theorem d_X12_markClause_121 : decode (gw_mC M_X12_markClause) 121 = .ok (.getfield 40, 3) := by decide +kernel
theorem d_X12_markClause_124 : decode (gw_mC M_X12_markClause) 124 = .ok (.iconst 3, 1) := by decide +kernel
theorem d_X12_markClause_125 : decode (gw_mC M_X12_markClause) 125 = .ok (.iload_n 1, 1) := by decide +kernel
theorem d_X12_markClause_126 : decode (gw_mC M_X12_markClause) 126 = .ok (.imul, 1) := by decide +kernel
theorem d_X12_markClause_127 : decode (gw_mC M_X12_markClause) 127 = .ok (.iconst 1, 1) := by decide +kernel
theorem d_X12_markClause_128 : decode (gw_mC M_X12_markClause) 128 = .ok (.iadd, 1) := by decide +kernel
theorem d_X12_markClause_129 : decode (gw_mC M_X12_markClause) 129 = .ok (.iload 4, 2) := by decide +kernel
theorem d_X12_markClause_131 : decode (gw_mC M_X12_markClause) 131 = .ok (.iastore, 1) := by decide +kernel
theorem d_X12_markClause_132 : decode (gw_mC M_X12_markClause) 132 = .ok (.aload_n 0, 1) := by decide +kernel
theorem d_X12_markClause_133 : decode (gw_mC M_X12_markClause) 133 = .ok (.getfield 40, 3) := by decide +kernel
theorem d_X12_markClause_136 : decode (gw_mC M_X12_markClause) 136 = .ok (.iconst 3, 1) := by decide +kernel
theorem d_X12_markClause_137 : decode (gw_mC M_X12_markClause) 137 = .ok (.iload_n 1, 1) := by decide +kernel
theorem d_X12_markClause_138 : decode (gw_mC M_X12_markClause) 138 = .ok (.imul, 1) := by decide +kernel
theorem d_X12_markClause_139 : decode (gw_mC M_X12_markClause) 139 = .ok (.iconst 2, 1) := by decide +kernel
theorem d_X12_markClause_140 : decode (gw_mC M_X12_markClause) 140 = .ok (.iadd, 1) := by decide +kernel
theorem d_X12_markClause_141 : decode (gw_mC M_X12_markClause) 141 = .ok (.aload_n 0, 1) := by decide +kernel
theorem d_X12_markClause_142 : decode (gw_mC M_X12_markClause) 142 = .ok (.iload_n 2, 1) := by decide +kernel
theorem d_X12_markClause_143 : decode (gw_mC M_X12_markClause) 143 = .ok (.iconst 1, 1) := by decide +kernel
theorem d_X12_markClause_144 : decode (gw_mC M_X12_markClause) 144 = .ok (.if_icmp .ne 7, 3) := by decide +kernel
theorem d_X12_markClause_147 : decode (gw_mC M_X12_markClause) 147 = .ok (.iconst 2, 1) := by decide +kernel
theorem d_X12_markClause_148 : decode (gw_mC M_X12_markClause) 148 = .ok (.goto 4, 3) := by decide +kernel
theorem d_X12_markClause_151 : decode (gw_mC M_X12_markClause) 151 = .ok (.iconst 1, 1) := by decide +kernel
theorem d_X12_markClause_152 : decode (gw_mC M_X12_markClause) 152 = .ok (.iload_n 2, 1) := by decide +kernel
theorem d_X12_markClause_153 : decode (gw_mC M_X12_markClause) 153 = .ok (.iconst 3, 1) := by decide +kernel
theorem d_X12_markClause_154 : decode (gw_mC M_X12_markClause) 154 = .ok (.if_icmp .ne 8, 3) := by decide +kernel
theorem d_X12_markClause_157 : decode (gw_mC M_X12_markClause) 157 = .ok (.bipush 50, 2) := by decide +kernel
theorem d_X12_markClause_159 : decode (gw_mC M_X12_markClause) 159 = .ok (.goto 5, 3) := by decide +kernel
theorem d_X12_markClause_162 : decode (gw_mC M_X12_markClause) 162 = .ok (.bipush 20, 2) := by decide +kernel
theorem d_X12_markClause_164 : decode (gw_mC M_X12_markClause) 164 = .ok (.invokevirtual 172, 3) := by decide +kernel
theorem d_X12_markClause_167 : decode (gw_mC M_X12_markClause) 167 = .ok (.iastore, 1) := by decide +kernel
theorem d_X12_markClause_168 : decode (gw_mC M_X12_markClause) 168 = .ok (.return_, 1) := by decide +kernel
theorem d_X12_personClause_0 : decode (gw_mC M_X12_personClause) 0 = .ok (.aload_n 0, 1) := by decide +kernel
theorem d_X12_personClause_1 : decode (gw_mC M_X12_personClause) 1 = .ok (.invokevirtual 161, 3) := by decide +kernel
theorem d_X12_personClause_4 : decode (gw_mC M_X12_personClause) 4 = .ok (.pop, 1) := by decide +kernel
theorem d_X12_personClause_5 : decode (gw_mC M_X12_personClause) 5 = .ok (.aload_n 0, 1) := by decide +kernel
theorem d_X12_personClause_6 : decode (gw_mC M_X12_personClause) 6 = .ok (.getfield 154, 3) := by decide +kernel
theorem d_X12_personClause_9 : decode (gw_mC M_X12_personClause) 9 = .ok (.istore_n 2, 1) := by decide +kernel
theorem d_X12_personClause_10 : decode (gw_mC M_X12_personClause) 10 = .ok (.aload_n 0, 1) := by decide +kernel
theorem d_X12_personClause_11 : decode (gw_mC M_X12_personClause) 11 = .ok (.bipush 112, 2) := by decide +kernel
theorem d_X12_personClause_13 : decode (gw_mC M_X12_personClause) 13 = .ok (.bipush 108, 2) := by decide +kernel
theorem d_X12_personClause_15 : decode (gw_mC M_X12_personClause) 15 = .ok (.bipush 111, 2) := by decide +kernel
theorem d_X12_personClause_17 : decode (gw_mC M_X12_personClause) 17 = .ok (.bipush 116, 2) := by decide +kernel
theorem d_X12_personClause_19 : decode (gw_mC M_X12_personClause) 19 = .ok (.invokevirtual 168, 3) := by decide +kernel
theorem d_X12_personClause_22 : decode (gw_mC M_X12_personClause) 22 = .ok (.istore_n 3, 1) := by decide +kernel
theorem d_X12_personClause_23 : decode (gw_mC M_X12_personClause) 23 = .ok (.iconst 0, 1) := by decide +kernel
theorem d_X12_personClause_24 : decode (gw_mC M_X12_personClause) 24 = .ok (.istore 4, 2) := by decide +kernel
theorem d_X12_personClause_26 : decode (gw_mC M_X12_personClause) 26 = .ok (.iload 4, 2) := by decide +kernel
theorem d_X12_personClause_28 : decode (gw_mC M_X12_personClause) 28 = .ok (.iload_n 1, 1) := by decide +kernel
theorem d_X12_personClause_29 : decode (gw_mC M_X12_personClause) 29 = .ok (.if_icmp .ge 44, 3) := by decide +kernel
theorem d_X12_personClause_32 : decode (gw_mC M_X12_personClause) 32 = .ok (.aload_n 0, 1) := by decide +kernel
theorem d_X12_personClause_33 : decode (gw_mC M_X12_personClause) 33 = .ok (.getfield 157, 3) := by decide +kernel
theorem d_X12_personClause_36 : decode (gw_mC M_X12_personClause) 36 = .ok (.ifCond .ne 37, 3) := by decide +kernel
theorem d_X12_personClause_39 : decode (gw_mC M_X12_personClause) 39 = .ok (.iload_n 3, 1) := by decide +kernel
theorem d_X12_personClause_40 : decode (gw_mC M_X12_personClause) 40 = .ok (.iconst 3, 1) := by decide +kernel
theorem d_X12_personClause_41 : decode (gw_mC M_X12_personClause) 41 = .ok (.if_icmp .ne 26, 3) := by decide +kernel
theorem d_X12_personClause_44 : decode (gw_mC M_X12_personClause) 44 = .ok (.aload_n 0, 1) := by decide +kernel
theorem d_X12_personClause_45 : decode (gw_mC M_X12_personClause) 45 = .ok (.getfield 40, 3) := by decide +kernel
theorem d_X12_personClause_48 : decode (gw_mC M_X12_personClause) 48 = .ok (.iconst 3, 1) := by decide +kernel
theorem d_X12_personClause_49 : decode (gw_mC M_X12_personClause) 49 = .ok (.iload 4, 2) := by decide +kernel
theorem d_X12_personClause_51 : decode (gw_mC M_X12_personClause) 51 = .ok (.imul, 1) := by decide +kernel
theorem d_X12_personClause_52 : decode (gw_mC M_X12_personClause) 52 = .ok (.iaload, 1) := by decide +kernel
theorem d_X12_personClause_53 : decode (gw_mC M_X12_personClause) 53 = .ok (.iconst 3, 1) := by decide +kernel
theorem d_X12_personClause_54 : decode (gw_mC M_X12_personClause) 54 = .ok (.if_icmp .ne 13, 3) := by decide +kernel
theorem d_X12_personClause_57 : decode (gw_mC M_X12_personClause) 57 = .ok (.aload_n 0, 1) := by decide +kernel
theorem d_X12_personClause_58 : decode (gw_mC M_X12_personClause) 58 = .ok (.iconst 1, 1) := by decide +kernel
theorem d_X12_personClause_59 : decode (gw_mC M_X12_personClause) 59 = .ok (.putfield 157, 3) := by decide +kernel
theorem d_X12_personClause_62 : decode (gw_mC M_X12_personClause) 62 = .ok (.aload_n 0, 1) := by decide +kernel
theorem d_X12_personClause_63 : decode (gw_mC M_X12_personClause) 63 = .ok (.iload_n 2, 1) := by decide +kernel
theorem d_X12_personClause_64 : decode (gw_mC M_X12_personClause) 64 = .ok (.putfield 154, 3) := by decide +kernel
theorem d_X12_personClause_67 : decode (gw_mC M_X12_personClause) 67 = .ok (.iinc 4 1, 3) := by decide +kernel
theorem d_X12_personClause_70 : decode (gw_mC M_X12_personClause) 70 = .ok (.goto (-44), 3) := by decide +kernel
theorem d_X12_personClause_73 : decode (gw_mC M_X12_personClause) 73 = .ok (.aload_n 0, 1) := by decide +kernel
theorem d_X12_personClause_74 : decode (gw_mC M_X12_personClause) 74 = .ok (.getfield 157, 3) := by decide +kernel
theorem d_X12_personClause_77 : decode (gw_mC M_X12_personClause) 77 = .ok (.ifCond .eq 7, 3) := by decide +kernel
theorem d_X12_personClause_80 : decode (gw_mC M_X12_personClause) 80 = .ok (.iconst 0, 1) := by decide +kernel
theorem d_X12_personClause_81 : decode (gw_mC M_X12_personClause) 81 = .ok (.goto 7, 3) := by decide +kernel
theorem d_X12_personClause_84 : decode (gw_mC M_X12_personClause) 84 = .ok (.aload_n 0, 1) := by decide +kernel
theorem d_X12_personClause_85 : decode (gw_mC M_X12_personClause) 85 = .ok (.invokevirtual 161, 3) := by decide +kernel
theorem d_X12_personClause_88 : decode (gw_mC M_X12_personClause) 88 = .ok (.istore 4, 2) := by decide +kernel
theorem d_X12_personClause_90 : decode (gw_mC M_X12_personClause) 90 = .ok (.aload_n 0, 1) := by decide +kernel
theorem d_X12_personClause_91 : decode (gw_mC M_X12_personClause) 91 = .ok (.aload_n 0, 1) := by decide +kernel
theorem d_X12_personClause_92 : decode (gw_mC M_X12_personClause) 92 = .ok (.getfield 157, 3) := by decide +kernel
theorem d_X12_personClause_95 : decode (gw_mC M_X12_personClause) 95 = .ok (.ifCond .ne 18, 3) := by decide +kernel
theorem d_X12_personClause_98 : decode (gw_mC M_X12_personClause) 98 = .ok (.iload 4, 2) := by decide +kernel
theorem d_X12_personClause_100 : decode (gw_mC M_X12_personClause) 100 = .ok (.i2l, 1) := by decide +kernel
theorem d_X12_personClause_101 : decode (gw_mC M_X12_personClause) 101 = .ok (.ldc2_w 178, 3) := by decide +kernel
theorem d_X12_personClause_104 : decode (gw_mC M_X12_personClause) 104 = .ok (.ldc2_w 180, 3) := by decide +kernel
theorem d_X12_personClause_107 : decode (gw_mC M_X12_personClause) 107 = .ok (.invokestatic 98, 3) := by decide +kernel
theorem d_X12_personClause_110 : decode (gw_mC M_X12_personClause) 110 = .ok (.ifCond .ne 7, 3) := by decide +kernel
theorem d_X12_personClause_113 : decode (gw_mC M_X12_personClause) 113 = .ok (.iconst 1, 1) := by decide +kernel
theorem d_X12_personClause_114 : decode (gw_mC M_X12_personClause) 114 = .ok (.goto 4, 3) := by decide +kernel
theorem d_X12_personClause_117 : decode (gw_mC M_X12_personClause) 117 = .ok (.iconst 0, 1) := by decide +kernel
theorem d_X12_personClause_118 : decode (gw_mC M_X12_personClause) 118 = .ok (.putfield 157, 3) := by decide +kernel
theorem d_X12_personClause_121 : decode (gw_mC M_X12_personClause) 121 = .ok (.aload_n 0, 1) := by decide +kernel
theorem d_X12_personClause_122 : decode (gw_mC M_X12_personClause) 122 = .ok (.dup, 1) := by decide +kernel
theorem d_X12_personClause_123 : decode (gw_mC M_X12_personClause) 123 = .ok (.getfield 154, 3) := by decide +kernel
theorem d_X12_personClause_126 : decode (gw_mC M_X12_personClause) 126 = .ok (.aload_n 0, 1) := by decide +kernel
theorem d_X12_personClause_127 : decode (gw_mC M_X12_personClause) 127 = .ok (.getfield 157, 3) := by decide +kernel
theorem d_X12_personClause_130 : decode (gw_mC M_X12_personClause) 130 = .ok (.ifCond .eq 7, 3) := by decide +kernel
theorem d_X12_personClause_133 : decode (gw_mC M_X12_personClause) 133 = .ok (.iconst 0, 1) := by decide +kernel
theorem d_X12_personClause_134 : decode (gw_mC M_X12_personClause) 134 = .ok (.goto 4, 3) := by decide +kernel
theorem d_X12_personClause_137 : decode (gw_mC M_X12_personClause) 137 = .ok (.iconst 1, 1) := by decide +kernel
theorem d_X12_personClause_138 : decode (gw_mC M_X12_personClause) 138 = .ok (.iadd, 1) := by decide +kernel
theorem d_X12_personClause_139 : decode (gw_mC M_X12_personClause) 139 = .ok (.putfield 154, 3) := by decide +kernel
theorem d_X12_personClause_142 : decode (gw_mC M_X12_personClause) 142 = .ok (.aload_n 0, 1) := by decide +kernel
theorem d_X12_personClause_143 : decode (gw_mC M_X12_personClause) 143 = .ok (.getfield 40, 3) := by decide +kernel
theorem d_X12_personClause_146 : decode (gw_mC M_X12_personClause) 146 = .ok (.iconst 3, 1) := by decide +kernel
theorem d_X12_personClause_147 : decode (gw_mC M_X12_personClause) 147 = .ok (.iload_n 1, 1) := by decide +kernel
theorem d_X12_personClause_148 : decode (gw_mC M_X12_personClause) 148 = .ok (.imul, 1) := by decide +kernel
theorem d_X12_personClause_149 : decode (gw_mC M_X12_personClause) 149 = .ok (.iload_n 3, 1) := by decide +kernel
theorem d_X12_personClause_150 : decode (gw_mC M_X12_personClause) 150 = .ok (.iastore, 1) := by decide +kernel
theorem d_X12_personClause_151 : decode (gw_mC M_X12_personClause) 151 = .ok (.aload_n 0, 1) := by decide +kernel
theorem d_X12_personClause_152 : decode (gw_mC M_X12_personClause) 152 = .ok (.getfield 40, 3) := by decide +kernel
theorem d_X12_personClause_155 : decode (gw_mC M_X12_personClause) 155 = .ok (.iconst 3, 1) := by decide +kernel
theorem d_X12_personClause_156 : decode (gw_mC M_X12_personClause) 156 = .ok (.iload_n 1, 1) := by decide +kernel
theorem d_X12_personClause_157 : decode (gw_mC M_X12_personClause) 157 = .ok (.imul, 1) := by decide +kernel
theorem d_X12_personClause_158 : decode (gw_mC M_X12_personClause) 158 = .ok (.iconst 1, 1) := by decide +kernel
theorem d_X12_personClause_159 : decode (gw_mC M_X12_personClause) 159 = .ok (.iadd, 1) := by decide +kernel
theorem d_X12_personClause_160 : decode (gw_mC M_X12_personClause) 160 = .ok (.iload 4, 2) := by decide +kernel
theorem d_X12_personClause_162 : decode (gw_mC M_X12_personClause) 162 = .ok (.bipush 48, 2) := by decide +kernel
theorem d_X12_personClause_164 : decode (gw_mC M_X12_personClause) 164 = .ok (.isub, 1) := by decide +kernel
theorem d_X12_personClause_165 : decode (gw_mC M_X12_personClause) 165 = .ok (.iastore, 1) := by decide +kernel
theorem d_X12_personClause_166 : decode (gw_mC M_X12_personClause) 166 = .ok (.aload_n 0, 1) := by decide +kernel
theorem d_X12_personClause_167 : decode (gw_mC M_X12_personClause) 167 = .ok (.getfield 40, 3) := by decide +kernel
theorem d_X12_personClause_170 : decode (gw_mC M_X12_personClause) 170 = .ok (.iconst 3, 1) := by decide +kernel
theorem d_X12_personClause_171 : decode (gw_mC M_X12_personClause) 171 = .ok (.iload_n 1, 1) := by decide +kernel
theorem d_X12_personClause_172 : decode (gw_mC M_X12_personClause) 172 = .ok (.imul, 1) := by decide +kernel
theorem d_X12_personClause_173 : decode (gw_mC M_X12_personClause) 173 = .ok (.iconst 2, 1) := by decide +kernel
theorem d_X12_personClause_174 : decode (gw_mC M_X12_personClause) 174 = .ok (.iadd, 1) := by decide +kernel
theorem d_X12_personClause_175 : decode (gw_mC M_X12_personClause) 175 = .ok (.aload_n 0, 1) := by decide +kernel
theorem d_X12_personClause_176 : decode (gw_mC M_X12_personClause) 176 = .ok (.bipush 101, 2) := by decide +kernel
theorem d_X12_personClause_178 : decode (gw_mC M_X12_personClause) 178 = .ok (.invokevirtual 175, 3) := by decide +kernel
theorem d_X12_personClause_181 : decode (gw_mC M_X12_personClause) 181 = .ok (.ifCond .eq 7, 3) := by decide +kernel
theorem d_X12_personClause_184 : decode (gw_mC M_X12_personClause) 184 = .ok (.iconst 1, 1) := by decide +kernel
theorem d_X12_personClause_185 : decode (gw_mC M_X12_personClause) 185 = .ok (.goto 4, 3) := by decide +kernel
theorem d_X12_personClause_188 : decode (gw_mC M_X12_personClause) 188 = .ok (.iconst 0, 1) := by decide +kernel
theorem d_X12_personClause_189 : decode (gw_mC M_X12_personClause) 189 = .ok (.iastore, 1) := by decide +kernel
theorem d_X12_personClause_190 : decode (gw_mC M_X12_personClause) 190 = .ok (.return_, 1) := by decide +kernel
theorem d_X12_readAll_0 : decode (gw_mC M_X12_readAll) 0 = .ok (.aload_n 0, 1) := by decide +kernel
theorem d_X12_readAll_1 : decode (gw_mC M_X12_readAll) 1 = .ok (.iconst 0, 1) := by decide +kernel
theorem d_X12_readAll_2 : decode (gw_mC M_X12_readAll) 2 = .ok (.putfield 154, 3) := by decide +kernel
theorem d_X12_readAll_5 : decode (gw_mC M_X12_readAll) 5 = .ok (.aload_n 0, 1) := by decide +kernel
theorem d_X12_readAll_6 : decode (gw_mC M_X12_readAll) 6 = .ok (.iconst 0, 1) := by decide +kernel
theorem d_X12_readAll_7 : decode (gw_mC M_X12_readAll) 7 = .ok (.putfield 157, 3) := by decide +kernel
theorem d_X12_readAll_10 : decode (gw_mC M_X12_readAll) 10 = .ok (.iconst 0, 1) := by decide +kernel
theorem d_X12_readAll_11 : decode (gw_mC M_X12_readAll) 11 = .ok (.istore_n 2, 1) := by decide +kernel
theorem d_X12_readAll_12 : decode (gw_mC M_X12_readAll) 12 = .ok (.iconst 1, 1) := by decide +kernel
theorem d_X12_readAll_13 : decode (gw_mC M_X12_readAll) 13 = .ok (.istore_n 3, 1) := by decide +kernel
theorem d_X12_readAll_14 : decode (gw_mC M_X12_readAll) 14 = .ok (.iload_n 3, 1) := by decide +kernel
theorem d_X12_readAll_15 : decode (gw_mC M_X12_readAll) 15 = .ok (.ifCond .eq 65, 3) := by decide +kernel
theorem d_X12_readAll_18 : decode (gw_mC M_X12_readAll) 18 = .ok (.iload_n 1, 1) := by decide +kernel
theorem d_X12_readAll_19 : decode (gw_mC M_X12_readAll) 19 = .ok (.ifCond .eq 11, 3) := by decide +kernel
theorem d_X12_readAll_22 : decode (gw_mC M_X12_readAll) 22 = .ok (.aload_n 0, 1) := by decide +kernel
theorem d_X12_readAll_23 : decode (gw_mC M_X12_readAll) 23 = .ok (.iload_n 2, 1) := by decide +kernel
theorem d_X12_readAll_24 : decode (gw_mC M_X12_readAll) 24 = .ok (.invokevirtual 182, 3) := by decide +kernel
theorem d_X12_readAll_27 : decode (gw_mC M_X12_readAll) 27 = .ok (.goto 8, 3) := by decide +kernel
theorem d_X12_readAll_30 : decode (gw_mC M_X12_readAll) 30 = .ok (.aload_n 0, 1) := by decide +kernel
theorem d_X12_readAll_31 : decode (gw_mC M_X12_readAll) 31 = .ok (.iload_n 2, 1) := by decide +kernel
theorem d_X12_readAll_32 : decode (gw_mC M_X12_readAll) 32 = .ok (.invokevirtual 186, 3) := by decide +kernel
theorem d_X12_readAll_35 : decode (gw_mC M_X12_readAll) 35 = .ok (.iinc 2 1, 3) := by decide +kernel
theorem d_X12_readAll_38 : decode (gw_mC M_X12_readAll) 38 = .ok (.iload_n 2, 1) := by decide +kernel
theorem d_X12_readAll_39 : decode (gw_mC M_X12_readAll) 39 = .ok (.iload_n 1, 1) := by decide +kernel
theorem d_X12_readAll_40 : decode (gw_mC M_X12_readAll) 40 = .ok (.ifCond .eq 8, 3) := by decide +kernel
theorem d_X12_readAll_43 : decode (gw_mC M_X12_readAll) 43 = .ok (.bipush 8, 2) := by decide +kernel
theorem d_X12_readAll_45 : decode (gw_mC M_X12_readAll) 45 = .ok (.goto 5, 3) := by decide +kernel
theorem d_X12_readAll_48 : decode (gw_mC M_X12_readAll) 48 = .ok (.bipush 10, 2) := by decide +kernel
theorem d_X12_readAll_50 : decode (gw_mC M_X12_readAll) 50 = .ok (.if_icmp .ge 25, 3) := by decide +kernel
theorem d_X12_readAll_53 : decode (gw_mC M_X12_readAll) 53 = .ok (.aload_n 0, 1) := by decide +kernel
theorem d_X12_readAll_54 : decode (gw_mC M_X12_readAll) 54 = .ok (.iload_n 1, 1) := by decide +kernel
theorem d_X12_readAll_55 : decode (gw_mC M_X12_readAll) 55 = .ok (.ifCond .eq 8, 3) := by decide +kernel
theorem d_X12_readAll_58 : decode (gw_mC M_X12_readAll) 58 = .ok (.bipush 59, 2) := by decide +kernel
theorem d_X12_readAll_60 : decode (gw_mC M_X12_readAll) 60 = .ok (.goto 5, 3) := by decide +kernel
theorem d_X12_readAll_63 : decode (gw_mC M_X12_readAll) 63 = .ok (.bipush 44, 2) := by decide +kernel
theorem d_X12_readAll_65 : decode (gw_mC M_X12_readAll) 65 = .ok (.invokevirtual 175, 3) := by decide +kernel
theorem d_X12_readAll_68 : decode (gw_mC M_X12_readAll) 68 = .ok (.ifCond .eq 7, 3) := by decide +kernel
theorem d_X12_readAll_71 : decode (gw_mC M_X12_readAll) 71 = .ok (.iconst 1, 1) := by decide +kernel
theorem d_X12_readAll_72 : decode (gw_mC M_X12_readAll) 72 = .ok (.goto 4, 3) := by decide +kernel
theorem d_X12_readAll_75 : decode (gw_mC M_X12_readAll) 75 = .ok (.iconst 0, 1) := by decide +kernel
theorem d_X12_readAll_76 : decode (gw_mC M_X12_readAll) 76 = .ok (.istore_n 3, 1) := by decide +kernel
theorem d_X12_readAll_77 : decode (gw_mC M_X12_readAll) 77 = .ok (.goto (-63), 3) := by decide +kernel
theorem d_X12_readAll_80 : decode (gw_mC M_X12_readAll) 80 = .ok (.aload_n 0, 1) := by decide +kernel
theorem d_X12_readAll_81 : decode (gw_mC M_X12_readAll) 81 = .ok (.aload_n 0, 1) := by decide +kernel
theorem d_X12_readAll_82 : decode (gw_mC M_X12_readAll) 82 = .ok (.getfield 157, 3) := by decide +kernel
theorem d_X12_readAll_85 : decode (gw_mC M_X12_readAll) 85 = .ok (.ifCond .ne 10, 3) := by decide +kernel
theorem d_X12_readAll_88 : decode (gw_mC M_X12_readAll) 88 = .ok (.aload_n 0, 1) := by decide +kernel
theorem d_X12_readAll_89 : decode (gw_mC M_X12_readAll) 89 = .ok (.invokevirtual 161, 3) := by decide +kernel
theorem d_X12_readAll_92 : decode (gw_mC M_X12_readAll) 92 = .ok (.ifCond .eq 7, 3) := by decide +kernel
theorem d_X12_readAll_95 : decode (gw_mC M_X12_readAll) 95 = .ok (.iconst 1, 1) := by decide +kernel
theorem d_X12_readAll_96 : decode (gw_mC M_X12_readAll) 96 = .ok (.goto 4, 3) := by decide +kernel
theorem d_X12_readAll_99 : decode (gw_mC M_X12_readAll) 99 = .ok (.iconst 0, 1) := by decide +kernel
theorem d_X12_readAll_100 : decode (gw_mC M_X12_readAll) 100 = .ok (.putfield 157, 3) := by decide +kernel
theorem d_X12_readAll_103 : decode (gw_mC M_X12_readAll) 103 = .ok (.aload_n 0, 1) := by decide +kernel
theorem d_X12_readAll_104 : decode (gw_mC M_X12_readAll) 104 = .ok (.iconst 0, 1) := by decide +kernel
theorem d_X12_readAll_105 : decode (gw_mC M_X12_readAll) 105 = .ok (.putfield 151, 3) := by decide +kernel
theorem d_X12_readAll_108 : decode (gw_mC M_X12_readAll) 108 = .ok (.aload_n 0, 1) := by decide +kernel
theorem d_X12_readAll_109 : decode (gw_mC M_X12_readAll) 109 = .ok (.getfield 157, 3) := by decide +kernel
theorem d_X12_readAll_112 : decode (gw_mC M_X12_readAll) 112 = .ok (.ifCond .eq 13, 3) := by decide +kernel
theorem d_X12_readAll_115 : decode (gw_mC M_X12_readAll) 115 = .ok (.bipush (-20), 2) := by decide +kernel
theorem d_X12_readAll_117 : decode (gw_mC M_X12_readAll) 117 = .ok (.aload_n 0, 1) := by decide +kernel
theorem d_X12_readAll_118 : decode (gw_mC M_X12_readAll) 118 = .ok (.getfield 154, 3) := by decide +kernel
theorem d_X12_readAll_121 : decode (gw_mC M_X12_readAll) 121 = .ok (.isub, 1) := by decide +kernel
theorem d_X12_readAll_122 : decode (gw_mC M_X12_readAll) 122 = .ok (.goto 4, 3) := by decide +kernel
theorem d_X12_readAll_125 : decode (gw_mC M_X12_readAll) 125 = .ok (.iload_n 2, 1) := by decide +kernel
theorem d_X12_readAll_126 : decode (gw_mC M_X12_readAll) 126 = .ok (.ireturn, 1) := by decide +kernel
theorem d_X12_way_0 : decode (gw_mC M_X12_way) 0 = .ok (.aload_n 0, 1) := by decide +kernel
theorem d_X12_way_1 : decode (gw_mC M_X12_way) 1 = .ok (.iconst 1, 1) := by decide +kernel
theorem d_X12_way_2 : decode (gw_mC M_X12_way) 2 = .ok (.invokevirtual 189, 3) := by decide +kernel
theorem d_X12_way_5 : decode (gw_mC M_X12_way) 5 = .ok (.istore_n 1, 1) := by decide +kernel
theorem d_X12_way_6 : decode (gw_mC M_X12_way) 6 = .ok (.iconst 0, 1) := by decide +kernel
theorem d_X12_way_7 : decode (gw_mC M_X12_way) 7 = .ok (.istore_n 2, 1) := by decide +kernel
theorem d_X12_way_8 : decode (gw_mC M_X12_way) 8 = .ok (.iload_n 2, 1) := by decide +kernel
theorem d_X12_way_9 : decode (gw_mC M_X12_way) 9 = .ok (.iconst 4, 1) := by decide +kernel
theorem d_X12_way_10 : decode (gw_mC M_X12_way) 10 = .ok (.if_icmp .ge 20, 3) := by decide +kernel
theorem d_X12_way_13 : decode (gw_mC M_X12_way) 13 = .ok (.iload_n 1, 1) := by decide +kernel
theorem d_X12_way_14 : decode (gw_mC M_X12_way) 14 = .ok (.ifCond .le 16, 3) := by decide +kernel
theorem d_X12_way_17 : decode (gw_mC M_X12_way) 17 = .ok (.aload_n 0, 1) := by decide +kernel
theorem d_X12_way_18 : decode (gw_mC M_X12_way) 18 = .ok (.getfield 7, 3) := by decide +kernel
theorem d_X12_way_21 : decode (gw_mC M_X12_way) 21 = .ok (.iload_n 2, 1) := by decide +kernel
theorem d_X12_way_22 : decode (gw_mC M_X12_way) 22 = .ok (.iconst 0, 1) := by decide +kernel
theorem d_X12_way_23 : decode (gw_mC M_X12_way) 23 = .ok (.iastore, 1) := by decide +kernel
theorem d_X12_way_24 : decode (gw_mC M_X12_way) 24 = .ok (.iinc 2 1, 3) := by decide +kernel
theorem d_X12_way_27 : decode (gw_mC M_X12_way) 27 = .ok (.goto (-19), 3) := by decide +kernel
theorem d_X12_way_30 : decode (gw_mC M_X12_way) 30 = .ok (.iconst 0, 1) := by decide +kernel
theorem d_X12_way_31 : decode (gw_mC M_X12_way) 31 = .ok (.istore_n 2, 1) := by decide +kernel
theorem d_X12_way_32 : decode (gw_mC M_X12_way) 32 = .ok (.iload_n 2, 1) := by decide +kernel
theorem d_X12_way_33 : decode (gw_mC M_X12_way) 33 = .ok (.iload_n 1, 1) := by decide +kernel
theorem d_X12_way_34 : decode (gw_mC M_X12_way) 34 = .ok (.if_icmp .ge 42, 3) := by decide +kernel
theorem d_X12_way_37 : decode (gw_mC M_X12_way) 37 = .ok (.aload_n 0, 1) := by decide +kernel
theorem d_X12_way_38 : decode (gw_mC M_X12_way) 38 = .ok (.aload_n 0, 1) := by decide +kernel
theorem d_X12_way_39 : decode (gw_mC M_X12_way) 39 = .ok (.getfield 40, 3) := by decide +kernel
theorem d_X12_way_42 : decode (gw_mC M_X12_way) 42 = .ok (.iconst 3, 1) := by decide +kernel
theorem d_X12_way_43 : decode (gw_mC M_X12_way) 43 = .ok (.iload_n 2, 1) := by decide +kernel
theorem d_X12_way_44 : decode (gw_mC M_X12_way) 44 = .ok (.imul, 1) := by decide +kernel
theorem d_X12_way_45 : decode (gw_mC M_X12_way) 45 = .ok (.iaload, 1) := by decide +kernel
theorem d_X12_way_46 : decode (gw_mC M_X12_way) 46 = .ok (.aload_n 0, 1) := by decide +kernel
theorem d_X12_way_47 : decode (gw_mC M_X12_way) 47 = .ok (.getfield 40, 3) := by decide +kernel
theorem d_X12_way_50 : decode (gw_mC M_X12_way) 50 = .ok (.iconst 3, 1) := by decide +kernel
theorem d_X12_way_51 : decode (gw_mC M_X12_way) 51 = .ok (.iload_n 2, 1) := by decide +kernel
theorem d_X12_way_52 : decode (gw_mC M_X12_way) 52 = .ok (.imul, 1) := by decide +kernel
theorem d_X12_way_53 : decode (gw_mC M_X12_way) 53 = .ok (.iconst 1, 1) := by decide +kernel
theorem d_X12_way_54 : decode (gw_mC M_X12_way) 54 = .ok (.iadd, 1) := by decide +kernel
theorem d_X12_way_55 : decode (gw_mC M_X12_way) 55 = .ok (.iaload, 1) := by decide +kernel
theorem d_X12_way_56 : decode (gw_mC M_X12_way) 56 = .ok (.aload_n 0, 1) := by decide +kernel
theorem d_X12_way_57 : decode (gw_mC M_X12_way) 57 = .ok (.getfield 40, 3) := by decide +kernel
theorem d_X12_way_60 : decode (gw_mC M_X12_way) 60 = .ok (.iconst 3, 1) := by decide +kernel
theorem d_X12_way_61 : decode (gw_mC M_X12_way) 61 = .ok (.iload_n 2, 1) := by decide +kernel
theorem d_X12_way_62 : decode (gw_mC M_X12_way) 62 = .ok (.imul, 1) := by decide +kernel
theorem d_X12_way_63 : decode (gw_mC M_X12_way) 63 = .ok (.iconst 2, 1) := by decide +kernel
theorem d_X12_way_64 : decode (gw_mC M_X12_way) 64 = .ok (.iadd, 1) := by decide +kernel
theorem d_X12_way_65 : decode (gw_mC M_X12_way) 65 = .ok (.iaload, 1) := by decide +kernel
theorem d_X12_way_66 : decode (gw_mC M_X12_way) 66 = .ok (.invokevirtual 116, 3) := by decide +kernel
theorem d_X12_way_69 : decode (gw_mC M_X12_way) 69 = .ok (.pop, 1) := by decide +kernel
theorem d_X12_way_70 : decode (gw_mC M_X12_way) 70 = .ok (.iinc 2 1, 3) := by decide +kernel
theorem d_X12_way_73 : decode (gw_mC M_X12_way) 73 = .ok (.goto (-41), 3) := by decide +kernel
theorem d_X12_way_76 : decode (gw_mC M_X12_way) 76 = .ok (.iload_n 1, 1) := by decide +kernel
theorem d_X12_way_77 : decode (gw_mC M_X12_way) 77 = .ok (.ireturn, 1) := by decide +kernel
theorem d_X12_group_0 : decode (gw_mC M_X12_group) 0 = .ok (.aload_n 0, 1) := by decide +kernel
theorem d_X12_group_1 : decode (gw_mC M_X12_group) 1 = .ok (.iconst 0, 1) := by decide +kernel
theorem d_X12_group_2 : decode (gw_mC M_X12_group) 2 = .ok (.invokevirtual 189, 3) := by decide +kernel
theorem d_X12_group_5 : decode (gw_mC M_X12_group) 5 = .ok (.istore_n 1, 1) := by decide +kernel
theorem d_X12_group_6 : decode (gw_mC M_X12_group) 6 = .ok (.aload_n 0, 1) := by decide +kernel
theorem d_X12_group_7 : decode (gw_mC M_X12_group) 7 = .ok (.iload_n 1, 1) := by decide +kernel
theorem d_X12_group_8 : decode (gw_mC M_X12_group) 8 = .ok (.ifCond .le 7, 3) := by decide +kernel
theorem d_X12_group_11 : decode (gw_mC M_X12_group) 11 = .ok (.iconst 0, 1) := by decide +kernel
theorem d_X12_group_12 : decode (gw_mC M_X12_group) 12 = .ok (.goto 7, 3) := by decide +kernel
theorem d_X12_group_15 : decode (gw_mC M_X12_group) 15 = .ok (.aload_n 0, 1) := by decide +kernel
theorem d_X12_group_16 : decode (gw_mC M_X12_group) 16 = .ok (.getfield 120, 3) := by decide +kernel
theorem d_X12_group_19 : decode (gw_mC M_X12_group) 19 = .ok (.putfield 120, 3) := by decide +kernel
theorem d_X12_group_22 : decode (gw_mC M_X12_group) 22 = .ok (.iconst 0, 1) := by decide +kernel
theorem d_X12_group_23 : decode (gw_mC M_X12_group) 23 = .ok (.istore_n 2, 1) := by decide +kernel
theorem d_X12_group_24 : decode (gw_mC M_X12_group) 24 = .ok (.iload_n 2, 1) := by decide +kernel
theorem d_X12_group_25 : decode (gw_mC M_X12_group) 25 = .ok (.iload_n 1, 1) := by decide +kernel
theorem d_X12_group_26 : decode (gw_mC M_X12_group) 26 = .ok (.if_icmp .ge 42, 3) := by decide +kernel
theorem d_X12_group_29 : decode (gw_mC M_X12_group) 29 = .ok (.aload_n 0, 1) := by decide +kernel
theorem d_X12_group_30 : decode (gw_mC M_X12_group) 30 = .ok (.aload_n 0, 1) := by decide +kernel
theorem d_X12_group_31 : decode (gw_mC M_X12_group) 31 = .ok (.getfield 40, 3) := by decide +kernel
theorem d_X12_group_34 : decode (gw_mC M_X12_group) 34 = .ok (.iconst 3, 1) := by decide +kernel
theorem d_X12_group_35 : decode (gw_mC M_X12_group) 35 = .ok (.iload_n 2, 1) := by decide +kernel
theorem d_X12_group_36 : decode (gw_mC M_X12_group) 36 = .ok (.imul, 1) := by decide +kernel
theorem d_X12_group_37 : decode (gw_mC M_X12_group) 37 = .ok (.iaload, 1) := by decide +kernel
theorem d_X12_group_38 : decode (gw_mC M_X12_group) 38 = .ok (.aload_n 0, 1) := by decide +kernel
theorem d_X12_group_39 : decode (gw_mC M_X12_group) 39 = .ok (.getfield 40, 3) := by decide +kernel
theorem d_X12_group_42 : decode (gw_mC M_X12_group) 42 = .ok (.iconst 3, 1) := by decide +kernel
theorem d_X12_group_43 : decode (gw_mC M_X12_group) 43 = .ok (.iload_n 2, 1) := by decide +kernel
theorem d_X12_group_44 : decode (gw_mC M_X12_group) 44 = .ok (.imul, 1) := by decide +kernel
theorem d_X12_group_45 : decode (gw_mC M_X12_group) 45 = .ok (.iconst 1, 1) := by decide +kernel
theorem d_X12_group_46 : decode (gw_mC M_X12_group) 46 = .ok (.iadd, 1) := by decide +kernel
theorem d_X12_group_47 : decode (gw_mC M_X12_group) 47 = .ok (.iaload, 1) := by decide +kernel
theorem d_X12_group_48 : decode (gw_mC M_X12_group) 48 = .ok (.aload_n 0, 1) := by decide +kernel
theorem d_X12_group_49 : decode (gw_mC M_X12_group) 49 = .ok (.getfield 40, 3) := by decide +kernel
theorem d_X12_group_52 : decode (gw_mC M_X12_group) 52 = .ok (.iconst 3, 1) := by decide +kernel
theorem d_X12_group_53 : decode (gw_mC M_X12_group) 53 = .ok (.iload_n 2, 1) := by decide +kernel
theorem d_X12_group_54 : decode (gw_mC M_X12_group) 54 = .ok (.imul, 1) := by decide +kernel
theorem d_X12_group_55 : decode (gw_mC M_X12_group) 55 = .ok (.iconst 2, 1) := by decide +kernel
theorem d_X12_group_56 : decode (gw_mC M_X12_group) 56 = .ok (.iadd, 1) := by decide +kernel
theorem d_X12_group_57 : decode (gw_mC M_X12_group) 57 = .ok (.iaload, 1) := by decide +kernel
theorem d_X12_group_58 : decode (gw_mC M_X12_group) 58 = .ok (.invokevirtual 129, 3) := by decide +kernel
theorem d_X12_group_61 : decode (gw_mC M_X12_group) 61 = .ok (.pop, 1) := by decide +kernel
theorem d_X12_group_62 : decode (gw_mC M_X12_group) 62 = .ok (.iinc 2 1, 3) := by decide +kernel
theorem d_X12_group_65 : decode (gw_mC M_X12_group) 65 = .ok (.goto (-41), 3) := by decide +kernel
theorem d_X12_group_68 : decode (gw_mC M_X12_group) 68 = .ok (.iload_n 1, 1) := by decide +kernel
theorem d_X12_group_69 : decode (gw_mC M_X12_group) 69 = .ok (.ireturn, 1) := by decide +kernel
theorem d_X12_stopsMet_0 : decode (gw_mC M_X12_stopsMet) 0 = .ok (.iconst 0, 1) := by decide +kernel
theorem d_X12_stopsMet_1 : decode (gw_mC M_X12_stopsMet) 1 = .ok (.istore_n 1, 1) := by decide +kernel
theorem d_X12_stopsMet_2 : decode (gw_mC M_X12_stopsMet) 2 = .ok (.iconst 0, 1) := by decide +kernel
theorem d_X12_stopsMet_3 : decode (gw_mC M_X12_stopsMet) 3 = .ok (.istore_n 2, 1) := by decide +kernel
theorem d_X12_stopsMet_4 : decode (gw_mC M_X12_stopsMet) 4 = .ok (.iload_n 2, 1) := by decide +kernel
theorem d_X12_stopsMet_5 : decode (gw_mC M_X12_stopsMet) 5 = .ok (.aload_n 0, 1) := by decide +kernel
theorem d_X12_stopsMet_6 : decode (gw_mC M_X12_stopsMet) 6 = .ok (.getfield 7, 3) := by decide +kernel
theorem d_X12_stopsMet_9 : decode (gw_mC M_X12_stopsMet) 9 = .ok (.iconst 0, 1) := by decide +kernel
theorem d_X12_stopsMet_10 : decode (gw_mC M_X12_stopsMet) 10 = .ok (.iaload, 1) := by decide +kernel
theorem d_X12_stopsMet_11 : decode (gw_mC M_X12_stopsMet) 11 = .ok (.if_icmp .ge 30, 3) := by decide +kernel
theorem d_X12_stopsMet_14 : decode (gw_mC M_X12_stopsMet) 14 = .ok (.iload_n 1, 1) := by decide +kernel
theorem d_X12_stopsMet_15 : decode (gw_mC M_X12_stopsMet) 15 = .ok (.aload_n 0, 1) := by decide +kernel
theorem d_X12_stopsMet_16 : decode (gw_mC M_X12_stopsMet) 16 = .ok (.getfield 13, 3) := by decide +kernel
theorem d_X12_stopsMet_19 : decode (gw_mC M_X12_stopsMet) 19 = .ok (.iload_n 2, 1) := by decide +kernel
theorem d_X12_stopsMet_20 : decode (gw_mC M_X12_stopsMet) 20 = .ok (.iaload, 1) := by decide +kernel
theorem d_X12_stopsMet_21 : decode (gw_mC M_X12_stopsMet) 21 = .ok (.aload_n 0, 1) := by decide +kernel
theorem d_X12_stopsMet_22 : decode (gw_mC M_X12_stopsMet) 22 = .ok (.getfield 88, 3) := by decide +kernel
theorem d_X12_stopsMet_25 : decode (gw_mC M_X12_stopsMet) 25 = .ok (.if_icmp .ge 7, 3) := by decide +kernel
theorem d_X12_stopsMet_28 : decode (gw_mC M_X12_stopsMet) 28 = .ok (.iconst 1, 1) := by decide +kernel
theorem d_X12_stopsMet_29 : decode (gw_mC M_X12_stopsMet) 29 = .ok (.goto 4, 3) := by decide +kernel
theorem d_X12_stopsMet_32 : decode (gw_mC M_X12_stopsMet) 32 = .ok (.iconst 0, 1) := by decide +kernel
theorem d_X12_stopsMet_33 : decode (gw_mC M_X12_stopsMet) 33 = .ok (.iadd, 1) := by decide +kernel
theorem d_X12_stopsMet_34 : decode (gw_mC M_X12_stopsMet) 34 = .ok (.istore_n 1, 1) := by decide +kernel
theorem d_X12_stopsMet_35 : decode (gw_mC M_X12_stopsMet) 35 = .ok (.iinc 2 1, 3) := by decide +kernel
theorem d_X12_stopsMet_38 : decode (gw_mC M_X12_stopsMet) 38 = .ok (.goto (-34), 3) := by decide +kernel
theorem d_X12_stopsMet_41 : decode (gw_mC M_X12_stopsMet) 41 = .ok (.iload_n 1, 1) := by decide +kernel
theorem d_X12_stopsMet_42 : decode (gw_mC M_X12_stopsMet) 42 = .ok (.ireturn, 1) := by decide +kernel
theorem d_X12_count_0 : decode (gw_mC M_X12_count) 0 = .ok (.iload_n 1, 1) := by decide +kernel
theorem d_X12_count_1 : decode (gw_mC M_X12_count) 1 = .ok (.i2l, 1) := by decide +kernel
theorem d_X12_count_2 : decode (gw_mC M_X12_count) 2 = .ok (.lconst 0, 1) := by decide +kernel
theorem d_X12_count_3 : decode (gw_mC M_X12_count) 3 = .ok (.ldc2_w 106, 3) := by decide +kernel
theorem d_X12_count_6 : decode (gw_mC M_X12_count) 6 = .ok (.invokestatic 98, 3) := by decide +kernel
theorem d_X12_count_9 : decode (gw_mC M_X12_count) 9 = .ok (.ifCond .eq 12, 3) := by decide +kernel
theorem d_X12_count_12 : decode (gw_mC M_X12_count) 12 = .ok (.aload_n 0, 1) := by decide +kernel
theorem d_X12_count_13 : decode (gw_mC M_X12_count) 13 = .ok (.getfield 7, 3) := by decide +kernel
theorem d_X12_count_16 : decode (gw_mC M_X12_count) 16 = .ok (.iload_n 1, 1) := by decide +kernel
theorem d_X12_count_17 : decode (gw_mC M_X12_count) 17 = .ok (.iaload, 1) := by decide +kernel
theorem d_X12_count_18 : decode (gw_mC M_X12_count) 18 = .ok (.goto 28, 3) := by decide +kernel
theorem d_X12_count_21 : decode (gw_mC M_X12_count) 21 = .ok (.iload_n 1, 1) := by decide +kernel
theorem d_X12_count_22 : decode (gw_mC M_X12_count) 22 = .ok (.iconst 4, 1) := by decide +kernel
theorem d_X12_count_23 : decode (gw_mC M_X12_count) 23 = .ok (.if_icmp .ne 10, 3) := by decide +kernel
theorem d_X12_count_26 : decode (gw_mC M_X12_count) 26 = .ok (.aload_n 0, 1) := by decide +kernel
theorem d_X12_count_27 : decode (gw_mC M_X12_count) 27 = .ok (.getfield 120, 3) := by decide +kernel
theorem d_X12_count_30 : decode (gw_mC M_X12_count) 30 = .ok (.goto 16, 3) := by decide +kernel
theorem d_X12_count_33 : decode (gw_mC M_X12_count) 33 = .ok (.iload_n 1, 1) := by decide +kernel
theorem d_X12_count_34 : decode (gw_mC M_X12_count) 34 = .ok (.iconst 5, 1) := by decide +kernel
theorem d_X12_count_35 : decode (gw_mC M_X12_count) 35 = .ok (.if_icmp .ne 10, 3) := by decide +kernel
theorem d_X12_count_38 : decode (gw_mC M_X12_count) 38 = .ok (.aload_n 0, 1) := by decide +kernel
theorem d_X12_count_39 : decode (gw_mC M_X12_count) 39 = .ok (.invokevirtual 193, 3) := by decide +kernel
theorem d_X12_count_42 : decode (gw_mC M_X12_count) 42 = .ok (.goto 4, 3) := by decide +kernel
theorem d_X12_count_45 : decode (gw_mC M_X12_count) 45 = .ok (.iconst (-1), 1) := by decide +kernel
theorem d_X12_count_46 : decode (gw_mC M_X12_count) 46 = .ok (.ireturn, 1) := by decide +kernel
theorem d_X12_isLost_0 : decode (gw_mC M_X12_isLost) 0 = .ok (.aload_n 0, 1) := by decide +kernel
theorem d_X12_isLost_1 : decode (gw_mC M_X12_isLost) 1 = .ok (.getfield 49, 3) := by decide +kernel
theorem d_X12_isLost_4 : decode (gw_mC M_X12_isLost) 4 = .ok (.iload_n 1, 1) := by decide +kernel
theorem d_X12_isLost_5 : decode (gw_mC M_X12_isLost) 5 = .ok (.iaload, 1) := by decide +kernel
theorem d_X12_isLost_6 : decode (gw_mC M_X12_isLost) 6 = .ok (.ifCond .lt 7, 3) := by decide +kernel
theorem d_X12_isLost_9 : decode (gw_mC M_X12_isLost) 9 = .ok (.iconst 1, 1) := by decide +kernel
theorem d_X12_isLost_10 : decode (gw_mC M_X12_isLost) 10 = .ok (.goto 4, 3) := by decide +kernel
theorem d_X12_isLost_13 : decode (gw_mC M_X12_isLost) 13 = .ok (.iconst 0, 1) := by decide +kernel
theorem d_X12_isLost_14 : decode (gw_mC M_X12_isLost) 14 = .ok (.ireturn, 1) := by decide +kernel
theorem d_X12_isNear_0 : decode (gw_mC M_X12_isNear) 0 = .ok (.aload_n 0, 1) := by decide +kernel
theorem d_X12_isNear_1 : decode (gw_mC M_X12_isNear) 1 = .ok (.iload_n 1, 1) := by decide +kernel
theorem d_X12_isNear_2 : decode (gw_mC M_X12_isNear) 2 = .ok (.invokevirtual 196, 3) := by decide +kernel
theorem d_X12_isNear_5 : decode (gw_mC M_X12_isNear) 5 = .ok (.ifCond .ne 29, 3) := by decide +kernel
theorem d_X12_isNear_8 : decode (gw_mC M_X12_isNear) 8 = .ok (.aload_n 0, 1) := by decide +kernel
theorem d_X12_isNear_9 : decode (gw_mC M_X12_isNear) 9 = .ok (.getfield 199, 3) := by decide +kernel
theorem d_X12_isNear_12 : decode (gw_mC M_X12_isNear) 12 = .ok (.aload_n 0, 1) := by decide +kernel
theorem d_X12_isNear_13 : decode (gw_mC M_X12_isNear) 13 = .ok (.getfield 43, 3) := by decide +kernel
theorem d_X12_isNear_16 : decode (gw_mC M_X12_isNear) 16 = .ok (.iload_n 1, 1) := by decide +kernel
theorem d_X12_isNear_17 : decode (gw_mC M_X12_isNear) 17 = .ok (.iaload, 1) := by decide +kernel
theorem d_X12_isNear_18 : decode (gw_mC M_X12_isNear) 18 = .ok (.isub, 1) := by decide +kernel
theorem d_X12_isNear_19 : decode (gw_mC M_X12_isNear) 19 = .ok (.iload_n 2, 1) := by decide +kernel
theorem d_X12_isNear_20 : decode (gw_mC M_X12_isNear) 20 = .ok (.aload_n 0, 1) := by decide +kernel
theorem d_X12_isNear_21 : decode (gw_mC M_X12_isNear) 21 = .ok (.getfield 22, 3) := by decide +kernel
theorem d_X12_isNear_24 : decode (gw_mC M_X12_isNear) 24 = .ok (.iconst 4, 1) := by decide +kernel
theorem d_X12_isNear_25 : decode (gw_mC M_X12_isNear) 25 = .ok (.iaload, 1) := by decide +kernel
theorem d_X12_isNear_26 : decode (gw_mC M_X12_isNear) 26 = .ok (.imul, 1) := by decide +kernel
theorem d_X12_isNear_27 : decode (gw_mC M_X12_isNear) 27 = .ok (.if_icmp .gt 7, 3) := by decide +kernel
theorem d_X12_isNear_30 : decode (gw_mC M_X12_isNear) 30 = .ok (.iconst 1, 1) := by decide +kernel
theorem d_X12_isNear_31 : decode (gw_mC M_X12_isNear) 31 = .ok (.goto 4, 3) := by decide +kernel
theorem d_X12_isNear_34 : decode (gw_mC M_X12_isNear) 34 = .ok (.iconst 0, 1) := by decide +kernel
theorem d_X12_isNear_35 : decode (gw_mC M_X12_isNear) 35 = .ok (.ireturn, 1) := by decide +kernel
theorem d_X12_nearOf_0 : decode (gw_mC M_X12_nearOf) 0 = .ok (.iconst 0, 1) := by decide +kernel
theorem d_X12_nearOf_1 : decode (gw_mC M_X12_nearOf) 1 = .ok (.istore_n 2, 1) := by decide +kernel
theorem d_X12_nearOf_2 : decode (gw_mC M_X12_nearOf) 2 = .ok (.iconst 0, 1) := by decide +kernel
theorem d_X12_nearOf_3 : decode (gw_mC M_X12_nearOf) 3 = .ok (.istore_n 3, 1) := by decide +kernel
theorem d_X12_nearOf_4 : decode (gw_mC M_X12_nearOf) 4 = .ok (.iconst 0, 1) := by decide +kernel
theorem d_X12_nearOf_5 : decode (gw_mC M_X12_nearOf) 5 = .ok (.istore 4, 2) := by decide +kernel
theorem d_X12_nearOf_7 : decode (gw_mC M_X12_nearOf) 7 = .ok (.iload 4, 2) := by decide +kernel
theorem d_X12_nearOf_9 : decode (gw_mC M_X12_nearOf) 9 = .ok (.aload_n 0, 1) := by decide +kernel
theorem d_X12_nearOf_10 : decode (gw_mC M_X12_nearOf) 10 = .ok (.getfield 120, 3) := by decide +kernel
theorem d_X12_nearOf_13 : decode (gw_mC M_X12_nearOf) 13 = .ok (.if_icmp .ge 44, 3) := by decide +kernel
theorem d_X12_nearOf_16 : decode (gw_mC M_X12_nearOf) 16 = .ok (.iload_n 3, 1) := by decide +kernel
theorem d_X12_nearOf_17 : decode (gw_mC M_X12_nearOf) 17 = .ok (.aload_n 0, 1) := by decide +kernel
theorem d_X12_nearOf_18 : decode (gw_mC M_X12_nearOf) 18 = .ok (.iload 4, 2) := by decide +kernel
theorem d_X12_nearOf_20 : decode (gw_mC M_X12_nearOf) 20 = .ok (.invokevirtual 196, 3) := by decide +kernel
theorem d_X12_nearOf_23 : decode (gw_mC M_X12_nearOf) 23 = .ok (.ifCond .eq 7, 3) := by decide +kernel
theorem d_X12_nearOf_26 : decode (gw_mC M_X12_nearOf) 26 = .ok (.iconst 0, 1) := by decide +kernel
theorem d_X12_nearOf_27 : decode (gw_mC M_X12_nearOf) 27 = .ok (.goto 4, 3) := by decide +kernel
theorem d_X12_nearOf_30 : decode (gw_mC M_X12_nearOf) 30 = .ok (.iconst 1, 1) := by decide +kernel
theorem d_X12_nearOf_31 : decode (gw_mC M_X12_nearOf) 31 = .ok (.iadd, 1) := by decide +kernel
theorem d_X12_nearOf_32 : decode (gw_mC M_X12_nearOf) 32 = .ok (.istore_n 3, 1) := by decide +kernel
theorem d_X12_nearOf_33 : decode (gw_mC M_X12_nearOf) 33 = .ok (.iload_n 2, 1) := by decide +kernel
theorem d_X12_nearOf_34 : decode (gw_mC M_X12_nearOf) 34 = .ok (.aload_n 0, 1) := by decide +kernel
theorem d_X12_nearOf_35 : decode (gw_mC M_X12_nearOf) 35 = .ok (.iload 4, 2) := by decide +kernel
theorem d_X12_nearOf_37 : decode (gw_mC M_X12_nearOf) 37 = .ok (.iconst 1, 1) := by decide +kernel
theorem d_X12_nearOf_38 : decode (gw_mC M_X12_nearOf) 38 = .ok (.invokevirtual 202, 3) := by decide +kernel
theorem d_X12_nearOf_41 : decode (gw_mC M_X12_nearOf) 41 = .ok (.ifCond .eq 7, 3) := by decide +kernel
theorem d_X12_nearOf_44 : decode (gw_mC M_X12_nearOf) 44 = .ok (.iconst 1, 1) := by decide +kernel
theorem d_X12_nearOf_45 : decode (gw_mC M_X12_nearOf) 45 = .ok (.goto 4, 3) := by decide +kernel
theorem d_X12_nearOf_48 : decode (gw_mC M_X12_nearOf) 48 = .ok (.iconst 0, 1) := by decide +kernel
theorem d_X12_nearOf_49 : decode (gw_mC M_X12_nearOf) 49 = .ok (.iadd, 1) := by decide +kernel
theorem d_X12_nearOf_50 : decode (gw_mC M_X12_nearOf) 50 = .ok (.istore_n 2, 1) := by decide +kernel
theorem d_X12_nearOf_51 : decode (gw_mC M_X12_nearOf) 51 = .ok (.iinc 4 1, 3) := by decide +kernel
theorem d_X12_nearOf_54 : decode (gw_mC M_X12_nearOf) 54 = .ok (.goto (-47), 3) := by decide +kernel
theorem d_X12_nearOf_57 : decode (gw_mC M_X12_nearOf) 57 = .ok (.iload_n 1, 1) := by decide +kernel
theorem d_X12_nearOf_58 : decode (gw_mC M_X12_nearOf) 58 = .ok (.ifCond .eq 7, 3) := by decide +kernel
theorem d_X12_nearOf_61 : decode (gw_mC M_X12_nearOf) 61 = .ok (.iload_n 3, 1) := by decide +kernel
theorem d_X12_nearOf_62 : decode (gw_mC M_X12_nearOf) 62 = .ok (.goto 4, 3) := by decide +kernel
theorem d_X12_nearOf_65 : decode (gw_mC M_X12_nearOf) 65 = .ok (.iload_n 2, 1) := by decide +kernel
theorem d_X12_nearOf_66 : decode (gw_mC M_X12_nearOf) 66 = .ok (.ireturn, 1) := by decide +kernel
theorem d_X12_stopHere_0 : decode (gw_mC M_X12_stopHere) 0 = .ok (.aload_n 0, 1) := by decide +kernel
theorem d_X12_stopHere_1 : decode (gw_mC M_X12_stopHere) 1 = .ok (.getfield 199, 3) := by decide +kernel
theorem d_X12_stopHere_4 : decode (gw_mC M_X12_stopHere) 4 = .ok (.aload_n 0, 1) := by decide +kernel
theorem d_X12_stopHere_5 : decode (gw_mC M_X12_stopHere) 5 = .ok (.getfield 88, 3) := by decide +kernel
theorem d_X12_stopHere_8 : decode (gw_mC M_X12_stopHere) 8 = .ok (.if_icmp .lt 8, 3) := by decide +kernel
theorem d_X12_stopHere_11 : decode (gw_mC M_X12_stopHere) 11 = .ok (.bipush (-4), 2) := by decide +kernel
theorem d_X12_stopHere_13 : decode (gw_mC M_X12_stopHere) 13 = .ok (.goto 12, 3) := by decide +kernel
theorem d_X12_stopHere_16 : decode (gw_mC M_X12_stopHere) 16 = .ok (.aload_n 0, 1) := by decide +kernel
theorem d_X12_stopHere_17 : decode (gw_mC M_X12_stopHere) 17 = .ok (.iconst 0, 1) := by decide +kernel
theorem d_X12_stopHere_18 : decode (gw_mC M_X12_stopHere) 18 = .ok (.aload_n 0, 1) := by decide +kernel
theorem d_X12_stopHere_19 : decode (gw_mC M_X12_stopHere) 19 = .ok (.getfield 199, 3) := by decide +kernel
theorem d_X12_stopHere_22 : decode (gw_mC M_X12_stopHere) 22 = .ok (.invokevirtual 112, 3) := by decide +kernel
theorem d_X12_stopHere_25 : decode (gw_mC M_X12_stopHere) 25 = .ok (.istore_n 1, 1) := by decide +kernel
theorem d_X12_stopHere_26 : decode (gw_mC M_X12_stopHere) 26 = .ok (.iload_n 1, 1) := by decide +kernel
theorem d_X12_stopHere_27 : decode (gw_mC M_X12_stopHere) 27 = .ok (.ifCond .lt 18, 3) := by decide +kernel
theorem d_X12_stopHere_30 : decode (gw_mC M_X12_stopHere) 30 = .ok (.aload_n 0, 1) := by decide +kernel
theorem d_X12_stopHere_31 : decode (gw_mC M_X12_stopHere) 31 = .ok (.getfield 205, 3) := by decide +kernel
theorem d_X12_stopHere_34 : decode (gw_mC M_X12_stopHere) 34 = .ok (.iload_n 1, 1) := by decide +kernel
theorem d_X12_stopHere_35 : decode (gw_mC M_X12_stopHere) 35 = .ok (.ishr, 1) := by decide +kernel
theorem d_X12_stopHere_36 : decode (gw_mC M_X12_stopHere) 36 = .ok (.iconst 1, 1) := by decide +kernel
theorem d_X12_stopHere_37 : decode (gw_mC M_X12_stopHere) 37 = .ok (.iand, 1) := by decide +kernel
theorem d_X12_stopHere_38 : decode (gw_mC M_X12_stopHere) 38 = .ok (.ifCond .ne 7, 3) := by decide +kernel
theorem d_X12_stopHere_41 : decode (gw_mC M_X12_stopHere) 41 = .ok (.iload_n 1, 1) := by decide +kernel
theorem d_X12_stopHere_42 : decode (gw_mC M_X12_stopHere) 42 = .ok (.goto 5, 3) := by decide +kernel
theorem d_X12_stopHere_45 : decode (gw_mC M_X12_stopHere) 45 = .ok (.bipush (-4), 2) := by decide +kernel
theorem d_X12_stopHere_47 : decode (gw_mC M_X12_stopHere) 47 = .ok (.ireturn, 1) := by decide +kernel
theorem d_X12_isRed_0 : decode (gw_mC M_X12_isRed) 0 = .ok (.aload_n 0, 1) := by decide +kernel
theorem d_X12_isRed_1 : decode (gw_mC M_X12_isRed) 1 = .ok (.iconst 1, 1) := by decide +kernel
theorem d_X12_isRed_2 : decode (gw_mC M_X12_isRed) 2 = .ok (.iload_n 1, 1) := by decide +kernel
theorem d_X12_isRed_3 : decode (gw_mC M_X12_isRed) 3 = .ok (.invokevirtual 112, 3) := by decide +kernel
theorem d_X12_isRed_6 : decode (gw_mC M_X12_isRed) 6 = .ok (.istore_n 3, 1) := by decide +kernel
theorem d_X12_isRed_7 : decode (gw_mC M_X12_isRed) 7 = .ok (.iload_n 3, 1) := by decide +kernel
theorem d_X12_isRed_8 : decode (gw_mC M_X12_isRed) 8 = .ok (.ifCond .lt 56, 3) := by decide +kernel
theorem d_X12_isRed_11 : decode (gw_mC M_X12_isRed) 11 = .ok (.iload_n 1, 1) := by decide +kernel
theorem d_X12_isRed_12 : decode (gw_mC M_X12_isRed) 12 = .ok (.aload_n 0, 1) := by decide +kernel
theorem d_X12_isRed_13 : decode (gw_mC M_X12_isRed) 13 = .ok (.getfield 88, 3) := by decide +kernel
theorem d_X12_isRed_16 : decode (gw_mC M_X12_isRed) 16 = .ok (.if_icmp .ge 48, 3) := by decide +kernel
theorem d_X12_isRed_19 : decode (gw_mC M_X12_isRed) 19 = .ok (.iload_n 2, 1) := by decide +kernel
theorem d_X12_isRed_20 : decode (gw_mC M_X12_isRed) 20 = .ok (.aload_n 0, 1) := by decide +kernel
theorem d_X12_isRed_21 : decode (gw_mC M_X12_isRed) 21 = .ok (.getfield 16, 3) := by decide +kernel
theorem d_X12_isRed_24 : decode (gw_mC M_X12_isRed) 24 = .ok (.bipush 8, 2) := by decide +kernel
theorem d_X12_isRed_26 : decode (gw_mC M_X12_isRed) 26 = .ok (.iload_n 3, 1) := by decide +kernel
theorem d_X12_isRed_27 : decode (gw_mC M_X12_isRed) 27 = .ok (.ifCond .ge 7, 3) := by decide +kernel
theorem d_X12_isRed_30 : decode (gw_mC M_X12_isRed) 30 = .ok (.iconst 0, 1) := by decide +kernel
theorem d_X12_isRed_31 : decode (gw_mC M_X12_isRed) 31 = .ok (.goto 4, 3) := by decide +kernel
theorem d_X12_isRed_34 : decode (gw_mC M_X12_isRed) 34 = .ok (.iload_n 3, 1) := by decide +kernel
theorem d_X12_isRed_35 : decode (gw_mC M_X12_isRed) 35 = .ok (.iadd, 1) := by decide +kernel
theorem d_X12_isRed_36 : decode (gw_mC M_X12_isRed) 36 = .ok (.iaload, 1) := by decide +kernel
theorem d_X12_isRed_37 : decode (gw_mC M_X12_isRed) 37 = .ok (.irem, 1) := by decide +kernel
theorem d_X12_isRed_38 : decode (gw_mC M_X12_isRed) 38 = .ok (.aload_n 0, 1) := by decide +kernel
theorem d_X12_isRed_39 : decode (gw_mC M_X12_isRed) 39 = .ok (.getfield 16, 3) := by decide +kernel
theorem d_X12_isRed_42 : decode (gw_mC M_X12_isRed) 42 = .ok (.bipush 8, 2) := by decide +kernel
theorem d_X12_isRed_44 : decode (gw_mC M_X12_isRed) 44 = .ok (.iload_n 3, 1) := by decide +kernel
theorem d_X12_isRed_45 : decode (gw_mC M_X12_isRed) 45 = .ok (.ifCond .ge 7, 3) := by decide +kernel
theorem d_X12_isRed_48 : decode (gw_mC M_X12_isRed) 48 = .ok (.iconst 0, 1) := by decide +kernel
theorem d_X12_isRed_49 : decode (gw_mC M_X12_isRed) 49 = .ok (.goto 4, 3) := by decide +kernel
theorem d_X12_isRed_52 : decode (gw_mC M_X12_isRed) 52 = .ok (.iload_n 3, 1) := by decide +kernel
theorem d_X12_isRed_53 : decode (gw_mC M_X12_isRed) 53 = .ok (.iadd, 1) := by decide +kernel
theorem d_X12_isRed_54 : decode (gw_mC M_X12_isRed) 54 = .ok (.iaload, 1) := by decide +kernel
theorem d_X12_isRed_55 : decode (gw_mC M_X12_isRed) 55 = .ok (.iconst 2, 1) := by decide +kernel
theorem d_X12_isRed_56 : decode (gw_mC M_X12_isRed) 56 = .ok (.idiv, 1) := by decide +kernel
theorem d_X12_isRed_57 : decode (gw_mC M_X12_isRed) 57 = .ok (.if_icmp .ge 7, 3) := by decide +kernel
theorem d_X12_isRed_60 : decode (gw_mC M_X12_isRed) 60 = .ok (.iconst 1, 1) := by decide +kernel
theorem d_X12_isRed_61 : decode (gw_mC M_X12_isRed) 61 = .ok (.goto 4, 3) := by decide +kernel
theorem d_X12_isRed_64 : decode (gw_mC M_X12_isRed) 64 = .ok (.iconst 0, 1) := by decide +kernel
theorem d_X12_isRed_65 : decode (gw_mC M_X12_isRed) 65 = .ok (.ireturn, 1) := by decide +kernel
theorem d_X12_isKept_0 : decode (gw_mC M_X12_isKept) 0 = .ok (.aload_n 0, 1) := by decide +kernel
theorem d_X12_isKept_1 : decode (gw_mC M_X12_isKept) 1 = .ok (.invokevirtual 208, 3) := by decide +kernel
theorem d_X12_isKept_4 : decode (gw_mC M_X12_isKept) 4 = .ok (.istore_n 1, 1) := by decide +kernel
theorem d_X12_isKept_5 : decode (gw_mC M_X12_isKept) 5 = .ok (.iload_n 1, 1) := by decide +kernel
theorem d_X12_isKept_6 : decode (gw_mC M_X12_isKept) 6 = .ok (.ifCond .ge 5, 3) := by decide +kernel
theorem d_X12_isKept_9 : decode (gw_mC M_X12_isKept) 9 = .ok (.iconst 0, 1) := by decide +kernel
theorem d_X12_isKept_10 : decode (gw_mC M_X12_isKept) 10 = .ok (.ireturn, 1) := by decide +kernel
theorem d_X12_isKept_11 : decode (gw_mC M_X12_isKept) 11 = .ok (.aload_n 0, 1) := by decide +kernel
theorem d_X12_isKept_12 : decode (gw_mC M_X12_isKept) 12 = .ok (.getfield 211, 3) := by decide +kernel
theorem d_X12_isKept_15 : decode (gw_mC M_X12_isKept) 15 = .ok (.ifCond .ne 82, 3) := by decide +kernel
theorem d_X12_isKept_18 : decode (gw_mC M_X12_isKept) 18 = .ok (.aload_n 0, 1) := by decide +kernel
theorem d_X12_isKept_19 : decode (gw_mC M_X12_isKept) 19 = .ok (.iconst 1, 1) := by decide +kernel
theorem d_X12_isKept_20 : decode (gw_mC M_X12_isKept) 20 = .ok (.invokevirtual 214, 3) := by decide +kernel
theorem d_X12_isKept_23 : decode (gw_mC M_X12_isKept) 23 = .ok (.istore_n 2, 1) := by decide +kernel
theorem d_X12_isKept_24 : decode (gw_mC M_X12_isKept) 24 = .ok (.aload_n 0, 1) := by decide +kernel
theorem d_X12_isKept_25 : decode (gw_mC M_X12_isKept) 25 = .ok (.getfield 22, 3) := by decide +kernel
theorem d_X12_isKept_28 : decode (gw_mC M_X12_isKept) 28 = .ok (.iconst 1, 1) := by decide +kernel
theorem d_X12_isKept_29 : decode (gw_mC M_X12_isKept) 29 = .ok (.iaload, 1) := by decide +kernel
theorem d_X12_isKept_30 : decode (gw_mC M_X12_isKept) 30 = .ok (.iload_n 2, 1) := by decide +kernel
theorem d_X12_isKept_31 : decode (gw_mC M_X12_isKept) 31 = .ok (.if_icmp .ge 12, 3) := by decide +kernel
theorem d_X12_isKept_34 : decode (gw_mC M_X12_isKept) 34 = .ok (.aload_n 0, 1) := by decide +kernel
theorem d_X12_isKept_35 : decode (gw_mC M_X12_isKept) 35 = .ok (.getfield 22, 3) := by decide +kernel
theorem d_X12_isKept_38 : decode (gw_mC M_X12_isKept) 38 = .ok (.iconst 1, 1) := by decide +kernel
theorem d_X12_isKept_39 : decode (gw_mC M_X12_isKept) 39 = .ok (.iaload, 1) := by decide +kernel
theorem d_X12_isKept_40 : decode (gw_mC M_X12_isKept) 40 = .ok (.goto 4, 3) := by decide +kernel
theorem d_X12_isKept_43 : decode (gw_mC M_X12_isKept) 43 = .ok (.iload_n 2, 1) := by decide +kernel
theorem d_X12_isKept_44 : decode (gw_mC M_X12_isKept) 44 = .ok (.istore_n 3, 1) := by decide +kernel
theorem d_X12_isKept_45 : decode (gw_mC M_X12_isKept) 45 = .ok (.aload_n 0, 1) := by decide +kernel
theorem d_X12_isKept_46 : decode (gw_mC M_X12_isKept) 46 = .ok (.aload_n 0, 1) := by decide +kernel
theorem d_X12_isKept_47 : decode (gw_mC M_X12_isKept) 47 = .ok (.iconst 0, 1) := by decide +kernel
theorem d_X12_isKept_48 : decode (gw_mC M_X12_isKept) 48 = .ok (.invokevirtual 214, 3) := by decide +kernel
theorem d_X12_isKept_51 : decode (gw_mC M_X12_isKept) 51 = .ok (.iload_n 3, 1) := by decide +kernel
theorem d_X12_isKept_52 : decode (gw_mC M_X12_isKept) 52 = .ok (.if_icmp .ge 16, 3) := by decide +kernel
theorem d_X12_isKept_55 : decode (gw_mC M_X12_isKept) 55 = .ok (.aload_n 0, 1) := by decide +kernel
theorem d_X12_isKept_56 : decode (gw_mC M_X12_isKept) 56 = .ok (.getfield 217, 3) := by decide +kernel
theorem d_X12_isKept_59 : decode (gw_mC M_X12_isKept) 59 = .ok (.aload_n 0, 1) := by decide +kernel
theorem d_X12_isKept_60 : decode (gw_mC M_X12_isKept) 60 = .ok (.getfield 22, 3) := by decide +kernel
theorem d_X12_isKept_63 : decode (gw_mC M_X12_isKept) 63 = .ok (.iconst 3, 1) := by decide +kernel
theorem d_X12_isKept_64 : decode (gw_mC M_X12_isKept) 64 = .ok (.iaload, 1) := by decide +kernel
theorem d_X12_isKept_65 : decode (gw_mC M_X12_isKept) 65 = .ok (.if_icmp .lt 7, 3) := by decide +kernel
theorem d_X12_isKept_68 : decode (gw_mC M_X12_isKept) 68 = .ok (.iconst 1, 1) := by decide +kernel
theorem d_X12_isKept_69 : decode (gw_mC M_X12_isKept) 69 = .ok (.goto 4, 3) := by decide +kernel
theorem d_X12_isKept_72 : decode (gw_mC M_X12_isKept) 72 = .ok (.iconst 0, 1) := by decide +kernel
theorem d_X12_isKept_73 : decode (gw_mC M_X12_isKept) 73 = .ok (.putfield 211, 3) := by decide +kernel
theorem d_X12_isKept_76 : decode (gw_mC M_X12_isKept) 76 = .ok (.aload_n 0, 1) := by decide +kernel
theorem d_X12_isKept_77 : decode (gw_mC M_X12_isKept) 77 = .ok (.dup, 1) := by decide +kernel
theorem d_X12_isKept_78 : decode (gw_mC M_X12_isKept) 78 = .ok (.getfield 217, 3) := by decide +kernel
theorem d_X12_isKept_81 : decode (gw_mC M_X12_isKept) 81 = .ok (.aload_n 0, 1) := by decide +kernel
theorem d_X12_isKept_82 : decode (gw_mC M_X12_isKept) 82 = .ok (.getfield 211, 3) := by decide +kernel
theorem d_X12_isKept_85 : decode (gw_mC M_X12_isKept) 85 = .ok (.ifCond .eq 7, 3) := by decide +kernel
theorem d_X12_isKept_88 : decode (gw_mC M_X12_isKept) 88 = .ok (.iconst 0, 1) := by decide +kernel
theorem d_X12_isKept_89 : decode (gw_mC M_X12_isKept) 89 = .ok (.goto 4, 3) := by decide +kernel
theorem d_X12_isKept_92 : decode (gw_mC M_X12_isKept) 92 = .ok (.iconst 1, 1) := by decide +kernel
theorem d_X12_isKept_93 : decode (gw_mC M_X12_isKept) 93 = .ok (.iadd, 1) := by decide +kernel
theorem d_X12_isKept_94 : decode (gw_mC M_X12_isKept) 94 = .ok (.putfield 217, 3) := by decide +kernel
theorem d_X12_isKept_97 : decode (gw_mC M_X12_isKept) 97 = .ok (.aload_n 0, 1) := by decide +kernel
theorem d_X12_isKept_98 : decode (gw_mC M_X12_isKept) 98 = .ok (.getfield 211, 3) := by decide +kernel
theorem d_X12_isKept_101 : decode (gw_mC M_X12_isKept) 101 = .ok (.ifCond .ne 5, 3) := by decide +kernel
theorem d_X12_isKept_104 : decode (gw_mC M_X12_isKept) 104 = .ok (.iconst 1, 1) := by decide +kernel
theorem d_X12_isKept_105 : decode (gw_mC M_X12_isKept) 105 = .ok (.ireturn, 1) := by decide +kernel
theorem d_X12_isKept_106 : decode (gw_mC M_X12_isKept) 106 = .ok (.aload_n 0, 1) := by decide +kernel
theorem d_X12_isKept_107 : decode (gw_mC M_X12_isKept) 107 = .ok (.getfield 220, 3) := by decide +kernel
theorem d_X12_isKept_110 : decode (gw_mC M_X12_isKept) 110 = .ok (.aload_n 0, 1) := by decide +kernel
theorem d_X12_isKept_111 : decode (gw_mC M_X12_isKept) 111 = .ok (.getfield 16, 3) := by decide +kernel
theorem d_X12_isKept_114 : decode (gw_mC M_X12_isKept) 114 = .ok (.iload_n 1, 1) := by decide +kernel
theorem d_X12_isKept_115 : decode (gw_mC M_X12_isKept) 115 = .ok (.iaload, 1) := by decide +kernel
theorem d_X12_isKept_116 : decode (gw_mC M_X12_isKept) 116 = .ok (.if_icmp .ge 68, 3) := by decide +kernel
theorem d_X12_isKept_119 : decode (gw_mC M_X12_isKept) 119 = .ok (.aload_n 0, 1) := by decide +kernel
theorem d_X12_isKept_120 : decode (gw_mC M_X12_isKept) 120 = .ok (.dup, 1) := by decide +kernel
theorem d_X12_isKept_121 : decode (gw_mC M_X12_isKept) 121 = .ok (.getfield 220, 3) := by decide +kernel
theorem d_X12_isKept_124 : decode (gw_mC M_X12_isKept) 124 = .ok (.iconst 1, 1) := by decide +kernel
theorem d_X12_isKept_125 : decode (gw_mC M_X12_isKept) 125 = .ok (.iadd, 1) := by decide +kernel
theorem d_X12_isKept_126 : decode (gw_mC M_X12_isKept) 126 = .ok (.putfield 220, 3) := by decide +kernel
theorem d_X12_isKept_129 : decode (gw_mC M_X12_isKept) 129 = .ok (.iconst 0, 1) := by decide +kernel
theorem d_X12_isKept_130 : decode (gw_mC M_X12_isKept) 130 = .ok (.istore_n 2, 1) := by decide +kernel
theorem d_X12_isKept_131 : decode (gw_mC M_X12_isKept) 131 = .ok (.iload_n 2, 1) := by decide +kernel
theorem d_X12_isKept_132 : decode (gw_mC M_X12_isKept) 132 = .ok (.aload_n 0, 1) := by decide +kernel
theorem d_X12_isKept_133 : decode (gw_mC M_X12_isKept) 133 = .ok (.getfield 120, 3) := by decide +kernel
theorem d_X12_isKept_136 : decode (gw_mC M_X12_isKept) 136 = .ok (.if_icmp .ge 46, 3) := by decide +kernel
theorem d_X12_isKept_139 : decode (gw_mC M_X12_isKept) 139 = .ok (.aload_n 0, 1) := by decide +kernel
theorem d_X12_isKept_140 : decode (gw_mC M_X12_isKept) 140 = .ok (.getfield 52, 3) := by decide +kernel
theorem d_X12_isKept_143 : decode (gw_mC M_X12_isKept) 143 = .ok (.iload_n 2, 1) := by decide +kernel
theorem d_X12_isKept_144 : decode (gw_mC M_X12_isKept) 144 = .ok (.dup2, 1) := by decide +kernel
theorem d_X12_isKept_145 : decode (gw_mC M_X12_isKept) 145 = .ok (.iaload, 1) := by decide +kernel
theorem d_X12_isKept_146 : decode (gw_mC M_X12_isKept) 146 = .ok (.aload_n 0, 1) := by decide +kernel
theorem d_X12_isKept_147 : decode (gw_mC M_X12_isKept) 147 = .ok (.iload_n 2, 1) := by decide +kernel
theorem d_X12_isKept_148 : decode (gw_mC M_X12_isKept) 148 = .ok (.aload_n 0, 1) := by decide +kernel
theorem d_X12_isKept_149 : decode (gw_mC M_X12_isKept) 149 = .ok (.getfield 31, 3) := by decide +kernel
theorem d_X12_isKept_152 : decode (gw_mC M_X12_isKept) 152 = .ok (.iload_n 2, 1) := by decide +kernel
theorem d_X12_isKept_153 : decode (gw_mC M_X12_isKept) 153 = .ok (.iaload, 1) := by decide +kernel
theorem d_X12_isKept_154 : decode (gw_mC M_X12_isKept) 154 = .ok (.iconst 1, 1) := by decide +kernel
theorem d_X12_isKept_155 : decode (gw_mC M_X12_isKept) 155 = .ok (.if_icmp .ne 7, 3) := by decide +kernel
theorem d_X12_isKept_158 : decode (gw_mC M_X12_isKept) 158 = .ok (.iconst 3, 1) := by decide +kernel
theorem d_X12_isKept_159 : decode (gw_mC M_X12_isKept) 159 = .ok (.goto 4, 3) := by decide +kernel
theorem d_X12_isKept_162 : decode (gw_mC M_X12_isKept) 162 = .ok (.iconst 1, 1) := by decide +kernel
theorem d_X12_isKept_163 : decode (gw_mC M_X12_isKept) 163 = .ok (.invokevirtual 202, 3) := by decide +kernel
theorem d_X12_isKept_166 : decode (gw_mC M_X12_isKept) 166 = .ok (.ifCond .eq 7, 3) := by decide +kernel
theorem d_X12_isKept_169 : decode (gw_mC M_X12_isKept) 169 = .ok (.iconst 1, 1) := by decide +kernel
theorem d_X12_isKept_170 : decode (gw_mC M_X12_isKept) 170 = .ok (.goto 4, 3) := by decide +kernel
theorem d_X12_isKept_173 : decode (gw_mC M_X12_isKept) 173 = .ok (.iconst 0, 1) := by decide +kernel
theorem d_X12_isKept_174 : decode (gw_mC M_X12_isKept) 174 = .ok (.iadd, 1) := by decide +kernel
theorem d_X12_isKept_175 : decode (gw_mC M_X12_isKept) 175 = .ok (.iastore, 1) := by decide +kernel
theorem d_X12_isKept_176 : decode (gw_mC M_X12_isKept) 176 = .ok (.iinc 2 1, 3) := by decide +kernel
theorem d_X12_isKept_179 : decode (gw_mC M_X12_isKept) 179 = .ok (.goto (-48), 3) := by decide +kernel
theorem d_X12_isKept_182 : decode (gw_mC M_X12_isKept) 182 = .ok (.iconst 1, 1) := by decide +kernel
theorem d_X12_isKept_183 : decode (gw_mC M_X12_isKept) 183 = .ok (.ireturn, 1) := by decide +kernel
theorem d_X12_isKept_184 : decode (gw_mC M_X12_isKept) 184 = .ok (.aload_n 0, 1) := by decide +kernel
theorem d_X12_isKept_185 : decode (gw_mC M_X12_isKept) 185 = .ok (.getfield 223, 3) := by decide +kernel
theorem d_X12_isKept_188 : decode (gw_mC M_X12_isKept) 188 = .ok (.aload_n 0, 1) := by decide +kernel
theorem d_X12_isKept_189 : decode (gw_mC M_X12_isKept) 189 = .ok (.getfield 22, 3) := by decide +kernel
theorem d_X12_isKept_192 : decode (gw_mC M_X12_isKept) 192 = .ok (.iconst 2, 1) := by decide +kernel
theorem d_X12_isKept_193 : decode (gw_mC M_X12_isKept) 193 = .ok (.iaload, 1) := by decide +kernel
theorem d_X12_isKept_194 : decode (gw_mC M_X12_isKept) 194 = .ok (.if_icmp .ge 16, 3) := by decide +kernel
theorem d_X12_isKept_197 : decode (gw_mC M_X12_isKept) 197 = .ok (.aload_n 0, 1) := by decide +kernel
theorem d_X12_isKept_198 : decode (gw_mC M_X12_isKept) 198 = .ok (.getfield 226, 3) := by decide +kernel
theorem d_X12_isKept_201 : decode (gw_mC M_X12_isKept) 201 = .ok (.aload_n 0, 1) := by decide +kernel
theorem d_X12_isKept_202 : decode (gw_mC M_X12_isKept) 202 = .ok (.getfield 22, 3) := by decide +kernel
theorem d_X12_isKept_205 : decode (gw_mC M_X12_isKept) 205 = .ok (.iconst 3, 1) := by decide +kernel
theorem d_X12_isKept_206 : decode (gw_mC M_X12_isKept) 206 = .ok (.iaload, 1) := by decide +kernel
theorem d_X12_isKept_207 : decode (gw_mC M_X12_isKept) 207 = .ok (.if_icmp .lt 17, 3) := by decide +kernel
theorem d_X12_isKept_210 : decode (gw_mC M_X12_isKept) 210 = .ok (.aload_n 0, 1) := by decide +kernel
theorem d_X12_isKept_211 : decode (gw_mC M_X12_isKept) 211 = .ok (.dup, 1) := by decide +kernel
theorem d_X12_isKept_212 : decode (gw_mC M_X12_isKept) 212 = .ok (.getfield 205, 3) := by decide +kernel
theorem d_X12_isKept_215 : decode (gw_mC M_X12_isKept) 215 = .ok (.iconst 1, 1) := by decide +kernel
theorem d_X12_isKept_216 : decode (gw_mC M_X12_isKept) 216 = .ok (.iload_n 1, 1) := by decide +kernel
theorem d_X12_isKept_217 : decode (gw_mC M_X12_isKept) 217 = .ok (.ishl, 1) := by decide +kernel
theorem d_X12_isKept_218 : decode (gw_mC M_X12_isKept) 218 = .ok (.ior, 1) := by decide +kernel
theorem d_X12_isKept_219 : decode (gw_mC M_X12_isKept) 219 = .ok (.putfield 205, 3) := by decide +kernel
theorem d_X12_isKept_222 : decode (gw_mC M_X12_isKept) 222 = .ok (.iconst 0, 1) := by decide +kernel
theorem d_X12_isKept_223 : decode (gw_mC M_X12_isKept) 223 = .ok (.ireturn, 1) := by decide +kernel
theorem d_X12_isKept_224 : decode (gw_mC M_X12_isKept) 224 = .ok (.aload_n 0, 1) := by decide +kernel
theorem d_X12_isKept_225 : decode (gw_mC M_X12_isKept) 225 = .ok (.dup, 1) := by decide +kernel
theorem d_X12_isKept_226 : decode (gw_mC M_X12_isKept) 226 = .ok (.getfield 226, 3) := by decide +kernel
theorem d_X12_isKept_229 : decode (gw_mC M_X12_isKept) 229 = .ok (.iconst 1, 1) := by decide +kernel
theorem d_X12_isKept_230 : decode (gw_mC M_X12_isKept) 230 = .ok (.iadd, 1) := by decide +kernel
theorem d_X12_isKept_231 : decode (gw_mC M_X12_isKept) 231 = .ok (.putfield 226, 3) := by decide +kernel
theorem d_X12_isKept_234 : decode (gw_mC M_X12_isKept) 234 = .ok (.iconst 1, 1) := by decide +kernel
theorem d_X12_isKept_235 : decode (gw_mC M_X12_isKept) 235 = .ok (.ireturn, 1) := by decide +kernel
theorem d_X12_guideGoes_0 : decode (gw_mC M_X12_guideGoes) 0 = .ok (.aload_n 0, 1) := by decide +kernel
theorem d_X12_guideGoes_1 : decode (gw_mC M_X12_guideGoes) 1 = .ok (.getfield 199, 3) := by decide +kernel
theorem d_X12_guideGoes_4 : decode (gw_mC M_X12_guideGoes) 4 = .ok (.aload_n 0, 1) := by decide +kernel
theorem d_X12_guideGoes_5 : decode (gw_mC M_X12_guideGoes) 5 = .ok (.getfield 88, 3) := by decide +kernel
theorem d_X12_guideGoes_8 : decode (gw_mC M_X12_guideGoes) 8 = .ok (.if_icmp .eq 10, 3) := by decide +kernel
theorem d_X12_guideGoes_11 : decode (gw_mC M_X12_guideGoes) 11 = .ok (.aload_n 0, 1) := by decide +kernel
theorem d_X12_guideGoes_12 : decode (gw_mC M_X12_guideGoes) 12 = .ok (.invokevirtual 229, 3) := by decide +kernel
theorem d_X12_guideGoes_15 : decode (gw_mC M_X12_guideGoes) 15 = .ok (.ifCond .eq 4, 3) := by decide +kernel
theorem d_X12_guideGoes_18 : decode (gw_mC M_X12_guideGoes) 18 = .ok (.return_, 1) := by decide +kernel
theorem d_X12_guideGoes_19 : decode (gw_mC M_X12_guideGoes) 19 = .ok (.aload_n 0, 1) := by decide +kernel
theorem d_X12_guideGoes_20 : decode (gw_mC M_X12_guideGoes) 20 = .ok (.getfield 199, 3) := by decide +kernel
theorem d_X12_guideGoes_23 : decode (gw_mC M_X12_guideGoes) 23 = .ok (.istore_n 2, 1) := by decide +kernel
theorem d_X12_guideGoes_24 : decode (gw_mC M_X12_guideGoes) 24 = .ok (.iconst 0, 1) := by decide +kernel
theorem d_X12_guideGoes_25 : decode (gw_mC M_X12_guideGoes) 25 = .ok (.istore_n 3, 1) := by decide +kernel
theorem d_X12_guideGoes_26 : decode (gw_mC M_X12_guideGoes) 26 = .ok (.iload_n 3, 1) := by decide +kernel
theorem d_X12_guideGoes_27 : decode (gw_mC M_X12_guideGoes) 27 = .ok (.aload_n 0, 1) := by decide +kernel
theorem d_X12_guideGoes_28 : decode (gw_mC M_X12_guideGoes) 28 = .ok (.getfield 22, 3) := by decide +kernel
theorem d_X12_guideGoes_31 : decode (gw_mC M_X12_guideGoes) 31 = .ok (.iconst 0, 1) := by decide +kernel
theorem d_X12_guideGoes_32 : decode (gw_mC M_X12_guideGoes) 32 = .ok (.iaload, 1) := by decide +kernel
theorem d_X12_guideGoes_33 : decode (gw_mC M_X12_guideGoes) 33 = .ok (.if_icmp .ge 49, 3) := by decide +kernel
theorem d_X12_guideGoes_36 : decode (gw_mC M_X12_guideGoes) 36 = .ok (.aload_n 0, 1) := by decide +kernel
theorem d_X12_guideGoes_37 : decode (gw_mC M_X12_guideGoes) 37 = .ok (.getfield 199, 3) := by decide +kernel
theorem d_X12_guideGoes_40 : decode (gw_mC M_X12_guideGoes) 40 = .ok (.aload_n 0, 1) := by decide +kernel
theorem d_X12_guideGoes_41 : decode (gw_mC M_X12_guideGoes) 41 = .ok (.getfield 88, 3) := by decide +kernel
theorem d_X12_guideGoes_44 : decode (gw_mC M_X12_guideGoes) 44 = .ok (.if_icmp .ge 38, 3) := by decide +kernel
theorem d_X12_guideGoes_47 : decode (gw_mC M_X12_guideGoes) 47 = .ok (.aload_n 0, 1) := by decide +kernel
theorem d_X12_guideGoes_48 : decode (gw_mC M_X12_guideGoes) 48 = .ok (.invokevirtual 208, 3) := by decide +kernel
theorem d_X12_guideGoes_51 : decode (gw_mC M_X12_guideGoes) 51 = .ok (.ifCond .ge 31, 3) := by decide +kernel
theorem d_X12_guideGoes_54 : decode (gw_mC M_X12_guideGoes) 54 = .ok (.aload_n 0, 1) := by decide +kernel
theorem d_X12_guideGoes_55 : decode (gw_mC M_X12_guideGoes) 55 = .ok (.aload_n 0, 1) := by decide +kernel
theorem d_X12_guideGoes_56 : decode (gw_mC M_X12_guideGoes) 56 = .ok (.getfield 199, 3) := by decide +kernel
theorem d_X12_guideGoes_59 : decode (gw_mC M_X12_guideGoes) 59 = .ok (.iload_n 1, 1) := by decide +kernel
theorem d_X12_guideGoes_60 : decode (gw_mC M_X12_guideGoes) 60 = .ok (.invokevirtual 233, 3) := by decide +kernel
theorem d_X12_guideGoes_63 : decode (gw_mC M_X12_guideGoes) 63 = .ok (.ifCond .ne 19, 3) := by decide +kernel
theorem d_X12_guideGoes_66 : decode (gw_mC M_X12_guideGoes) 66 = .ok (.aload_n 0, 1) := by decide +kernel
theorem d_X12_guideGoes_67 : decode (gw_mC M_X12_guideGoes) 67 = .ok (.dup, 1) := by decide +kernel
theorem d_X12_guideGoes_68 : decode (gw_mC M_X12_guideGoes) 68 = .ok (.getfield 199, 3) := by decide +kernel
theorem d_X12_guideGoes_71 : decode (gw_mC M_X12_guideGoes) 71 = .ok (.iconst 1, 1) := by decide +kernel
theorem d_X12_guideGoes_72 : decode (gw_mC M_X12_guideGoes) 72 = .ok (.iadd, 1) := by decide +kernel
theorem d_X12_guideGoes_73 : decode (gw_mC M_X12_guideGoes) 73 = .ok (.putfield 199, 3) := by decide +kernel
theorem d_X12_guideGoes_76 : decode (gw_mC M_X12_guideGoes) 76 = .ok (.iinc 3 1, 3) := by decide +kernel
theorem d_X12_guideGoes_79 : decode (gw_mC M_X12_guideGoes) 79 = .ok (.goto (-53), 3) := by decide +kernel
theorem d_X12_guideGoes_82 : decode (gw_mC M_X12_guideGoes) 82 = .ok (.aload_n 0, 1) := by decide +kernel
theorem d_X12_guideGoes_83 : decode (gw_mC M_X12_guideGoes) 83 = .ok (.getfield 199, 3) := by decide +kernel
theorem d_X12_guideGoes_86 : decode (gw_mC M_X12_guideGoes) 86 = .ok (.iload_n 2, 1) := by decide +kernel
theorem d_X12_guideGoes_87 : decode (gw_mC M_X12_guideGoes) 87 = .ok (.if_icmp .eq 28, 3) := by decide +kernel
theorem d_X12_guideGoes_90 : decode (gw_mC M_X12_guideGoes) 90 = .ok (.aload_n 0, 1) := by decide +kernel
theorem d_X12_guideGoes_91 : decode (gw_mC M_X12_guideGoes) 91 = .ok (.iconst 0, 1) := by decide +kernel
theorem d_X12_guideGoes_92 : decode (gw_mC M_X12_guideGoes) 92 = .ok (.putfield 211, 3) := by decide +kernel
theorem d_X12_guideGoes_95 : decode (gw_mC M_X12_guideGoes) 95 = .ok (.aload_n 0, 1) := by decide +kernel
theorem d_X12_guideGoes_96 : decode (gw_mC M_X12_guideGoes) 96 = .ok (.iconst 0, 1) := by decide +kernel
theorem d_X12_guideGoes_97 : decode (gw_mC M_X12_guideGoes) 97 = .ok (.putfield 217, 3) := by decide +kernel
theorem d_X12_guideGoes_100 : decode (gw_mC M_X12_guideGoes) 100 = .ok (.aload_n 0, 1) := by decide +kernel
theorem d_X12_guideGoes_101 : decode (gw_mC M_X12_guideGoes) 101 = .ok (.iconst 0, 1) := by decide +kernel
theorem d_X12_guideGoes_102 : decode (gw_mC M_X12_guideGoes) 102 = .ok (.putfield 220, 3) := by decide +kernel
theorem d_X12_guideGoes_105 : decode (gw_mC M_X12_guideGoes) 105 = .ok (.aload_n 0, 1) := by decide +kernel
theorem d_X12_guideGoes_106 : decode (gw_mC M_X12_guideGoes) 106 = .ok (.iconst 0, 1) := by decide +kernel
theorem d_X12_guideGoes_107 : decode (gw_mC M_X12_guideGoes) 107 = .ok (.putfield 226, 3) := by decide +kernel
theorem d_X12_guideGoes_110 : decode (gw_mC M_X12_guideGoes) 110 = .ok (.aload_n 0, 1) := by decide +kernel
theorem d_X12_guideGoes_111 : decode (gw_mC M_X12_guideGoes) 111 = .ok (.iconst 0, 1) := by decide +kernel
theorem d_X12_guideGoes_112 : decode (gw_mC M_X12_guideGoes) 112 = .ok (.putfield 223, 3) := by decide +kernel
theorem d_X12_guideGoes_115 : decode (gw_mC M_X12_guideGoes) 115 = .ok (.aload_n 0, 1) := by decide +kernel
theorem d_X12_guideGoes_116 : decode (gw_mC M_X12_guideGoes) 116 = .ok (.aload_n 0, 1) := by decide +kernel
theorem d_X12_guideGoes_117 : decode (gw_mC M_X12_guideGoes) 117 = .ok (.getfield 199, 3) := by decide +kernel
theorem d_X12_guideGoes_120 : decode (gw_mC M_X12_guideGoes) 120 = .ok (.aload_n 0, 1) := by decide +kernel
theorem d_X12_guideGoes_121 : decode (gw_mC M_X12_guideGoes) 121 = .ok (.getfield 88, 3) := by decide +kernel
theorem d_X12_guideGoes_124 : decode (gw_mC M_X12_guideGoes) 124 = .ok (.if_icmp .ne 7, 3) := by decide +kernel
theorem d_X12_guideGoes_127 : decode (gw_mC M_X12_guideGoes) 127 = .ok (.iload_n 1, 1) := by decide +kernel
theorem d_X12_guideGoes_128 : decode (gw_mC M_X12_guideGoes) 128 = .ok (.goto 7, 3) := by decide +kernel
theorem d_X12_guideGoes_131 : decode (gw_mC M_X12_guideGoes) 131 = .ok (.aload_n 0, 1) := by decide +kernel
theorem d_X12_guideGoes_132 : decode (gw_mC M_X12_guideGoes) 132 = .ok (.getfield 236, 3) := by decide +kernel
theorem d_X12_guideGoes_135 : decode (gw_mC M_X12_guideGoes) 135 = .ok (.putfield 236, 3) := by decide +kernel
theorem d_X12_guideGoes_138 : decode (gw_mC M_X12_guideGoes) 138 = .ok (.return_, 1) := by decide +kernel
theorem d_X12_leastOther_0 : decode (gw_mC M_X12_leastOther) 0 = .ok (.sipush 1000, 3) := by decide +kernel
theorem d_X12_leastOther_3 : decode (gw_mC M_X12_leastOther) 3 = .ok (.istore_n 2, 1) := by decide +kernel
theorem d_X12_leastOther_4 : decode (gw_mC M_X12_leastOther) 4 = .ok (.iconst 0, 1) := by decide +kernel
theorem d_X12_leastOther_5 : decode (gw_mC M_X12_leastOther) 5 = .ok (.istore_n 3, 1) := by decide +kernel
theorem d_X12_leastOther_6 : decode (gw_mC M_X12_leastOther) 6 = .ok (.iload_n 3, 1) := by decide +kernel
theorem d_X12_leastOther_7 : decode (gw_mC M_X12_leastOther) 7 = .ok (.aload_n 0, 1) := by decide +kernel
theorem d_X12_leastOther_8 : decode (gw_mC M_X12_leastOther) 8 = .ok (.getfield 120, 3) := by decide +kernel
theorem d_X12_leastOther_11 : decode (gw_mC M_X12_leastOther) 11 = .ok (.if_icmp .ge 43, 3) := by decide +kernel
theorem d_X12_leastOther_14 : decode (gw_mC M_X12_leastOther) 14 = .ok (.iload_n 3, 1) := by decide +kernel
theorem d_X12_leastOther_15 : decode (gw_mC M_X12_leastOther) 15 = .ok (.iload_n 1, 1) := by decide +kernel
theorem d_X12_leastOther_16 : decode (gw_mC M_X12_leastOther) 16 = .ok (.if_icmp .eq 30, 3) := by decide +kernel
theorem d_X12_leastOther_19 : decode (gw_mC M_X12_leastOther) 19 = .ok (.aload_n 0, 1) := by decide +kernel
theorem d_X12_leastOther_20 : decode (gw_mC M_X12_leastOther) 20 = .ok (.iload_n 3, 1) := by decide +kernel
theorem d_X12_leastOther_21 : decode (gw_mC M_X12_leastOther) 21 = .ok (.invokevirtual 196, 3) := by decide +kernel
theorem d_X12_leastOther_24 : decode (gw_mC M_X12_leastOther) 24 = .ok (.ifCond .ne 22, 3) := by decide +kernel
theorem d_X12_leastOther_27 : decode (gw_mC M_X12_leastOther) 27 = .ok (.aload_n 0, 1) := by decide +kernel
theorem d_X12_leastOther_28 : decode (gw_mC M_X12_leastOther) 28 = .ok (.getfield 43, 3) := by decide +kernel
theorem d_X12_leastOther_31 : decode (gw_mC M_X12_leastOther) 31 = .ok (.iload_n 3, 1) := by decide +kernel
theorem d_X12_leastOther_32 : decode (gw_mC M_X12_leastOther) 32 = .ok (.iaload, 1) := by decide +kernel
theorem d_X12_leastOther_33 : decode (gw_mC M_X12_leastOther) 33 = .ok (.iload_n 2, 1) := by decide +kernel
theorem d_X12_leastOther_34 : decode (gw_mC M_X12_leastOther) 34 = .ok (.if_icmp .ge 12, 3) := by decide +kernel
theorem d_X12_leastOther_37 : decode (gw_mC M_X12_leastOther) 37 = .ok (.aload_n 0, 1) := by decide +kernel
theorem d_X12_leastOther_38 : decode (gw_mC M_X12_leastOther) 38 = .ok (.getfield 43, 3) := by decide +kernel
theorem d_X12_leastOther_41 : decode (gw_mC M_X12_leastOther) 41 = .ok (.iload_n 3, 1) := by decide +kernel
theorem d_X12_leastOther_42 : decode (gw_mC M_X12_leastOther) 42 = .ok (.iaload, 1) := by decide +kernel
theorem d_X12_leastOther_43 : decode (gw_mC M_X12_leastOther) 43 = .ok (.goto 4, 3) := by decide +kernel
theorem d_X12_leastOther_46 : decode (gw_mC M_X12_leastOther) 46 = .ok (.iload_n 2, 1) := by decide +kernel
theorem d_X12_leastOther_47 : decode (gw_mC M_X12_leastOther) 47 = .ok (.istore_n 2, 1) := by decide +kernel
theorem d_X12_leastOther_48 : decode (gw_mC M_X12_leastOther) 48 = .ok (.iinc 3 1, 3) := by decide +kernel
theorem d_X12_leastOther_51 : decode (gw_mC M_X12_leastOther) 51 = .ok (.goto (-45), 3) := by decide +kernel
theorem d_X12_leastOther_54 : decode (gw_mC M_X12_leastOther) 54 = .ok (.iload_n 2, 1) := by decide +kernel
theorem d_X12_leastOther_55 : decode (gw_mC M_X12_leastOther) 55 = .ok (.ireturn, 1) := by decide +kernel
theorem d_X12_losesWay_0 : decode (gw_mC M_X12_losesWay) 0 = .ok (.aload_n 0, 1) := by decide +kernel
theorem d_X12_losesWay_1 : decode (gw_mC M_X12_losesWay) 1 = .ok (.getfield 25, 3) := by decide +kernel
theorem d_X12_losesWay_4 : decode (gw_mC M_X12_losesWay) 4 = .ok (.iload_n 1, 1) := by decide +kernel
theorem d_X12_losesWay_5 : decode (gw_mC M_X12_losesWay) 5 = .ok (.iaload, 1) := by decide +kernel
theorem d_X12_losesWay_6 : decode (gw_mC M_X12_losesWay) 6 = .ok (.iconst 3, 1) := by decide +kernel
theorem d_X12_losesWay_7 : decode (gw_mC M_X12_losesWay) 7 = .ok (.if_icmp .ne 8, 3) := by decide +kernel
theorem d_X12_losesWay_10 : decode (gw_mC M_X12_losesWay) 10 = .ok (.bipush (-4), 2) := by decide +kernel
theorem d_X12_losesWay_12 : decode (gw_mC M_X12_losesWay) 12 = .ok (.goto 14, 3) := by decide +kernel
theorem d_X12_losesWay_15 : decode (gw_mC M_X12_losesWay) 15 = .ok (.aload_n 0, 1) := by decide +kernel
theorem d_X12_losesWay_16 : decode (gw_mC M_X12_losesWay) 16 = .ok (.iconst 3, 1) := by decide +kernel
theorem d_X12_losesWay_17 : decode (gw_mC M_X12_losesWay) 17 = .ok (.aload_n 0, 1) := by decide +kernel
theorem d_X12_losesWay_18 : decode (gw_mC M_X12_losesWay) 18 = .ok (.getfield 43, 3) := by decide +kernel
theorem d_X12_losesWay_21 : decode (gw_mC M_X12_losesWay) 21 = .ok (.iload_n 1, 1) := by decide +kernel
theorem d_X12_losesWay_22 : decode (gw_mC M_X12_losesWay) 22 = .ok (.iaload, 1) := by decide +kernel
theorem d_X12_losesWay_23 : decode (gw_mC M_X12_losesWay) 23 = .ok (.invokevirtual 112, 3) := by decide +kernel
theorem d_X12_losesWay_26 : decode (gw_mC M_X12_losesWay) 26 = .ok (.istore_n 2, 1) := by decide +kernel
theorem d_X12_losesWay_27 : decode (gw_mC M_X12_losesWay) 27 = .ok (.aload_n 0, 1) := by decide +kernel
theorem d_X12_losesWay_28 : decode (gw_mC M_X12_losesWay) 28 = .ok (.invokevirtual 125, 3) := by decide +kernel
theorem d_X12_losesWay_31 : decode (gw_mC M_X12_losesWay) 31 = .ok (.istore_n 3, 1) := by decide +kernel
theorem d_X12_losesWay_32 : decode (gw_mC M_X12_losesWay) 32 = .ok (.iload_n 2, 1) := by decide +kernel
theorem d_X12_losesWay_33 : decode (gw_mC M_X12_losesWay) 33 = .ok (.ifCond .lt 78, 3) := by decide +kernel
theorem d_X12_losesWay_36 : decode (gw_mC M_X12_losesWay) 36 = .ok (.aload_n 0, 1) := by decide +kernel
theorem d_X12_losesWay_37 : decode (gw_mC M_X12_losesWay) 37 = .ok (.getfield 43, 3) := by decide +kernel
theorem d_X12_losesWay_40 : decode (gw_mC M_X12_losesWay) 40 = .ok (.iload_n 1, 1) := by decide +kernel
theorem d_X12_losesWay_41 : decode (gw_mC M_X12_losesWay) 41 = .ok (.iaload, 1) := by decide +kernel
theorem d_X12_losesWay_42 : decode (gw_mC M_X12_losesWay) 42 = .ok (.aload_n 0, 1) := by decide +kernel
theorem d_X12_losesWay_43 : decode (gw_mC M_X12_losesWay) 43 = .ok (.getfield 88, 3) := by decide +kernel
theorem d_X12_losesWay_46 : decode (gw_mC M_X12_losesWay) 46 = .ok (.if_icmp .ge 65, 3) := by decide +kernel
theorem d_X12_losesWay_49 : decode (gw_mC M_X12_losesWay) 49 = .ok (.aload_n 0, 1) := by decide +kernel
theorem d_X12_losesWay_50 : decode (gw_mC M_X12_losesWay) 50 = .ok (.getfield 199, 3) := by decide +kernel
theorem d_X12_losesWay_53 : decode (gw_mC M_X12_losesWay) 53 = .ok (.aload_n 0, 1) := by decide +kernel
theorem d_X12_losesWay_54 : decode (gw_mC M_X12_losesWay) 54 = .ok (.getfield 43, 3) := by decide +kernel
theorem d_X12_losesWay_57 : decode (gw_mC M_X12_losesWay) 57 = .ok (.iload_n 1, 1) := by decide +kernel
theorem d_X12_losesWay_58 : decode (gw_mC M_X12_losesWay) 58 = .ok (.iaload, 1) := by decide +kernel
theorem d_X12_losesWay_59 : decode (gw_mC M_X12_losesWay) 59 = .ok (.isub, 1) := by decide +kernel
theorem d_X12_losesWay_60 : decode (gw_mC M_X12_losesWay) 60 = .ok (.aload_n 0, 1) := by decide +kernel
theorem d_X12_losesWay_61 : decode (gw_mC M_X12_losesWay) 61 = .ok (.getfield 16, 3) := by decide +kernel
theorem d_X12_losesWay_64 : decode (gw_mC M_X12_losesWay) 64 = .ok (.bipush 24, 2) := by decide +kernel
theorem d_X12_losesWay_66 : decode (gw_mC M_X12_losesWay) 66 = .ok (.iload_n 2, 1) := by decide +kernel
theorem d_X12_losesWay_67 : decode (gw_mC M_X12_losesWay) 67 = .ok (.ifCond .ge 7, 3) := by decide +kernel
theorem d_X12_losesWay_70 : decode (gw_mC M_X12_losesWay) 70 = .ok (.iconst 0, 1) := by decide +kernel
theorem d_X12_losesWay_71 : decode (gw_mC M_X12_losesWay) 71 = .ok (.goto 4, 3) := by decide +kernel
theorem d_X12_losesWay_74 : decode (gw_mC M_X12_losesWay) 74 = .ok (.iload_n 2, 1) := by decide +kernel
theorem d_X12_losesWay_75 : decode (gw_mC M_X12_losesWay) 75 = .ok (.iadd, 1) := by decide +kernel
theorem d_X12_losesWay_76 : decode (gw_mC M_X12_losesWay) 76 = .ok (.iaload, 1) := by decide +kernel
theorem d_X12_losesWay_77 : decode (gw_mC M_X12_losesWay) 77 = .ok (.if_icmp .le 34, 3) := by decide +kernel
theorem d_X12_losesWay_80 : decode (gw_mC M_X12_losesWay) 80 = .ok (.iload_n 3, 1) := by decide +kernel
theorem d_X12_losesWay_81 : decode (gw_mC M_X12_losesWay) 81 = .ok (.ifCond .lt 26, 3) := by decide +kernel
theorem d_X12_losesWay_84 : decode (gw_mC M_X12_losesWay) 84 = .ok (.aload_n 0, 1) := by decide +kernel
theorem d_X12_losesWay_85 : decode (gw_mC M_X12_losesWay) 85 = .ok (.getfield 43, 3) := by decide +kernel
theorem d_X12_losesWay_88 : decode (gw_mC M_X12_losesWay) 88 = .ok (.iload_n 3, 1) := by decide +kernel
theorem d_X12_losesWay_89 : decode (gw_mC M_X12_losesWay) 89 = .ok (.ifCond .ge 7, 3) := by decide +kernel
theorem d_X12_losesWay_92 : decode (gw_mC M_X12_losesWay) 92 = .ok (.iconst 0, 1) := by decide +kernel
theorem d_X12_losesWay_93 : decode (gw_mC M_X12_losesWay) 93 = .ok (.goto 4, 3) := by decide +kernel
theorem d_X12_losesWay_96 : decode (gw_mC M_X12_losesWay) 96 = .ok (.iload_n 3, 1) := by decide +kernel
theorem d_X12_losesWay_97 : decode (gw_mC M_X12_losesWay) 97 = .ok (.iaload, 1) := by decide +kernel
theorem d_X12_losesWay_98 : decode (gw_mC M_X12_losesWay) 98 = .ok (.aload_n 0, 1) := by decide +kernel
theorem d_X12_losesWay_99 : decode (gw_mC M_X12_losesWay) 99 = .ok (.getfield 43, 3) := by decide +kernel
theorem d_X12_losesWay_102 : decode (gw_mC M_X12_losesWay) 102 = .ok (.iload_n 1, 1) := by decide +kernel
theorem d_X12_losesWay_103 : decode (gw_mC M_X12_losesWay) 103 = .ok (.iaload, 1) := by decide +kernel
theorem d_X12_losesWay_104 : decode (gw_mC M_X12_losesWay) 104 = .ok (.if_icmp .le 7, 3) := by decide +kernel
theorem d_X12_losesWay_107 : decode (gw_mC M_X12_losesWay) 107 = .ok (.iconst 1, 1) := by decide +kernel
theorem d_X12_losesWay_108 : decode (gw_mC M_X12_losesWay) 108 = .ok (.goto 4, 3) := by decide +kernel
theorem d_X12_losesWay_111 : decode (gw_mC M_X12_losesWay) 111 = .ok (.iconst 0, 1) := by decide +kernel
theorem d_X12_losesWay_112 : decode (gw_mC M_X12_losesWay) 112 = .ok (.ireturn, 1) := by decide +kernel
theorem d_X12_goes_0 : decode (gw_mC M_X12_goes) 0 = .ok (.aload_n 0, 1) := by decide +kernel
theorem d_X12_goes_1 : decode (gw_mC M_X12_goes) 1 = .ok (.getfield 25, 3) := by decide +kernel
theorem d_X12_goes_4 : decode (gw_mC M_X12_goes) 4 = .ok (.iload_n 1, 1) := by decide +kernel
theorem d_X12_goes_5 : decode (gw_mC M_X12_goes) 5 = .ok (.iaload, 1) := by decide +kernel
theorem d_X12_goes_6 : decode (gw_mC M_X12_goes) 6 = .ok (.iconst 1, 1) := by decide +kernel
theorem d_X12_goes_7 : decode (gw_mC M_X12_goes) 7 = .ok (.if_icmp .ne 23, 3) := by decide +kernel
theorem d_X12_goes_10 : decode (gw_mC M_X12_goes) 10 = .ok (.aload_n 0, 1) := by decide +kernel
theorem d_X12_goes_11 : decode (gw_mC M_X12_goes) 11 = .ok (.getfield 46, 3) := by decide +kernel
theorem d_X12_goes_14 : decode (gw_mC M_X12_goes) 14 = .ok (.iload_n 1, 1) := by decide +kernel
theorem d_X12_goes_15 : decode (gw_mC M_X12_goes) 15 = .ok (.iaload, 1) := by decide +kernel
theorem d_X12_goes_16 : decode (gw_mC M_X12_goes) 16 = .ok (.ifCond .le 14, 3) := by decide +kernel
theorem d_X12_goes_19 : decode (gw_mC M_X12_goes) 19 = .ok (.aload_n 0, 1) := by decide +kernel
theorem d_X12_goes_20 : decode (gw_mC M_X12_goes) 20 = .ok (.getfield 46, 3) := by decide +kernel
theorem d_X12_goes_23 : decode (gw_mC M_X12_goes) 23 = .ok (.iload_n 1, 1) := by decide +kernel
theorem d_X12_goes_24 : decode (gw_mC M_X12_goes) 24 = .ok (.dup2, 1) := by decide +kernel
theorem d_X12_goes_25 : decode (gw_mC M_X12_goes) 25 = .ok (.iaload, 1) := by decide +kernel
theorem d_X12_goes_26 : decode (gw_mC M_X12_goes) 26 = .ok (.iconst 1, 1) := by decide +kernel
theorem d_X12_goes_27 : decode (gw_mC M_X12_goes) 27 = .ok (.isub, 1) := by decide +kernel
theorem d_X12_goes_28 : decode (gw_mC M_X12_goes) 28 = .ok (.iastore, 1) := by decide +kernel
theorem d_X12_goes_29 : decode (gw_mC M_X12_goes) 29 = .ok (.return_, 1) := by decide +kernel
theorem d_X12_goes_30 : decode (gw_mC M_X12_goes) 30 = .ok (.aload_n 0, 1) := by decide +kernel
theorem d_X12_goes_31 : decode (gw_mC M_X12_goes) 31 = .ok (.getfield 25, 3) := by decide +kernel
theorem d_X12_goes_34 : decode (gw_mC M_X12_goes) 34 = .ok (.iload_n 1, 1) := by decide +kernel
theorem d_X12_goes_35 : decode (gw_mC M_X12_goes) 35 = .ok (.iaload, 1) := by decide +kernel
theorem d_X12_goes_36 : decode (gw_mC M_X12_goes) 36 = .ok (.iconst 2, 1) := by decide +kernel
theorem d_X12_goes_37 : decode (gw_mC M_X12_goes) 37 = .ok (.if_icmp .ne 11, 3) := by decide +kernel
theorem d_X12_goes_40 : decode (gw_mC M_X12_goes) 40 = .ok (.iload_n 2, 1) := by decide +kernel
theorem d_X12_goes_41 : decode (gw_mC M_X12_goes) 41 = .ok (.iconst 2, 1) := by decide +kernel
theorem d_X12_goes_42 : decode (gw_mC M_X12_goes) 42 = .ok (.irem, 1) := by decide +kernel
theorem d_X12_goes_43 : decode (gw_mC M_X12_goes) 43 = .ok (.iconst 1, 1) := by decide +kernel
theorem d_X12_goes_44 : decode (gw_mC M_X12_goes) 44 = .ok (.if_icmp .ne 4, 3) := by decide +kernel
theorem d_X12_goes_47 : decode (gw_mC M_X12_goes) 47 = .ok (.return_, 1) := by decide +kernel
theorem d_X12_goes_48 : decode (gw_mC M_X12_goes) 48 = .ok (.iconst 0, 1) := by decide +kernel
theorem d_X12_goes_49 : decode (gw_mC M_X12_goes) 49 = .ok (.istore_n 3, 1) := by decide +kernel
theorem d_X12_goes_50 : decode (gw_mC M_X12_goes) 50 = .ok (.iload_n 3, 1) := by decide +kernel
theorem d_X12_goes_51 : decode (gw_mC M_X12_goes) 51 = .ok (.aload_n 0, 1) := by decide +kernel
theorem d_X12_goes_52 : decode (gw_mC M_X12_goes) 52 = .ok (.getfield 28, 3) := by decide +kernel
theorem d_X12_goes_55 : decode (gw_mC M_X12_goes) 55 = .ok (.iload_n 1, 1) := by decide +kernel
theorem d_X12_goes_56 : decode (gw_mC M_X12_goes) 56 = .ok (.iaload, 1) := by decide +kernel
theorem d_X12_goes_57 : decode (gw_mC M_X12_goes) 57 = .ok (.if_icmp .ge 155, 3) := by decide +kernel
theorem d_X12_goes_60 : decode (gw_mC M_X12_goes) 60 = .ok (.aload_n 0, 1) := by decide +kernel
theorem d_X12_goes_61 : decode (gw_mC M_X12_goes) 61 = .ok (.getfield 43, 3) := by decide +kernel
theorem d_X12_goes_64 : decode (gw_mC M_X12_goes) 64 = .ok (.iload_n 1, 1) := by decide +kernel
theorem d_X12_goes_65 : decode (gw_mC M_X12_goes) 65 = .ok (.iaload, 1) := by decide +kernel
theorem d_X12_goes_66 : decode (gw_mC M_X12_goes) 66 = .ok (.aload_n 0, 1) := by decide +kernel
theorem d_X12_goes_67 : decode (gw_mC M_X12_goes) 67 = .ok (.getfield 199, 3) := by decide +kernel
theorem d_X12_goes_70 : decode (gw_mC M_X12_goes) 70 = .ok (.if_icmp .ge 41, 3) := by decide +kernel
theorem d_X12_goes_73 : decode (gw_mC M_X12_goes) 73 = .ok (.aload_n 0, 1) := by decide +kernel
theorem d_X12_goes_74 : decode (gw_mC M_X12_goes) 74 = .ok (.aload_n 0, 1) := by decide +kernel
theorem d_X12_goes_75 : decode (gw_mC M_X12_goes) 75 = .ok (.getfield 43, 3) := by decide +kernel
theorem d_X12_goes_78 : decode (gw_mC M_X12_goes) 78 = .ok (.iload_n 1, 1) := by decide +kernel
theorem d_X12_goes_79 : decode (gw_mC M_X12_goes) 79 = .ok (.iaload, 1) := by decide +kernel
theorem d_X12_goes_80 : decode (gw_mC M_X12_goes) 80 = .ok (.iload_n 2, 1) := by decide +kernel
theorem d_X12_goes_81 : decode (gw_mC M_X12_goes) 81 = .ok (.invokevirtual 233, 3) := by decide +kernel
theorem d_X12_goes_84 : decode (gw_mC M_X12_goes) 84 = .ok (.ifCond .ne 27, 3) := by decide +kernel
theorem d_X12_goes_87 : decode (gw_mC M_X12_goes) 87 = .ok (.aload_n 0, 1) := by decide +kernel
theorem d_X12_goes_88 : decode (gw_mC M_X12_goes) 88 = .ok (.getfield 25, 3) := by decide +kernel
theorem d_X12_goes_91 : decode (gw_mC M_X12_goes) 91 = .ok (.iload_n 1, 1) := by decide +kernel
theorem d_X12_goes_92 : decode (gw_mC M_X12_goes) 92 = .ok (.iaload, 1) := by decide +kernel
theorem d_X12_goes_93 : decode (gw_mC M_X12_goes) 93 = .ok (.iconst 3, 1) := by decide +kernel
theorem d_X12_goes_94 : decode (gw_mC M_X12_goes) 94 = .ok (.if_icmp .ne 18, 3) := by decide +kernel
theorem d_X12_goes_97 : decode (gw_mC M_X12_goes) 97 = .ok (.aload_n 0, 1) := by decide +kernel
theorem d_X12_goes_98 : decode (gw_mC M_X12_goes) 98 = .ok (.getfield 43, 3) := by decide +kernel
theorem d_X12_goes_101 : decode (gw_mC M_X12_goes) 101 = .ok (.iload_n 1, 1) := by decide +kernel
theorem d_X12_goes_102 : decode (gw_mC M_X12_goes) 102 = .ok (.iaload, 1) := by decide +kernel
theorem d_X12_goes_103 : decode (gw_mC M_X12_goes) 103 = .ok (.aload_n 0, 1) := by decide +kernel
theorem d_X12_goes_104 : decode (gw_mC M_X12_goes) 104 = .ok (.iload_n 1, 1) := by decide +kernel
theorem d_X12_goes_105 : decode (gw_mC M_X12_goes) 105 = .ok (.invokevirtual 239, 3) := by decide +kernel
theorem d_X12_goes_108 : decode (gw_mC M_X12_goes) 108 = .ok (.if_icmp .lt 4, 3) := by decide +kernel
theorem d_X12_goes_111 : decode (gw_mC M_X12_goes) 111 = .ok (.return_, 1) := by decide +kernel
theorem d_X12_goes_112 : decode (gw_mC M_X12_goes) 112 = .ok (.aload_n 0, 1) := by decide +kernel
theorem d_X12_goes_113 : decode (gw_mC M_X12_goes) 113 = .ok (.iload_n 1, 1) := by decide +kernel
theorem d_X12_goes_114 : decode (gw_mC M_X12_goes) 114 = .ok (.invokevirtual 243, 3) := by decide +kernel
theorem d_X12_goes_117 : decode (gw_mC M_X12_goes) 117 = .ok (.ifCond .eq 16, 3) := by decide +kernel
theorem d_X12_goes_120 : decode (gw_mC M_X12_goes) 120 = .ok (.aload_n 0, 1) := by decide +kernel
theorem d_X12_goes_121 : decode (gw_mC M_X12_goes) 121 = .ok (.getfield 49, 3) := by decide +kernel
theorem d_X12_goes_124 : decode (gw_mC M_X12_goes) 124 = .ok (.iload_n 1, 1) := by decide +kernel
theorem d_X12_goes_125 : decode (gw_mC M_X12_goes) 125 = .ok (.aload_n 0, 1) := by decide +kernel
theorem d_X12_goes_126 : decode (gw_mC M_X12_goes) 126 = .ok (.getfield 43, 3) := by decide +kernel
theorem d_X12_goes_129 : decode (gw_mC M_X12_goes) 129 = .ok (.iload_n 1, 1) := by decide +kernel
theorem d_X12_goes_130 : decode (gw_mC M_X12_goes) 130 = .ok (.iaload, 1) := by decide +kernel
theorem d_X12_goes_131 : decode (gw_mC M_X12_goes) 131 = .ok (.iastore, 1) := by decide +kernel
theorem d_X12_goes_132 : decode (gw_mC M_X12_goes) 132 = .ok (.return_, 1) := by decide +kernel
theorem d_X12_goes_133 : decode (gw_mC M_X12_goes) 133 = .ok (.aload_n 0, 1) := by decide +kernel
theorem d_X12_goes_134 : decode (gw_mC M_X12_goes) 134 = .ok (.getfield 43, 3) := by decide +kernel
theorem d_X12_goes_137 : decode (gw_mC M_X12_goes) 137 = .ok (.iload_n 1, 1) := by decide +kernel
theorem d_X12_goes_138 : decode (gw_mC M_X12_goes) 138 = .ok (.dup2, 1) := by decide +kernel
theorem d_X12_goes_139 : decode (gw_mC M_X12_goes) 139 = .ok (.iaload, 1) := by decide +kernel
theorem d_X12_goes_140 : decode (gw_mC M_X12_goes) 140 = .ok (.iconst 1, 1) := by decide +kernel
theorem d_X12_goes_141 : decode (gw_mC M_X12_goes) 141 = .ok (.iadd, 1) := by decide +kernel
theorem d_X12_goes_142 : decode (gw_mC M_X12_goes) 142 = .ok (.iastore, 1) := by decide +kernel
theorem d_X12_goes_143 : decode (gw_mC M_X12_goes) 143 = .ok (.aload_n 0, 1) := by decide +kernel
theorem d_X12_goes_144 : decode (gw_mC M_X12_goes) 144 = .ok (.getfield 25, 3) := by decide +kernel
theorem d_X12_goes_147 : decode (gw_mC M_X12_goes) 147 = .ok (.iload_n 1, 1) := by decide +kernel
theorem d_X12_goes_148 : decode (gw_mC M_X12_goes) 148 = .ok (.iaload, 1) := by decide +kernel
theorem d_X12_goes_149 : decode (gw_mC M_X12_goes) 149 = .ok (.iconst 1, 1) := by decide +kernel
theorem d_X12_goes_150 : decode (gw_mC M_X12_goes) 150 = .ok (.if_icmp .ne 30, 3) := by decide +kernel
theorem d_X12_goes_153 : decode (gw_mC M_X12_goes) 153 = .ok (.aload_n 0, 1) := by decide +kernel
theorem d_X12_goes_154 : decode (gw_mC M_X12_goes) 154 = .ok (.getfield 43, 3) := by decide +kernel
theorem d_X12_goes_157 : decode (gw_mC M_X12_goes) 157 = .ok (.iload_n 1, 1) := by decide +kernel
theorem d_X12_goes_158 : decode (gw_mC M_X12_goes) 158 = .ok (.iaload, 1) := by decide +kernel
theorem d_X12_goes_159 : decode (gw_mC M_X12_goes) 159 = .ok (.aload_n 0, 1) := by decide +kernel
theorem d_X12_goes_160 : decode (gw_mC M_X12_goes) 160 = .ok (.getfield 88, 3) := by decide +kernel
theorem d_X12_goes_163 : decode (gw_mC M_X12_goes) 163 = .ok (.if_icmp .ge 17, 3) := by decide +kernel
theorem d_X12_goes_166 : decode (gw_mC M_X12_goes) 166 = .ok (.aload_n 0, 1) := by decide +kernel
theorem d_X12_goes_167 : decode (gw_mC M_X12_goes) 167 = .ok (.iconst 2, 1) := by decide +kernel
theorem d_X12_goes_168 : decode (gw_mC M_X12_goes) 168 = .ok (.aload_n 0, 1) := by decide +kernel
theorem d_X12_goes_169 : decode (gw_mC M_X12_goes) 169 = .ok (.getfield 43, 3) := by decide +kernel
theorem d_X12_goes_172 : decode (gw_mC M_X12_goes) 172 = .ok (.iload_n 1, 1) := by decide +kernel
theorem d_X12_goes_173 : decode (gw_mC M_X12_goes) 173 = .ok (.iaload, 1) := by decide +kernel
theorem d_X12_goes_174 : decode (gw_mC M_X12_goes) 174 = .ok (.invokevirtual 112, 3) := by decide +kernel
theorem d_X12_goes_177 : decode (gw_mC M_X12_goes) 177 = .ok (.goto 5, 3) := by decide +kernel
theorem d_X12_goes_180 : decode (gw_mC M_X12_goes) 180 = .ok (.bipush (-4), 2) := by decide +kernel
theorem d_X12_goes_182 : decode (gw_mC M_X12_goes) 182 = .ok (.istore 4, 2) := by decide +kernel
theorem d_X12_goes_184 : decode (gw_mC M_X12_goes) 184 = .ok (.iload 4, 2) := by decide +kernel
theorem d_X12_goes_186 : decode (gw_mC M_X12_goes) 186 = .ok (.ifCond .lt 20, 3) := by decide +kernel
theorem d_X12_goes_189 : decode (gw_mC M_X12_goes) 189 = .ok (.aload_n 0, 1) := by decide +kernel
theorem d_X12_goes_190 : decode (gw_mC M_X12_goes) 190 = .ok (.getfield 46, 3) := by decide +kernel
theorem d_X12_goes_193 : decode (gw_mC M_X12_goes) 193 = .ok (.iload_n 1, 1) := by decide +kernel
theorem d_X12_goes_194 : decode (gw_mC M_X12_goes) 194 = .ok (.aload_n 0, 1) := by decide +kernel
