theorem d_X10_isToBegin_26 : decode (gw_mC M_X10_isToBegin) 26 = .ok (.getfield 36, 3) := by decide +kernel
theorem d_X10_isToBegin_29 : decode (gw_mC M_X10_isToBegin) 29 = .ok (.aload_n 0, 1) := by decide +kernel
theorem d_X10_isToBegin_30 : decode (gw_mC M_X10_isToBegin) 30 = .ok (.getfield 55, 3) := by decide +kernel
theorem d_X10_isToBegin_33 : decode (gw_mC M_X10_isToBegin) 33 = .ok (.iload_n 2, 1) := by decide +kernel
theorem d_X10_isToBegin_34 : decode (gw_mC M_X10_isToBegin) 34 = .ok (.iaload, 1) := by decide +kernel
theorem d_X10_isToBegin_35 : decode (gw_mC M_X10_isToBegin) 35 = .ok (.isub, 1) := by decide +kernel
theorem d_X10_isToBegin_36 : decode (gw_mC M_X10_isToBegin) 36 = .ok (.aload_n 0, 1) := by decide +kernel
theorem d_X10_isToBegin_37 : decode (gw_mC M_X10_isToBegin) 37 = .ok (.getfield 25, 3) := by decide +kernel
theorem d_X10_isToBegin_40 : decode (gw_mC M_X10_isToBegin) 40 = .ok (.iconst 4, 1) := by decide +kernel
theorem d_X10_isToBegin_41 : decode (gw_mC M_X10_isToBegin) 41 = .ok (.iaload, 1) := by decide +kernel
theorem d_X10_isToBegin_42 : decode (gw_mC M_X10_isToBegin) 42 = .ok (.if_icmp .gt 7, 3) := by decide +kernel
theorem d_X10_isToBegin_45 : decode (gw_mC M_X10_isToBegin) 45 = .ok (.iconst 1, 1) := by decide +kernel
theorem d_X10_isToBegin_46 : decode (gw_mC M_X10_isToBegin) 46 = .ok (.goto 4, 3) := by decide +kernel
theorem d_X10_isToBegin_49 : decode (gw_mC M_X10_isToBegin) 49 = .ok (.iconst 0, 1) := by decide +kernel
theorem d_X10_isToBegin_50 : decode (gw_mC M_X10_isToBegin) 50 = .ok (.iadd, 1) := by decide +kernel
theorem d_X10_isToBegin_51 : decode (gw_mC M_X10_isToBegin) 51 = .ok (.istore_n 1, 1) := by decide +kernel
theorem d_X10_isToBegin_52 : decode (gw_mC M_X10_isToBegin) 52 = .ok (.iinc 2 1, 3) := by decide +kernel
theorem d_X10_isToBegin_55 : decode (gw_mC M_X10_isToBegin) 55 = .ok (.goto (-51), 3) := by decide +kernel
theorem d_X10_isToBegin_58 : decode (gw_mC M_X10_isToBegin) 58 = .ok (.iload_n 1, 1) := by decide +kernel
theorem d_X10_isToBegin_59 : decode (gw_mC M_X10_isToBegin) 59 = .ok (.aload_n 0, 1) := by decide +kernel
theorem d_X10_isToBegin_60 : decode (gw_mC M_X10_isToBegin) 60 = .ok (.getfield 25, 3) := by decide +kernel
theorem d_X10_isToBegin_63 : decode (gw_mC M_X10_isToBegin) 63 = .ok (.iconst 1, 1) := by decide +kernel
theorem d_X10_isToBegin_64 : decode (gw_mC M_X10_isToBegin) 64 = .ok (.iaload, 1) := by decide +kernel
theorem d_X10_isToBegin_65 : decode (gw_mC M_X10_isToBegin) 65 = .ok (.if_icmp .ge 35, 3) := by decide +kernel
theorem d_X10_isToBegin_68 : decode (gw_mC M_X10_isToBegin) 68 = .ok (.iload_n 1, 1) := by decide +kernel
theorem d_X10_isToBegin_69 : decode (gw_mC M_X10_isToBegin) 69 = .ok (.aload_n 0, 1) := by decide +kernel
theorem d_X10_isToBegin_70 : decode (gw_mC M_X10_isToBegin) 70 = .ok (.getfield 21, 3) := by decide +kernel
theorem d_X10_isToBegin_73 : decode (gw_mC M_X10_isToBegin) 73 = .ok (.getfield 105, 3) := by decide +kernel
theorem d_X10_isToBegin_76 : decode (gw_mC M_X10_isToBegin) 76 = .ok (.aload_n 0, 1) := by decide +kernel
theorem d_X10_isToBegin_77 : decode (gw_mC M_X10_isToBegin) 77 = .ok (.getfield 49, 3) := by decide +kernel
theorem d_X10_isToBegin_80 : decode (gw_mC M_X10_isToBegin) 80 = .ok (.isub, 1) := by decide +kernel
theorem d_X10_isToBegin_81 : decode (gw_mC M_X10_isToBegin) 81 = .ok (.if_icmp .eq 19, 3) := by decide +kernel
theorem d_X10_isToBegin_84 : decode (gw_mC M_X10_isToBegin) 84 = .ok (.aload_n 0, 1) := by decide +kernel
theorem d_X10_isToBegin_85 : decode (gw_mC M_X10_isToBegin) 85 = .ok (.getfield 32, 3) := by decide +kernel
theorem d_X10_isToBegin_88 : decode (gw_mC M_X10_isToBegin) 88 = .ok (.getfield 144, 3) := by decide +kernel
theorem d_X10_isToBegin_91 : decode (gw_mC M_X10_isToBegin) 91 = .ok (.aload_n 0, 1) := by decide +kernel
theorem d_X10_isToBegin_92 : decode (gw_mC M_X10_isToBegin) 92 = .ok (.getfield 25, 3) := by decide +kernel
theorem d_X10_isToBegin_95 : decode (gw_mC M_X10_isToBegin) 95 = .ok (.iconst 3, 1) := by decide +kernel
theorem d_X10_isToBegin_96 : decode (gw_mC M_X10_isToBegin) 96 = .ok (.iaload, 1) := by decide +kernel
theorem d_X10_isToBegin_97 : decode (gw_mC M_X10_isToBegin) 97 = .ok (.if_icmp .lt 7, 3) := by decide +kernel
theorem d_X10_isToBegin_100 : decode (gw_mC M_X10_isToBegin) 100 = .ok (.iconst 1, 1) := by decide +kernel
theorem d_X10_isToBegin_101 : decode (gw_mC M_X10_isToBegin) 101 = .ok (.goto 4, 3) := by decide +kernel
theorem d_X10_isToBegin_104 : decode (gw_mC M_X10_isToBegin) 104 = .ok (.iconst 0, 1) := by decide +kernel
theorem d_X10_isToBegin_105 : decode (gw_mC M_X10_isToBegin) 105 = .ok (.ireturn, 1) := by decide +kernel
theorem d_X10_speak_0 : decode (gw_mC M_X10_speak) 0 = .ok (.iconst 0, 1) := by decide +kernel
theorem d_X10_speak_1 : decode (gw_mC M_X10_speak) 1 = .ok (.istore_n 1, 1) := by decide +kernel
theorem d_X10_speak_2 : decode (gw_mC M_X10_speak) 2 = .ok (.iload_n 1, 1) := by decide +kernel
theorem d_X10_speak_3 : decode (gw_mC M_X10_speak) 3 = .ok (.aload_n 0, 1) := by decide +kernel
theorem d_X10_speak_4 : decode (gw_mC M_X10_speak) 4 = .ok (.getfield 21, 3) := by decide +kernel
theorem d_X10_speak_7 : decode (gw_mC M_X10_speak) 7 = .ok (.getfield 105, 3) := by decide +kernel
theorem d_X10_speak_10 : decode (gw_mC M_X10_speak) 10 = .ok (.if_icmp .ge 77, 3) := by decide +kernel
theorem d_X10_speak_13 : decode (gw_mC M_X10_speak) 13 = .ok (.aload_n 0, 1) := by decide +kernel
theorem d_X10_speak_14 : decode (gw_mC M_X10_speak) 14 = .ok (.getfield 21, 3) := by decide +kernel
theorem d_X10_speak_17 : decode (gw_mC M_X10_speak) 17 = .ok (.getfield 159, 3) := by decide +kernel
theorem d_X10_speak_20 : decode (gw_mC M_X10_speak) 20 = .ok (.iload_n 1, 1) := by decide +kernel
theorem d_X10_speak_21 : decode (gw_mC M_X10_speak) 21 = .ok (.baload, 1) := by decide +kernel
theorem d_X10_speak_22 : decode (gw_mC M_X10_speak) 22 = .ok (.ifCond .eq 14, 3) := by decide +kernel
theorem d_X10_speak_25 : decode (gw_mC M_X10_speak) 25 = .ok (.iconst 3, 1) := by decide +kernel
theorem d_X10_speak_26 : decode (gw_mC M_X10_speak) 26 = .ok (.aload_n 0, 1) := by decide +kernel
theorem d_X10_speak_27 : decode (gw_mC M_X10_speak) 27 = .ok (.getfield 25, 3) := by decide +kernel
theorem d_X10_speak_30 : decode (gw_mC M_X10_speak) 30 = .ok (.iconst 4, 1) := by decide +kernel
theorem d_X10_speak_31 : decode (gw_mC M_X10_speak) 31 = .ok (.iaload, 1) := by decide +kernel
theorem d_X10_speak_32 : decode (gw_mC M_X10_speak) 32 = .ok (.imul, 1) := by decide +kernel
theorem d_X10_speak_33 : decode (gw_mC M_X10_speak) 33 = .ok (.goto 9, 3) := by decide +kernel
theorem d_X10_speak_36 : decode (gw_mC M_X10_speak) 36 = .ok (.aload_n 0, 1) := by decide +kernel
theorem d_X10_speak_37 : decode (gw_mC M_X10_speak) 37 = .ok (.getfield 25, 3) := by decide +kernel
theorem d_X10_speak_40 : decode (gw_mC M_X10_speak) 40 = .ok (.iconst 4, 1) := by decide +kernel
theorem d_X10_speak_41 : decode (gw_mC M_X10_speak) 41 = .ok (.iaload, 1) := by decide +kernel
theorem d_X10_speak_42 : decode (gw_mC M_X10_speak) 42 = .ok (.istore_n 2, 1) := by decide +kernel
theorem d_X10_speak_43 : decode (gw_mC M_X10_speak) 43 = .ok (.aload_n 0, 1) := by decide +kernel
theorem d_X10_speak_44 : decode (gw_mC M_X10_speak) 44 = .ok (.getfield 61, 3) := by decide +kernel
theorem d_X10_speak_47 : decode (gw_mC M_X10_speak) 47 = .ok (.iload_n 1, 1) := by decide +kernel
theorem d_X10_speak_48 : decode (gw_mC M_X10_speak) 48 = .ok (.dup2, 1) := by decide +kernel
theorem d_X10_speak_49 : decode (gw_mC M_X10_speak) 49 = .ok (.iaload, 1) := by decide +kernel
theorem d_X10_speak_50 : decode (gw_mC M_X10_speak) 50 = .ok (.aload_n 0, 1) := by decide +kernel
theorem d_X10_speak_51 : decode (gw_mC M_X10_speak) 51 = .ok (.getfield 70, 3) := by decide +kernel
theorem d_X10_speak_54 : decode (gw_mC M_X10_speak) 54 = .ok (.iload_n 1, 1) := by decide +kernel
theorem d_X10_speak_55 : decode (gw_mC M_X10_speak) 55 = .ok (.iaload, 1) := by decide +kernel
theorem d_X10_speak_56 : decode (gw_mC M_X10_speak) 56 = .ok (.ifCond .ge 22, 3) := by decide +kernel
theorem d_X10_speak_59 : decode (gw_mC M_X10_speak) 59 = .ok (.aload_n 0, 1) := by decide +kernel
theorem d_X10_speak_60 : decode (gw_mC M_X10_speak) 60 = .ok (.getfield 36, 3) := by decide +kernel
theorem d_X10_speak_63 : decode (gw_mC M_X10_speak) 63 = .ok (.aload_n 0, 1) := by decide +kernel
theorem d_X10_speak_64 : decode (gw_mC M_X10_speak) 64 = .ok (.getfield 55, 3) := by decide +kernel
theorem d_X10_speak_67 : decode (gw_mC M_X10_speak) 67 = .ok (.iload_n 1, 1) := by decide +kernel
theorem d_X10_speak_68 : decode (gw_mC M_X10_speak) 68 = .ok (.iaload, 1) := by decide +kernel
theorem d_X10_speak_69 : decode (gw_mC M_X10_speak) 69 = .ok (.isub, 1) := by decide +kernel
theorem d_X10_speak_70 : decode (gw_mC M_X10_speak) 70 = .ok (.iload_n 2, 1) := by decide +kernel
theorem d_X10_speak_71 : decode (gw_mC M_X10_speak) 71 = .ok (.if_icmp .gt 7, 3) := by decide +kernel
theorem d_X10_speak_74 : decode (gw_mC M_X10_speak) 74 = .ok (.iconst 1, 1) := by decide +kernel
theorem d_X10_speak_75 : decode (gw_mC M_X10_speak) 75 = .ok (.goto 4, 3) := by decide +kernel
theorem d_X10_speak_78 : decode (gw_mC M_X10_speak) 78 = .ok (.iconst 0, 1) := by decide +kernel
theorem d_X10_speak_79 : decode (gw_mC M_X10_speak) 79 = .ok (.iadd, 1) := by decide +kernel
theorem d_X10_speak_80 : decode (gw_mC M_X10_speak) 80 = .ok (.iastore, 1) := by decide +kernel
theorem d_X10_speak_81 : decode (gw_mC M_X10_speak) 81 = .ok (.iinc 1 1, 3) := by decide +kernel
theorem d_X10_speak_84 : decode (gw_mC M_X10_speak) 84 = .ok (.goto (-82), 3) := by decide +kernel
theorem d_X10_speak_87 : decode (gw_mC M_X10_speak) 87 = .ok (.return_, 1) := by decide +kernel
theorem d_X10_follow_0 : decode (gw_mC M_X10_follow) 0 = .ok (.aload_n 0, 1) := by decide +kernel
theorem d_X10_follow_1 : decode (gw_mC M_X10_follow) 1 = .ok (.getfield 58, 3) := by decide +kernel
theorem d_X10_follow_4 : decode (gw_mC M_X10_follow) 4 = .ok (.iload_n 1, 1) := by decide +kernel
theorem d_X10_follow_5 : decode (gw_mC M_X10_follow) 5 = .ok (.iaload, 1) := by decide +kernel
theorem d_X10_follow_6 : decode (gw_mC M_X10_follow) 6 = .ok (.ifCond .le 14, 3) := by decide +kernel
theorem d_X10_follow_9 : decode (gw_mC M_X10_follow) 9 = .ok (.aload_n 0, 1) := by decide +kernel
theorem d_X10_follow_10 : decode (gw_mC M_X10_follow) 10 = .ok (.getfield 58, 3) := by decide +kernel
theorem d_X10_follow_13 : decode (gw_mC M_X10_follow) 13 = .ok (.iload_n 1, 1) := by decide +kernel
theorem d_X10_follow_14 : decode (gw_mC M_X10_follow) 14 = .ok (.dup2, 1) := by decide +kernel
theorem d_X10_follow_15 : decode (gw_mC M_X10_follow) 15 = .ok (.iaload, 1) := by decide +kernel
theorem d_X10_follow_16 : decode (gw_mC M_X10_follow) 16 = .ok (.iconst 1, 1) := by decide +kernel
theorem d_X10_follow_17 : decode (gw_mC M_X10_follow) 17 = .ok (.isub, 1) := by decide +kernel
theorem d_X10_follow_18 : decode (gw_mC M_X10_follow) 18 = .ok (.iastore, 1) := by decide +kernel
theorem d_X10_follow_19 : decode (gw_mC M_X10_follow) 19 = .ok (.return_, 1) := by decide +kernel
theorem d_X10_follow_20 : decode (gw_mC M_X10_follow) 20 = .ok (.aload_n 0, 1) := by decide +kernel
theorem d_X10_follow_21 : decode (gw_mC M_X10_follow) 21 = .ok (.getfield 21, 3) := by decide +kernel
theorem d_X10_follow_24 : decode (gw_mC M_X10_follow) 24 = .ok (.getfield 163, 3) := by decide +kernel
theorem d_X10_follow_27 : decode (gw_mC M_X10_follow) 27 = .ok (.iload_n 1, 1) := by decide +kernel
theorem d_X10_follow_28 : decode (gw_mC M_X10_follow) 28 = .ok (.iaload, 1) := by decide +kernel
theorem d_X10_follow_29 : decode (gw_mC M_X10_follow) 29 = .ok (.istore_n 3, 1) := by decide +kernel
theorem d_X10_follow_30 : decode (gw_mC M_X10_follow) 30 = .ok (.iload_n 3, 1) := by decide +kernel
theorem d_X10_follow_31 : decode (gw_mC M_X10_follow) 31 = .ok (.iconst 2, 1) := by decide +kernel
theorem d_X10_follow_32 : decode (gw_mC M_X10_follow) 32 = .ok (.if_icmp .ne 11, 3) := by decide +kernel
theorem d_X10_follow_35 : decode (gw_mC M_X10_follow) 35 = .ok (.iload_n 2, 1) := by decide +kernel
theorem d_X10_follow_36 : decode (gw_mC M_X10_follow) 36 = .ok (.iconst 2, 1) := by decide +kernel
theorem d_X10_follow_37 : decode (gw_mC M_X10_follow) 37 = .ok (.irem, 1) := by decide +kernel
theorem d_X10_follow_38 : decode (gw_mC M_X10_follow) 38 = .ok (.iconst 1, 1) := by decide +kernel
theorem d_X10_follow_39 : decode (gw_mC M_X10_follow) 39 = .ok (.if_icmp .ne 4, 3) := by decide +kernel
theorem d_X10_follow_42 : decode (gw_mC M_X10_follow) 42 = .ok (.return_, 1) := by decide +kernel
theorem d_X10_follow_43 : decode (gw_mC M_X10_follow) 43 = .ok (.iload_n 3, 1) := by decide +kernel
theorem d_X10_follow_44 : decode (gw_mC M_X10_follow) 44 = .ok (.iconst 3, 1) := by decide +kernel
theorem d_X10_follow_45 : decode (gw_mC M_X10_follow) 45 = .ok (.if_icmp .ne 18, 3) := by decide +kernel
theorem d_X10_follow_48 : decode (gw_mC M_X10_follow) 48 = .ok (.aload_n 0, 1) := by decide +kernel
theorem d_X10_follow_49 : decode (gw_mC M_X10_follow) 49 = .ok (.getfield 36, 3) := by decide +kernel
theorem d_X10_follow_52 : decode (gw_mC M_X10_follow) 52 = .ok (.aload_n 0, 1) := by decide +kernel
theorem d_X10_follow_53 : decode (gw_mC M_X10_follow) 53 = .ok (.iload_n 1, 1) := by decide +kernel
theorem d_X10_follow_54 : decode (gw_mC M_X10_follow) 54 = .ok (.invokevirtual 166, 3) := by decide +kernel
theorem d_X10_follow_57 : decode (gw_mC M_X10_follow) 57 = .ok (.invokestatic 170, 3) := by decide +kernel
theorem d_X10_follow_60 : decode (gw_mC M_X10_follow) 60 = .ok (.goto 7, 3) := by decide +kernel
theorem d_X10_follow_63 : decode (gw_mC M_X10_follow) 63 = .ok (.aload_n 0, 1) := by decide +kernel
theorem d_X10_follow_64 : decode (gw_mC M_X10_follow) 64 = .ok (.getfield 36, 3) := by decide +kernel
theorem d_X10_follow_67 : decode (gw_mC M_X10_follow) 67 = .ok (.istore 4, 2) := by decide +kernel
theorem d_X10_follow_69 : decode (gw_mC M_X10_follow) 69 = .ok (.iconst 0, 1) := by decide +kernel
theorem d_X10_follow_70 : decode (gw_mC M_X10_follow) 70 = .ok (.istore 5, 2) := by decide +kernel
theorem d_X10_follow_72 : decode (gw_mC M_X10_follow) 72 = .ok (.iload 5, 2) := by decide +kernel
theorem d_X10_follow_74 : decode (gw_mC M_X10_follow) 74 = .ok (.aload_n 0, 1) := by decide +kernel
theorem d_X10_follow_75 : decode (gw_mC M_X10_follow) 75 = .ok (.getfield 21, 3) := by decide +kernel
theorem d_X10_follow_78 : decode (gw_mC M_X10_follow) 78 = .ok (.getfield 176, 3) := by decide +kernel
theorem d_X10_follow_81 : decode (gw_mC M_X10_follow) 81 = .ok (.iload_n 1, 1) := by decide +kernel
theorem d_X10_follow_82 : decode (gw_mC M_X10_follow) 82 = .ok (.iaload, 1) := by decide +kernel
theorem d_X10_follow_83 : decode (gw_mC M_X10_follow) 83 = .ok (.if_icmp .ge 114, 3) := by decide +kernel
theorem d_X10_follow_86 : decode (gw_mC M_X10_follow) 86 = .ok (.aload_n 0, 1) := by decide +kernel
theorem d_X10_follow_87 : decode (gw_mC M_X10_follow) 87 = .ok (.getfield 55, 3) := by decide +kernel
theorem d_X10_follow_90 : decode (gw_mC M_X10_follow) 90 = .ok (.iload_n 1, 1) := by decide +kernel
theorem d_X10_follow_91 : decode (gw_mC M_X10_follow) 91 = .ok (.iaload, 1) := by decide +kernel
theorem d_X10_follow_92 : decode (gw_mC M_X10_follow) 92 = .ok (.istore 6, 2) := by decide +kernel
theorem d_X10_follow_94 : decode (gw_mC M_X10_follow) 94 = .ok (.iload 6, 2) := by decide +kernel
theorem d_X10_follow_96 : decode (gw_mC M_X10_follow) 96 = .ok (.iload 4, 2) := by decide +kernel
theorem d_X10_follow_98 : decode (gw_mC M_X10_follow) 98 = .ok (.if_icmp .ge 16, 3) := by decide +kernel
theorem d_X10_follow_101 : decode (gw_mC M_X10_follow) 101 = .ok (.aload_n 0, 1) := by decide +kernel
theorem d_X10_follow_102 : decode (gw_mC M_X10_follow) 102 = .ok (.getfield 12, 3) := by decide +kernel
theorem d_X10_follow_105 : decode (gw_mC M_X10_follow) 105 = .ok (.iload 6, 2) := by decide +kernel
theorem d_X10_follow_107 : decode (gw_mC M_X10_follow) 107 = .ok (.iload_n 2, 1) := by decide +kernel
theorem d_X10_follow_108 : decode (gw_mC M_X10_follow) 108 = .ok (.invokevirtual 127, 3) := by decide +kernel
theorem d_X10_follow_111 : decode (gw_mC M_X10_follow) 111 = .ok (.ifCond .eq 4, 3) := by decide +kernel
theorem d_X10_follow_114 : decode (gw_mC M_X10_follow) 114 = .ok (.return_, 1) := by decide +kernel
theorem d_X10_follow_115 : decode (gw_mC M_X10_follow) 115 = .ok (.aload_n 0, 1) := by decide +kernel
theorem d_X10_follow_116 : decode (gw_mC M_X10_follow) 116 = .ok (.iload_n 1, 1) := by decide +kernel
theorem d_X10_follow_117 : decode (gw_mC M_X10_follow) 117 = .ok (.invokevirtual 179, 3) := by decide +kernel
theorem d_X10_follow_120 : decode (gw_mC M_X10_follow) 120 = .ok (.ifCond .eq 22, 3) := by decide +kernel
theorem d_X10_follow_123 : decode (gw_mC M_X10_follow) 123 = .ok (.aload_n 0, 1) := by decide +kernel
theorem d_X10_follow_124 : decode (gw_mC M_X10_follow) 124 = .ok (.getfield 70, 3) := by decide +kernel
theorem d_X10_follow_127 : decode (gw_mC M_X10_follow) 127 = .ok (.iload_n 1, 1) := by decide +kernel
theorem d_X10_follow_128 : decode (gw_mC M_X10_follow) 128 = .ok (.iload 6, 2) := by decide +kernel
theorem d_X10_follow_130 : decode (gw_mC M_X10_follow) 130 = .ok (.iastore, 1) := by decide +kernel
theorem d_X10_follow_131 : decode (gw_mC M_X10_follow) 131 = .ok (.aload_n 0, 1) := by decide +kernel
theorem d_X10_follow_132 : decode (gw_mC M_X10_follow) 132 = .ok (.dup, 1) := by decide +kernel
theorem d_X10_follow_133 : decode (gw_mC M_X10_follow) 133 = .ok (.getfield 49, 3) := by decide +kernel
theorem d_X10_follow_136 : decode (gw_mC M_X10_follow) 136 = .ok (.iconst 1, 1) := by decide +kernel
theorem d_X10_follow_137 : decode (gw_mC M_X10_follow) 137 = .ok (.iadd, 1) := by decide +kernel
theorem d_X10_follow_138 : decode (gw_mC M_X10_follow) 138 = .ok (.putfield 49, 3) := by decide +kernel
theorem d_X10_follow_141 : decode (gw_mC M_X10_follow) 141 = .ok (.return_, 1) := by decide +kernel
theorem d_X10_follow_142 : decode (gw_mC M_X10_follow) 142 = .ok (.aload_n 0, 1) := by decide +kernel
theorem d_X10_follow_143 : decode (gw_mC M_X10_follow) 143 = .ok (.getfield 55, 3) := by decide +kernel
theorem d_X10_follow_146 : decode (gw_mC M_X10_follow) 146 = .ok (.iload_n 1, 1) := by decide +kernel
theorem d_X10_follow_147 : decode (gw_mC M_X10_follow) 147 = .ok (.iload 6, 2) := by decide +kernel
theorem d_X10_follow_149 : decode (gw_mC M_X10_follow) 149 = .ok (.iconst 1, 1) := by decide +kernel
theorem d_X10_follow_150 : decode (gw_mC M_X10_follow) 150 = .ok (.iadd, 1) := by decide +kernel
theorem d_X10_follow_151 : decode (gw_mC M_X10_follow) 151 = .ok (.iastore, 1) := by decide +kernel
theorem d_X10_follow_152 : decode (gw_mC M_X10_follow) 152 = .ok (.iload_n 3, 1) := by decide +kernel
theorem d_X10_follow_153 : decode (gw_mC M_X10_follow) 153 = .ok (.iconst 1, 1) := by decide +kernel
theorem d_X10_follow_154 : decode (gw_mC M_X10_follow) 154 = .ok (.if_icmp .ne 37, 3) := by decide +kernel
theorem d_X10_follow_157 : decode (gw_mC M_X10_follow) 157 = .ok (.aload_n 0, 1) := by decide +kernel
theorem d_X10_follow_158 : decode (gw_mC M_X10_follow) 158 = .ok (.getfield 12, 3) := by decide +kernel
theorem d_X10_follow_161 : decode (gw_mC M_X10_follow) 161 = .ok (.getfield 183, 3) := by decide +kernel
theorem d_X10_follow_164 : decode (gw_mC M_X10_follow) 164 = .ok (.iload 6, 2) := by decide +kernel
theorem d_X10_follow_166 : decode (gw_mC M_X10_follow) 166 = .ok (.iconst 1, 1) := by decide +kernel
theorem d_X10_follow_167 : decode (gw_mC M_X10_follow) 167 = .ok (.iadd, 1) := by decide +kernel
theorem d_X10_follow_168 : decode (gw_mC M_X10_follow) 168 = .ok (.iaload, 1) := by decide +kernel
theorem d_X10_follow_169 : decode (gw_mC M_X10_follow) 169 = .ok (.ifCond .le 22, 3) := by decide +kernel
theorem d_X10_follow_172 : decode (gw_mC M_X10_follow) 172 = .ok (.aload_n 0, 1) := by decide +kernel
theorem d_X10_follow_173 : decode (gw_mC M_X10_follow) 173 = .ok (.getfield 58, 3) := by decide +kernel
theorem d_X10_follow_176 : decode (gw_mC M_X10_follow) 176 = .ok (.iload_n 1, 1) := by decide +kernel
theorem d_X10_follow_177 : decode (gw_mC M_X10_follow) 177 = .ok (.aload_n 0, 1) := by decide +kernel
theorem d_X10_follow_178 : decode (gw_mC M_X10_follow) 178 = .ok (.getfield 12, 3) := by decide +kernel
theorem d_X10_follow_181 : decode (gw_mC M_X10_follow) 181 = .ok (.getfield 183, 3) := by decide +kernel
theorem d_X10_follow_184 : decode (gw_mC M_X10_follow) 184 = .ok (.iload 6, 2) := by decide +kernel
theorem d_X10_follow_186 : decode (gw_mC M_X10_follow) 186 = .ok (.iconst 1, 1) := by decide +kernel
theorem d_X10_follow_187 : decode (gw_mC M_X10_follow) 187 = .ok (.iadd, 1) := by decide +kernel
theorem d_X10_follow_188 : decode (gw_mC M_X10_follow) 188 = .ok (.iaload, 1) := by decide +kernel
theorem d_X10_follow_189 : decode (gw_mC M_X10_follow) 189 = .ok (.iastore, 1) := by decide +kernel
theorem d_X10_follow_190 : decode (gw_mC M_X10_follow) 190 = .ok (.return_, 1) := by decide +kernel
theorem d_X10_follow_191 : decode (gw_mC M_X10_follow) 191 = .ok (.iinc 5 1, 3) := by decide +kernel
theorem d_X10_follow_194 : decode (gw_mC M_X10_follow) 194 = .ok (.goto (-122), 3) := by decide +kernel
theorem d_X10_follow_197 : decode (gw_mC M_X10_follow) 197 = .ok (.return_, 1) := by decide +kernel
theorem d_X10_lastBeside_0 : decode (gw_mC M_X10_lastBeside) 0 = .ok (.bipush 100, 2) := by decide +kernel
theorem d_X10_lastBeside_2 : decode (gw_mC M_X10_lastBeside) 2 = .ok (.istore_n 2, 1) := by decide +kernel
theorem d_X10_lastBeside_3 : decode (gw_mC M_X10_lastBeside) 3 = .ok (.iconst 0, 1) := by decide +kernel
theorem d_X10_lastBeside_4 : decode (gw_mC M_X10_lastBeside) 4 = .ok (.istore_n 3, 1) := by decide +kernel
theorem d_X10_lastBeside_5 : decode (gw_mC M_X10_lastBeside) 5 = .ok (.iload_n 3, 1) := by decide +kernel
theorem d_X10_lastBeside_6 : decode (gw_mC M_X10_lastBeside) 6 = .ok (.aload_n 0, 1) := by decide +kernel
theorem d_X10_lastBeside_7 : decode (gw_mC M_X10_lastBeside) 7 = .ok (.getfield 21, 3) := by decide +kernel
theorem d_X10_lastBeside_10 : decode (gw_mC M_X10_lastBeside) 10 = .ok (.getfield 105, 3) := by decide +kernel
theorem d_X10_lastBeside_13 : decode (gw_mC M_X10_lastBeside) 13 = .ok (.if_icmp .ge 34, 3) := by decide +kernel
theorem d_X10_lastBeside_16 : decode (gw_mC M_X10_lastBeside) 16 = .ok (.iload_n 3, 1) := by decide +kernel
theorem d_X10_lastBeside_17 : decode (gw_mC M_X10_lastBeside) 17 = .ok (.iload_n 1, 1) := by decide +kernel
theorem d_X10_lastBeside_18 : decode (gw_mC M_X10_lastBeside) 18 = .ok (.if_icmp .eq 23, 3) := by decide +kernel
theorem d_X10_lastBeside_21 : decode (gw_mC M_X10_lastBeside) 21 = .ok (.aload_n 0, 1) := by decide +kernel
theorem d_X10_lastBeside_22 : decode (gw_mC M_X10_lastBeside) 22 = .ok (.getfield 70, 3) := by decide +kernel
theorem d_X10_lastBeside_25 : decode (gw_mC M_X10_lastBeside) 25 = .ok (.iload_n 3, 1) := by decide +kernel
theorem d_X10_lastBeside_26 : decode (gw_mC M_X10_lastBeside) 26 = .ok (.iaload, 1) := by decide +kernel
theorem d_X10_lastBeside_27 : decode (gw_mC M_X10_lastBeside) 27 = .ok (.ifCond .ge 14, 3) := by decide +kernel
theorem d_X10_lastBeside_30 : decode (gw_mC M_X10_lastBeside) 30 = .ok (.iload_n 2, 1) := by decide +kernel
theorem d_X10_lastBeside_31 : decode (gw_mC M_X10_lastBeside) 31 = .ok (.aload_n 0, 1) := by decide +kernel
theorem d_X10_lastBeside_32 : decode (gw_mC M_X10_lastBeside) 32 = .ok (.getfield 55, 3) := by decide +kernel
theorem d_X10_lastBeside_35 : decode (gw_mC M_X10_lastBeside) 35 = .ok (.iload_n 3, 1) := by decide +kernel
theorem d_X10_lastBeside_36 : decode (gw_mC M_X10_lastBeside) 36 = .ok (.iaload, 1) := by decide +kernel
theorem d_X10_lastBeside_37 : decode (gw_mC M_X10_lastBeside) 37 = .ok (.invokestatic 170, 3) := by decide +kernel
theorem d_X10_lastBeside_40 : decode (gw_mC M_X10_lastBeside) 40 = .ok (.istore_n 2, 1) := by decide +kernel
theorem d_X10_lastBeside_41 : decode (gw_mC M_X10_lastBeside) 41 = .ok (.iinc 3 1, 3) := by decide +kernel
theorem d_X10_lastBeside_44 : decode (gw_mC M_X10_lastBeside) 44 = .ok (.goto (-39), 3) := by decide +kernel
theorem d_X10_lastBeside_47 : decode (gw_mC M_X10_lastBeside) 47 = .ok (.iload_n 2, 1) := by decide +kernel
theorem d_X10_lastBeside_48 : decode (gw_mC M_X10_lastBeside) 48 = .ok (.ireturn, 1) := by decide +kernel
theorem d_X10_losesItsWay_0 : decode (gw_mC M_X10_losesItsWay) 0 = .ok (.aload_n 0, 1) := by decide +kernel
theorem d_X10_losesItsWay_1 : decode (gw_mC M_X10_losesItsWay) 1 = .ok (.getfield 55, 3) := by decide +kernel
theorem d_X10_losesItsWay_4 : decode (gw_mC M_X10_losesItsWay) 4 = .ok (.iload_n 1, 1) := by decide +kernel
theorem d_X10_losesItsWay_5 : decode (gw_mC M_X10_losesItsWay) 5 = .ok (.iaload, 1) := by decide +kernel
theorem d_X10_losesItsWay_6 : decode (gw_mC M_X10_losesItsWay) 6 = .ok (.istore_n 2, 1) := by decide +kernel
theorem d_X10_losesItsWay_7 : decode (gw_mC M_X10_losesItsWay) 7 = .ok (.aload_n 0, 1) := by decide +kernel
theorem d_X10_losesItsWay_8 : decode (gw_mC M_X10_losesItsWay) 8 = .ok (.getfield 12, 3) := by decide +kernel
theorem d_X10_losesItsWay_11 : decode (gw_mC M_X10_losesItsWay) 11 = .ok (.getfield 186, 3) := by decide +kernel
theorem d_X10_losesItsWay_14 : decode (gw_mC M_X10_losesItsWay) 14 = .ok (.iload_n 2, 1) := by decide +kernel
theorem d_X10_losesItsWay_15 : decode (gw_mC M_X10_losesItsWay) 15 = .ok (.iaload, 1) := by decide +kernel
theorem d_X10_losesItsWay_16 : decode (gw_mC M_X10_losesItsWay) 16 = .ok (.istore_n 3, 1) := by decide +kernel
theorem d_X10_losesItsWay_17 : decode (gw_mC M_X10_losesItsWay) 17 = .ok (.iload_n 3, 1) := by decide +kernel
theorem d_X10_losesItsWay_18 : decode (gw_mC M_X10_losesItsWay) 18 = .ok (.ifCond .le 45, 3) := by decide +kernel
theorem d_X10_losesItsWay_21 : decode (gw_mC M_X10_losesItsWay) 21 = .ok (.iload_n 1, 1) := by decide +kernel
theorem d_X10_losesItsWay_22 : decode (gw_mC M_X10_losesItsWay) 22 = .ok (.aload_n 0, 1) := by decide +kernel
theorem d_X10_losesItsWay_23 : decode (gw_mC M_X10_losesItsWay) 23 = .ok (.getfield 46, 3) := by decide +kernel
theorem d_X10_losesItsWay_26 : decode (gw_mC M_X10_losesItsWay) 26 = .ok (.if_icmp .eq 37, 3) := by decide +kernel
theorem d_X10_losesItsWay_29 : decode (gw_mC M_X10_losesItsWay) 29 = .ok (.aload_n 0, 1) := by decide +kernel
theorem d_X10_losesItsWay_30 : decode (gw_mC M_X10_losesItsWay) 30 = .ok (.getfield 36, 3) := by decide +kernel
theorem d_X10_losesItsWay_33 : decode (gw_mC M_X10_losesItsWay) 33 = .ok (.iload_n 2, 1) := by decide +kernel
theorem d_X10_losesItsWay_34 : decode (gw_mC M_X10_losesItsWay) 34 = .ok (.isub, 1) := by decide +kernel
theorem d_X10_losesItsWay_35 : decode (gw_mC M_X10_losesItsWay) 35 = .ok (.iload_n 3, 1) := by decide +kernel
theorem d_X10_losesItsWay_36 : decode (gw_mC M_X10_losesItsWay) 36 = .ok (.if_icmp .le 27, 3) := by decide +kernel
theorem d_X10_losesItsWay_39 : decode (gw_mC M_X10_losesItsWay) 39 = .ok (.aload_n 0, 1) := by decide +kernel
theorem d_X10_losesItsWay_40 : decode (gw_mC M_X10_losesItsWay) 40 = .ok (.getfield 46, 3) := by decide +kernel
theorem d_X10_losesItsWay_43 : decode (gw_mC M_X10_losesItsWay) 43 = .ok (.ifCond .lt 16, 3) := by decide +kernel
theorem d_X10_losesItsWay_46 : decode (gw_mC M_X10_losesItsWay) 46 = .ok (.aload_n 0, 1) := by decide +kernel
theorem d_X10_losesItsWay_47 : decode (gw_mC M_X10_losesItsWay) 47 = .ok (.getfield 55, 3) := by decide +kernel
theorem d_X10_losesItsWay_50 : decode (gw_mC M_X10_losesItsWay) 50 = .ok (.aload_n 0, 1) := by decide +kernel
theorem d_X10_losesItsWay_51 : decode (gw_mC M_X10_losesItsWay) 51 = .ok (.getfield 46, 3) := by decide +kernel
theorem d_X10_losesItsWay_54 : decode (gw_mC M_X10_losesItsWay) 54 = .ok (.iaload, 1) := by decide +kernel
theorem d_X10_losesItsWay_55 : decode (gw_mC M_X10_losesItsWay) 55 = .ok (.iload_n 2, 1) := by decide +kernel
theorem d_X10_losesItsWay_56 : decode (gw_mC M_X10_losesItsWay) 56 = .ok (.if_icmp .le 7, 3) := by decide +kernel
theorem d_X10_losesItsWay_59 : decode (gw_mC M_X10_losesItsWay) 59 = .ok (.iconst 1, 1) := by decide +kernel
theorem d_X10_losesItsWay_60 : decode (gw_mC M_X10_losesItsWay) 60 = .ok (.goto 4, 3) := by decide +kernel
theorem d_X10_losesItsWay_63 : decode (gw_mC M_X10_losesItsWay) 63 = .ok (.iconst 0, 1) := by decide +kernel
theorem d_X10_losesItsWay_64 : decode (gw_mC M_X10_losesItsWay) 64 = .ok (.ireturn, 1) := by decide +kernel
theorem d_X10_closeMinute_0 : decode (gw_mC M_X10_closeMinute) 0 = .ok (.aload_n 0, 1) := by decide +kernel
theorem d_X10_closeMinute_1 : decode (gw_mC M_X10_closeMinute) 1 = .ok (.getfield 36, 3) := by decide +kernel
theorem d_X10_closeMinute_4 : decode (gw_mC M_X10_closeMinute) 4 = .ok (.aload_n 0, 1) := by decide +kernel
theorem d_X10_closeMinute_5 : decode (gw_mC M_X10_closeMinute) 5 = .ok (.getfield 12, 3) := by decide +kernel
theorem d_X10_closeMinute_8 : decode (gw_mC M_X10_closeMinute) 8 = .ok (.getfield 108, 3) := by decide +kernel
theorem d_X10_closeMinute_11 : decode (gw_mC M_X10_closeMinute) 11 = .ok (.if_icmp .ge 7, 3) := by decide +kernel
theorem d_X10_closeMinute_14 : decode (gw_mC M_X10_closeMinute) 14 = .ok (.iconst 1, 1) := by decide +kernel
theorem d_X10_closeMinute_15 : decode (gw_mC M_X10_closeMinute) 15 = .ok (.goto 4, 3) := by decide +kernel
theorem d_X10_closeMinute_18 : decode (gw_mC M_X10_closeMinute) 18 = .ok (.iconst 0, 1) := by decide +kernel
theorem d_X10_closeMinute_19 : decode (gw_mC M_X10_closeMinute) 19 = .ok (.istore_n 2, 1) := by decide +kernel
theorem d_X10_closeMinute_20 : decode (gw_mC M_X10_closeMinute) 20 = .ok (.aload_n 0, 1) := by decide +kernel
theorem d_X10_closeMinute_21 : decode (gw_mC M_X10_closeMinute) 21 = .ok (.iconst (-1), 1) := by decide +kernel
theorem d_X10_closeMinute_22 : decode (gw_mC M_X10_closeMinute) 22 = .ok (.putfield 52, 3) := by decide +kernel
theorem d_X10_closeMinute_25 : decode (gw_mC M_X10_closeMinute) 25 = .ok (.iconst 0, 1) := by decide +kernel
theorem d_X10_closeMinute_26 : decode (gw_mC M_X10_closeMinute) 26 = .ok (.istore_n 3, 1) := by decide +kernel
theorem d_X10_closeMinute_27 : decode (gw_mC M_X10_closeMinute) 27 = .ok (.iload_n 3, 1) := by decide +kernel
theorem d_X10_closeMinute_28 : decode (gw_mC M_X10_closeMinute) 28 = .ok (.aload_n 0, 1) := by decide +kernel
theorem d_X10_closeMinute_29 : decode (gw_mC M_X10_closeMinute) 29 = .ok (.getfield 21, 3) := by decide +kernel
theorem d_X10_closeMinute_32 : decode (gw_mC M_X10_closeMinute) 32 = .ok (.getfield 105, 3) := by decide +kernel
theorem d_X10_closeMinute_35 : decode (gw_mC M_X10_closeMinute) 35 = .ok (.if_icmp .ge 115, 3) := by decide +kernel
theorem d_X10_closeMinute_38 : decode (gw_mC M_X10_closeMinute) 38 = .ok (.aload_n 0, 1) := by decide +kernel
theorem d_X10_closeMinute_39 : decode (gw_mC M_X10_closeMinute) 39 = .ok (.getfield 70, 3) := by decide +kernel
theorem d_X10_closeMinute_42 : decode (gw_mC M_X10_closeMinute) 42 = .ok (.iload_n 3, 1) := by decide +kernel
theorem d_X10_closeMinute_43 : decode (gw_mC M_X10_closeMinute) 43 = .ok (.iaload, 1) := by decide +kernel
theorem d_X10_closeMinute_44 : decode (gw_mC M_X10_closeMinute) 44 = .ok (.ifCond .ge 100, 3) := by decide +kernel
theorem d_X10_closeMinute_47 : decode (gw_mC M_X10_closeMinute) 47 = .ok (.aload_n 0, 1) := by decide +kernel
theorem d_X10_closeMinute_48 : decode (gw_mC M_X10_closeMinute) 48 = .ok (.getfield 55, 3) := by decide +kernel
theorem d_X10_closeMinute_51 : decode (gw_mC M_X10_closeMinute) 51 = .ok (.iload_n 3, 1) := by decide +kernel
theorem d_X10_closeMinute_52 : decode (gw_mC M_X10_closeMinute) 52 = .ok (.iaload, 1) := by decide +kernel
theorem d_X10_closeMinute_53 : decode (gw_mC M_X10_closeMinute) 53 = .ok (.istore 4, 2) := by decide +kernel
theorem d_X10_closeMinute_55 : decode (gw_mC M_X10_closeMinute) 55 = .ok (.aload_n 0, 1) := by decide +kernel
theorem d_X10_closeMinute_56 : decode (gw_mC M_X10_closeMinute) 56 = .ok (.aload_n 0, 1) := by decide +kernel
theorem d_X10_closeMinute_57 : decode (gw_mC M_X10_closeMinute) 57 = .ok (.getfield 52, 3) := by decide +kernel
theorem d_X10_closeMinute_60 : decode (gw_mC M_X10_closeMinute) 60 = .ok (.ifCond .ge 8, 3) := by decide +kernel
theorem d_X10_closeMinute_63 : decode (gw_mC M_X10_closeMinute) 63 = .ok (.iload 4, 2) := by decide +kernel
theorem d_X10_closeMinute_65 : decode (gw_mC M_X10_closeMinute) 65 = .ok (.goto 12, 3) := by decide +kernel
theorem d_X10_closeMinute_68 : decode (gw_mC M_X10_closeMinute) 68 = .ok (.aload_n 0, 1) := by decide +kernel
theorem d_X10_closeMinute_69 : decode (gw_mC M_X10_closeMinute) 69 = .ok (.getfield 52, 3) := by decide +kernel
theorem d_X10_closeMinute_72 : decode (gw_mC M_X10_closeMinute) 72 = .ok (.iload 4, 2) := by decide +kernel
theorem d_X10_closeMinute_74 : decode (gw_mC M_X10_closeMinute) 74 = .ok (.invokestatic 170, 3) := by decide +kernel
theorem d_X10_closeMinute_77 : decode (gw_mC M_X10_closeMinute) 77 = .ok (.putfield 52, 3) := by decide +kernel
theorem d_X10_closeMinute_80 : decode (gw_mC M_X10_closeMinute) 80 = .ok (.aload_n 0, 1) := by decide +kernel
theorem d_X10_closeMinute_81 : decode (gw_mC M_X10_closeMinute) 81 = .ok (.getfield 64, 3) := by decide +kernel
theorem d_X10_closeMinute_84 : decode (gw_mC M_X10_closeMinute) 84 = .ok (.iload_n 3, 1) := by decide +kernel
theorem d_X10_closeMinute_85 : decode (gw_mC M_X10_closeMinute) 85 = .ok (.dup2, 1) := by decide +kernel
theorem d_X10_closeMinute_86 : decode (gw_mC M_X10_closeMinute) 86 = .ok (.iaload, 1) := by decide +kernel
theorem d_X10_closeMinute_87 : decode (gw_mC M_X10_closeMinute) 87 = .ok (.iload_n 2, 1) := by decide +kernel
theorem d_X10_closeMinute_88 : decode (gw_mC M_X10_closeMinute) 88 = .ok (.ifCond .eq 16, 3) := by decide +kernel
theorem d_X10_closeMinute_91 : decode (gw_mC M_X10_closeMinute) 91 = .ok (.iload 4, 2) := by decide +kernel
theorem d_X10_closeMinute_93 : decode (gw_mC M_X10_closeMinute) 93 = .ok (.aload_n 0, 1) := by decide +kernel
theorem d_X10_closeMinute_94 : decode (gw_mC M_X10_closeMinute) 94 = .ok (.getfield 36, 3) := by decide +kernel
theorem d_X10_closeMinute_97 : decode (gw_mC M_X10_closeMinute) 97 = .ok (.if_icmp .ne 7, 3) := by decide +kernel
theorem d_X10_closeMinute_100 : decode (gw_mC M_X10_closeMinute) 100 = .ok (.iconst 1, 1) := by decide +kernel
theorem d_X10_closeMinute_101 : decode (gw_mC M_X10_closeMinute) 101 = .ok (.goto 4, 3) := by decide +kernel
theorem d_X10_closeMinute_104 : decode (gw_mC M_X10_closeMinute) 104 = .ok (.iconst 0, 1) := by decide +kernel
theorem d_X10_closeMinute_105 : decode (gw_mC M_X10_closeMinute) 105 = .ok (.iadd, 1) := by decide +kernel
theorem d_X10_closeMinute_106 : decode (gw_mC M_X10_closeMinute) 106 = .ok (.iastore, 1) := by decide +kernel
theorem d_X10_closeMinute_107 : decode (gw_mC M_X10_closeMinute) 107 = .ok (.aload_n 0, 1) := by decide +kernel
theorem d_X10_closeMinute_108 : decode (gw_mC M_X10_closeMinute) 108 = .ok (.getfield 67, 3) := by decide +kernel
theorem d_X10_closeMinute_111 : decode (gw_mC M_X10_closeMinute) 111 = .ok (.iload_n 3, 1) := by decide +kernel
theorem d_X10_closeMinute_112 : decode (gw_mC M_X10_closeMinute) 112 = .ok (.aload_n 0, 1) := by decide +kernel
theorem d_X10_closeMinute_113 : decode (gw_mC M_X10_closeMinute) 113 = .ok (.getfield 67, 3) := by decide +kernel
theorem d_X10_closeMinute_116 : decode (gw_mC M_X10_closeMinute) 116 = .ok (.iload_n 3, 1) := by decide +kernel
theorem d_X10_closeMinute_117 : decode (gw_mC M_X10_closeMinute) 117 = .ok (.iaload, 1) := by decide +kernel
theorem d_X10_closeMinute_118 : decode (gw_mC M_X10_closeMinute) 118 = .ok (.ifCond .ge 19, 3) := by decide +kernel
theorem d_X10_closeMinute_121 : decode (gw_mC M_X10_closeMinute) 121 = .ok (.iload 4, 2) := by decide +kernel
theorem d_X10_closeMinute_123 : decode (gw_mC M_X10_closeMinute) 123 = .ok (.aload_n 0, 1) := by decide +kernel
theorem d_X10_closeMinute_124 : decode (gw_mC M_X10_closeMinute) 124 = .ok (.getfield 12, 3) := by decide +kernel
theorem d_X10_closeMinute_127 : decode (gw_mC M_X10_closeMinute) 127 = .ok (.getfield 108, 3) := by decide +kernel
theorem d_X10_closeMinute_130 : decode (gw_mC M_X10_closeMinute) 130 = .ok (.if_icmp .ne 7, 3) := by decide +kernel
theorem d_X10_closeMinute_133 : decode (gw_mC M_X10_closeMinute) 133 = .ok (.iload_n 1, 1) := by decide +kernel
theorem d_X10_closeMinute_134 : decode (gw_mC M_X10_closeMinute) 134 = .ok (.goto 9, 3) := by decide +kernel
theorem d_X10_closeMinute_137 : decode (gw_mC M_X10_closeMinute) 137 = .ok (.aload_n 0, 1) := by decide +kernel
theorem d_X10_closeMinute_138 : decode (gw_mC M_X10_closeMinute) 138 = .ok (.getfield 67, 3) := by decide +kernel
theorem d_X10_closeMinute_141 : decode (gw_mC M_X10_closeMinute) 141 = .ok (.iload_n 3, 1) := by decide +kernel
theorem d_X10_closeMinute_142 : decode (gw_mC M_X10_closeMinute) 142 = .ok (.iaload, 1) := by decide +kernel
theorem d_X10_closeMinute_143 : decode (gw_mC M_X10_closeMinute) 143 = .ok (.iastore, 1) := by decide +kernel
theorem d_X10_closeMinute_144 : decode (gw_mC M_X10_closeMinute) 144 = .ok (.iinc 3 1, 3) := by decide +kernel
theorem d_X10_closeMinute_147 : decode (gw_mC M_X10_closeMinute) 147 = .ok (.goto (-120), 3) := by decide +kernel
theorem d_X10_closeMinute_150 : decode (gw_mC M_X10_closeMinute) 150 = .ok (.iload_n 2, 1) := by decide +kernel
theorem d_X10_closeMinute_151 : decode (gw_mC M_X10_closeMinute) 151 = .ok (.ifCond .ne 15, 3) := by decide +kernel
theorem d_X10_closeMinute_154 : decode (gw_mC M_X10_closeMinute) 154 = .ok (.aload_n 0, 1) := by decide +kernel
theorem d_X10_closeMinute_155 : decode (gw_mC M_X10_closeMinute) 155 = .ok (.getfield 40, 3) := by decide +kernel
theorem d_X10_closeMinute_158 : decode (gw_mC M_X10_closeMinute) 158 = .ok (.ifCond .ge 8, 3) := by decide +kernel
theorem d_X10_closeMinute_161 : decode (gw_mC M_X10_closeMinute) 161 = .ok (.aload_n 0, 1) := by decide +kernel
theorem d_X10_closeMinute_162 : decode (gw_mC M_X10_closeMinute) 162 = .ok (.iload_n 1, 1) := by decide +kernel
theorem d_X10_closeMinute_163 : decode (gw_mC M_X10_closeMinute) 163 = .ok (.putfield 40, 3) := by decide +kernel
theorem d_X10_closeMinute_166 : decode (gw_mC M_X10_closeMinute) 166 = .ok (.aload_n 0, 1) := by decide +kernel
theorem d_X10_closeMinute_167 : decode (gw_mC M_X10_closeMinute) 167 = .ok (.aload_n 0, 1) := by decide +kernel
theorem d_X10_closeMinute_168 : decode (gw_mC M_X10_closeMinute) 168 = .ok (.getfield 43, 3) := by decide +kernel
theorem d_X10_closeMinute_171 : decode (gw_mC M_X10_closeMinute) 171 = .ok (.aload_n 0, 1) := by decide +kernel
theorem d_X10_closeMinute_172 : decode (gw_mC M_X10_closeMinute) 172 = .ok (.invokevirtual 189, 3) := by decide +kernel
theorem d_X10_closeMinute_175 : decode (gw_mC M_X10_closeMinute) 175 = .ok (.invokestatic 192, 3) := by decide +kernel
theorem d_X10_closeMinute_178 : decode (gw_mC M_X10_closeMinute) 178 = .ok (.putfield 43, 3) := by decide +kernel
theorem d_X10_closeMinute_181 : decode (gw_mC M_X10_closeMinute) 181 = .ok (.aload_n 0, 1) := by decide +kernel
theorem d_X10_closeMinute_182 : decode (gw_mC M_X10_closeMinute) 182 = .ok (.getfield 12, 3) := by decide +kernel
theorem d_X10_closeMinute_185 : decode (gw_mC M_X10_closeMinute) 185 = .ok (.getfield 131, 3) := by decide +kernel
theorem d_X10_closeMinute_188 : decode (gw_mC M_X10_closeMinute) 188 = .ok (.aload_n 0, 1) := by decide +kernel
theorem d_X10_closeMinute_189 : decode (gw_mC M_X10_closeMinute) 189 = .ok (.getfield 36, 3) := by decide +kernel
theorem d_X10_closeMinute_192 : decode (gw_mC M_X10_closeMinute) 192 = .ok (.iaload, 1) := by decide +kernel
theorem d_X10_closeMinute_193 : decode (gw_mC M_X10_closeMinute) 193 = .ok (.ifCond .le 36, 3) := by decide +kernel
theorem d_X10_closeMinute_196 : decode (gw_mC M_X10_closeMinute) 196 = .ok (.aload_n 0, 1) := by decide +kernel
theorem d_X10_closeMinute_197 : decode (gw_mC M_X10_closeMinute) 197 = .ok (.getfield 32, 3) := by decide +kernel
theorem d_X10_closeMinute_200 : decode (gw_mC M_X10_closeMinute) 200 = .ok (.aload_n 0, 1) := by decide +kernel
theorem d_X10_closeMinute_201 : decode (gw_mC M_X10_closeMinute) 201 = .ok (.invokevirtual 189, 3) := by decide +kernel
theorem d_X10_closeMinute_204 : decode (gw_mC M_X10_closeMinute) 204 = .ok (.aload_n 0, 1) := by decide +kernel
theorem d_X10_closeMinute_205 : decode (gw_mC M_X10_closeMinute) 205 = .ok (.getfield 25, 3) := by decide +kernel
theorem d_X10_closeMinute_208 : decode (gw_mC M_X10_closeMinute) 208 = .ok (.iconst 4, 1) := by decide +kernel
theorem d_X10_closeMinute_209 : decode (gw_mC M_X10_closeMinute) 209 = .ok (.iaload, 1) := by decide +kernel
theorem d_X10_closeMinute_210 : decode (gw_mC M_X10_closeMinute) 210 = .ok (.if_icmp .gt 15, 3) := by decide +kernel
theorem d_X10_closeMinute_213 : decode (gw_mC M_X10_closeMinute) 213 = .ok (.aload_n 0, 1) := by decide +kernel
theorem d_X10_closeMinute_214 : decode (gw_mC M_X10_closeMinute) 214 = .ok (.getfield 32, 3) := by decide +kernel
theorem d_X10_closeMinute_217 : decode (gw_mC M_X10_closeMinute) 217 = .ok (.getfield 153, 3) := by decide +kernel
theorem d_X10_closeMinute_220 : decode (gw_mC M_X10_closeMinute) 220 = .ok (.iconst 1, 1) := by decide +kernel
theorem d_X10_closeMinute_221 : decode (gw_mC M_X10_closeMinute) 221 = .ok (.iadd, 1) := by decide +kernel
theorem d_X10_closeMinute_222 : decode (gw_mC M_X10_closeMinute) 222 = .ok (.goto 4, 3) := by decide +kernel
theorem d_X10_closeMinute_225 : decode (gw_mC M_X10_closeMinute) 225 = .ok (.iconst 0, 1) := by decide +kernel
theorem d_X10_closeMinute_226 : decode (gw_mC M_X10_closeMinute) 226 = .ok (.putfield 153, 3) := by decide +kernel
theorem d_X10_closeMinute_229 : decode (gw_mC M_X10_closeMinute) 229 = .ok (.return_, 1) := by decide +kernel
theorem d_X10_out_0 : decode (gw_mC M_X10_out) 0 = .ok (.aload_n 0, 1) := by decide +kernel
theorem d_X10_out_1 : decode (gw_mC M_X10_out) 1 = .ok (.getfield 52, 3) := by decide +kernel
theorem d_X10_out_4 : decode (gw_mC M_X10_out) 4 = .ok (.ifCond .ge 8, 3) := by decide +kernel
theorem d_X10_out_7 : decode (gw_mC M_X10_out) 7 = .ok (.bipush (-4), 2) := by decide +kernel
theorem d_X10_out_9 : decode (gw_mC M_X10_out) 9 = .ok (.goto 12, 3) := by decide +kernel
theorem d_X10_out_12 : decode (gw_mC M_X10_out) 12 = .ok (.aload_n 0, 1) := by decide +kernel
theorem d_X10_out_13 : decode (gw_mC M_X10_out) 13 = .ok (.getfield 36, 3) := by decide +kernel
theorem d_X10_out_16 : decode (gw_mC M_X10_out) 16 = .ok (.aload_n 0, 1) := by decide +kernel
theorem d_X10_out_17 : decode (gw_mC M_X10_out) 17 = .ok (.getfield 52, 3) := by decide +kernel
theorem d_X10_out_20 : decode (gw_mC M_X10_out) 20 = .ok (.isub, 1) := by decide +kernel
theorem d_X10_out_21 : decode (gw_mC M_X10_out) 21 = .ok (.ireturn, 1) := by decide +kernel
theorem d_X10_leastHeardInTime_0 : decode (gw_mC M_X10_leastHeardInTime) 0 = .ok (.aload_n 0, 1) := by decide +kernel
theorem d_X10_leastHeardInTime_1 : decode (gw_mC M_X10_leastHeardInTime) 1 = .ok (.invokevirtual 195, 3) := by decide +kernel
theorem d_X10_leastHeardInTime_4 : decode (gw_mC M_X10_leastHeardInTime) 4 = .ok (.iconst 0, 1) := by decide +kernel
theorem d_X10_leastHeardInTime_5 : decode (gw_mC M_X10_leastHeardInTime) 5 = .ok (.istore_n 2, 1) := by decide +kernel
theorem d_X10_leastHeardInTime_6 : decode (gw_mC M_X10_leastHeardInTime) 6 = .ok (.iload_n 2, 1) := by decide +kernel
theorem d_X10_leastHeardInTime_7 : decode (gw_mC M_X10_leastHeardInTime) 7 = .ok (.iload_n 1, 1) := by decide +kernel
theorem d_X10_leastHeardInTime_8 : decode (gw_mC M_X10_leastHeardInTime) 8 = .ok (.if_icmp .gt 44, 3) := by decide +kernel
theorem d_X10_leastHeardInTime_11 : decode (gw_mC M_X10_leastHeardInTime) 11 = .ok (.aload_n 0, 1) := by decide +kernel
theorem d_X10_leastHeardInTime_12 : decode (gw_mC M_X10_leastHeardInTime) 12 = .ok (.getfield 49, 3) := by decide +kernel
theorem d_X10_leastHeardInTime_15 : decode (gw_mC M_X10_leastHeardInTime) 15 = .ok (.ifCond .ne 37, 3) := by decide +kernel
theorem d_X10_leastHeardInTime_18 : decode (gw_mC M_X10_leastHeardInTime) 18 = .ok (.aload_n 0, 1) := by decide +kernel
theorem d_X10_leastHeardInTime_19 : decode (gw_mC M_X10_leastHeardInTime) 19 = .ok (.iload_n 2, 1) := by decide +kernel
theorem d_X10_leastHeardInTime_20 : decode (gw_mC M_X10_leastHeardInTime) 20 = .ok (.invokevirtual 198, 3) := by decide +kernel
theorem d_X10_leastHeardInTime_23 : decode (gw_mC M_X10_leastHeardInTime) 23 = .ok (.aload_n 0, 1) := by decide +kernel
theorem d_X10_leastHeardInTime_24 : decode (gw_mC M_X10_leastHeardInTime) 24 = .ok (.invokevirtual 201, 3) := by decide +kernel
theorem d_X10_leastHeardInTime_27 : decode (gw_mC M_X10_leastHeardInTime) 27 = .ok (.ifCond .eq 19, 3) := by decide +kernel
theorem d_X10_leastHeardInTime_30 : decode (gw_mC M_X10_leastHeardInTime) 30 = .ok (.aload_n 0, 1) := by decide +kernel
theorem d_X10_leastHeardInTime_31 : decode (gw_mC M_X10_leastHeardInTime) 31 = .ok (.getfield 49, 3) := by decide +kernel
theorem d_X10_leastHeardInTime_34 : decode (gw_mC M_X10_leastHeardInTime) 34 = .ok (.ifCond .ne 10, 3) := by decide +kernel
theorem d_X10_leastHeardInTime_37 : decode (gw_mC M_X10_leastHeardInTime) 37 = .ok (.aload_n 0, 1) := by decide +kernel
theorem d_X10_leastHeardInTime_38 : decode (gw_mC M_X10_leastHeardInTime) 38 = .ok (.invokevirtual 204, 3) := by decide +kernel
theorem d_X10_leastHeardInTime_41 : decode (gw_mC M_X10_leastHeardInTime) 41 = .ok (.goto 4, 3) := by decide +kernel
theorem d_X10_leastHeardInTime_44 : decode (gw_mC M_X10_leastHeardInTime) 44 = .ok (.iconst (-1), 1) := by decide +kernel
theorem d_X10_leastHeardInTime_45 : decode (gw_mC M_X10_leastHeardInTime) 45 = .ok (.ireturn, 1) := by decide +kernel
theorem d_X10_leastHeardInTime_46 : decode (gw_mC M_X10_leastHeardInTime) 46 = .ok (.iinc 2 1, 3) := by decide +kernel
theorem d_X10_leastHeardInTime_49 : decode (gw_mC M_X10_leastHeardInTime) 49 = .ok (.goto (-43), 3) := by decide +kernel
theorem d_X10_leastHeardInTime_52 : decode (gw_mC M_X10_leastHeardInTime) 52 = .ok (.iconst (-1), 1) := by decide +kernel
theorem d_X10_leastHeardInTime_53 : decode (gw_mC M_X10_leastHeardInTime) 53 = .ok (.ireturn, 1) := by decide +kernel
theorem d_X10_heardTogether_0 : decode (gw_mC M_X10_heardTogether) 0 = .ok (.iconst 0, 1) := by decide +kernel
theorem d_X10_heardTogether_1 : decode (gw_mC M_X10_heardTogether) 1 = .ok (.istore_n 1, 1) := by decide +kernel
theorem d_X10_heardTogether_2 : decode (gw_mC M_X10_heardTogether) 2 = .ok (.iconst 0, 1) := by decide +kernel
theorem d_X10_heardTogether_3 : decode (gw_mC M_X10_heardTogether) 3 = .ok (.istore_n 2, 1) := by decide +kernel
theorem d_X10_heardTogether_4 : decode (gw_mC M_X10_heardTogether) 4 = .ok (.iload_n 2, 1) := by decide +kernel
theorem d_X10_heardTogether_5 : decode (gw_mC M_X10_heardTogether) 5 = .ok (.aload_n 0, 1) := by decide +kernel
theorem d_X10_heardTogether_6 : decode (gw_mC M_X10_heardTogether) 6 = .ok (.getfield 21, 3) := by decide +kernel
theorem d_X10_heardTogether_9 : decode (gw_mC M_X10_heardTogether) 9 = .ok (.getfield 105, 3) := by decide +kernel
theorem d_X10_heardTogether_12 : decode (gw_mC M_X10_heardTogether) 12 = .ok (.if_icmp .ge 18, 3) := by decide +kernel
theorem d_X10_heardTogether_15 : decode (gw_mC M_X10_heardTogether) 15 = .ok (.iload_n 1, 1) := by decide +kernel
theorem d_X10_heardTogether_16 : decode (gw_mC M_X10_heardTogether) 16 = .ok (.aload_n 0, 1) := by decide +kernel
theorem d_X10_heardTogether_17 : decode (gw_mC M_X10_heardTogether) 17 = .ok (.getfield 61, 3) := by decide +kernel
theorem d_X10_heardTogether_20 : decode (gw_mC M_X10_heardTogether) 20 = .ok (.iload_n 2, 1) := by decide +kernel
theorem d_X10_heardTogether_21 : decode (gw_mC M_X10_heardTogether) 21 = .ok (.iaload, 1) := by decide +kernel
theorem d_X10_heardTogether_22 : decode (gw_mC M_X10_heardTogether) 22 = .ok (.iadd, 1) := by decide +kernel
theorem d_X10_heardTogether_23 : decode (gw_mC M_X10_heardTogether) 23 = .ok (.istore_n 1, 1) := by decide +kernel
theorem d_X10_heardTogether_24 : decode (gw_mC M_X10_heardTogether) 24 = .ok (.iinc 2 1, 3) := by decide +kernel
theorem d_X10_heardTogether_27 : decode (gw_mC M_X10_heardTogether) 27 = .ok (.goto (-23), 3) := by decide +kernel
theorem d_X10_heardTogether_30 : decode (gw_mC M_X10_heardTogether) 30 = .ok (.iload_n 1, 1) := by decide +kernel
theorem d_X10_heardTogether_31 : decode (gw_mC M_X10_heardTogether) 31 = .ok (.ireturn, 1) := by decide +kernel
theorem d_X10_leastHeard_0 : decode (gw_mC M_X10_leastHeard) 0 = .ok (.bipush (-4), 2) := by decide +kernel
theorem d_X10_leastHeard_2 : decode (gw_mC M_X10_leastHeard) 2 = .ok (.istore_n 1, 1) := by decide +kernel
theorem d_X10_leastHeard_3 : decode (gw_mC M_X10_leastHeard) 3 = .ok (.iconst 0, 1) := by decide +kernel
theorem d_X10_leastHeard_4 : decode (gw_mC M_X10_leastHeard) 4 = .ok (.istore_n 2, 1) := by decide +kernel
theorem d_X10_leastHeard_5 : decode (gw_mC M_X10_leastHeard) 5 = .ok (.iload_n 2, 1) := by decide +kernel
theorem d_X10_leastHeard_6 : decode (gw_mC M_X10_leastHeard) 6 = .ok (.aload_n 0, 1) := by decide +kernel
theorem d_X10_leastHeard_7 : decode (gw_mC M_X10_leastHeard) 7 = .ok (.getfield 21, 3) := by decide +kernel
theorem d_X10_leastHeard_10 : decode (gw_mC M_X10_leastHeard) 10 = .ok (.getfield 105, 3) := by decide +kernel
theorem d_X10_leastHeard_13 : decode (gw_mC M_X10_leastHeard) 13 = .ok (.if_icmp .ge 33, 3) := by decide +kernel
theorem d_X10_leastHeard_16 : decode (gw_mC M_X10_leastHeard) 16 = .ok (.iload_n 2, 1) := by decide +kernel
theorem d_X10_leastHeard_17 : decode (gw_mC M_X10_leastHeard) 17 = .ok (.ifCond .ne 12, 3) := by decide +kernel
theorem d_X10_leastHeard_20 : decode (gw_mC M_X10_leastHeard) 20 = .ok (.aload_n 0, 1) := by decide +kernel
theorem d_X10_leastHeard_21 : decode (gw_mC M_X10_leastHeard) 21 = .ok (.getfield 61, 3) := by decide +kernel
theorem d_X10_leastHeard_24 : decode (gw_mC M_X10_leastHeard) 24 = .ok (.iload_n 2, 1) := by decide +kernel
theorem d_X10_leastHeard_25 : decode (gw_mC M_X10_leastHeard) 25 = .ok (.iaload, 1) := by decide +kernel
theorem d_X10_leastHeard_26 : decode (gw_mC M_X10_leastHeard) 26 = .ok (.goto 13, 3) := by decide +kernel
theorem d_X10_leastHeard_29 : decode (gw_mC M_X10_leastHeard) 29 = .ok (.iload_n 1, 1) := by decide +kernel
theorem d_X10_leastHeard_30 : decode (gw_mC M_X10_leastHeard) 30 = .ok (.aload_n 0, 1) := by decide +kernel
theorem d_X10_leastHeard_31 : decode (gw_mC M_X10_leastHeard) 31 = .ok (.getfield 61, 3) := by decide +kernel
theorem d_X10_leastHeard_34 : decode (gw_mC M_X10_leastHeard) 34 = .ok (.iload_n 2, 1) := by decide +kernel
theorem d_X10_leastHeard_35 : decode (gw_mC M_X10_leastHeard) 35 = .ok (.iaload, 1) := by decide +kernel
theorem d_X10_leastHeard_36 : decode (gw_mC M_X10_leastHeard) 36 = .ok (.invokestatic 170, 3) := by decide +kernel
theorem d_X10_leastHeard_39 : decode (gw_mC M_X10_leastHeard) 39 = .ok (.istore_n 1, 1) := by decide +kernel
theorem d_X10_leastHeard_40 : decode (gw_mC M_X10_leastHeard) 40 = .ok (.iinc 2 1, 3) := by decide +kernel
theorem d_X10_leastHeard_43 : decode (gw_mC M_X10_leastHeard) 43 = .ok (.goto (-38), 3) := by decide +kernel
theorem d_X10_leastHeard_46 : decode (gw_mC M_X10_leastHeard) 46 = .ok (.iload_n 1, 1) := by decide +kernel
theorem d_X10_leastHeard_47 : decode (gw_mC M_X10_leastHeard) 47 = .ok (.ireturn, 1) := by decide +kernel
theorem d_X10_allThere_0 : decode (gw_mC M_X10_allThere) 0 = .ok (.bipush (-4), 2) := by decide +kernel
theorem d_X10_allThere_2 : decode (gw_mC M_X10_allThere) 2 = .ok (.istore_n 1, 1) := by decide +kernel
theorem d_X10_allThere_3 : decode (gw_mC M_X10_allThere) 3 = .ok (.iconst 0, 1) := by decide +kernel
theorem d_X10_allThere_4 : decode (gw_mC M_X10_allThere) 4 = .ok (.istore_n 2, 1) := by decide +kernel
theorem d_X10_allThere_5 : decode (gw_mC M_X10_allThere) 5 = .ok (.iload_n 2, 1) := by decide +kernel
theorem d_X10_allThere_6 : decode (gw_mC M_X10_allThere) 6 = .ok (.aload_n 0, 1) := by decide +kernel
theorem d_X10_allThere_7 : decode (gw_mC M_X10_allThere) 7 = .ok (.getfield 21, 3) := by decide +kernel
theorem d_X10_allThere_10 : decode (gw_mC M_X10_allThere) 10 = .ok (.getfield 105, 3) := by decide +kernel
theorem d_X10_allThere_13 : decode (gw_mC M_X10_allThere) 13 = .ok (.if_icmp .ge 32, 3) := by decide +kernel
theorem d_X10_allThere_16 : decode (gw_mC M_X10_allThere) 16 = .ok (.aload_n 0, 1) := by decide +kernel
theorem d_X10_allThere_17 : decode (gw_mC M_X10_allThere) 17 = .ok (.getfield 67, 3) := by decide +kernel
theorem d_X10_allThere_20 : decode (gw_mC M_X10_allThere) 20 = .ok (.iload_n 2, 1) := by decide +kernel
theorem d_X10_allThere_21 : decode (gw_mC M_X10_allThere) 21 = .ok (.iaload, 1) := by decide +kernel
theorem d_X10_allThere_22 : decode (gw_mC M_X10_allThere) 22 = .ok (.ifCond .ge 6, 3) := by decide +kernel
theorem d_X10_allThere_25 : decode (gw_mC M_X10_allThere) 25 = .ok (.bipush (-4), 2) := by decide +kernel
theorem d_X10_allThere_27 : decode (gw_mC M_X10_allThere) 27 = .ok (.ireturn, 1) := by decide +kernel
theorem d_X10_allThere_28 : decode (gw_mC M_X10_allThere) 28 = .ok (.iload_n 1, 1) := by decide +kernel
theorem d_X10_allThere_29 : decode (gw_mC M_X10_allThere) 29 = .ok (.aload_n 0, 1) := by decide +kernel
theorem d_X10_allThere_30 : decode (gw_mC M_X10_allThere) 30 = .ok (.getfield 67, 3) := by decide +kernel
theorem d_X10_allThere_33 : decode (gw_mC M_X10_allThere) 33 = .ok (.iload_n 2, 1) := by decide +kernel
theorem d_X10_allThere_34 : decode (gw_mC M_X10_allThere) 34 = .ok (.iaload, 1) := by decide +kernel
theorem d_X10_allThere_35 : decode (gw_mC M_X10_allThere) 35 = .ok (.invokestatic 192, 3) := by decide +kernel
theorem d_X10_allThere_38 : decode (gw_mC M_X10_allThere) 38 = .ok (.istore_n 1, 1) := by decide +kernel
theorem d_X10_allThere_39 : decode (gw_mC M_X10_allThere) 39 = .ok (.iinc 2 1, 3) := by decide +kernel
theorem d_X10_allThere_42 : decode (gw_mC M_X10_allThere) 42 = .ok (.goto (-37), 3) := by decide +kernel
theorem d_X10_allThere_45 : decode (gw_mC M_X10_allThere) 45 = .ok (.iload_n 1, 1) := by decide +kernel
theorem d_X10_allThere_46 : decode (gw_mC M_X10_allThere) 46 = .ok (.ireturn, 1) := by decide +kernel
theorem d_X10_lostSet_0 : decode (gw_mC M_X10_lostSet) 0 = .ok (.iconst 0, 1) := by decide +kernel
theorem d_X10_lostSet_1 : decode (gw_mC M_X10_lostSet) 1 = .ok (.istore_n 1, 1) := by decide +kernel
theorem d_X10_lostSet_2 : decode (gw_mC M_X10_lostSet) 2 = .ok (.iconst 0, 1) := by decide +kernel
theorem d_X10_lostSet_3 : decode (gw_mC M_X10_lostSet) 3 = .ok (.istore_n 2, 1) := by decide +kernel
theorem d_X10_lostSet_4 : decode (gw_mC M_X10_lostSet) 4 = .ok (.iload_n 2, 1) := by decide +kernel
theorem d_X10_lostSet_5 : decode (gw_mC M_X10_lostSet) 5 = .ok (.aload_n 0, 1) := by decide +kernel
theorem d_X10_lostSet_6 : decode (gw_mC M_X10_lostSet) 6 = .ok (.getfield 21, 3) := by decide +kernel
theorem d_X10_lostSet_9 : decode (gw_mC M_X10_lostSet) 9 = .ok (.getfield 105, 3) := by decide +kernel
theorem d_X10_lostSet_12 : decode (gw_mC M_X10_lostSet) 12 = .ok (.if_icmp .ge 28, 3) := by decide +kernel
theorem d_X10_lostSet_15 : decode (gw_mC M_X10_lostSet) 15 = .ok (.iload_n 1, 1) := by decide +kernel
theorem d_X10_lostSet_16 : decode (gw_mC M_X10_lostSet) 16 = .ok (.aload_n 0, 1) := by decide +kernel
theorem d_X10_lostSet_17 : decode (gw_mC M_X10_lostSet) 17 = .ok (.getfield 70, 3) := by decide +kernel
theorem d_X10_lostSet_20 : decode (gw_mC M_X10_lostSet) 20 = .ok (.iload_n 2, 1) := by decide +kernel
theorem d_X10_lostSet_21 : decode (gw_mC M_X10_lostSet) 21 = .ok (.iaload, 1) := by decide +kernel
theorem d_X10_lostSet_22 : decode (gw_mC M_X10_lostSet) 22 = .ok (.ifCond .lt 9, 3) := by decide +kernel
theorem d_X10_lostSet_25 : decode (gw_mC M_X10_lostSet) 25 = .ok (.iconst 1, 1) := by decide +kernel
theorem d_X10_lostSet_26 : decode (gw_mC M_X10_lostSet) 26 = .ok (.iload_n 2, 1) := by decide +kernel
theorem d_X10_lostSet_27 : decode (gw_mC M_X10_lostSet) 27 = .ok (.ishl, 1) := by decide +kernel
theorem d_X10_lostSet_28 : decode (gw_mC M_X10_lostSet) 28 = .ok (.goto 4, 3) := by decide +kernel
theorem d_X10_lostSet_31 : decode (gw_mC M_X10_lostSet) 31 = .ok (.iconst 0, 1) := by decide +kernel
theorem d_X10_lostSet_32 : decode (gw_mC M_X10_lostSet) 32 = .ok (.ior, 1) := by decide +kernel
theorem d_X10_lostSet_33 : decode (gw_mC M_X10_lostSet) 33 = .ok (.istore_n 1, 1) := by decide +kernel
theorem d_X10_lostSet_34 : decode (gw_mC M_X10_lostSet) 34 = .ok (.iinc 2 1, 3) := by decide +kernel
theorem d_X10_lostSet_37 : decode (gw_mC M_X10_lostSet) 37 = .ok (.goto (-33), 3) := by decide +kernel
theorem d_X10_lostSet_40 : decode (gw_mC M_X10_lostSet) 40 = .ok (.iload_n 1, 1) := by decide +kernel
theorem d_X10_lostSet_41 : decode (gw_mC M_X10_lostSet) 41 = .ok (.ireturn, 1) := by decide +kernel
theorem d_X11_init_0 : decode (gw_mC M_X11_init) 0 = .ok (.aload_n 0, 1) := by decide +kernel
theorem d_X11_init_1 : decode (gw_mC M_X11_init) 1 = .ok (.invokespecial 1, 3) := by decide +kernel
theorem d_X11_init_4 : decode (gw_mC M_X11_init) 4 = .ok (.aload_n 0, 1) := by decide +kernel
theorem d_X11_init_5 : decode (gw_mC M_X11_init) 5 = .ok (.new 7, 3) := by decide +kernel
theorem d_X11_init_8 : decode (gw_mC M_X11_init) 8 = .ok (.dup, 1) := by decide +kernel
theorem d_X11_init_9 : decode (gw_mC M_X11_init) 9 = .ok (.invokespecial 9, 3) := by decide +kernel
theorem d_X11_init_12 : decode (gw_mC M_X11_init) 12 = .ok (.putfield 10, 3) := by decide +kernel
theorem d_X11_init_15 : decode (gw_mC M_X11_init) 15 = .ok (.aload_n 0, 1) := by decide +kernel
theorem d_X11_init_16 : decode (gw_mC M_X11_init) 16 = .ok (.new 7, 3) := by decide +kernel
theorem d_X11_init_19 : decode (gw_mC M_X11_init) 19 = .ok (.dup, 1) := by decide +kernel
theorem d_X11_init_20 : decode (gw_mC M_X11_init) 20 = .ok (.invokespecial 9, 3) := by decide +kernel
theorem d_X11_init_23 : decode (gw_mC M_X11_init) 23 = .ok (.putfield 16, 3) := by decide +kernel
theorem d_X11_init_26 : decode (gw_mC M_X11_init) 26 = .ok (.aload_n 0, 1) := by decide +kernel
theorem d_X11_init_27 : decode (gw_mC M_X11_init) 27 = .ok (.iconst 0, 1) := by decide +kernel
theorem d_X11_init_28 : decode (gw_mC M_X11_init) 28 = .ok (.putfield 19, 3) := by decide +kernel
theorem d_X11_init_31 : decode (gw_mC M_X11_init) 31 = .ok (.aload_n 0, 1) := by decide +kernel
theorem d_X11_init_32 : decode (gw_mC M_X11_init) 32 = .ok (.new 23, 3) := by decide +kernel
theorem d_X11_init_35 : decode (gw_mC M_X11_init) 35 = .ok (.dup, 1) := by decide +kernel
theorem d_X11_init_36 : decode (gw_mC M_X11_init) 36 = .ok (.invokespecial 25, 3) := by decide +kernel
theorem d_X11_init_39 : decode (gw_mC M_X11_init) 39 = .ok (.putfield 26, 3) := by decide +kernel
theorem d_X11_init_42 : decode (gw_mC M_X11_init) 42 = .ok (.aload_n 0, 1) := by decide +kernel
theorem d_X11_init_43 : decode (gw_mC M_X11_init) 43 = .ok (.new 30, 3) := by decide +kernel
theorem d_X11_init_46 : decode (gw_mC M_X11_init) 46 = .ok (.dup, 1) := by decide +kernel
theorem d_X11_init_47 : decode (gw_mC M_X11_init) 47 = .ok (.invokespecial 32, 3) := by decide +kernel
theorem d_X11_init_50 : decode (gw_mC M_X11_init) 50 = .ok (.putfield 33, 3) := by decide +kernel
theorem d_X11_init_53 : decode (gw_mC M_X11_init) 53 = .ok (.aload_n 0, 1) := by decide +kernel
theorem d_X11_init_54 : decode (gw_mC M_X11_init) 54 = .ok (.new 37, 3) := by decide +kernel
theorem d_X11_init_57 : decode (gw_mC M_X11_init) 57 = .ok (.dup, 1) := by decide +kernel
theorem d_X11_init_58 : decode (gw_mC M_X11_init) 58 = .ok (.invokespecial 39, 3) := by decide +kernel
theorem d_X11_init_61 : decode (gw_mC M_X11_init) 61 = .ok (.putfield 40, 3) := by decide +kernel
theorem d_X11_init_64 : decode (gw_mC M_X11_init) 64 = .ok (.aload_n 0, 1) := by decide +kernel
theorem d_X11_init_65 : decode (gw_mC M_X11_init) 65 = .ok (.new 44, 3) := by decide +kernel
theorem d_X11_init_68 : decode (gw_mC M_X11_init) 68 = .ok (.dup, 1) := by decide +kernel
theorem d_X11_init_69 : decode (gw_mC M_X11_init) 69 = .ok (.invokespecial 46, 3) := by decide +kernel
theorem d_X11_init_72 : decode (gw_mC M_X11_init) 72 = .ok (.putfield 47, 3) := by decide +kernel
theorem d_X11_init_75 : decode (gw_mC M_X11_init) 75 = .ok (.aload_n 0, 1) := by decide +kernel
theorem d_X11_init_76 : decode (gw_mC M_X11_init) 76 = .ok (.new 44, 3) := by decide +kernel
theorem d_X11_init_79 : decode (gw_mC M_X11_init) 79 = .ok (.dup, 1) := by decide +kernel
theorem d_X11_init_80 : decode (gw_mC M_X11_init) 80 = .ok (.invokespecial 46, 3) := by decide +kernel
theorem d_X11_init_83 : decode (gw_mC M_X11_init) 83 = .ok (.putfield 51, 3) := by decide +kernel
theorem d_X11_init_86 : decode (gw_mC M_X11_init) 86 = .ok (.aload_n 0, 1) := by decide +kernel
theorem d_X11_init_87 : decode (gw_mC M_X11_init) 87 = .ok (.iconst 0, 1) := by decide +kernel
theorem d_X11_init_88 : decode (gw_mC M_X11_init) 88 = .ok (.putfield 54, 3) := by decide +kernel
theorem d_X11_init_91 : decode (gw_mC M_X11_init) 91 = .ok (.aload_n 0, 1) := by decide +kernel
theorem d_X11_init_92 : decode (gw_mC M_X11_init) 92 = .ok (.sipush 3600, 3) := by decide +kernel
theorem d_X11_init_95 : decode (gw_mC M_X11_init) 95 = .ok (.newarray .int, 2) := by decide +kernel
theorem d_X11_init_97 : decode (gw_mC M_X11_init) 97 = .ok (.putfield 57, 3) := by decide +kernel
theorem d_X11_init_100 : decode (gw_mC M_X11_init) 100 = .ok (.aload_n 0, 1) := by decide +kernel
theorem d_X11_init_101 : decode (gw_mC M_X11_init) 101 = .ok (.iconst 0, 1) := by decide +kernel
theorem d_X11_init_102 : decode (gw_mC M_X11_init) 102 = .ok (.putfield 61, 3) := by decide +kernel
theorem d_X11_init_105 : decode (gw_mC M_X11_init) 105 = .ok (.aload_n 0, 1) := by decide +kernel
theorem d_X11_init_106 : decode (gw_mC M_X11_init) 106 = .ok (.iconst 4, 1) := by decide +kernel
theorem d_X11_init_107 : decode (gw_mC M_X11_init) 107 = .ok (.newarray .int, 2) := by decide +kernel
theorem d_X11_init_109 : decode (gw_mC M_X11_init) 109 = .ok (.putfield 65, 3) := by decide +kernel
theorem d_X11_init_112 : decode (gw_mC M_X11_init) 112 = .ok (.aload_n 0, 1) := by decide +kernel
theorem d_X11_init_113 : decode (gw_mC M_X11_init) 113 = .ok (.iconst (-1), 1) := by decide +kernel
theorem d_X11_init_114 : decode (gw_mC M_X11_init) 114 = .ok (.putfield 68, 3) := by decide +kernel
theorem d_X11_init_117 : decode (gw_mC M_X11_init) 117 = .ok (.aload_n 0, 1) := by decide +kernel
theorem d_X11_init_118 : decode (gw_mC M_X11_init) 118 = .ok (.new 71, 3) := by decide +kernel
theorem d_X11_init_121 : decode (gw_mC M_X11_init) 121 = .ok (.dup, 1) := by decide +kernel
theorem d_X11_init_122 : decode (gw_mC M_X11_init) 122 = .ok (.invokespecial 73, 3) := by decide +kernel
theorem d_X11_init_125 : decode (gw_mC M_X11_init) 125 = .ok (.putfield 74, 3) := by decide +kernel
theorem d_X11_init_128 : decode (gw_mC M_X11_init) 128 = .ok (.aload_n 0, 1) := by decide +kernel
theorem d_X11_init_129 : decode (gw_mC M_X11_init) 129 = .ok (.new 78, 3) := by decide +kernel
theorem d_X11_init_132 : decode (gw_mC M_X11_init) 132 = .ok (.dup, 1) := by decide +kernel
theorem d_X11_init_133 : decode (gw_mC M_X11_init) 133 = .ok (.invokespecial 80, 3) := by decide +kernel
theorem d_X11_init_136 : decode (gw_mC M_X11_init) 136 = .ok (.putfield 81, 3) := by decide +kernel
theorem d_X11_init_139 : decode (gw_mC M_X11_init) 139 = .ok (.aload_n 0, 1) := by decide +kernel
theorem d_X11_init_140 : decode (gw_mC M_X11_init) 140 = .ok (.iconst 4, 1) := by decide +kernel
theorem d_X11_init_141 : decode (gw_mC M_X11_init) 141 = .ok (.anewarray 85, 3) := by decide +kernel
theorem d_X11_init_144 : decode (gw_mC M_X11_init) 144 = .ok (.putfield 87, 3) := by decide +kernel
theorem d_X11_init_147 : decode (gw_mC M_X11_init) 147 = .ok (.iconst 0, 1) := by decide +kernel
theorem d_X11_init_148 : decode (gw_mC M_X11_init) 148 = .ok (.istore_n 1, 1) := by decide +kernel
theorem d_X11_init_149 : decode (gw_mC M_X11_init) 149 = .ok (.iload_n 1, 1) := by decide +kernel
theorem d_X11_init_150 : decode (gw_mC M_X11_init) 150 = .ok (.iconst 4, 1) := by decide +kernel
theorem d_X11_init_151 : decode (gw_mC M_X11_init) 151 = .ok (.if_icmp .ge 22, 3) := by decide +kernel
theorem d_X11_init_154 : decode (gw_mC M_X11_init) 154 = .ok (.aload_n 0, 1) := by decide +kernel
theorem d_X11_init_155 : decode (gw_mC M_X11_init) 155 = .ok (.getfield 87, 3) := by decide +kernel
theorem d_X11_init_158 : decode (gw_mC M_X11_init) 158 = .ok (.iload_n 1, 1) := by decide +kernel
theorem d_X11_init_159 : decode (gw_mC M_X11_init) 159 = .ok (.new 85, 3) := by decide +kernel
theorem d_X11_init_162 : decode (gw_mC M_X11_init) 162 = .ok (.dup, 1) := by decide +kernel
theorem d_X11_init_163 : decode (gw_mC M_X11_init) 163 = .ok (.invokespecial 91, 3) := by decide +kernel
theorem d_X11_init_166 : decode (gw_mC M_X11_init) 166 = .ok (.aastore, 1) := by decide +kernel
theorem d_X11_init_167 : decode (gw_mC M_X11_init) 167 = .ok (.iinc 1 1, 3) := by decide +kernel
theorem d_X11_init_170 : decode (gw_mC M_X11_init) 170 = .ok (.goto (-21), 3) := by decide +kernel
theorem d_X11_init_173 : decode (gw_mC M_X11_init) 173 = .ok (.return_, 1) := by decide +kernel
theorem d_X11_end_0 : decode (gw_mC M_X11_end) 0 = .ok (.iload_n 1, 1) := by decide +kernel
theorem d_X11_end_1 : decode (gw_mC M_X11_end) 1 = .ok (.bipush 10, 2) := by decide +kernel
theorem d_X11_end_3 : decode (gw_mC M_X11_end) 3 = .ok (.bipush 99, 2) := by decide +kernel
theorem d_X11_end_5 : decode (gw_mC M_X11_end) 5 = .ok (.invokestatic 92, 3) := by decide +kernel
theorem d_X11_end_8 : decode (gw_mC M_X11_end) 8 = .ok (.ifCond .ne 5, 3) := by decide +kernel
theorem d_X11_end_11 : decode (gw_mC M_X11_end) 11 = .ok (.iconst (-1), 1) := by decide +kernel
theorem d_X11_end_12 : decode (gw_mC M_X11_end) 12 = .ok (.ireturn, 1) := by decide +kernel
theorem d_X11_end_13 : decode (gw_mC M_X11_end) 13 = .ok (.aload_n 0, 1) := by decide +kernel
theorem d_X11_end_14 : decode (gw_mC M_X11_end) 14 = .ok (.getfield 10, 3) := by decide +kernel
theorem d_X11_end_17 : decode (gw_mC M_X11_end) 17 = .ok (.getfield 96, 3) := by decide +kernel
theorem d_X11_end_20 : decode (gw_mC M_X11_end) 20 = .ok (.istore_n 2, 1) := by decide +kernel
theorem d_X11_end_21 : decode (gw_mC M_X11_end) 21 = .ok (.aload_n 0, 1) := by decide +kernel
theorem d_X11_end_22 : decode (gw_mC M_X11_end) 22 = .ok (.getfield 10, 3) := by decide +kernel
theorem d_X11_end_25 : decode (gw_mC M_X11_end) 25 = .ok (.iload_n 1, 1) := by decide +kernel
theorem d_X11_end_26 : decode (gw_mC M_X11_end) 26 = .ok (.putfield 96, 3) := by decide +kernel
theorem d_X11_end_29 : decode (gw_mC M_X11_end) 29 = .ok (.aload_n 0, 1) := by decide +kernel
theorem d_X11_end_30 : decode (gw_mC M_X11_end) 30 = .ok (.invokevirtual 99, 3) := by decide +kernel
theorem d_X11_end_33 : decode (gw_mC M_X11_end) 33 = .ok (.iload_n 2, 1) := by decide +kernel
theorem d_X11_end_34 : decode (gw_mC M_X11_end) 34 = .ok (.ireturn, 1) := by decide +kernel
theorem d_X11_mark_0 : decode (gw_mC M_X11_mark) 0 = .ok (.iload_n 1, 1) := by decide +kernel
theorem d_X11_mark_1 : decode (gw_mC M_X11_mark) 1 = .ok (.iconst 0, 1) := by decide +kernel
theorem d_X11_mark_2 : decode (gw_mC M_X11_mark) 2 = .ok (.iconst 3, 1) := by decide +kernel
theorem d_X11_mark_3 : decode (gw_mC M_X11_mark) 3 = .ok (.invokestatic 92, 3) := by decide +kernel
theorem d_X11_mark_6 : decode (gw_mC M_X11_mark) 6 = .ok (.ifCond .eq 30, 3) := by decide +kernel
theorem d_X11_mark_9 : decode (gw_mC M_X11_mark) 9 = .ok (.iload_n 2, 1) := by decide +kernel
theorem d_X11_mark_10 : decode (gw_mC M_X11_mark) 10 = .ok (.iconst 0, 1) := by decide +kernel
theorem d_X11_mark_11 : decode (gw_mC M_X11_mark) 11 = .ok (.bipush 99, 2) := by decide +kernel
theorem d_X11_mark_13 : decode (gw_mC M_X11_mark) 13 = .ok (.invokestatic 92, 3) := by decide +kernel
theorem d_X11_mark_16 : decode (gw_mC M_X11_mark) 16 = .ok (.ifCond .eq 20, 3) := by decide +kernel
theorem d_X11_mark_19 : decode (gw_mC M_X11_mark) 19 = .ok (.iload_n 3, 1) := by decide +kernel
theorem d_X11_mark_20 : decode (gw_mC M_X11_mark) 20 = .ok (.getstatic 102, 3) := by decide +kernel
theorem d_X11_mark_23 : decode (gw_mC M_X11_mark) 23 = .ok (.iload_n 1, 1) := by decide +kernel
theorem d_X11_mark_24 : decode (gw_mC M_X11_mark) 24 = .ok (.iaload, 1) := by decide +kernel
theorem d_X11_mark_25 : decode (gw_mC M_X11_mark) 25 = .ok (.getstatic 105, 3) := by decide +kernel
theorem d_X11_mark_28 : decode (gw_mC M_X11_mark) 28 = .ok (.iload_n 1, 1) := by decide +kernel
theorem d_X11_mark_29 : decode (gw_mC M_X11_mark) 29 = .ok (.iaload, 1) := by decide +kernel
theorem d_X11_mark_30 : decode (gw_mC M_X11_mark) 30 = .ok (.invokestatic 92, 3) := by decide +kernel
theorem d_X11_mark_33 : decode (gw_mC M_X11_mark) 33 = .ok (.ifCond .ne 5, 3) := by decide +kernel
theorem d_X11_mark_36 : decode (gw_mC M_X11_mark) 36 = .ok (.iconst (-1), 1) := by decide +kernel
theorem d_X11_mark_37 : decode (gw_mC M_X11_mark) 37 = .ok (.ireturn, 1) := by decide +kernel
theorem d_X11_mark_38 : decode (gw_mC M_X11_mark) 38 = .ok (.aload_n 0, 1) := by decide +kernel
theorem d_X11_mark_39 : decode (gw_mC M_X11_mark) 39 = .ok (.getfield 10, 3) := by decide +kernel
theorem d_X11_mark_42 : decode (gw_mC M_X11_mark) 42 = .ok (.getfield 108, 3) := by decide +kernel
theorem d_X11_mark_45 : decode (gw_mC M_X11_mark) 45 = .ok (.iload_n 1, 1) := by decide +kernel
theorem d_X11_mark_46 : decode (gw_mC M_X11_mark) 46 = .ok (.iload_n 2, 1) := by decide +kernel
theorem d_X11_mark_47 : decode (gw_mC M_X11_mark) 47 = .ok (.iload_n 3, 1) := by decide +kernel
theorem d_X11_mark_48 : decode (gw_mC M_X11_mark) 48 = .ok (.invokevirtual 111, 3) := by decide +kernel
theorem d_X11_mark_51 : decode (gw_mC M_X11_mark) 51 = .ok (.istore 4, 2) := by decide +kernel
theorem d_X11_mark_53 : decode (gw_mC M_X11_mark) 53 = .ok (.iload 4, 2) := by decide +kernel
theorem d_X11_mark_55 : decode (gw_mC M_X11_mark) 55 = .ok (.ifCond .lt 7, 3) := by decide +kernel
theorem d_X11_mark_58 : decode (gw_mC M_X11_mark) 58 = .ok (.aload_n 0, 1) := by decide +kernel
theorem d_X11_mark_59 : decode (gw_mC M_X11_mark) 59 = .ok (.invokevirtual 99, 3) := by decide +kernel
theorem d_X11_mark_62 : decode (gw_mC M_X11_mark) 62 = .ok (.iload 4, 2) := by decide +kernel
theorem d_X11_mark_64 : decode (gw_mC M_X11_mark) 64 = .ok (.ireturn, 1) := by decide +kernel
theorem d_X11_person_0 : decode (gw_mC M_X11_person) 0 = .ok (.iload_n 1, 1) := by decide +kernel
theorem d_X11_person_1 : decode (gw_mC M_X11_person) 1 = .ok (.iconst 0, 1) := by decide +kernel
theorem d_X11_person_2 : decode (gw_mC M_X11_person) 2 = .ok (.iconst 3, 1) := by decide +kernel
theorem d_X11_person_3 : decode (gw_mC M_X11_person) 3 = .ok (.invokestatic 92, 3) := by decide +kernel
theorem d_X11_person_6 : decode (gw_mC M_X11_person) 6 = .ok (.ifCond .eq 12, 3) := by decide +kernel
theorem d_X11_person_9 : decode (gw_mC M_X11_person) 9 = .ok (.iload_n 2, 1) := by decide +kernel
theorem d_X11_person_10 : decode (gw_mC M_X11_person) 10 = .ok (.iconst 1, 1) := by decide +kernel
theorem d_X11_person_11 : decode (gw_mC M_X11_person) 11 = .ok (.iconst 4, 1) := by decide +kernel
theorem d_X11_person_12 : decode (gw_mC M_X11_person) 12 = .ok (.invokestatic 92, 3) := by decide +kernel
theorem d_X11_person_15 : decode (gw_mC M_X11_person) 15 = .ok (.ifCond .ne 5, 3) := by decide +kernel
theorem d_X11_person_18 : decode (gw_mC M_X11_person) 18 = .ok (.iconst (-1), 1) := by decide +kernel
theorem d_X11_person_19 : decode (gw_mC M_X11_person) 19 = .ok (.ireturn, 1) := by decide +kernel
theorem d_X11_person_20 : decode (gw_mC M_X11_person) 20 = .ok (.aload_n 0, 1) := by decide +kernel
theorem d_X11_person_21 : decode (gw_mC M_X11_person) 21 = .ok (.getfield 10, 3) := by decide +kernel
theorem d_X11_person_24 : decode (gw_mC M_X11_person) 24 = .ok (.getfield 128, 3) := by decide +kernel
theorem d_X11_person_27 : decode (gw_mC M_X11_person) 27 = .ok (.iload_n 1, 1) := by decide +kernel
theorem d_X11_person_28 : decode (gw_mC M_X11_person) 28 = .ok (.iload_n 2, 1) := by decide +kernel
theorem d_X11_person_29 : decode (gw_mC M_X11_person) 29 = .ok (.iload_n 3, 1) := by decide +kernel
theorem d_X11_person_30 : decode (gw_mC M_X11_person) 30 = .ok (.invokevirtual 131, 3) := by decide +kernel
theorem d_X11_person_33 : decode (gw_mC M_X11_person) 33 = .ok (.istore 4, 2) := by decide +kernel
theorem d_X11_person_35 : decode (gw_mC M_X11_person) 35 = .ok (.iload 4, 2) := by decide +kernel
theorem d_X11_person_37 : decode (gw_mC M_X11_person) 37 = .ok (.ifCond .lt 7, 3) := by decide +kernel
theorem d_X11_person_40 : decode (gw_mC M_X11_person) 40 = .ok (.aload_n 0, 1) := by decide +kernel
theorem d_X11_person_41 : decode (gw_mC M_X11_person) 41 = .ok (.invokevirtual 99, 3) := by decide +kernel
theorem d_X11_person_44 : decode (gw_mC M_X11_person) 44 = .ok (.iload 4, 2) := by decide +kernel
theorem d_X11_person_46 : decode (gw_mC M_X11_person) 46 = .ok (.ireturn, 1) := by decide +kernel
theorem d_X11_rule_0 : decode (gw_mC M_X11_rule) 0 = .ok (.iload_n 1, 1) := by decide +kernel
theorem d_X11_rule_1 : decode (gw_mC M_X11_rule) 1 = .ok (.iconst 0, 1) := by decide +kernel
theorem d_X11_rule_2 : decode (gw_mC M_X11_rule) 2 = .ok (.iconst 4, 1) := by decide +kernel
theorem d_X11_rule_3 : decode (gw_mC M_X11_rule) 3 = .ok (.invokestatic 92, 3) := by decide +kernel
theorem d_X11_rule_6 : decode (gw_mC M_X11_rule) 6 = .ok (.ifCond .eq 20, 3) := by decide +kernel
theorem d_X11_rule_9 : decode (gw_mC M_X11_rule) 9 = .ok (.iload_n 2, 1) := by decide +kernel
theorem d_X11_rule_10 : decode (gw_mC M_X11_rule) 10 = .ok (.getstatic 148, 3) := by decide +kernel
theorem d_X11_rule_13 : decode (gw_mC M_X11_rule) 13 = .ok (.iload_n 1, 1) := by decide +kernel
theorem d_X11_rule_14 : decode (gw_mC M_X11_rule) 14 = .ok (.iaload, 1) := by decide +kernel
theorem d_X11_rule_15 : decode (gw_mC M_X11_rule) 15 = .ok (.getstatic 151, 3) := by decide +kernel
theorem d_X11_rule_18 : decode (gw_mC M_X11_rule) 18 = .ok (.iload_n 1, 1) := by decide +kernel
theorem d_X11_rule_19 : decode (gw_mC M_X11_rule) 19 = .ok (.iaload, 1) := by decide +kernel
theorem d_X11_rule_20 : decode (gw_mC M_X11_rule) 20 = .ok (.invokestatic 92, 3) := by decide +kernel
theorem d_X11_rule_23 : decode (gw_mC M_X11_rule) 23 = .ok (.ifCond .ne 5, 3) := by decide +kernel
theorem d_X11_rule_26 : decode (gw_mC M_X11_rule) 26 = .ok (.iconst (-1), 1) := by decide +kernel
theorem d_X11_rule_27 : decode (gw_mC M_X11_rule) 27 = .ok (.ireturn, 1) := by decide +kernel
theorem d_X11_rule_28 : decode (gw_mC M_X11_rule) 28 = .ok (.aload_n 0, 1) := by decide +kernel
theorem d_X11_rule_29 : decode (gw_mC M_X11_rule) 29 = .ok (.getfield 10, 3) := by decide +kernel
theorem d_X11_rule_32 : decode (gw_mC M_X11_rule) 32 = .ok (.getfield 154, 3) := by decide +kernel
theorem d_X11_rule_35 : decode (gw_mC M_X11_rule) 35 = .ok (.iload_n 1, 1) := by decide +kernel
theorem d_X11_rule_36 : decode (gw_mC M_X11_rule) 36 = .ok (.iaload, 1) := by decide +kernel
theorem d_X11_rule_37 : decode (gw_mC M_X11_rule) 37 = .ok (.istore_n 3, 1) := by decide +kernel
theorem d_X11_rule_38 : decode (gw_mC M_X11_rule) 38 = .ok (.aload_n 0, 1) := by decide +kernel
theorem d_X11_rule_39 : decode (gw_mC M_X11_rule) 39 = .ok (.getfield 10, 3) := by decide +kernel
theorem d_X11_rule_42 : decode (gw_mC M_X11_rule) 42 = .ok (.getfield 154, 3) := by decide +kernel
theorem d_X11_rule_45 : decode (gw_mC M_X11_rule) 45 = .ok (.iload_n 1, 1) := by decide +kernel
theorem d_X11_rule_46 : decode (gw_mC M_X11_rule) 46 = .ok (.iload_n 2, 1) := by decide +kernel
theorem d_X11_rule_47 : decode (gw_mC M_X11_rule) 47 = .ok (.iastore, 1) := by decide +kernel
theorem d_X11_rule_48 : decode (gw_mC M_X11_rule) 48 = .ok (.aload_n 0, 1) := by decide +kernel
theorem d_X11_rule_49 : decode (gw_mC M_X11_rule) 49 = .ok (.invokevirtual 99, 3) := by decide +kernel
theorem d_X11_rule_52 : decode (gw_mC M_X11_rule) 52 = .ok (.iload_n 3, 1) := by decide +kernel
theorem d_X11_rule_53 : decode (gw_mC M_X11_rule) 53 = .ok (.ireturn, 1) := by decide +kernel
theorem d_X11_fate_0 : decode (gw_mC M_X11_fate) 0 = .ok (.aload_n 0, 1) := by decide +kernel
theorem d_X11_fate_1 : decode (gw_mC M_X11_fate) 1 = .ok (.iload_n 1, 1) := by decide +kernel
theorem d_X11_fate_2 : decode (gw_mC M_X11_fate) 2 = .ok (.invokevirtual 134, 3) := by decide +kernel
theorem d_X11_fate_5 : decode (gw_mC M_X11_fate) 5 = .ok (.ifCond .eq 12, 3) := by decide +kernel
theorem d_X11_fate_8 : decode (gw_mC M_X11_fate) 8 = .ok (.iload_n 2, 1) := by decide +kernel
theorem d_X11_fate_9 : decode (gw_mC M_X11_fate) 9 = .ok (.iconst 0, 1) := by decide +kernel
theorem d_X11_fate_10 : decode (gw_mC M_X11_fate) 10 = .ok (.iconst 3, 1) := by decide +kernel
theorem d_X11_fate_11 : decode (gw_mC M_X11_fate) 11 = .ok (.invokestatic 92, 3) := by decide +kernel
theorem d_X11_fate_14 : decode (gw_mC M_X11_fate) 14 = .ok (.ifCond .ne 5, 3) := by decide +kernel
theorem d_X11_fate_17 : decode (gw_mC M_X11_fate) 17 = .ok (.iconst (-1), 1) := by decide +kernel
theorem d_X11_fate_18 : decode (gw_mC M_X11_fate) 18 = .ok (.ireturn, 1) := by decide +kernel
theorem d_X11_fate_19 : decode (gw_mC M_X11_fate) 19 = .ok (.aload_n 0, 1) := by decide +kernel
theorem d_X11_fate_20 : decode (gw_mC M_X11_fate) 20 = .ok (.invokevirtual 187, 3) := by decide +kernel
theorem d_X11_fate_23 : decode (gw_mC M_X11_fate) 23 = .ok (.iload_n 2, 1) := by decide +kernel
theorem d_X11_fate_24 : decode (gw_mC M_X11_fate) 24 = .ok (.tableswitch 58 0 2 #[28, 38, 48], 28) := by decide +kernel
theorem d_X11_fate_52 : decode (gw_mC M_X11_fate) 52 = .ok (.aload_n 0, 1) := by decide +kernel
theorem d_X11_fate_53 : decode (gw_mC M_X11_fate) 53 = .ok (.getfield 47, 3) := by decide +kernel
theorem d_X11_fate_56 : decode (gw_mC M_X11_fate) 56 = .ok (.getfield 190, 3) := by decide +kernel
theorem d_X11_fate_59 : decode (gw_mC M_X11_fate) 59 = .ok (.iload_n 1, 1) := by decide +kernel
theorem d_X11_fate_60 : decode (gw_mC M_X11_fate) 60 = .ok (.iaload, 1) := by decide +kernel
theorem d_X11_fate_61 : decode (gw_mC M_X11_fate) 61 = .ok (.ireturn, 1) := by decide +kernel
theorem d_X11_fate_62 : decode (gw_mC M_X11_fate) 62 = .ok (.aload_n 0, 1) := by decide +kernel
theorem d_X11_fate_63 : decode (gw_mC M_X11_fate) 63 = .ok (.getfield 47, 3) := by decide +kernel
theorem d_X11_fate_66 : decode (gw_mC M_X11_fate) 66 = .ok (.getfield 193, 3) := by decide +kernel
theorem d_X11_fate_69 : decode (gw_mC M_X11_fate) 69 = .ok (.iload_n 1, 1) := by decide +kernel
theorem d_X11_fate_70 : decode (gw_mC M_X11_fate) 70 = .ok (.iaload, 1) := by decide +kernel
theorem d_X11_fate_71 : decode (gw_mC M_X11_fate) 71 = .ok (.ireturn, 1) := by decide +kernel
theorem d_X11_fate_72 : decode (gw_mC M_X11_fate) 72 = .ok (.aload_n 0, 1) := by decide +kernel
theorem d_X11_fate_73 : decode (gw_mC M_X11_fate) 73 = .ok (.getfield 47, 3) := by decide +kernel
theorem d_X11_fate_76 : decode (gw_mC M_X11_fate) 76 = .ok (.getfield 196, 3) := by decide +kernel
theorem d_X11_fate_79 : decode (gw_mC M_X11_fate) 79 = .ok (.iload_n 1, 1) := by decide +kernel
theorem d_X11_fate_80 : decode (gw_mC M_X11_fate) 80 = .ok (.iaload, 1) := by decide +kernel
theorem d_X11_fate_81 : decode (gw_mC M_X11_fate) 81 = .ok (.ireturn, 1) := by decide +kernel
theorem d_X11_fate_82 : decode (gw_mC M_X11_fate) 82 = .ok (.aload_n 0, 1) := by decide +kernel
theorem d_X11_fate_83 : decode (gw_mC M_X11_fate) 83 = .ok (.getfield 47, 3) := by decide +kernel
theorem d_X11_fate_86 : decode (gw_mC M_X11_fate) 86 = .ok (.getfield 199, 3) := by decide +kernel
theorem d_X11_fate_89 : decode (gw_mC M_X11_fate) 89 = .ok (.iload_n 1, 1) := by decide +kernel
theorem d_X11_fate_90 : decode (gw_mC M_X11_fate) 90 = .ok (.iaload, 1) := by decide +kernel
theorem d_X11_fate_91 : decode (gw_mC M_X11_fate) 91 = .ok (.ireturn, 1) := by decide +kernel
theorem d_X11_at_0 : decode (gw_mC M_X11_at) 0 = .ok (.iload_n 1, 1) := by decide +kernel
theorem d_X11_at_1 : decode (gw_mC M_X11_at) 1 = .ok (.iconst 0, 1) := by decide +kernel
theorem d_X11_at_2 : decode (gw_mC M_X11_at) 2 = .ok (.sipush 299, 3) := by decide +kernel
theorem d_X11_at_5 : decode (gw_mC M_X11_at) 5 = .ok (.invokestatic 92, 3) := by decide +kernel
theorem d_X11_at_8 : decode (gw_mC M_X11_at) 8 = .ok (.ifCond .eq 24, 3) := by decide +kernel
theorem d_X11_at_11 : decode (gw_mC M_X11_at) 11 = .ok (.iload_n 2, 1) := by decide +kernel
theorem d_X11_at_12 : decode (gw_mC M_X11_at) 12 = .ok (.bipush (-2), 2) := by decide +kernel
theorem d_X11_at_14 : decode (gw_mC M_X11_at) 14 = .ok (.aload_n 0, 1) := by decide +kernel
theorem d_X11_at_15 : decode (gw_mC M_X11_at) 15 = .ok (.getfield 10, 3) := by decide +kernel
theorem d_X11_at_18 : decode (gw_mC M_X11_at) 18 = .ok (.getfield 128, 3) := by decide +kernel
theorem d_X11_at_21 : decode (gw_mC M_X11_at) 21 = .ok (.getfield 180, 3) := by decide +kernel
theorem d_X11_at_24 : decode (gw_mC M_X11_at) 24 = .ok (.iconst 1, 1) := by decide +kernel
theorem d_X11_at_25 : decode (gw_mC M_X11_at) 25 = .ok (.isub, 1) := by decide +kernel
theorem d_X11_at_26 : decode (gw_mC M_X11_at) 26 = .ok (.invokestatic 92, 3) := by decide +kernel
theorem d_X11_at_29 : decode (gw_mC M_X11_at) 29 = .ok (.ifCond .ne 5, 3) := by decide +kernel
theorem d_X11_at_32 : decode (gw_mC M_X11_at) 32 = .ok (.iconst (-1), 1) := by decide +kernel
theorem d_X11_at_33 : decode (gw_mC M_X11_at) 33 = .ok (.ireturn, 1) := by decide +kernel
theorem d_X11_at_34 : decode (gw_mC M_X11_at) 34 = .ok (.aload_n 0, 1) := by decide +kernel
theorem d_X11_at_35 : decode (gw_mC M_X11_at) 35 = .ok (.invokevirtual 187, 3) := by decide +kernel
theorem d_X11_at_38 : decode (gw_mC M_X11_at) 38 = .ok (.iconst 0, 1) := by decide +kernel
theorem d_X11_at_39 : decode (gw_mC M_X11_at) 39 = .ok (.iload_n 1, 1) := by decide +kernel
theorem d_X11_at_40 : decode (gw_mC M_X11_at) 40 = .ok (.aload_n 0, 1) := by decide +kernel
theorem d_X11_at_41 : decode (gw_mC M_X11_at) 41 = .ok (.getfield 61, 3) := by decide +kernel
theorem d_X11_at_44 : decode (gw_mC M_X11_at) 44 = .ok (.iconst 1, 1) := by decide +kernel
theorem d_X11_at_45 : decode (gw_mC M_X11_at) 45 = .ok (.isub, 1) := by decide +kernel
theorem d_X11_at_46 : decode (gw_mC M_X11_at) 46 = .ok (.invokestatic 202, 3) := by decide +kernel
theorem d_X11_at_49 : decode (gw_mC M_X11_at) 49 = .ok (.invokestatic 208, 3) := by decide +kernel
theorem d_X11_at_52 : decode (gw_mC M_X11_at) 52 = .ok (.istore_n 3, 1) := by decide +kernel
theorem d_X11_at_53 : decode (gw_mC M_X11_at) 53 = .ok (.aload_n 0, 1) := by decide +kernel
theorem d_X11_at_54 : decode (gw_mC M_X11_at) 54 = .ok (.getfield 57, 3) := by decide +kernel
theorem d_X11_at_57 : decode (gw_mC M_X11_at) 57 = .ok (.iload_n 3, 1) := by decide +kernel
theorem d_X11_at_58 : decode (gw_mC M_X11_at) 58 = .ok (.bipush 12, 2) := by decide +kernel
theorem d_X11_at_60 : decode (gw_mC M_X11_at) 60 = .ok (.imul, 1) := by decide +kernel
theorem d_X11_at_61 : decode (gw_mC M_X11_at) 61 = .ok (.iload_n 2, 1) := by decide +kernel
theorem d_X11_at_62 : decode (gw_mC M_X11_at) 62 = .ok (.iadd, 1) := by decide +kernel
theorem d_X11_at_63 : decode (gw_mC M_X11_at) 63 = .ok (.iconst 2, 1) := by decide +kernel
theorem d_X11_at_64 : decode (gw_mC M_X11_at) 64 = .ok (.iadd, 1) := by decide +kernel
theorem d_X11_at_65 : decode (gw_mC M_X11_at) 65 = .ok (.iaload, 1) := by decide +kernel
theorem d_X11_at_66 : decode (gw_mC M_X11_at) 66 = .ok (.ireturn, 1) := by decide +kernel
theorem d_X11_all_0 : decode (gw_mC M_X11_all) 0 = .ok (.iload_n 1, 1) := by decide +kernel
theorem d_X11_all_1 : decode (gw_mC M_X11_all) 1 = .ok (.iconst 0, 1) := by decide +kernel
theorem d_X11_all_2 : decode (gw_mC M_X11_all) 2 = .ok (.iconst 5, 1) := by decide +kernel
theorem d_X11_all_3 : decode (gw_mC M_X11_all) 3 = .ok (.invokestatic 92, 3) := by decide +kernel
theorem d_X11_all_6 : decode (gw_mC M_X11_all) 6 = .ok (.ifCond .ne 5, 3) := by decide +kernel
theorem d_X11_all_9 : decode (gw_mC M_X11_all) 9 = .ok (.iconst (-1), 1) := by decide +kernel
theorem d_X11_all_10 : decode (gw_mC M_X11_all) 10 = .ok (.ireturn, 1) := by decide +kernel
theorem d_X11_all_11 : decode (gw_mC M_X11_all) 11 = .ok (.aload_n 0, 1) := by decide +kernel
theorem d_X11_all_12 : decode (gw_mC M_X11_all) 12 = .ok (.invokevirtual 187, 3) := by decide +kernel
theorem d_X11_all_15 : decode (gw_mC M_X11_all) 15 = .ok (.iload_n 1, 1) := by decide +kernel
theorem d_X11_all_16 : decode (gw_mC M_X11_all) 16 = .ok (.tableswitch 76 0 4 #[36, 44, 52, 60, 68], 36) := by decide +kernel
theorem d_X11_all_52 : decode (gw_mC M_X11_all) 52 = .ok (.aload_n 0, 1) := by decide +kernel
theorem d_X11_all_53 : decode (gw_mC M_X11_all) 53 = .ok (.getfield 47, 3) := by decide +kernel
theorem d_X11_all_56 : decode (gw_mC M_X11_all) 56 = .ok (.invokevirtual 211, 3) := by decide +kernel
theorem d_X11_all_59 : decode (gw_mC M_X11_all) 59 = .ok (.ireturn, 1) := by decide +kernel
theorem d_X11_all_60 : decode (gw_mC M_X11_all) 60 = .ok (.aload_n 0, 1) := by decide +kernel
theorem d_X11_all_61 : decode (gw_mC M_X11_all) 61 = .ok (.getfield 47, 3) := by decide +kernel
theorem d_X11_all_64 : decode (gw_mC M_X11_all) 64 = .ok (.invokevirtual 214, 3) := by decide +kernel
theorem d_X11_all_67 : decode (gw_mC M_X11_all) 67 = .ok (.ireturn, 1) := by decide +kernel
theorem d_X11_all_68 : decode (gw_mC M_X11_all) 68 = .ok (.aload_n 0, 1) := by decide +kernel
theorem d_X11_all_69 : decode (gw_mC M_X11_all) 69 = .ok (.getfield 47, 3) := by decide +kernel
theorem d_X11_all_72 : decode (gw_mC M_X11_all) 72 = .ok (.getfield 217, 3) := by decide +kernel
theorem d_X11_all_75 : decode (gw_mC M_X11_all) 75 = .ok (.ireturn, 1) := by decide +kernel
theorem d_X11_all_76 : decode (gw_mC M_X11_all) 76 = .ok (.aload_n 0, 1) := by decide +kernel
theorem d_X11_all_77 : decode (gw_mC M_X11_all) 77 = .ok (.getfield 47, 3) := by decide +kernel
theorem d_X11_all_80 : decode (gw_mC M_X11_all) 80 = .ok (.invokevirtual 220, 3) := by decide +kernel
theorem d_X11_all_83 : decode (gw_mC M_X11_all) 83 = .ok (.ireturn, 1) := by decide +kernel
theorem d_X11_all_84 : decode (gw_mC M_X11_all) 84 = .ok (.aload_n 0, 1) := by decide +kernel
theorem d_X11_all_85 : decode (gw_mC M_X11_all) 85 = .ok (.getfield 47, 3) := by decide +kernel
theorem d_X11_all_88 : decode (gw_mC M_X11_all) 88 = .ok (.getfield 223, 3) := by decide +kernel
theorem d_X11_all_91 : decode (gw_mC M_X11_all) 91 = .ok (.ireturn, 1) := by decide +kernel
theorem d_X11_all_92 : decode (gw_mC M_X11_all) 92 = .ok (.aload_n 0, 1) := by decide +kernel
theorem d_X11_all_93 : decode (gw_mC M_X11_all) 93 = .ok (.getfield 47, 3) := by decide +kernel
theorem d_X11_all_96 : decode (gw_mC M_X11_all) 96 = .ok (.invokevirtual 226, 3) := by decide +kernel
theorem d_X11_all_99 : decode (gw_mC M_X11_all) 99 = .ok (.ireturn, 1) := by decide +kernel
theorem d_X11_best_0 : decode (gw_mC M_X11_best) 0 = .ok (.iload_n 1, 1) := by decide +kernel
theorem d_X11_best_1 : decode (gw_mC M_X11_best) 1 = .ok (.iconst 0, 1) := by decide +kernel
theorem d_X11_best_2 : decode (gw_mC M_X11_best) 2 = .ok (.sipush 299, 3) := by decide +kernel
theorem d_X11_best_5 : decode (gw_mC M_X11_best) 5 = .ok (.invokestatic 92, 3) := by decide +kernel
theorem d_X11_best_8 : decode (gw_mC M_X11_best) 8 = .ok (.ifCond .eq 12, 3) := by decide +kernel
theorem d_X11_best_11 : decode (gw_mC M_X11_best) 11 = .ok (.iload_n 2, 1) := by decide +kernel
theorem d_X11_best_12 : decode (gw_mC M_X11_best) 12 = .ok (.iconst 0, 1) := by decide +kernel
theorem d_X11_best_13 : decode (gw_mC M_X11_best) 13 = .ok (.iconst 3, 1) := by decide +kernel
theorem d_X11_best_14 : decode (gw_mC M_X11_best) 14 = .ok (.invokestatic 92, 3) := by decide +kernel
theorem d_X11_best_17 : decode (gw_mC M_X11_best) 17 = .ok (.ifCond .ne 5, 3) := by decide +kernel
theorem d_X11_best_20 : decode (gw_mC M_X11_best) 20 = .ok (.iconst (-1), 1) := by decide +kernel
theorem d_X11_best_21 : decode (gw_mC M_X11_best) 21 = .ok (.ireturn, 1) := by decide +kernel
theorem d_X11_best_22 : decode (gw_mC M_X11_best) 22 = .ok (.aload_n 0, 1) := by decide +kernel
theorem d_X11_best_23 : decode (gw_mC M_X11_best) 23 = .ok (.getfield 10, 3) := by decide +kernel
theorem d_X11_best_26 : decode (gw_mC M_X11_best) 26 = .ok (.getfield 128, 3) := by decide +kernel
theorem d_X11_best_29 : decode (gw_mC M_X11_best) 29 = .ok (.getfield 180, 3) := by decide +kernel
theorem d_X11_best_32 : decode (gw_mC M_X11_best) 32 = .ok (.ifCond .ne 6, 3) := by decide +kernel
theorem d_X11_best_35 : decode (gw_mC M_X11_best) 35 = .ok (.bipush (-2), 2) := by decide +kernel
theorem d_X11_best_37 : decode (gw_mC M_X11_best) 37 = .ok (.ireturn, 1) := by decide +kernel
theorem d_X11_best_38 : decode (gw_mC M_X11_best) 38 = .ok (.aload_n 0, 1) := by decide +kernel
theorem d_X11_best_39 : decode (gw_mC M_X11_best) 39 = .ok (.getfield 68, 3) := by decide +kernel
theorem d_X11_best_42 : decode (gw_mC M_X11_best) 42 = .ok (.iload_n 1, 1) := by decide +kernel
theorem d_X11_best_43 : decode (gw_mC M_X11_best) 43 = .ok (.if_icmp .eq 13, 3) := by decide +kernel
theorem d_X11_best_46 : decode (gw_mC M_X11_best) 46 = .ok (.aload_n 0, 1) := by decide +kernel
theorem d_X11_best_47 : decode (gw_mC M_X11_best) 47 = .ok (.iload_n 1, 1) := by decide +kernel
theorem d_X11_best_48 : decode (gw_mC M_X11_best) 48 = .ok (.invokevirtual 229, 3) := by decide +kernel
theorem d_X11_best_51 : decode (gw_mC M_X11_best) 51 = .ok (.aload_n 0, 1) := by decide +kernel
theorem d_X11_best_52 : decode (gw_mC M_X11_best) 52 = .ok (.iload_n 1, 1) := by decide +kernel
theorem d_X11_best_53 : decode (gw_mC M_X11_best) 53 = .ok (.putfield 68, 3) := by decide +kernel
theorem d_X11_best_56 : decode (gw_mC M_X11_best) 56 = .ok (.aload_n 0, 1) := by decide +kernel
theorem d_X11_best_57 : decode (gw_mC M_X11_best) 57 = .ok (.getfield 65, 3) := by decide +kernel
theorem d_X11_best_60 : decode (gw_mC M_X11_best) 60 = .ok (.iconst 3, 1) := by decide +kernel
theorem d_X11_best_61 : decode (gw_mC M_X11_best) 61 = .ok (.iaload, 1) := by decide +kernel
theorem d_X11_best_62 : decode (gw_mC M_X11_best) 62 = .ok (.ifCond .ge 8, 3) := by decide +kernel
theorem d_X11_best_65 : decode (gw_mC M_X11_best) 65 = .ok (.bipush (-4), 2) := by decide +kernel
theorem d_X11_best_67 : decode (gw_mC M_X11_best) 67 = .ok (.goto 9, 3) := by decide +kernel
theorem d_X11_best_70 : decode (gw_mC M_X11_best) 70 = .ok (.aload_n 0, 1) := by decide +kernel
theorem d_X11_best_71 : decode (gw_mC M_X11_best) 71 = .ok (.getfield 65, 3) := by decide +kernel
theorem d_X11_best_74 : decode (gw_mC M_X11_best) 74 = .ok (.iload_n 2, 1) := by decide +kernel
theorem d_X11_best_75 : decode (gw_mC M_X11_best) 75 = .ok (.iaload, 1) := by decide +kernel
theorem d_X11_best_76 : decode (gw_mC M_X11_best) 76 = .ok (.ireturn, 1) := by decide +kernel
theorem d_X11_worth_0 : decode (gw_mC M_X11_worth) 0 = .ok (.aload_n 0, 1) := by decide +kernel
theorem d_X11_worth_1 : decode (gw_mC M_X11_worth) 1 = .ok (.iload_n 1, 1) := by decide +kernel
theorem d_X11_worth_2 : decode (gw_mC M_X11_worth) 2 = .ok (.invokevirtual 134, 3) := by decide +kernel
theorem d_X11_worth_5 : decode (gw_mC M_X11_worth) 5 = .ok (.ifCond .ne 6, 3) := by decide +kernel
theorem d_X11_worth_8 : decode (gw_mC M_X11_worth) 8 = .ok (.ldc 233, 2) := by decide +kernel
theorem d_X11_worth_10 : decode (gw_mC M_X11_worth) 10 = .ok (.ireturn, 1) := by decide +kernel
theorem d_X11_worth_11 : decode (gw_mC M_X11_worth) 11 = .ok (.aload_n 0, 1) := by decide +kernel
theorem d_X11_worth_12 : decode (gw_mC M_X11_worth) 12 = .ok (.getfield 10, 3) := by decide +kernel
theorem d_X11_worth_15 : decode (gw_mC M_X11_worth) 15 = .ok (.getfield 128, 3) := by decide +kernel
theorem d_X11_worth_18 : decode (gw_mC M_X11_worth) 18 = .ok (.getfield 138, 3) := by decide +kernel
theorem d_X11_worth_21 : decode (gw_mC M_X11_worth) 21 = .ok (.iload_n 1, 1) := by decide +kernel
theorem d_X11_worth_22 : decode (gw_mC M_X11_worth) 22 = .ok (.iaload, 1) := by decide +kernel
theorem d_X11_worth_23 : decode (gw_mC M_X11_worth) 23 = .ok (.iconst 3, 1) := by decide +kernel
theorem d_X11_worth_24 : decode (gw_mC M_X11_worth) 24 = .ok (.if_icmp .ne 7, 3) := by decide +kernel
theorem d_X11_worth_27 : decode (gw_mC M_X11_worth) 27 = .ok (.iconst 1, 1) := by decide +kernel
theorem d_X11_worth_28 : decode (gw_mC M_X11_worth) 28 = .ok (.goto 4, 3) := by decide +kernel
theorem d_X11_worth_31 : decode (gw_mC M_X11_worth) 31 = .ok (.iconst 0, 1) := by decide +kernel
theorem d_X11_worth_32 : decode (gw_mC M_X11_worth) 32 = .ok (.istore_n 2, 1) := by decide +kernel
theorem d_X11_worth_33 : decode (gw_mC M_X11_worth) 33 = .ok (.iload_n 2, 1) := by decide +kernel
theorem d_X11_worth_34 : decode (gw_mC M_X11_worth) 34 = .ok (.ifCond .ne 21, 3) := by decide +kernel
theorem d_X11_worth_37 : decode (gw_mC M_X11_worth) 37 = .ok (.aload_n 0, 1) := by decide +kernel
theorem d_X11_worth_38 : decode (gw_mC M_X11_worth) 38 = .ok (.getfield 10, 3) := by decide +kernel
theorem d_X11_worth_41 : decode (gw_mC M_X11_worth) 41 = .ok (.getfield 128, 3) := by decide +kernel
theorem d_X11_worth_44 : decode (gw_mC M_X11_worth) 44 = .ok (.getfield 144, 3) := by decide +kernel
theorem d_X11_worth_47 : decode (gw_mC M_X11_worth) 47 = .ok (.iload_n 1, 1) := by decide +kernel
theorem d_X11_worth_48 : decode (gw_mC M_X11_worth) 48 = .ok (.baload, 1) := by decide +kernel
theorem d_X11_worth_49 : decode (gw_mC M_X11_worth) 49 = .ok (.ifCond .ne 6, 3) := by decide +kernel
theorem d_X11_worth_52 : decode (gw_mC M_X11_worth) 52 = .ok (.ldc 234, 2) := by decide +kernel
theorem d_X11_worth_54 : decode (gw_mC M_X11_worth) 54 = .ok (.ireturn, 1) := by decide +kernel
theorem d_X11_worth_55 : decode (gw_mC M_X11_worth) 55 = .ok (.aload_n 0, 1) := by decide +kernel
theorem d_X11_worth_56 : decode (gw_mC M_X11_worth) 56 = .ok (.invokevirtual 187, 3) := by decide +kernel
theorem d_X11_worth_59 : decode (gw_mC M_X11_worth) 59 = .ok (.aload_n 0, 1) := by decide +kernel
theorem d_X11_worth_60 : decode (gw_mC M_X11_worth) 60 = .ok (.getfield 51, 3) := by decide +kernel
theorem d_X11_worth_63 : decode (gw_mC M_X11_worth) 63 = .ok (.aload_n 0, 1) := by decide +kernel
theorem d_X11_worth_64 : decode (gw_mC M_X11_worth) 64 = .ok (.getfield 10, 3) := by decide +kernel
theorem d_X11_worth_67 : decode (gw_mC M_X11_worth) 67 = .ok (.invokevirtual 235, 3) := by decide +kernel
theorem d_X11_worth_70 : decode (gw_mC M_X11_worth) 70 = .ok (.iload_n 2, 1) := by decide +kernel
theorem d_X11_worth_71 : decode (gw_mC M_X11_worth) 71 = .ok (.ifCond .eq 19, 3) := by decide +kernel
theorem d_X11_worth_74 : decode (gw_mC M_X11_worth) 74 = .ok (.aload_n 0, 1) := by decide +kernel
theorem d_X11_worth_75 : decode (gw_mC M_X11_worth) 75 = .ok (.getfield 51, 3) := by decide +kernel
theorem d_X11_worth_78 : decode (gw_mC M_X11_worth) 78 = .ok (.getfield 239, 3) := by decide +kernel
theorem d_X11_worth_81 : decode (gw_mC M_X11_worth) 81 = .ok (.getfield 138, 3) := by decide +kernel
theorem d_X11_worth_84 : decode (gw_mC M_X11_worth) 84 = .ok (.iload_n 1, 1) := by decide +kernel
theorem d_X11_worth_85 : decode (gw_mC M_X11_worth) 85 = .ok (.iconst 0, 1) := by decide +kernel
theorem d_X11_worth_86 : decode (gw_mC M_X11_worth) 86 = .ok (.iastore, 1) := by decide +kernel
theorem d_X11_worth_87 : decode (gw_mC M_X11_worth) 87 = .ok (.goto 16, 3) := by decide +kernel
theorem d_X11_worth_90 : decode (gw_mC M_X11_worth) 90 = .ok (.aload_n 0, 1) := by decide +kernel
theorem d_X11_worth_91 : decode (gw_mC M_X11_worth) 91 = .ok (.getfield 51, 3) := by decide +kernel
theorem d_X11_worth_94 : decode (gw_mC M_X11_worth) 94 = .ok (.getfield 239, 3) := by decide +kernel
theorem d_X11_worth_97 : decode (gw_mC M_X11_worth) 97 = .ok (.getfield 144, 3) := by decide +kernel
theorem d_X11_worth_100 : decode (gw_mC M_X11_worth) 100 = .ok (.iload_n 1, 1) := by decide +kernel
theorem d_X11_worth_101 : decode (gw_mC M_X11_worth) 101 = .ok (.iconst 0, 1) := by decide +kernel
theorem d_X11_worth_102 : decode (gw_mC M_X11_worth) 102 = .ok (.bastore, 1) := by decide +kernel
theorem d_X11_worth_103 : decode (gw_mC M_X11_worth) 103 = .ok (.aload_n 0, 1) := by decide +kernel
theorem d_X11_worth_104 : decode (gw_mC M_X11_worth) 104 = .ok (.getfield 51, 3) := by decide +kernel
theorem d_X11_worth_107 : decode (gw_mC M_X11_worth) 107 = .ok (.invokevirtual 240, 3) := by decide +kernel
theorem d_X11_worth_110 : decode (gw_mC M_X11_worth) 110 = .ok (.iconst 0, 1) := by decide +kernel
theorem d_X11_worth_111 : decode (gw_mC M_X11_worth) 111 = .ok (.istore_n 3, 1) := by decide +kernel
theorem d_X11_worth_112 : decode (gw_mC M_X11_worth) 112 = .ok (.iload_n 3, 1) := by decide +kernel
theorem d_X11_worth_113 : decode (gw_mC M_X11_worth) 113 = .ok (.sipush 300, 3) := by decide +kernel
theorem d_X11_worth_116 : decode (gw_mC M_X11_worth) 116 = .ok (.if_icmp .ge 27, 3) := by decide +kernel
theorem d_X11_worth_119 : decode (gw_mC M_X11_worth) 119 = .ok (.aload_n 0, 1) := by decide +kernel
theorem d_X11_worth_120 : decode (gw_mC M_X11_worth) 120 = .ok (.getfield 51, 3) := by decide +kernel
theorem d_X11_worth_123 : decode (gw_mC M_X11_worth) 123 = .ok (.invokevirtual 243, 3) := by decide +kernel
theorem d_X11_worth_126 : decode (gw_mC M_X11_worth) 126 = .ok (.ifCond .ne 17, 3) := by decide +kernel
theorem d_X11_worth_129 : decode (gw_mC M_X11_worth) 129 = .ok (.aload_n 0, 1) := by decide +kernel
theorem d_X11_worth_130 : decode (gw_mC M_X11_worth) 130 = .ok (.getfield 51, 3) := by decide +kernel
theorem d_X11_worth_133 : decode (gw_mC M_X11_worth) 133 = .ok (.iload_n 3, 1) := by decide +kernel
theorem d_X11_worth_134 : decode (gw_mC M_X11_worth) 134 = .ok (.invokevirtual 247, 3) := by decide +kernel
theorem d_X11_worth_137 : decode (gw_mC M_X11_worth) 137 = .ok (.iinc 3 1, 3) := by decide +kernel
theorem d_X11_worth_140 : decode (gw_mC M_X11_worth) 140 = .ok (.goto (-28), 3) := by decide +kernel
theorem d_X11_worth_143 : decode (gw_mC M_X11_worth) 143 = .ok (.aload_n 0, 1) := by decide +kernel
theorem d_X11_worth_144 : decode (gw_mC M_X11_worth) 144 = .ok (.getfield 47, 3) := by decide +kernel
theorem d_X11_worth_147 : decode (gw_mC M_X11_worth) 147 = .ok (.invokevirtual 211, 3) := by decide +kernel
theorem d_X11_worth_150 : decode (gw_mC M_X11_worth) 150 = .ok (.aload_n 0, 1) := by decide +kernel
theorem d_X11_worth_151 : decode (gw_mC M_X11_worth) 151 = .ok (.getfield 51, 3) := by decide +kernel
theorem d_X11_worth_154 : decode (gw_mC M_X11_worth) 154 = .ok (.invokevirtual 211, 3) := by decide +kernel
theorem d_X11_worth_157 : decode (gw_mC M_X11_worth) 157 = .ok (.isub, 1) := by decide +kernel
theorem d_X11_worth_158 : decode (gw_mC M_X11_worth) 158 = .ok (.ireturn, 1) := by decide +kernel
theorem d_X11_chosen_0 : decode (gw_mC M_X11_chosen) 0 = .ok (.iload_n 1, 1) := by decide +kernel
theorem d_X11_chosen_1 : decode (gw_mC M_X11_chosen) 1 = .ok (.iconst 0, 1) := by decide +kernel
theorem d_X11_chosen_2 : decode (gw_mC M_X11_chosen) 2 = .ok (.sipush 999, 3) := by decide +kernel
theorem d_X11_chosen_5 : decode (gw_mC M_X11_chosen) 5 = .ok (.invokestatic 92, 3) := by decide +kernel
theorem d_X11_chosen_8 : decode (gw_mC M_X11_chosen) 8 = .ok (.ifCond .eq 12, 3) := by decide +kernel
theorem d_X11_chosen_11 : decode (gw_mC M_X11_chosen) 11 = .ok (.iload_n 2, 1) := by decide +kernel
theorem d_X11_chosen_12 : decode (gw_mC M_X11_chosen) 12 = .ok (.iconst 0, 1) := by decide +kernel
theorem d_X11_chosen_13 : decode (gw_mC M_X11_chosen) 13 = .ok (.iconst 1, 1) := by decide +kernel
theorem d_X11_chosen_14 : decode (gw_mC M_X11_chosen) 14 = .ok (.invokestatic 92, 3) := by decide +kernel
theorem d_X11_chosen_17 : decode (gw_mC M_X11_chosen) 17 = .ok (.ifCond .ne 5, 3) := by decide +kernel
theorem d_X11_chosen_20 : decode (gw_mC M_X11_chosen) 20 = .ok (.iconst (-1), 1) := by decide +kernel
theorem d_X11_chosen_21 : decode (gw_mC M_X11_chosen) 21 = .ok (.ireturn, 1) := by decide +kernel
theorem d_X11_chosen_22 : decode (gw_mC M_X11_chosen) 22 = .ok (.iload_n 1, 1) := by decide +kernel
theorem d_X11_chosen_23 : decode (gw_mC M_X11_chosen) 23 = .ok (.aload_n 0, 1) := by decide +kernel
theorem d_X11_chosen_24 : decode (gw_mC M_X11_chosen) 24 = .ok (.getfield 10, 3) := by decide +kernel
theorem d_X11_chosen_27 : decode (gw_mC M_X11_chosen) 27 = .ok (.getfield 96, 3) := by decide +kernel
theorem d_X11_chosen_30 : decode (gw_mC M_X11_chosen) 30 = .ok (.aload_n 0, 1) := by decide +kernel
theorem d_X11_chosen_31 : decode (gw_mC M_X11_chosen) 31 = .ok (.getfield 10, 3) := by decide +kernel
theorem d_X11_chosen_34 : decode (gw_mC M_X11_chosen) 34 = .ok (.getfield 154, 3) := by decide +kernel
theorem d_X11_chosen_37 : decode (gw_mC M_X11_chosen) 37 = .ok (.iconst 0, 1) := by decide +kernel
theorem d_X11_chosen_38 : decode (gw_mC M_X11_chosen) 38 = .ok (.iaload, 1) := by decide +kernel
theorem d_X11_chosen_39 : decode (gw_mC M_X11_chosen) 39 = .ok (.invokestatic 250, 3) := by decide +kernel
theorem d_X11_chosen_42 : decode (gw_mC M_X11_chosen) 42 = .ok (.isub, 1) := by decide +kernel
theorem d_X11_chosen_43 : decode (gw_mC M_X11_chosen) 43 = .ok (.istore_n 3, 1) := by decide +kernel
theorem d_X11_chosen_44 : decode (gw_mC M_X11_chosen) 44 = .ok (.iload_n 3, 1) := by decide +kernel
theorem d_X11_chosen_45 : decode (gw_mC M_X11_chosen) 45 = .ok (.ifCond .ge 6, 3) := by decide +kernel
theorem d_X11_chosen_48 : decode (gw_mC M_X11_chosen) 48 = .ok (.bipush (-4), 2) := by decide +kernel
theorem d_X11_chosen_50 : decode (gw_mC M_X11_chosen) 50 = .ok (.ireturn, 1) := by decide +kernel
theorem d_X11_chosen_51 : decode (gw_mC M_X11_chosen) 51 = .ok (.iconst 0, 1) := by decide +kernel
theorem d_X11_chosen_52 : decode (gw_mC M_X11_chosen) 52 = .ok (.istore 4, 2) := by decide +kernel
theorem d_X11_chosen_54 : decode (gw_mC M_X11_chosen) 54 = .ok (.iconst 0, 1) := by decide +kernel
theorem d_X11_chosen_55 : decode (gw_mC M_X11_chosen) 55 = .ok (.istore 5, 2) := by decide +kernel
theorem d_X11_chosen_57 : decode (gw_mC M_X11_chosen) 57 = .ok (.iconst 1, 1) := by decide +kernel
theorem d_X11_chosen_58 : decode (gw_mC M_X11_chosen) 58 = .ok (.aload_n 0, 1) := by decide +kernel
theorem d_X11_chosen_59 : decode (gw_mC M_X11_chosen) 59 = .ok (.getfield 10, 3) := by decide +kernel
theorem d_X11_chosen_62 : decode (gw_mC M_X11_chosen) 62 = .ok (.getfield 108, 3) := by decide +kernel
theorem d_X11_chosen_65 : decode (gw_mC M_X11_chosen) 65 = .ok (.getfield 115, 3) := by decide +kernel
theorem d_X11_chosen_68 : decode (gw_mC M_X11_chosen) 68 = .ok (.iconst 0, 1) := by decide +kernel
theorem d_X11_chosen_69 : decode (gw_mC M_X11_chosen) 69 = .ok (.iaload, 1) := by decide +kernel
theorem d_X11_chosen_70 : decode (gw_mC M_X11_chosen) 70 = .ok (.ishl, 1) := by decide +kernel
theorem d_X11_chosen_71 : decode (gw_mC M_X11_chosen) 71 = .ok (.istore 6, 2) := by decide +kernel
theorem d_X11_chosen_73 : decode (gw_mC M_X11_chosen) 73 = .ok (.iconst 1, 1) := by decide +kernel
theorem d_X11_chosen_74 : decode (gw_mC M_X11_chosen) 74 = .ok (.istore 7, 2) := by decide +kernel
theorem d_X11_chosen_76 : decode (gw_mC M_X11_chosen) 76 = .ok (.iload 7, 2) := by decide +kernel
theorem d_X11_chosen_78 : decode (gw_mC M_X11_chosen) 78 = .ok (.iload 6, 2) := by decide +kernel
theorem d_X11_chosen_80 : decode (gw_mC M_X11_chosen) 80 = .ok (.if_icmp .ge 36, 3) := by decide +kernel
theorem d_X11_chosen_83 : decode (gw_mC M_X11_chosen) 83 = .ok (.aload_n 0, 1) := by decide +kernel
theorem d_X11_chosen_84 : decode (gw_mC M_X11_chosen) 84 = .ok (.getfield 10, 3) := by decide +kernel
theorem d_X11_chosen_87 : decode (gw_mC M_X11_chosen) 87 = .ok (.iload 7, 2) := by decide +kernel
theorem d_X11_chosen_89 : decode (gw_mC M_X11_chosen) 89 = .ok (.iload_n 3, 1) := by decide +kernel
theorem d_X11_chosen_90 : decode (gw_mC M_X11_chosen) 90 = .ok (.invokevirtual 253, 3) := by decide +kernel
theorem d_X11_chosen_93 : decode (gw_mC M_X11_chosen) 93 = .ok (.istore 8, 2) := by decide +kernel
theorem d_X11_chosen_95 : decode (gw_mC M_X11_chosen) 95 = .ok (.iload 8, 2) := by decide +kernel
theorem d_X11_chosen_97 : decode (gw_mC M_X11_chosen) 97 = .ok (.iload 5, 2) := by decide +kernel
theorem d_X11_chosen_99 : decode (gw_mC M_X11_chosen) 99 = .ok (.if_icmp .le 11, 3) := by decide +kernel
theorem d_X11_chosen_102 : decode (gw_mC M_X11_chosen) 102 = .ok (.iload 7, 2) := by decide +kernel
theorem d_X11_chosen_104 : decode (gw_mC M_X11_chosen) 104 = .ok (.istore 4, 2) := by decide +kernel
theorem d_X11_chosen_106 : decode (gw_mC M_X11_chosen) 106 = .ok (.iload 8, 2) := by decide +kernel
theorem d_X11_chosen_108 : decode (gw_mC M_X11_chosen) 108 = .ok (.istore 5, 2) := by decide +kernel
theorem d_X11_chosen_110 : decode (gw_mC M_X11_chosen) 110 = .ok (.iinc 7 1, 3) := by decide +kernel
theorem d_X11_chosen_113 : decode (gw_mC M_X11_chosen) 113 = .ok (.goto (-37), 3) := by decide +kernel
theorem d_X11_chosen_116 : decode (gw_mC M_X11_chosen) 116 = .ok (.iload_n 2, 1) := by decide +kernel
theorem d_X11_chosen_117 : decode (gw_mC M_X11_chosen) 117 = .ok (.ifCond .ne 8, 3) := by decide +kernel
theorem d_X11_chosen_120 : decode (gw_mC M_X11_chosen) 120 = .ok (.iload 4, 2) := by decide +kernel
theorem d_X11_chosen_122 : decode (gw_mC M_X11_chosen) 122 = .ok (.goto 5, 3) := by decide +kernel
theorem d_X11_chosen_125 : decode (gw_mC M_X11_chosen) 125 = .ok (.iload 5, 2) := by decide +kernel
theorem d_X11_chosen_127 : decode (gw_mC M_X11_chosen) 127 = .ok (.ireturn, 1) := by decide +kernel
theorem d_X11_colours_0 : decode (gw_mC M_X11_colours) 0 = .ok (.iload_n 1, 1) := by decide +kernel
theorem d_X11_colours_1 : decode (gw_mC M_X11_colours) 1 = .ok (.iconst 1, 1) := by decide +kernel
theorem d_X11_colours_2 : decode (gw_mC M_X11_colours) 2 = .ok (.bipush 8, 2) := by decide +kernel
theorem d_X11_colours_4 : decode (gw_mC M_X11_colours) 4 = .ok (.invokestatic 92, 3) := by decide +kernel
theorem d_X11_colours_7 : decode (gw_mC M_X11_colours) 7 = .ok (.ifCond .eq 22, 3) := by decide +kernel
theorem d_X11_colours_10 : decode (gw_mC M_X11_colours) 10 = .ok (.iload_n 3, 1) := by decide +kernel
theorem d_X11_colours_11 : decode (gw_mC M_X11_colours) 11 = .ok (.iconst (-1), 1) := by decide +kernel
theorem d_X11_colours_12 : decode (gw_mC M_X11_colours) 12 = .ok (.iload_n 1, 1) := by decide +kernel
theorem d_X11_colours_13 : decode (gw_mC M_X11_colours) 13 = .ok (.iconst 1, 1) := by decide +kernel
theorem d_X11_colours_14 : decode (gw_mC M_X11_colours) 14 = .ok (.isub, 1) := by decide +kernel
theorem d_X11_colours_15 : decode (gw_mC M_X11_colours) 15 = .ok (.invokestatic 92, 3) := by decide +kernel
theorem d_X11_colours_18 : decode (gw_mC M_X11_colours) 18 = .ok (.ifCond .eq 11, 3) := by decide +kernel
theorem d_X11_colours_21 : decode (gw_mC M_X11_colours) 21 = .ok (.iload_n 1, 1) := by decide +kernel
theorem d_X11_colours_22 : decode (gw_mC M_X11_colours) 22 = .ok (.iload_n 2, 1) := by decide +kernel
theorem d_X11_colours_23 : decode (gw_mC M_X11_colours) 23 = .ok (.invokestatic 284, 3) := by decide +kernel
theorem d_X11_colours_26 : decode (gw_mC M_X11_colours) 26 = .ok (.ifCond .ne 5, 3) := by decide +kernel
theorem d_X11_colours_29 : decode (gw_mC M_X11_colours) 29 = .ok (.iconst (-1), 1) := by decide +kernel
theorem d_X11_colours_30 : decode (gw_mC M_X11_colours) 30 = .ok (.ireturn, 1) := by decide +kernel
theorem d_X11_colours_31 : decode (gw_mC M_X11_colours) 31 = .ok (.aload_n 0, 1) := by decide +kernel
theorem d_X11_colours_32 : decode (gw_mC M_X11_colours) 32 = .ok (.getfield 74, 3) := by decide +kernel
theorem d_X11_colours_35 : decode (gw_mC M_X11_colours) 35 = .ok (.iload_n 1, 1) := by decide +kernel
theorem d_X11_colours_36 : decode (gw_mC M_X11_colours) 36 = .ok (.iload_n 2, 1) := by decide +kernel
theorem d_X11_colours_37 : decode (gw_mC M_X11_colours) 37 = .ok (.invokevirtual 288, 3) := by decide +kernel
theorem d_X11_colours_40 : decode (gw_mC M_X11_colours) 40 = .ok (.aload_n 0, 1) := by decide +kernel
theorem d_X11_colours_41 : decode (gw_mC M_X11_colours) 41 = .ok (.getfield 74, 3) := by decide +kernel
theorem d_X11_colours_44 : decode (gw_mC M_X11_colours) 44 = .ok (.invokevirtual 291, 3) := by decide +kernel
theorem d_X11_colours_47 : decode (gw_mC M_X11_colours) 47 = .ok (.istore 4, 2) := by decide +kernel
theorem d_X11_colours_49 : decode (gw_mC M_X11_colours) 49 = .ok (.iload_n 3, 1) := by decide +kernel
theorem d_X11_colours_50 : decode (gw_mC M_X11_colours) 50 = .ok (.ifCond .ge 8, 3) := by decide +kernel
theorem d_X11_colours_53 : decode (gw_mC M_X11_colours) 53 = .ok (.iload 4, 2) := by decide +kernel
theorem d_X11_colours_55 : decode (gw_mC M_X11_colours) 55 = .ok (.goto 12, 3) := by decide +kernel
theorem d_X11_colours_58 : decode (gw_mC M_X11_colours) 58 = .ok (.aload_n 0, 1) := by decide +kernel
theorem d_X11_colours_59 : decode (gw_mC M_X11_colours) 59 = .ok (.getfield 74, 3) := by decide +kernel
theorem d_X11_colours_62 : decode (gw_mC M_X11_colours) 62 = .ok (.getfield 294, 3) := by decide +kernel
theorem d_X11_colours_65 : decode (gw_mC M_X11_colours) 65 = .ok (.iload_n 3, 1) := by decide +kernel
theorem d_X11_colours_66 : decode (gw_mC M_X11_colours) 66 = .ok (.iaload, 1) := by decide +kernel
theorem d_X11_colours_67 : decode (gw_mC M_X11_colours) 67 = .ok (.ireturn, 1) := by decide +kernel
theorem d_X11_image_0 : decode (gw_mC M_X11_image) 0 = .ok (.aload_n 0, 1) := by decide +kernel
theorem d_X11_image_1 : decode (gw_mC M_X11_image) 1 = .ok (.getfield 16, 3) := by decide +kernel
theorem d_X11_image_4 : decode (gw_mC M_X11_image) 4 = .ok (.aload_n 0, 1) := by decide +kernel
theorem d_X11_image_5 : decode (gw_mC M_X11_image) 5 = .ok (.getfield 10, 3) := by decide +kernel
theorem d_X11_image_8 : decode (gw_mC M_X11_image) 8 = .ok (.invokevirtual 297, 3) := by decide +kernel
theorem d_X11_image_11 : decode (gw_mC M_X11_image) 11 = .ok (.aload_n 0, 1) := by decide +kernel
theorem d_X11_image_12 : decode (gw_mC M_X11_image) 12 = .ok (.iconst 1, 1) := by decide +kernel
theorem d_X11_image_13 : decode (gw_mC M_X11_image) 13 = .ok (.putfield 19, 3) := by decide +kernel
theorem d_X11_image_16 : decode (gw_mC M_X11_image) 16 = .ok (.iconst 1, 1) := by decide +kernel
theorem d_X11_image_17 : decode (gw_mC M_X11_image) 17 = .ok (.ireturn, 1) := by decide +kernel
theorem d_X11_restore_0 : decode (gw_mC M_X11_restore) 0 = .ok (.aload_n 0, 1) := by decide +kernel
theorem d_X11_restore_1 : decode (gw_mC M_X11_restore) 1 = .ok (.getfield 19, 3) := by decide +kernel
theorem d_X11_restore_4 : decode (gw_mC M_X11_restore) 4 = .ok (.ifCond .ne 6, 3) := by decide +kernel
theorem d_X11_restore_7 : decode (gw_mC M_X11_restore) 7 = .ok (.bipush (-4), 2) := by decide +kernel
theorem d_X11_restore_9 : decode (gw_mC M_X11_restore) 9 = .ok (.ireturn, 1) := by decide +kernel
theorem d_X11_restore_10 : decode (gw_mC M_X11_restore) 10 = .ok (.aload_n 0, 1) := by decide +kernel
theorem d_X11_restore_11 : decode (gw_mC M_X11_restore) 11 = .ok (.getfield 10, 3) := by decide +kernel
theorem d_X11_restore_14 : decode (gw_mC M_X11_restore) 14 = .ok (.aload_n 0, 1) := by decide +kernel
theorem d_X11_restore_15 : decode (gw_mC M_X11_restore) 15 = .ok (.getfield 16, 3) := by decide +kernel
theorem d_X11_restore_18 : decode (gw_mC M_X11_restore) 18 = .ok (.invokevirtual 297, 3) := by decide +kernel
theorem d_X11_restore_21 : decode (gw_mC M_X11_restore) 21 = .ok (.aload_n 0, 1) := by decide +kernel
theorem d_X11_restore_22 : decode (gw_mC M_X11_restore) 22 = .ok (.invokevirtual 99, 3) := by decide +kernel
theorem d_X11_restore_25 : decode (gw_mC M_X11_restore) 25 = .ok (.iconst 1, 1) := by decide +kernel
theorem d_X11_restore_26 : decode (gw_mC M_X11_restore) 26 = .ok (.ireturn, 1) := by decide +kernel
theorem d_X11_within_0 : decode (gw_mC M_X11_within) 0 = .ok (.iload_n 0, 1) := by decide +kernel
theorem d_X11_within_1 : decode (gw_mC M_X11_within) 1 = .ok (.iload_n 1, 1) := by decide +kernel
theorem d_X11_within_2 : decode (gw_mC M_X11_within) 2 = .ok (.if_icmp .lt 12, 3) := by decide +kernel
theorem d_X11_within_5 : decode (gw_mC M_X11_within) 5 = .ok (.iload_n 0, 1) := by decide +kernel
theorem d_X11_within_6 : decode (gw_mC M_X11_within) 6 = .ok (.iload_n 2, 1) := by decide +kernel
theorem d_X11_within_7 : decode (gw_mC M_X11_within) 7 = .ok (.if_icmp .gt 7, 3) := by decide +kernel
theorem d_X11_within_10 : decode (gw_mC M_X11_within) 10 = .ok (.iconst 1, 1) := by decide +kernel
theorem d_X11_within_11 : decode (gw_mC M_X11_within) 11 = .ok (.goto 4, 3) := by decide +kernel
theorem d_X11_within_14 : decode (gw_mC M_X11_within) 14 = .ok (.iconst 0, 1) := by decide +kernel
theorem d_X11_within_15 : decode (gw_mC M_X11_within) 15 = .ok (.ireturn, 1) := by decide +kernel
theorem d_X11_cutUp_0 : decode (gw_mC M_X11_cutUp) 0 = .ok (.iload_n 1, 1) := by decide +kernel
theorem d_X11_cutUp_1 : decode (gw_mC M_X11_cutUp) 1 = .ok (.ifCond .le 13, 3) := by decide +kernel
theorem d_X11_cutUp_4 : decode (gw_mC M_X11_cutUp) 4 = .ok (.iload_n 0, 1) := by decide +kernel
theorem d_X11_cutUp_5 : decode (gw_mC M_X11_cutUp) 5 = .ok (.iload_n 1, 1) := by decide +kernel
theorem d_X11_cutUp_6 : decode (gw_mC M_X11_cutUp) 6 = .ok (.iadd, 1) := by decide +kernel
theorem d_X11_cutUp_7 : decode (gw_mC M_X11_cutUp) 7 = .ok (.iconst 1, 1) := by decide +kernel
theorem d_X11_cutUp_8 : decode (gw_mC M_X11_cutUp) 8 = .ok (.isub, 1) := by decide +kernel
theorem d_X11_cutUp_9 : decode (gw_mC M_X11_cutUp) 9 = .ok (.iload_n 1, 1) := by decide +kernel
theorem d_X11_cutUp_10 : decode (gw_mC M_X11_cutUp) 10 = .ok (.idiv, 1) := by decide +kernel
theorem d_X11_cutUp_11 : decode (gw_mC M_X11_cutUp) 11 = .ok (.goto 4, 3) := by decide +kernel
theorem d_X11_cutUp_14 : decode (gw_mC M_X11_cutUp) 14 = .ok (.iconst 0, 1) := by decide +kernel
theorem d_X11_cutUp_15 : decode (gw_mC M_X11_cutUp) 15 = .ok (.ireturn, 1) := by decide +kernel
theorem d_X11_arePairs_0 : decode (gw_mC M_X11_arePairs) 0 = .ok (.iload_n 1, 1) := by decide +kernel
theorem d_X11_arePairs_1 : decode (gw_mC M_X11_arePairs) 1 = .ok (.ifCond .lt 19, 3) := by decide +kernel
theorem d_X11_arePairs_4 : decode (gw_mC M_X11_arePairs) 4 = .ok (.iload_n 1, 1) := by decide +kernel
theorem d_X11_arePairs_5 : decode (gw_mC M_X11_arePairs) 5 = .ok (.iload_n 0, 1) := by decide +kernel
theorem d_X11_arePairs_6 : decode (gw_mC M_X11_arePairs) 6 = .ok (.iload_n 0, 1) := by decide +kernel
theorem d_X11_arePairs_7 : decode (gw_mC M_X11_arePairs) 7 = .ok (.iconst 1, 1) := by decide +kernel
theorem d_X11_arePairs_8 : decode (gw_mC M_X11_arePairs) 8 = .ok (.isub, 1) := by decide +kernel
theorem d_X11_arePairs_9 : decode (gw_mC M_X11_arePairs) 9 = .ok (.imul, 1) := by decide +kernel
theorem d_X11_arePairs_10 : decode (gw_mC M_X11_arePairs) 10 = .ok (.iconst 2, 1) := by decide +kernel
theorem d_X11_arePairs_11 : decode (gw_mC M_X11_arePairs) 11 = .ok (.idiv, 1) := by decide +kernel
theorem d_X11_arePairs_12 : decode (gw_mC M_X11_arePairs) 12 = .ok (.ishr, 1) := by decide +kernel
theorem d_X11_arePairs_13 : decode (gw_mC M_X11_arePairs) 13 = .ok (.ifCond .ne 7, 3) := by decide +kernel
theorem d_X11_arePairs_16 : decode (gw_mC M_X11_arePairs) 16 = .ok (.iconst 1, 1) := by decide +kernel
theorem d_X11_arePairs_17 : decode (gw_mC M_X11_arePairs) 17 = .ok (.goto 4, 3) := by decide +kernel
theorem d_X11_arePairs_20 : decode (gw_mC M_X11_arePairs) 20 = .ok (.iconst 0, 1) := by decide +kernel
theorem d_X11_arePairs_21 : decode (gw_mC M_X11_arePairs) 21 = .ok (.ireturn, 1) := by decide +kernel
theorem d_X11_isPerson_0 : decode (gw_mC M_X11_isPerson) 0 = .ok (.iload_n 1, 1) := by decide +kernel
theorem d_X11_isPerson_1 : decode (gw_mC M_X11_isPerson) 1 = .ok (.iconst 0, 1) := by decide +kernel
theorem d_X11_isPerson_2 : decode (gw_mC M_X11_isPerson) 2 = .ok (.aload_n 0, 1) := by decide +kernel
theorem d_X11_isPerson_3 : decode (gw_mC M_X11_isPerson) 3 = .ok (.getfield 10, 3) := by decide +kernel
theorem d_X11_isPerson_6 : decode (gw_mC M_X11_isPerson) 6 = .ok (.getfield 128, 3) := by decide +kernel
theorem d_X11_isPerson_9 : decode (gw_mC M_X11_isPerson) 9 = .ok (.getfield 180, 3) := by decide +kernel
theorem d_X11_isPerson_12 : decode (gw_mC M_X11_isPerson) 12 = .ok (.iconst 1, 1) := by decide +kernel
theorem d_X11_isPerson_13 : decode (gw_mC M_X11_isPerson) 13 = .ok (.isub, 1) := by decide +kernel
theorem d_X11_isPerson_14 : decode (gw_mC M_X11_isPerson) 14 = .ok (.invokestatic 92, 3) := by decide +kernel
theorem d_X11_isPerson_17 : decode (gw_mC M_X11_isPerson) 17 = .ok (.ireturn, 1) := by decide +kernel
theorem d_X11_forget_0 : decode (gw_mC M_X11_forget) 0 = .ok (.aload_n 0, 1) := by decide +kernel
theorem d_X11_forget_1 : decode (gw_mC M_X11_forget) 1 = .ok (.iconst 0, 1) := by decide +kernel
theorem d_X11_forget_2 : decode (gw_mC M_X11_forget) 2 = .ok (.putfield 54, 3) := by decide +kernel
theorem d_X11_forget_5 : decode (gw_mC M_X11_forget) 5 = .ok (.aload_n 0, 1) := by decide +kernel
theorem d_X11_forget_6 : decode (gw_mC M_X11_forget) 6 = .ok (.iconst (-1), 1) := by decide +kernel
theorem d_X11_forget_7 : decode (gw_mC M_X11_forget) 7 = .ok (.putfield 68, 3) := by decide +kernel
theorem d_X11_forget_10 : decode (gw_mC M_X11_forget) 10 = .ok (.return_, 1) := by decide +kernel
theorem d_X11_goAlong_0 : decode (gw_mC M_X11_goAlong) 0 = .ok (.aload_n 0, 1) := by decide +kernel
theorem d_X11_goAlong_1 : decode (gw_mC M_X11_goAlong) 1 = .ok (.getfield 54, 3) := by decide +kernel
theorem d_X11_goAlong_4 : decode (gw_mC M_X11_goAlong) 4 = .ok (.ifCond .eq 4, 3) := by decide +kernel
theorem d_X11_goAlong_7 : decode (gw_mC M_X11_goAlong) 7 = .ok (.return_, 1) := by decide +kernel
theorem d_X11_goAlong_8 : decode (gw_mC M_X11_goAlong) 8 = .ok (.aload_n 0, 1) := by decide +kernel
theorem d_X11_goAlong_9 : decode (gw_mC M_X11_goAlong) 9 = .ok (.getfield 47, 3) := by decide +kernel
theorem d_X11_goAlong_12 : decode (gw_mC M_X11_goAlong) 12 = .ok (.aload_n 0, 1) := by decide +kernel
theorem d_X11_goAlong_13 : decode (gw_mC M_X11_goAlong) 13 = .ok (.getfield 10, 3) := by decide +kernel
theorem d_X11_goAlong_16 : decode (gw_mC M_X11_goAlong) 16 = .ok (.invokevirtual 235, 3) := by decide +kernel
theorem d_X11_goAlong_19 : decode (gw_mC M_X11_goAlong) 19 = .ok (.aload_n 0, 1) := by decide +kernel
theorem d_X11_goAlong_20 : decode (gw_mC M_X11_goAlong) 20 = .ok (.getfield 47, 3) := by decide +kernel
theorem d_X11_goAlong_23 : decode (gw_mC M_X11_goAlong) 23 = .ok (.invokevirtual 240, 3) := by decide +kernel
theorem d_X11_goAlong_26 : decode (gw_mC M_X11_goAlong) 26 = .ok (.aload_n 0, 1) := by decide +kernel
theorem d_X11_goAlong_27 : decode (gw_mC M_X11_goAlong) 27 = .ok (.iconst 0, 1) := by decide +kernel
theorem d_X11_goAlong_28 : decode (gw_mC M_X11_goAlong) 28 = .ok (.putfield 61, 3) := by decide +kernel
theorem d_X11_goAlong_31 : decode (gw_mC M_X11_goAlong) 31 = .ok (.iconst 0, 1) := by decide +kernel
theorem d_X11_goAlong_32 : decode (gw_mC M_X11_goAlong) 32 = .ok (.istore_n 1, 1) := by decide +kernel
theorem d_X11_goAlong_33 : decode (gw_mC M_X11_goAlong) 33 = .ok (.iload_n 1, 1) := by decide +kernel
theorem d_X11_goAlong_34 : decode (gw_mC M_X11_goAlong) 34 = .ok (.sipush 300, 3) := by decide +kernel
theorem d_X11_goAlong_37 : decode (gw_mC M_X11_goAlong) 37 = .ok (.if_icmp .ge 42, 3) := by decide +kernel
theorem d_X11_goAlong_40 : decode (gw_mC M_X11_goAlong) 40 = .ok (.aload_n 0, 1) := by decide +kernel
theorem d_X11_goAlong_41 : decode (gw_mC M_X11_goAlong) 41 = .ok (.getfield 47, 3) := by decide +kernel
