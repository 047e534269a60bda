theorem dX9_paceNow_69 : decode cX9_paceNow 69 = .ok (.goto 4, 3) := by decide +kernel
theorem dX9_paceNow_72 : decode cX9_paceNow 72 = .ok (.iload_n 2, 1) := by decide +kernel
theorem dX9_paceNow_73 : decode cX9_paceNow 73 = .ok (.istore_n 2, 1) := by decide +kernel
theorem dX9_paceNow_74 : decode cX9_paceNow 74 = .ok (.iload_n 3, 1) := by decide +kernel
theorem dX9_paceNow_75 : decode cX9_paceNow 75 = .ok (.aload_n 0, 1) := by decide +kernel
theorem dX9_paceNow_76 : decode cX9_paceNow 76 = .ok (.getfield 39, 3) := by decide +kernel
theorem dX9_paceNow_79 : decode cX9_paceNow 79 = .ok (.iload 4, 2) := by decide +kernel
theorem dX9_paceNow_81 : decode cX9_paceNow 81 = .ok (.iaload, 1) := by decide +kernel
theorem dX9_paceNow_82 : decode cX9_paceNow 82 = .ok (.iconst (-1), 1) := by decide +kernel
theorem dX9_paceNow_83 : decode cX9_paceNow 83 = .ok (.if_icmp .eq 7, 3) := by decide +kernel
theorem dX9_paceNow_86 : decode cX9_paceNow 86 = .ok (.iconst 1, 1) := by decide +kernel
theorem dX9_paceNow_87 : decode cX9_paceNow 87 = .ok (.goto 4, 3) := by decide +kernel
theorem dX9_paceNow_90 : decode cX9_paceNow 90 = .ok (.iconst 0, 1) := by decide +kernel
theorem dX9_paceNow_91 : decode cX9_paceNow 91 = .ok (.iadd, 1) := by decide +kernel
theorem dX9_paceNow_92 : decode cX9_paceNow 92 = .ok (.istore_n 3, 1) := by decide +kernel
theorem dX9_paceNow_93 : decode cX9_paceNow 93 = .ok (.iinc 4 1, 3) := by decide +kernel
theorem dX9_paceNow_96 : decode cX9_paceNow 96 = .ok (.goto (-85), 3) := by decide +kernel
theorem dX9_paceNow_99 : decode cX9_paceNow 99 = .ok (.aload_n 0, 1) := by decide +kernel
theorem dX9_paceNow_100 : decode cX9_paceNow 100 = .ok (.getfield 17, 3) := by decide +kernel
theorem dX9_paceNow_103 : decode cX9_paceNow 103 = .ok (.iconst 1, 1) := by decide +kernel
theorem dX9_paceNow_104 : decode cX9_paceNow 104 = .ok (.iaload, 1) := by decide +kernel
theorem dX9_paceNow_105 : decode cX9_paceNow 105 = .ok (.ifCond .ne 7, 3) := by decide +kernel
theorem dX9_paceNow_108 : decode cX9_paceNow 108 = .ok (.iload_n 1, 1) := by decide +kernel
theorem dX9_paceNow_109 : decode cX9_paceNow 109 = .ok (.goto 6, 3) := by decide +kernel
theorem dX9_paceNow_112 : decode cX9_paceNow 112 = .ok (.iload_n 2, 1) := by decide +kernel
theorem dX9_paceNow_113 : decode cX9_paceNow 113 = .ok (.iload_n 3, 1) := by decide +kernel
theorem dX9_paceNow_114 : decode cX9_paceNow 114 = .ok (.imul, 1) := by decide +kernel
theorem dX9_paceNow_115 : decode cX9_paceNow 115 = .ok (.ireturn, 1) := by decide +kernel
theorem dX9_crosses_0 : decode cX9_crosses 0 = .ok (.iconst 0, 1) := by decide +kernel
theorem dX9_crosses_1 : decode cX9_crosses 1 = .ok (.istore_n 3, 1) := by decide +kernel
theorem dX9_crosses_2 : decode cX9_crosses 2 = .ok (.aload_n 0, 1) := by decide +kernel
theorem dX9_crosses_3 : decode cX9_crosses 3 = .ok (.iconst 0, 1) := by decide +kernel
theorem dX9_crosses_4 : decode cX9_crosses 4 = .ok (.putfield 205, 3) := by decide +kernel
theorem dX9_crosses_7 : decode cX9_crosses 7 = .ok (.iconst 1, 1) := by decide +kernel
theorem dX9_crosses_8 : decode cX9_crosses 8 = .ok (.istore 4, 2) := by decide +kernel
theorem dX9_crosses_10 : decode cX9_crosses 10 = .ok (.iload 4, 2) := by decide +kernel
theorem dX9_crosses_12 : decode cX9_crosses 12 = .ok (.bipush 121, 2) := by decide +kernel
theorem dX9_crosses_14 : decode cX9_crosses 14 = .ok (.if_icmp .ge 120, 3) := by decide +kernel
theorem dX9_crosses_17 : decode cX9_crosses 17 = .ok (.iload_n 3, 1) := by decide +kernel
theorem dX9_crosses_18 : decode cX9_crosses 18 = .ok (.aload_n 0, 1) := by decide +kernel
theorem dX9_crosses_19 : decode cX9_crosses 19 = .ok (.invokevirtual 208, 3) := by decide +kernel
theorem dX9_crosses_22 : decode cX9_crosses 22 = .ok (.aload_n 0, 1) := by decide +kernel
theorem dX9_crosses_23 : decode cX9_crosses 23 = .ok (.iload_n 1, 1) := by decide +kernel
theorem dX9_crosses_24 : decode cX9_crosses 24 = .ok (.invokevirtual 181, 3) := by decide +kernel
theorem dX9_crosses_27 : decode cX9_crosses 27 = .ok (.iadd, 1) := by decide +kernel
theorem dX9_crosses_28 : decode cX9_crosses 28 = .ok (.iload_n 2, 1) := by decide +kernel
theorem dX9_crosses_29 : decode cX9_crosses 29 = .ok (.isub, 1) := by decide +kernel
theorem dX9_crosses_30 : decode cX9_crosses 30 = .ok (.iadd, 1) := by decide +kernel
theorem dX9_crosses_31 : decode cX9_crosses 31 = .ok (.istore_n 3, 1) := by decide +kernel
theorem dX9_crosses_32 : decode cX9_crosses 32 = .ok (.iload_n 3, 1) := by decide +kernel
theorem dX9_crosses_33 : decode cX9_crosses 33 = .ok (.ifCond .ge 7, 3) := by decide +kernel
theorem dX9_crosses_36 : decode cX9_crosses 36 = .ok (.iconst 0, 1) := by decide +kernel
theorem dX9_crosses_37 : decode cX9_crosses 37 = .ok (.goto 4, 3) := by decide +kernel
theorem dX9_crosses_40 : decode cX9_crosses 40 = .ok (.iload_n 3, 1) := by decide +kernel
theorem dX9_crosses_41 : decode cX9_crosses 41 = .ok (.istore_n 3, 1) := by decide +kernel
theorem dX9_crosses_42 : decode cX9_crosses 42 = .ok (.iconst 0, 1) := by decide +kernel
theorem dX9_crosses_43 : decode cX9_crosses 43 = .ok (.istore 5, 2) := by decide +kernel
theorem dX9_crosses_45 : decode cX9_crosses 45 = .ok (.iload 5, 2) := by decide +kernel
theorem dX9_crosses_47 : decode cX9_crosses 47 = .ok (.iconst 3, 1) := by decide +kernel
theorem dX9_crosses_48 : decode cX9_crosses 48 = .ok (.if_icmp .ge 67, 3) := by decide +kernel
theorem dX9_crosses_51 : decode cX9_crosses 51 = .ok (.aload_n 0, 1) := by decide +kernel
theorem dX9_crosses_52 : decode cX9_crosses 52 = .ok (.getfield 39, 3) := by decide +kernel
theorem dX9_crosses_55 : decode cX9_crosses 55 = .ok (.iload 5, 2) := by decide +kernel
theorem dX9_crosses_57 : decode cX9_crosses 57 = .ok (.iaload, 1) := by decide +kernel
theorem dX9_crosses_58 : decode cX9_crosses 58 = .ok (.iconst (-1), 1) := by decide +kernel
theorem dX9_crosses_59 : decode cX9_crosses 59 = .ok (.if_icmp .eq 50, 3) := by decide +kernel
theorem dX9_crosses_62 : decode cX9_crosses 62 = .ok (.aload_n 0, 1) := by decide +kernel
theorem dX9_crosses_63 : decode cX9_crosses 63 = .ok (.getfield 36, 3) := by decide +kernel
theorem dX9_crosses_66 : decode cX9_crosses 66 = .ok (.aload_n 0, 1) := by decide +kernel
theorem dX9_crosses_67 : decode cX9_crosses 67 = .ok (.getfield 39, 3) := by decide +kernel
theorem dX9_crosses_70 : decode cX9_crosses 70 = .ok (.iload 5, 2) := by decide +kernel
theorem dX9_crosses_72 : decode cX9_crosses 72 = .ok (.iaload, 1) := by decide +kernel
theorem dX9_crosses_73 : decode cX9_crosses 73 = .ok (.iaload, 1) := by decide +kernel
theorem dX9_crosses_74 : decode cX9_crosses 74 = .ok (.ifCond .le 35, 3) := by decide +kernel
theorem dX9_crosses_77 : decode cX9_crosses 77 = .ok (.aload_n 0, 1) := by decide +kernel
theorem dX9_crosses_78 : decode cX9_crosses 78 = .ok (.getfield 36, 3) := by decide +kernel
theorem dX9_crosses_81 : decode cX9_crosses 81 = .ok (.aload_n 0, 1) := by decide +kernel
theorem dX9_crosses_82 : decode cX9_crosses 82 = .ok (.getfield 39, 3) := by decide +kernel
theorem dX9_crosses_85 : decode cX9_crosses 85 = .ok (.iload 5, 2) := by decide +kernel
theorem dX9_crosses_87 : decode cX9_crosses 87 = .ok (.iaload, 1) := by decide +kernel
theorem dX9_crosses_88 : decode cX9_crosses 88 = .ok (.dup2, 1) := by decide +kernel
theorem dX9_crosses_89 : decode cX9_crosses 89 = .ok (.iaload, 1) := by decide +kernel
theorem dX9_crosses_90 : decode cX9_crosses 90 = .ok (.iconst 1, 1) := by decide +kernel
theorem dX9_crosses_91 : decode cX9_crosses 91 = .ok (.isub, 1) := by decide +kernel
theorem dX9_crosses_92 : decode cX9_crosses 92 = .ok (.iastore, 1) := by decide +kernel
theorem dX9_crosses_93 : decode cX9_crosses 93 = .ok (.aload_n 0, 1) := by decide +kernel
theorem dX9_crosses_94 : decode cX9_crosses 94 = .ok (.dup, 1) := by decide +kernel
theorem dX9_crosses_95 : decode cX9_crosses 95 = .ok (.getfield 205, 3) := by decide +kernel
theorem dX9_crosses_98 : decode cX9_crosses 98 = .ok (.aload_n 0, 1) := by decide +kernel
theorem dX9_crosses_99 : decode cX9_crosses 99 = .ok (.getfield 42, 3) := by decide +kernel
theorem dX9_crosses_102 : decode cX9_crosses 102 = .ok (.iload 5, 2) := by decide +kernel
theorem dX9_crosses_104 : decode cX9_crosses 104 = .ok (.iaload, 1) := by decide +kernel
theorem dX9_crosses_105 : decode cX9_crosses 105 = .ok (.iadd, 1) := by decide +kernel
theorem dX9_crosses_106 : decode cX9_crosses 106 = .ok (.putfield 205, 3) := by decide +kernel
theorem dX9_crosses_109 : decode cX9_crosses 109 = .ok (.iinc 5 1, 3) := by decide +kernel
theorem dX9_crosses_112 : decode cX9_crosses 112 = .ok (.goto (-67), 3) := by decide +kernel
theorem dX9_crosses_115 : decode cX9_crosses 115 = .ok (.iload_n 3, 1) := by decide +kernel
theorem dX9_crosses_116 : decode cX9_crosses 116 = .ok (.aload_n 0, 1) := by decide +kernel
theorem dX9_crosses_117 : decode cX9_crosses 117 = .ok (.getfield 17, 3) := by decide +kernel
theorem dX9_crosses_120 : decode cX9_crosses 120 = .ok (.iconst 2, 1) := by decide +kernel
theorem dX9_crosses_121 : decode cX9_crosses 121 = .ok (.iaload, 1) := by decide +kernel
theorem dX9_crosses_122 : decode cX9_crosses 122 = .ok (.if_icmp .lt 6, 3) := by decide +kernel
theorem dX9_crosses_125 : decode cX9_crosses 125 = .ok (.iload 4, 2) := by decide +kernel
theorem dX9_crosses_127 : decode cX9_crosses 127 = .ok (.ireturn, 1) := by decide +kernel
theorem dX9_crosses_128 : decode cX9_crosses 128 = .ok (.iinc 4 1, 3) := by decide +kernel
theorem dX9_crosses_131 : decode cX9_crosses 131 = .ok (.goto (-121), 3) := by decide +kernel
theorem dX9_crosses_134 : decode cX9_crosses 134 = .ok (.iconst 0, 1) := by decide +kernel
theorem dX9_crosses_135 : decode cX9_crosses 135 = .ok (.ireturn, 1) := by decide +kernel
theorem dX9_isStanding_0 : decode cX9_isStanding 0 = .ok (.aload_n 0, 1) := by decide +kernel
theorem dX9_isStanding_1 : decode cX9_isStanding 1 = .ok (.getfield 39, 3) := by decide +kernel
theorem dX9_isStanding_4 : decode cX9_isStanding 4 = .ok (.iconst 0, 1) := by decide +kernel
theorem dX9_isStanding_5 : decode cX9_isStanding 5 = .ok (.iaload, 1) := by decide +kernel
theorem dX9_isStanding_6 : decode cX9_isStanding 6 = .ok (.iload_n 1, 1) := by decide +kernel
theorem dX9_isStanding_7 : decode cX9_isStanding 7 = .ok (.if_icmp .eq 23, 3) := by decide +kernel
theorem dX9_isStanding_10 : decode cX9_isStanding 10 = .ok (.aload_n 0, 1) := by decide +kernel
theorem dX9_isStanding_11 : decode cX9_isStanding 11 = .ok (.getfield 39, 3) := by decide +kernel
theorem dX9_isStanding_14 : decode cX9_isStanding 14 = .ok (.iconst 1, 1) := by decide +kernel
theorem dX9_isStanding_15 : decode cX9_isStanding 15 = .ok (.iaload, 1) := by decide +kernel
theorem dX9_isStanding_16 : decode cX9_isStanding 16 = .ok (.iload_n 1, 1) := by decide +kernel
theorem dX9_isStanding_17 : decode cX9_isStanding 17 = .ok (.if_icmp .eq 13, 3) := by decide +kernel
theorem dX9_isStanding_20 : decode cX9_isStanding 20 = .ok (.aload_n 0, 1) := by decide +kernel
theorem dX9_isStanding_21 : decode cX9_isStanding 21 = .ok (.getfield 39, 3) := by decide +kernel
theorem dX9_isStanding_24 : decode cX9_isStanding 24 = .ok (.iconst 2, 1) := by decide +kernel
theorem dX9_isStanding_25 : decode cX9_isStanding 25 = .ok (.iaload, 1) := by decide +kernel
theorem dX9_isStanding_26 : decode cX9_isStanding 26 = .ok (.iload_n 1, 1) := by decide +kernel
theorem dX9_isStanding_27 : decode cX9_isStanding 27 = .ok (.if_icmp .ne 7, 3) := by decide +kernel
theorem dX9_isStanding_30 : decode cX9_isStanding 30 = .ok (.iconst 1, 1) := by decide +kernel
theorem dX9_isStanding_31 : decode cX9_isStanding 31 = .ok (.goto 4, 3) := by decide +kernel
theorem dX9_isStanding_34 : decode cX9_isStanding 34 = .ok (.iconst 0, 1) := by decide +kernel
theorem dX9_isStanding_35 : decode cX9_isStanding 35 = .ok (.ireturn, 1) := by decide +kernel
theorem dX9_rests_0 : decode cX9_rests 0 = .ok (.iconst 0, 1) := by decide +kernel
theorem dX9_rests_1 : decode cX9_rests 1 = .ok (.istore_n 3, 1) := by decide +kernel
theorem dX9_rests_2 : decode cX9_rests 2 = .ok (.iload_n 3, 1) := by decide +kernel
theorem dX9_rests_3 : decode cX9_rests 3 = .ok (.aload_n 0, 1) := by decide +kernel
theorem dX9_rests_4 : decode cX9_rests 4 = .ok (.getfield 17, 3) := by decide +kernel
theorem dX9_rests_7 : decode cX9_rests 7 = .ok (.iconst 3, 1) := by decide +kernel
theorem dX9_rests_8 : decode cX9_rests 8 = .ok (.iaload, 1) := by decide +kernel
theorem dX9_rests_9 : decode cX9_rests 9 = .ok (.if_icmp .ge 87, 3) := by decide +kernel
theorem dX9_rests_12 : decode cX9_rests 12 = .ok (.iload_n 2, 1) := by decide +kernel
theorem dX9_rests_13 : decode cX9_rests 13 = .ok (.ifCond .ne 11, 3) := by decide +kernel
theorem dX9_rests_16 : decode cX9_rests 16 = .ok (.aload_n 0, 1) := by decide +kernel
theorem dX9_rests_17 : decode cX9_rests 17 = .ok (.iload_n 3, 1) := by decide +kernel
theorem dX9_rests_18 : decode cX9_rests 18 = .ok (.invokevirtual 212, 3) := by decide +kernel
theorem dX9_rests_21 : decode cX9_rests 21 = .ok (.ifCond .ne 69, 3) := by decide +kernel
theorem dX9_rests_24 : decode cX9_rests 24 = .ok (.aload_n 0, 1) := by decide +kernel
theorem dX9_rests_25 : decode cX9_rests 25 = .ok (.getfield 36, 3) := by decide +kernel
theorem dX9_rests_28 : decode cX9_rests 28 = .ok (.iload_n 3, 1) := by decide +kernel
theorem dX9_rests_29 : decode cX9_rests 29 = .ok (.iaload, 1) := by decide +kernel
theorem dX9_rests_30 : decode cX9_rests 30 = .ok (.iload_n 1, 1) := by decide +kernel
theorem dX9_rests_31 : decode cX9_rests 31 = .ok (.aload_n 0, 1) := by decide +kernel
theorem dX9_rests_32 : decode cX9_rests 32 = .ok (.getfield 17, 3) := by decide +kernel
theorem dX9_rests_35 : decode cX9_rests 35 = .ok (.bipush 8, 2) := by decide +kernel
theorem dX9_rests_37 : decode cX9_rests 37 = .ok (.iconst 4, 1) := by decide +kernel
theorem dX9_rests_38 : decode cX9_rests 38 = .ok (.iload_n 3, 1) := by decide +kernel
theorem dX9_rests_39 : decode cX9_rests 39 = .ok (.imul, 1) := by decide +kernel
theorem dX9_rests_40 : decode cX9_rests 40 = .ok (.iadd, 1) := by decide +kernel
theorem dX9_rests_41 : decode cX9_rests 41 = .ok (.iconst 2, 1) := by decide +kernel
theorem dX9_rests_42 : decode cX9_rests 42 = .ok (.iadd, 1) := by decide +kernel
theorem dX9_rests_43 : decode cX9_rests 43 = .ok (.iaload, 1) := by decide +kernel
theorem dX9_rests_44 : decode cX9_rests 44 = .ok (.imul, 1) := by decide +kernel
theorem dX9_rests_45 : decode cX9_rests 45 = .ok (.iadd, 1) := by decide +kernel
theorem dX9_rests_46 : decode cX9_rests 46 = .ok (.istore 4, 2) := by decide +kernel
theorem dX9_rests_48 : decode cX9_rests 48 = .ok (.aload_n 0, 1) := by decide +kernel
theorem dX9_rests_49 : decode cX9_rests 49 = .ok (.getfield 36, 3) := by decide +kernel
theorem dX9_rests_52 : decode cX9_rests 52 = .ok (.iload_n 3, 1) := by decide +kernel
theorem dX9_rests_53 : decode cX9_rests 53 = .ok (.iload 4, 2) := by decide +kernel
theorem dX9_rests_55 : decode cX9_rests 55 = .ok (.aload_n 0, 1) := by decide +kernel
theorem dX9_rests_56 : decode cX9_rests 56 = .ok (.getfield 17, 3) := by decide +kernel
theorem dX9_rests_59 : decode cX9_rests 59 = .ok (.bipush 8, 2) := by decide +kernel
theorem dX9_rests_61 : decode cX9_rests 61 = .ok (.iconst 4, 1) := by decide +kernel
theorem dX9_rests_62 : decode cX9_rests 62 = .ok (.iload_n 3, 1) := by decide +kernel
theorem dX9_rests_63 : decode cX9_rests 63 = .ok (.imul, 1) := by decide +kernel
theorem dX9_rests_64 : decode cX9_rests 64 = .ok (.iadd, 1) := by decide +kernel
theorem dX9_rests_65 : decode cX9_rests 65 = .ok (.iconst 1, 1) := by decide +kernel
theorem dX9_rests_66 : decode cX9_rests 66 = .ok (.iadd, 1) := by decide +kernel
theorem dX9_rests_67 : decode cX9_rests 67 = .ok (.iaload, 1) := by decide +kernel
theorem dX9_rests_68 : decode cX9_rests 68 = .ok (.if_icmp .le 19, 3) := by decide +kernel
theorem dX9_rests_71 : decode cX9_rests 71 = .ok (.aload_n 0, 1) := by decide +kernel
theorem dX9_rests_72 : decode cX9_rests 72 = .ok (.getfield 17, 3) := by decide +kernel
theorem dX9_rests_75 : decode cX9_rests 75 = .ok (.bipush 8, 2) := by decide +kernel
theorem dX9_rests_77 : decode cX9_rests 77 = .ok (.iconst 4, 1) := by decide +kernel
theorem dX9_rests_78 : decode cX9_rests 78 = .ok (.iload_n 3, 1) := by decide +kernel
theorem dX9_rests_79 : decode cX9_rests 79 = .ok (.imul, 1) := by decide +kernel
theorem dX9_rests_80 : decode cX9_rests 80 = .ok (.iadd, 1) := by decide +kernel
theorem dX9_rests_81 : decode cX9_rests 81 = .ok (.iconst 1, 1) := by decide +kernel
theorem dX9_rests_82 : decode cX9_rests 82 = .ok (.iadd, 1) := by decide +kernel
theorem dX9_rests_83 : decode cX9_rests 83 = .ok (.iaload, 1) := by decide +kernel
theorem dX9_rests_84 : decode cX9_rests 84 = .ok (.goto 5, 3) := by decide +kernel
theorem dX9_rests_87 : decode cX9_rests 87 = .ok (.iload 4, 2) := by decide +kernel
theorem dX9_rests_89 : decode cX9_rests 89 = .ok (.iastore, 1) := by decide +kernel
theorem dX9_rests_90 : decode cX9_rests 90 = .ok (.iinc 3 1, 3) := by decide +kernel
theorem dX9_rests_93 : decode cX9_rests 93 = .ok (.goto (-91), 3) := by decide +kernel
theorem dX9_rests_96 : decode cX9_rests 96 = .ok (.return_, 1) := by decide +kernel
theorem dX9_becomesSo_0 : decode cX9_becomesSo 0 = .ok (.iconst 0, 1) := by decide +kernel
theorem dX9_becomesSo_1 : decode cX9_becomesSo 1 = .ok (.istore_n 1, 1) := by decide +kernel
theorem dX9_becomesSo_2 : decode cX9_becomesSo 2 = .ok (.iload_n 1, 1) := by decide +kernel
theorem dX9_becomesSo_3 : decode cX9_becomesSo 3 = .ok (.bipush 6, 2) := by decide +kernel
theorem dX9_becomesSo_5 : decode cX9_becomesSo 5 = .ok (.if_icmp .ge 21, 3) := by decide +kernel
theorem dX9_becomesSo_8 : decode cX9_becomesSo 8 = .ok (.aload_n 0, 1) := by decide +kernel
theorem dX9_becomesSo_9 : decode cX9_becomesSo 9 = .ok (.getfield 23, 3) := by decide +kernel
theorem dX9_becomesSo_12 : decode cX9_becomesSo 12 = .ok (.iload_n 1, 1) := by decide +kernel
theorem dX9_becomesSo_13 : decode cX9_becomesSo 13 = .ok (.aload_n 0, 1) := by decide +kernel
theorem dX9_becomesSo_14 : decode cX9_becomesSo 14 = .ok (.getfield 36, 3) := by decide +kernel
theorem dX9_becomesSo_17 : decode cX9_becomesSo 17 = .ok (.iload_n 1, 1) := by decide +kernel
theorem dX9_becomesSo_18 : decode cX9_becomesSo 18 = .ok (.iaload, 1) := by decide +kernel
theorem dX9_becomesSo_19 : decode cX9_becomesSo 19 = .ok (.iastore, 1) := by decide +kernel
theorem dX9_becomesSo_20 : decode cX9_becomesSo 20 = .ok (.iinc 1 1, 3) := by decide +kernel
theorem dX9_becomesSo_23 : decode cX9_becomesSo 23 = .ok (.goto (-21), 3) := by decide +kernel
theorem dX9_becomesSo_26 : decode cX9_becomesSo 26 = .ok (.return_, 1) := by decide +kernel
theorem dX9_isNobody_0 : decode cX9_isNobody 0 = .ok (.aload_n 0, 1) := by decide +kernel
theorem dX9_isNobody_1 : decode cX9_isNobody 1 = .ok (.getfield 23, 3) := by decide +kernel
theorem dX9_isNobody_4 : decode cX9_isNobody 4 = .ok (.bipush 6, 2) := by decide +kernel
theorem dX9_isNobody_6 : decode cX9_isNobody 6 = .ok (.iaload, 1) := by decide +kernel
theorem dX9_isNobody_7 : decode cX9_isNobody 7 = .ok (.iconst (-1), 1) := by decide +kernel
theorem dX9_isNobody_8 : decode cX9_isNobody 8 = .ok (.if_icmp .ne 29, 3) := by decide +kernel
theorem dX9_isNobody_11 : decode cX9_isNobody 11 = .ok (.aload_n 0, 1) := by decide +kernel
theorem dX9_isNobody_12 : decode cX9_isNobody 12 = .ok (.getfield 23, 3) := by decide +kernel
theorem dX9_isNobody_15 : decode cX9_isNobody 15 = .ok (.bipush 7, 2) := by decide +kernel
theorem dX9_isNobody_17 : decode cX9_isNobody 17 = .ok (.iaload, 1) := by decide +kernel
theorem dX9_isNobody_18 : decode cX9_isNobody 18 = .ok (.iconst (-1), 1) := by decide +kernel
theorem dX9_isNobody_19 : decode cX9_isNobody 19 = .ok (.if_icmp .ne 18, 3) := by decide +kernel
theorem dX9_isNobody_22 : decode cX9_isNobody 22 = .ok (.aload_n 0, 1) := by decide +kernel
theorem dX9_isNobody_23 : decode cX9_isNobody 23 = .ok (.getfield 23, 3) := by decide +kernel
theorem dX9_isNobody_26 : decode cX9_isNobody 26 = .ok (.bipush 8, 2) := by decide +kernel
theorem dX9_isNobody_28 : decode cX9_isNobody 28 = .ok (.iaload, 1) := by decide +kernel
theorem dX9_isNobody_29 : decode cX9_isNobody 29 = .ok (.iconst (-1), 1) := by decide +kernel
theorem dX9_isNobody_30 : decode cX9_isNobody 30 = .ok (.if_icmp .ne 7, 3) := by decide +kernel
theorem dX9_isNobody_33 : decode cX9_isNobody 33 = .ok (.iconst 1, 1) := by decide +kernel
theorem dX9_isNobody_34 : decode cX9_isNobody 34 = .ok (.goto 4, 3) := by decide +kernel
theorem dX9_isNobody_37 : decode cX9_isNobody 37 = .ok (.iconst 0, 1) := by decide +kernel
theorem dX9_isNobody_38 : decode cX9_isNobody 38 = .ok (.ireturn, 1) := by decide +kernel
theorem dX9_crossed_0 : decode cX9_crossed 0 = .ok (.aload_n 0, 1) := by decide +kernel
theorem dX9_crossed_1 : decode cX9_crossed 1 = .ok (.invokevirtual 195, 3) := by decide +kernel
theorem dX9_crossed_4 : decode cX9_crossed 4 = .ok (.aload_n 0, 1) := by decide +kernel
theorem dX9_crossed_5 : decode cX9_crossed 5 = .ok (.aload_n 0, 1) := by decide +kernel
theorem dX9_crossed_6 : decode cX9_crossed 6 = .ok (.getfield 23, 3) := by decide +kernel
theorem dX9_crossed_9 : decode cX9_crossed 9 = .ok (.bipush 9, 2) := by decide +kernel
theorem dX9_crossed_11 : decode cX9_crossed 11 = .ok (.iaload, 1) := by decide +kernel
theorem dX9_crossed_12 : decode cX9_crossed 12 = .ok (.iload_n 1, 1) := by decide +kernel
theorem dX9_crossed_13 : decode cX9_crossed 13 = .ok (.invokevirtual 215, 3) := by decide +kernel
theorem dX9_crossed_16 : decode cX9_crossed 16 = .ok (.istore_n 2, 1) := by decide +kernel
theorem dX9_crossed_17 : decode cX9_crossed 17 = .ok (.aload_n 0, 1) := by decide +kernel
theorem dX9_crossed_18 : decode cX9_crossed 18 = .ok (.iconst 1, 1) := by decide +kernel
theorem dX9_crossed_19 : decode cX9_crossed 19 = .ok (.iconst 0, 1) := by decide +kernel
theorem dX9_crossed_20 : decode cX9_crossed 20 = .ok (.invokevirtual 218, 3) := by decide +kernel
theorem dX9_crossed_23 : decode cX9_crossed 23 = .ok (.aload_n 0, 1) := by decide +kernel
theorem dX9_crossed_24 : decode cX9_crossed 24 = .ok (.invokevirtual 222, 3) := by decide +kernel
theorem dX9_crossed_27 : decode cX9_crossed 27 = .ok (.aload_n 0, 1) := by decide +kernel
theorem dX9_crossed_28 : decode cX9_crossed 28 = .ok (.getfield 23, 3) := by decide +kernel
theorem dX9_crossed_31 : decode cX9_crossed 31 = .ok (.bipush 9, 2) := by decide +kernel
theorem dX9_crossed_33 : decode cX9_crossed 33 = .ok (.dup2, 1) := by decide +kernel
theorem dX9_crossed_34 : decode cX9_crossed 34 = .ok (.iaload, 1) := by decide +kernel
theorem dX9_crossed_35 : decode cX9_crossed 35 = .ok (.iconst 1, 1) := by decide +kernel
theorem dX9_crossed_36 : decode cX9_crossed 36 = .ok (.iadd, 1) := by decide +kernel
theorem dX9_crossed_37 : decode cX9_crossed 37 = .ok (.iastore, 1) := by decide +kernel
theorem dX9_crossed_38 : decode cX9_crossed 38 = .ok (.aload_n 0, 1) := by decide +kernel
theorem dX9_crossed_39 : decode cX9_crossed 39 = .ok (.getfield 23, 3) := by decide +kernel
theorem dX9_crossed_42 : decode cX9_crossed 42 = .ok (.bipush 10, 2) := by decide +kernel
theorem dX9_crossed_44 : decode cX9_crossed 44 = .ok (.aload_n 0, 1) := by decide +kernel
theorem dX9_crossed_45 : decode cX9_crossed 45 = .ok (.getfield 23, 3) := by decide +kernel
theorem dX9_crossed_48 : decode cX9_crossed 48 = .ok (.bipush 10, 2) := by decide +kernel
theorem dX9_crossed_50 : decode cX9_crossed 50 = .ok (.iaload, 1) := by decide +kernel
theorem dX9_crossed_51 : decode cX9_crossed 51 = .ok (.aload_n 0, 1) := by decide +kernel
theorem dX9_crossed_52 : decode cX9_crossed 52 = .ok (.getfield 205, 3) := by decide +kernel
theorem dX9_crossed_55 : decode cX9_crossed 55 = .ok (.iadd, 1) := by decide +kernel
theorem dX9_crossed_56 : decode cX9_crossed 56 = .ok (.ldc 225, 2) := by decide +kernel
theorem dX9_crossed_58 : decode cX9_crossed 58 = .ok (.if_icmp .le 8, 3) := by decide +kernel
theorem dX9_crossed_61 : decode cX9_crossed 61 = .ok (.ldc 225, 2) := by decide +kernel
theorem dX9_crossed_63 : decode cX9_crossed 63 = .ok (.goto 15, 3) := by decide +kernel
theorem dX9_crossed_66 : decode cX9_crossed 66 = .ok (.aload_n 0, 1) := by decide +kernel
theorem dX9_crossed_67 : decode cX9_crossed 67 = .ok (.getfield 23, 3) := by decide +kernel
theorem dX9_crossed_70 : decode cX9_crossed 70 = .ok (.bipush 10, 2) := by decide +kernel
theorem dX9_crossed_72 : decode cX9_crossed 72 = .ok (.iaload, 1) := by decide +kernel
theorem dX9_crossed_73 : decode cX9_crossed 73 = .ok (.aload_n 0, 1) := by decide +kernel
theorem dX9_crossed_74 : decode cX9_crossed 74 = .ok (.getfield 205, 3) := by decide +kernel
theorem dX9_crossed_77 : decode cX9_crossed 77 = .ok (.iadd, 1) := by decide +kernel
theorem dX9_crossed_78 : decode cX9_crossed 78 = .ok (.iastore, 1) := by decide +kernel
theorem dX9_crossed_79 : decode cX9_crossed 79 = .ok (.aload_n 0, 1) := by decide +kernel
theorem dX9_crossed_80 : decode cX9_crossed 80 = .ok (.getfield 23, 3) := by decide +kernel
theorem dX9_crossed_83 : decode cX9_crossed 83 = .ok (.bipush 11, 2) := by decide +kernel
theorem dX9_crossed_85 : decode cX9_crossed 85 = .ok (.dup2, 1) := by decide +kernel
theorem dX9_crossed_86 : decode cX9_crossed 86 = .ok (.iaload, 1) := by decide +kernel
theorem dX9_crossed_87 : decode cX9_crossed 87 = .ok (.iload_n 2, 1) := by decide +kernel
theorem dX9_crossed_88 : decode cX9_crossed 88 = .ok (.ifCond .ne 7, 3) := by decide +kernel
theorem dX9_crossed_91 : decode cX9_crossed 91 = .ok (.iconst 1, 1) := by decide +kernel
theorem dX9_crossed_92 : decode cX9_crossed 92 = .ok (.goto 4, 3) := by decide +kernel
theorem dX9_crossed_95 : decode cX9_crossed 95 = .ok (.iconst 0, 1) := by decide +kernel
theorem dX9_crossed_96 : decode cX9_crossed 96 = .ok (.iadd, 1) := by decide +kernel
theorem dX9_crossed_97 : decode cX9_crossed 97 = .ok (.iastore, 1) := by decide +kernel
theorem dX9_crossed_98 : decode cX9_crossed 98 = .ok (.iload_n 2, 1) := by decide +kernel
theorem dX9_crossed_99 : decode cX9_crossed 99 = .ok (.ifCond .ne 7, 3) := by decide +kernel
theorem dX9_crossed_102 : decode cX9_crossed 102 = .ok (.iconst (-1), 1) := by decide +kernel
theorem dX9_crossed_103 : decode cX9_crossed 103 = .ok (.goto 4, 3) := by decide +kernel
theorem dX9_crossed_106 : decode cX9_crossed 106 = .ok (.iload_n 2, 1) := by decide +kernel
theorem dX9_crossed_107 : decode cX9_crossed 107 = .ok (.ireturn, 1) := by decide +kernel
theorem dX9_cross_0 : decode cX9_cross 0 = .ok (.aload_n 0, 1) := by decide +kernel
theorem dX9_cross_1 : decode cX9_cross 1 = .ok (.iconst 0, 1) := by decide +kernel
theorem dX9_cross_2 : decode cX9_cross 2 = .ok (.putfield 76, 3) := by decide +kernel
theorem dX9_cross_5 : decode cX9_cross 5 = .ok (.iload_n 1, 1) := by decide +kernel
theorem dX9_cross_6 : decode cX9_cross 6 = .ok (.iconst 0, 1) := by decide +kernel
theorem dX9_cross_7 : decode cX9_cross 7 = .ok (.sipush 240, 3) := by decide +kernel
theorem dX9_cross_10 : decode cX9_cross 10 = .ok (.invokestatic 82, 3) := by decide +kernel
theorem dX9_cross_13 : decode cX9_cross 13 = .ok (.ifCond .ne 6, 3) := by decide +kernel
theorem dX9_cross_16 : decode cX9_cross 16 = .ok (.ldc 86, 2) := by decide +kernel
theorem dX9_cross_18 : decode cX9_cross 18 = .ok (.ireturn, 1) := by decide +kernel
theorem dX9_cross_19 : decode cX9_cross 19 = .ok (.aload_n 0, 1) := by decide +kernel
theorem dX9_cross_20 : decode cX9_cross 20 = .ok (.invokevirtual 226, 3) := by decide +kernel
theorem dX9_cross_23 : decode cX9_cross 23 = .ok (.ifCond .eq 8, 3) := by decide +kernel
theorem dX9_cross_26 : decode cX9_cross 26 = .ok (.ldc 204, 2) := by decide +kernel
theorem dX9_cross_28 : decode cX9_cross 28 = .ok (.goto 8, 3) := by decide +kernel
theorem dX9_cross_31 : decode cX9_cross 31 = .ok (.aload_n 0, 1) := by decide +kernel
theorem dX9_cross_32 : decode cX9_cross 32 = .ok (.iload_n 1, 1) := by decide +kernel
theorem dX9_cross_33 : decode cX9_cross 33 = .ok (.invokevirtual 229, 3) := by decide +kernel
theorem dX9_cross_36 : decode cX9_cross 36 = .ok (.ireturn, 1) := by decide +kernel
theorem dX9_trial_0 : decode cX9_trial 0 = .ok (.aload_n 0, 1) := by decide +kernel
theorem dX9_trial_1 : decode cX9_trial 1 = .ok (.iconst 0, 1) := by decide +kernel
theorem dX9_trial_2 : decode cX9_trial 2 = .ok (.putfield 76, 3) := by decide +kernel
theorem dX9_trial_5 : decode cX9_trial 5 = .ok (.iload_n 1, 1) := by decide +kernel
theorem dX9_trial_6 : decode cX9_trial 6 = .ok (.iconst 0, 1) := by decide +kernel
theorem dX9_trial_7 : decode cX9_trial 7 = .ok (.sipush 240, 3) := by decide +kernel
theorem dX9_trial_10 : decode cX9_trial 10 = .ok (.invokestatic 82, 3) := by decide +kernel
theorem dX9_trial_13 : decode cX9_trial 13 = .ok (.ifCond .eq 12, 3) := by decide +kernel
theorem dX9_trial_16 : decode cX9_trial 16 = .ok (.iload_n 2, 1) := by decide +kernel
theorem dX9_trial_17 : decode cX9_trial 17 = .ok (.iconst 0, 1) := by decide +kernel
theorem dX9_trial_18 : decode cX9_trial 18 = .ok (.iconst 1, 1) := by decide +kernel
theorem dX9_trial_19 : decode cX9_trial 19 = .ok (.invokestatic 82, 3) := by decide +kernel
theorem dX9_trial_22 : decode cX9_trial 22 = .ok (.ifCond .ne 6, 3) := by decide +kernel
theorem dX9_trial_25 : decode cX9_trial 25 = .ok (.ldc 86, 2) := by decide +kernel
theorem dX9_trial_27 : decode cX9_trial 27 = .ok (.ireturn, 1) := by decide +kernel
theorem dX9_trial_28 : decode cX9_trial 28 = .ok (.aload_n 0, 1) := by decide +kernel
theorem dX9_trial_29 : decode cX9_trial 29 = .ok (.invokevirtual 226, 3) := by decide +kernel
theorem dX9_trial_32 : decode cX9_trial 32 = .ok (.ifCond .eq 6, 3) := by decide +kernel
theorem dX9_trial_35 : decode cX9_trial 35 = .ok (.ldc 204, 2) := by decide +kernel
theorem dX9_trial_37 : decode cX9_trial 37 = .ok (.ireturn, 1) := by decide +kernel
theorem dX9_trial_38 : decode cX9_trial 38 = .ok (.aload_n 0, 1) := by decide +kernel
theorem dX9_trial_39 : decode cX9_trial 39 = .ok (.invokevirtual 195, 3) := by decide +kernel
theorem dX9_trial_42 : decode cX9_trial 42 = .ok (.aload_n 0, 1) := by decide +kernel
theorem dX9_trial_43 : decode cX9_trial 43 = .ok (.aload_n 0, 1) := by decide +kernel
theorem dX9_trial_44 : decode cX9_trial 44 = .ok (.getfield 23, 3) := by decide +kernel
theorem dX9_trial_47 : decode cX9_trial 47 = .ok (.bipush 9, 2) := by decide +kernel
theorem dX9_trial_49 : decode cX9_trial 49 = .ok (.iaload, 1) := by decide +kernel
theorem dX9_trial_50 : decode cX9_trial 50 = .ok (.iload_n 1, 1) := by decide +kernel
theorem dX9_trial_51 : decode cX9_trial 51 = .ok (.invokevirtual 215, 3) := by decide +kernel
theorem dX9_trial_54 : decode cX9_trial 54 = .ok (.istore_n 3, 1) := by decide +kernel
theorem dX9_trial_55 : decode cX9_trial 55 = .ok (.iload_n 2, 1) := by decide +kernel
theorem dX9_trial_56 : decode cX9_trial 56 = .ok (.iconst 1, 1) := by decide +kernel
theorem dX9_trial_57 : decode cX9_trial 57 = .ok (.if_icmp .ne 10, 3) := by decide +kernel
theorem dX9_trial_60 : decode cX9_trial 60 = .ok (.aload_n 0, 1) := by decide +kernel
theorem dX9_trial_61 : decode cX9_trial 61 = .ok (.getfield 205, 3) := by decide +kernel
theorem dX9_trial_64 : decode cX9_trial 64 = .ok (.goto 12, 3) := by decide +kernel
theorem dX9_trial_67 : decode cX9_trial 67 = .ok (.iload_n 3, 1) := by decide +kernel
theorem dX9_trial_68 : decode cX9_trial 68 = .ok (.ifCond .ne 7, 3) := by decide +kernel
theorem dX9_trial_71 : decode cX9_trial 71 = .ok (.iconst (-1), 1) := by decide +kernel
theorem dX9_trial_72 : decode cX9_trial 72 = .ok (.goto 4, 3) := by decide +kernel
theorem dX9_trial_75 : decode cX9_trial 75 = .ok (.iload_n 3, 1) := by decide +kernel
theorem dX9_trial_76 : decode cX9_trial 76 = .ok (.ireturn, 1) := by decide +kernel
theorem dX9_rested_0 : decode cX9_rested 0 = .ok (.aload_n 0, 1) := by decide +kernel
theorem dX9_rested_1 : decode cX9_rested 1 = .ok (.invokevirtual 195, 3) := by decide +kernel
theorem dX9_rested_4 : decode cX9_rested 4 = .ok (.aload_n 0, 1) := by decide +kernel
theorem dX9_rested_5 : decode cX9_rested 5 = .ok (.iload_n 1, 1) := by decide +kernel
theorem dX9_rested_6 : decode cX9_rested 6 = .ok (.iconst 1, 1) := by decide +kernel
theorem dX9_rested_7 : decode cX9_rested 7 = .ok (.invokevirtual 218, 3) := by decide +kernel
theorem dX9_rested_10 : decode cX9_rested 10 = .ok (.aload_n 0, 1) := by decide +kernel
theorem dX9_rested_11 : decode cX9_rested 11 = .ok (.invokevirtual 222, 3) := by decide +kernel
theorem dX9_rested_14 : decode cX9_rested 14 = .ok (.aload_n 0, 1) := by decide +kernel
theorem dX9_rested_15 : decode cX9_rested 15 = .ok (.getfield 23, 3) := by decide +kernel
theorem dX9_rested_18 : decode cX9_rested 18 = .ok (.bipush 9, 2) := by decide +kernel
theorem dX9_rested_20 : decode cX9_rested 20 = .ok (.dup2, 1) := by decide +kernel
theorem dX9_rested_21 : decode cX9_rested 21 = .ok (.iaload, 1) := by decide +kernel
theorem dX9_rested_22 : decode cX9_rested 22 = .ok (.iload_n 1, 1) := by decide +kernel
theorem dX9_rested_23 : decode cX9_rested 23 = .ok (.iadd, 1) := by decide +kernel
theorem dX9_rested_24 : decode cX9_rested 24 = .ok (.iastore, 1) := by decide +kernel
theorem dX9_rested_25 : decode cX9_rested 25 = .ok (.return_, 1) := by decide +kernel
theorem dX9_rest_0 : decode cX9_rest 0 = .ok (.aload_n 0, 1) := by decide +kernel
theorem dX9_rest_1 : decode cX9_rest 1 = .ok (.iconst 0, 1) := by decide +kernel
theorem dX9_rest_2 : decode cX9_rest 2 = .ok (.putfield 76, 3) := by decide +kernel
theorem dX9_rest_5 : decode cX9_rest 5 = .ok (.iload_n 1, 1) := by decide +kernel
theorem dX9_rest_6 : decode cX9_rest 6 = .ok (.iconst 1, 1) := by decide +kernel
theorem dX9_rest_7 : decode cX9_rest 7 = .ok (.bipush 99, 2) := by decide +kernel
theorem dX9_rest_9 : decode cX9_rest 9 = .ok (.invokestatic 82, 3) := by decide +kernel
theorem dX9_rest_12 : decode cX9_rest 12 = .ok (.ifCond .ne 6, 3) := by decide +kernel
theorem dX9_rest_15 : decode cX9_rest 15 = .ok (.ldc 86, 2) := by decide +kernel
theorem dX9_rest_17 : decode cX9_rest 17 = .ok (.ireturn, 1) := by decide +kernel
theorem dX9_rest_18 : decode cX9_rest 18 = .ok (.aload_n 0, 1) := by decide +kernel
theorem dX9_rest_19 : decode cX9_rest 19 = .ok (.iload_n 1, 1) := by decide +kernel
theorem dX9_rest_20 : decode cX9_rest 20 = .ok (.invokevirtual 232, 3) := by decide +kernel
theorem dX9_rest_23 : decode cX9_rest 23 = .ok (.aload_n 0, 1) := by decide +kernel
theorem dX9_rest_24 : decode cX9_rest 24 = .ok (.getfield 23, 3) := by decide +kernel
theorem dX9_rest_27 : decode cX9_rest 27 = .ok (.bipush 9, 2) := by decide +kernel
theorem dX9_rest_29 : decode cX9_rest 29 = .ok (.iaload, 1) := by decide +kernel
theorem dX9_rest_30 : decode cX9_rest 30 = .ok (.ireturn, 1) := by decide +kernel
theorem dX9_draw_0 : decode cX9_draw 0 = .ok (.aload_n 0, 1) := by decide +kernel
theorem dX9_draw_1 : decode cX9_draw 1 = .ok (.getfield 23, 3) := by decide +kernel
theorem dX9_draw_4 : decode cX9_draw 4 = .ok (.bipush 12, 2) := by decide +kernel
theorem dX9_draw_6 : decode cX9_draw 6 = .ok (.aload_n 0, 1) := by decide +kernel
theorem dX9_draw_7 : decode cX9_draw 7 = .ok (.getfield 23, 3) := by decide +kernel
theorem dX9_draw_10 : decode cX9_draw 10 = .ok (.bipush 12, 2) := by decide +kernel
theorem dX9_draw_12 : decode cX9_draw 12 = .ok (.iaload, 1) := by decide +kernel
theorem dX9_draw_13 : decode cX9_draw 13 = .ok (.ldc 235, 2) := by decide +kernel
theorem dX9_draw_15 : decode cX9_draw 15 = .ok (.imul, 1) := by decide +kernel
theorem dX9_draw_16 : decode cX9_draw 16 = .ok (.sipush 12345, 3) := by decide +kernel
theorem dX9_draw_19 : decode cX9_draw 19 = .ok (.iadd, 1) := by decide +kernel
theorem dX9_draw_20 : decode cX9_draw 20 = .ok (.ldc 236, 2) := by decide +kernel
theorem dX9_draw_22 : decode cX9_draw 22 = .ok (.iand, 1) := by decide +kernel
theorem dX9_draw_23 : decode cX9_draw 23 = .ok (.iastore, 1) := by decide +kernel
theorem dX9_draw_24 : decode cX9_draw 24 = .ok (.aload_n 0, 1) := by decide +kernel
theorem dX9_draw_25 : decode cX9_draw 25 = .ok (.getfield 23, 3) := by decide +kernel
theorem dX9_draw_28 : decode cX9_draw 28 = .ok (.bipush 12, 2) := by decide +kernel
theorem dX9_draw_30 : decode cX9_draw 30 = .ok (.iaload, 1) := by decide +kernel
theorem dX9_draw_31 : decode cX9_draw 31 = .ok (.ldc 237, 2) := by decide +kernel
theorem dX9_draw_33 : decode cX9_draw 33 = .ok (.idiv, 1) := by decide +kernel
theorem dX9_draw_34 : decode cX9_draw 34 = .ok (.iload_n 1, 1) := by decide +kernel
theorem dX9_draw_35 : decode cX9_draw 35 = .ok (.irem, 1) := by decide +kernel
theorem dX9_draw_36 : decode cX9_draw 36 = .ok (.ireturn, 1) := by decide +kernel
theorem dX9_drift_0 : decode cX9_drift 0 = .ok (.aload_n 0, 1) := by decide +kernel
theorem dX9_drift_1 : decode cX9_drift 1 = .ok (.iconst 0, 1) := by decide +kernel
theorem dX9_drift_2 : decode cX9_drift 2 = .ok (.putfield 76, 3) := by decide +kernel
theorem dX9_drift_5 : decode cX9_drift 5 = .ok (.iload_n 1, 1) := by decide +kernel
theorem dX9_drift_6 : decode cX9_drift 6 = .ok (.iconst 1, 1) := by decide +kernel
theorem dX9_drift_7 : decode cX9_drift 7 = .ok (.bipush 99, 2) := by decide +kernel
theorem dX9_drift_9 : decode cX9_drift 9 = .ok (.invokestatic 82, 3) := by decide +kernel
theorem dX9_drift_12 : decode cX9_drift 12 = .ok (.ifCond .ne 6, 3) := by decide +kernel
theorem dX9_drift_15 : decode cX9_drift 15 = .ok (.ldc 86, 2) := by decide +kernel
theorem dX9_drift_17 : decode cX9_drift 17 = .ok (.ireturn, 1) := by decide +kernel
theorem dX9_drift_18 : decode cX9_drift 18 = .ok (.aload_n 0, 1) := by decide +kernel
theorem dX9_drift_19 : decode cX9_drift 19 = .ok (.getfield 17, 3) := by decide +kernel
theorem dX9_drift_22 : decode cX9_drift 22 = .ok (.iconst 0, 1) := by decide +kernel
theorem dX9_drift_23 : decode cX9_drift 23 = .ok (.iaload, 1) := by decide +kernel
theorem dX9_drift_24 : decode cX9_drift 24 = .ok (.ifCond .eq 12, 3) := by decide +kernel
theorem dX9_drift_27 : decode cX9_drift 27 = .ok (.aload_n 0, 1) := by decide +kernel
theorem dX9_drift_28 : decode cX9_drift 28 = .ok (.getfield 17, 3) := by decide +kernel
theorem dX9_drift_31 : decode cX9_drift 31 = .ok (.iconst 3, 1) := by decide +kernel
theorem dX9_drift_32 : decode cX9_drift 32 = .ok (.iaload, 1) := by decide +kernel
theorem dX9_drift_33 : decode cX9_drift 33 = .ok (.ifCond .ne 6, 3) := by decide +kernel
theorem dX9_drift_36 : decode cX9_drift 36 = .ok (.ldc 204, 2) := by decide +kernel
theorem dX9_drift_38 : decode cX9_drift 38 = .ok (.ireturn, 1) := by decide +kernel
theorem dX9_drift_39 : decode cX9_drift 39 = .ok (.iconst 0, 1) := by decide +kernel
theorem dX9_drift_40 : decode cX9_drift 40 = .ok (.istore_n 2, 1) := by decide +kernel
theorem dX9_drift_41 : decode cX9_drift 41 = .ok (.iload_n 2, 1) := by decide +kernel
theorem dX9_drift_42 : decode cX9_drift 42 = .ok (.iload_n 1, 1) := by decide +kernel
theorem dX9_drift_43 : decode cX9_drift 43 = .ok (.if_icmp .ge 145, 3) := by decide +kernel
theorem dX9_drift_46 : decode cX9_drift 46 = .ok (.iconst 0, 1) := by decide +kernel
theorem dX9_drift_47 : decode cX9_drift 47 = .ok (.istore_n 3, 1) := by decide +kernel
theorem dX9_drift_48 : decode cX9_drift 48 = .ok (.iload_n 3, 1) := by decide +kernel
theorem dX9_drift_49 : decode cX9_drift 49 = .ok (.iconst 3, 1) := by decide +kernel
theorem dX9_drift_50 : decode cX9_drift 50 = .ok (.if_icmp .ge 19, 3) := by decide +kernel
theorem dX9_drift_53 : decode cX9_drift 53 = .ok (.aload_n 0, 1) := by decide +kernel
theorem dX9_drift_54 : decode cX9_drift 54 = .ok (.getfield 23, 3) := by decide +kernel
theorem dX9_drift_57 : decode cX9_drift 57 = .ok (.bipush 6, 2) := by decide +kernel
theorem dX9_drift_59 : decode cX9_drift 59 = .ok (.iload_n 3, 1) := by decide +kernel
theorem dX9_drift_60 : decode cX9_drift 60 = .ok (.iadd, 1) := by decide +kernel
theorem dX9_drift_61 : decode cX9_drift 61 = .ok (.iconst (-1), 1) := by decide +kernel
theorem dX9_drift_62 : decode cX9_drift 62 = .ok (.iastore, 1) := by decide +kernel
theorem dX9_drift_63 : decode cX9_drift 63 = .ok (.iinc 3 1, 3) := by decide +kernel
theorem dX9_drift_66 : decode cX9_drift 66 = .ok (.goto (-18), 3) := by decide +kernel
theorem dX9_drift_69 : decode cX9_drift 69 = .ok (.iconst 0, 1) := by decide +kernel
theorem dX9_drift_70 : decode cX9_drift 70 = .ok (.istore_n 3, 1) := by decide +kernel
theorem dX9_drift_71 : decode cX9_drift 71 = .ok (.iload_n 3, 1) := by decide +kernel
theorem dX9_drift_72 : decode cX9_drift 72 = .ok (.aload_n 0, 1) := by decide +kernel
theorem dX9_drift_73 : decode cX9_drift 73 = .ok (.getfield 17, 3) := by decide +kernel
theorem dX9_drift_76 : decode cX9_drift 76 = .ok (.iconst 0, 1) := by decide +kernel
theorem dX9_drift_77 : decode cX9_drift 77 = .ok (.iaload, 1) := by decide +kernel
theorem dX9_drift_78 : decode cX9_drift 78 = .ok (.if_icmp .ge 71, 3) := by decide +kernel
theorem dX9_drift_81 : decode cX9_drift 81 = .ok (.aload_n 0, 1) := by decide +kernel
theorem dX9_drift_82 : decode cX9_drift 82 = .ok (.aload_n 0, 1) := by decide +kernel
theorem dX9_drift_83 : decode cX9_drift 83 = .ok (.getfield 17, 3) := by decide +kernel
theorem dX9_drift_86 : decode cX9_drift 86 = .ok (.iconst 3, 1) := by decide +kernel
theorem dX9_drift_87 : decode cX9_drift 87 = .ok (.iaload, 1) := by decide +kernel
theorem dX9_drift_88 : decode cX9_drift 88 = .ok (.iconst 1, 1) := by decide +kernel
theorem dX9_drift_89 : decode cX9_drift 89 = .ok (.iadd, 1) := by decide +kernel
theorem dX9_drift_90 : decode cX9_drift 90 = .ok (.invokevirtual 238, 3) := by decide +kernel
theorem dX9_drift_93 : decode cX9_drift 93 = .ok (.istore 4, 2) := by decide +kernel
theorem dX9_drift_95 : decode cX9_drift 95 = .ok (.iload 4, 2) := by decide +kernel
theorem dX9_drift_97 : decode cX9_drift 97 = .ok (.aload_n 0, 1) := by decide +kernel
theorem dX9_drift_98 : decode cX9_drift 98 = .ok (.getfield 17, 3) := by decide +kernel
theorem dX9_drift_101 : decode cX9_drift 101 = .ok (.iconst 3, 1) := by decide +kernel
theorem dX9_drift_102 : decode cX9_drift 102 = .ok (.iaload, 1) := by decide +kernel
theorem dX9_drift_103 : decode cX9_drift 103 = .ok (.if_icmp .ge 17, 3) := by decide +kernel
theorem dX9_drift_106 : decode cX9_drift 106 = .ok (.aload_n 0, 1) := by decide +kernel
theorem dX9_drift_107 : decode cX9_drift 107 = .ok (.iload 4, 2) := by decide +kernel
theorem dX9_drift_109 : decode cX9_drift 109 = .ok (.invokevirtual 192, 3) := by decide +kernel
theorem dX9_drift_112 : decode cX9_drift 112 = .ok (.iconst (-1), 1) := by decide +kernel
theorem dX9_drift_113 : decode cX9_drift 113 = .ok (.if_icmp .ne 7, 3) := by decide +kernel
theorem dX9_drift_116 : decode cX9_drift 116 = .ok (.iconst 1, 1) := by decide +kernel
theorem dX9_drift_117 : decode cX9_drift 117 = .ok (.goto 4, 3) := by decide +kernel
theorem dX9_drift_120 : decode cX9_drift 120 = .ok (.iconst 0, 1) := by decide +kernel
theorem dX9_drift_121 : decode cX9_drift 121 = .ok (.istore 5, 2) := by decide +kernel
theorem dX9_drift_123 : decode cX9_drift 123 = .ok (.aload_n 0, 1) := by decide +kernel
theorem dX9_drift_124 : decode cX9_drift 124 = .ok (.getfield 23, 3) := by decide +kernel
theorem dX9_drift_127 : decode cX9_drift 127 = .ok (.bipush 6, 2) := by decide +kernel
theorem dX9_drift_129 : decode cX9_drift 129 = .ok (.iload_n 3, 1) := by decide +kernel
theorem dX9_drift_130 : decode cX9_drift 130 = .ok (.iadd, 1) := by decide +kernel
theorem dX9_drift_131 : decode cX9_drift 131 = .ok (.iload 5, 2) := by decide +kernel
theorem dX9_drift_133 : decode cX9_drift 133 = .ok (.ifCond .eq 8, 3) := by decide +kernel
theorem dX9_drift_136 : decode cX9_drift 136 = .ok (.iload 4, 2) := by decide +kernel
theorem dX9_drift_138 : decode cX9_drift 138 = .ok (.goto 4, 3) := by decide +kernel
theorem dX9_drift_141 : decode cX9_drift 141 = .ok (.iconst (-1), 1) := by decide +kernel
theorem dX9_drift_142 : decode cX9_drift 142 = .ok (.iastore, 1) := by decide +kernel
theorem dX9_drift_143 : decode cX9_drift 143 = .ok (.iinc 3 1, 3) := by decide +kernel
theorem dX9_drift_146 : decode cX9_drift 146 = .ok (.goto (-75), 3) := by decide +kernel
theorem dX9_drift_149 : decode cX9_drift 149 = .ok (.aload_n 0, 1) := by decide +kernel
theorem dX9_drift_150 : decode cX9_drift 150 = .ok (.bipush 30, 2) := by decide +kernel
theorem dX9_drift_152 : decode cX9_drift 152 = .ok (.invokevirtual 238, 3) := by decide +kernel
theorem dX9_drift_155 : decode cX9_drift 155 = .ok (.istore_n 3, 1) := by decide +kernel
theorem dX9_drift_156 : decode cX9_drift 156 = .ok (.aload_n 0, 1) := by decide +kernel
theorem dX9_drift_157 : decode cX9_drift 157 = .ok (.invokevirtual 226, 3) := by decide +kernel
theorem dX9_drift_160 : decode cX9_drift 160 = .ok (.ifCond .ne 9, 3) := by decide +kernel
theorem dX9_drift_163 : decode cX9_drift 163 = .ok (.aload_n 0, 1) := by decide +kernel
theorem dX9_drift_164 : decode cX9_drift 164 = .ok (.iload_n 3, 1) := by decide +kernel
theorem dX9_drift_165 : decode cX9_drift 165 = .ok (.invokevirtual 229, 3) := by decide +kernel
theorem dX9_drift_168 : decode cX9_drift 168 = .ok (.pop, 1) := by decide +kernel
theorem dX9_drift_169 : decode cX9_drift 169 = .ok (.aload_n 0, 1) := by decide +kernel
theorem dX9_drift_170 : decode cX9_drift 170 = .ok (.iconst 4, 1) := by decide +kernel
theorem dX9_drift_171 : decode cX9_drift 171 = .ok (.invokevirtual 238, 3) := by decide +kernel
theorem dX9_drift_174 : decode cX9_drift 174 = .ok (.istore 4, 2) := by decide +kernel
theorem dX9_drift_176 : decode cX9_drift 176 = .ok (.aload_n 0, 1) := by decide +kernel
theorem dX9_drift_177 : decode cX9_drift 177 = .ok (.iload 4, 2) := by decide +kernel
theorem dX9_drift_179 : decode cX9_drift 179 = .ok (.invokevirtual 232, 3) := by decide +kernel
theorem dX9_drift_182 : decode cX9_drift 182 = .ok (.iinc 2 1, 3) := by decide +kernel
theorem dX9_drift_185 : decode cX9_drift 185 = .ok (.goto (-144), 3) := by decide +kernel
theorem dX9_drift_188 : decode cX9_drift 188 = .ok (.aload_n 0, 1) := by decide +kernel
theorem dX9_drift_189 : decode cX9_drift 189 = .ok (.getfield 23, 3) := by decide +kernel
theorem dX9_drift_192 : decode cX9_drift 192 = .ok (.bipush 11, 2) := by decide +kernel
theorem dX9_drift_194 : decode cX9_drift 194 = .ok (.iaload, 1) := by decide +kernel
theorem dX9_drift_195 : decode cX9_drift 195 = .ok (.ireturn, 1) := by decide +kernel
theorem dX9_fromNow_0 : decode cX9_fromNow 0 = .ok (.iconst 0, 1) := by decide +kernel
theorem dX9_fromNow_1 : decode cX9_fromNow 1 = .ok (.istore_n 1, 1) := by decide +kernel
theorem dX9_fromNow_2 : decode cX9_fromNow 2 = .ok (.iload_n 1, 1) := by decide +kernel
theorem dX9_fromNow_3 : decode cX9_fromNow 3 = .ok (.bipush 6, 2) := by decide +kernel
theorem dX9_fromNow_5 : decode cX9_fromNow 5 = .ok (.if_icmp .ge 21, 3) := by decide +kernel
theorem dX9_fromNow_8 : decode cX9_fromNow 8 = .ok (.aload_n 0, 1) := by decide +kernel
theorem dX9_fromNow_9 : decode cX9_fromNow 9 = .ok (.getfield 60, 3) := by decide +kernel
theorem dX9_fromNow_12 : decode cX9_fromNow 12 = .ok (.iload_n 1, 1) := by decide +kernel
theorem dX9_fromNow_13 : decode cX9_fromNow 13 = .ok (.aload_n 0, 1) := by decide +kernel
theorem dX9_fromNow_14 : decode cX9_fromNow 14 = .ok (.getfield 23, 3) := by decide +kernel
theorem dX9_fromNow_17 : decode cX9_fromNow 17 = .ok (.iload_n 1, 1) := by decide +kernel
theorem dX9_fromNow_18 : decode cX9_fromNow 18 = .ok (.iaload, 1) := by decide +kernel
theorem dX9_fromNow_19 : decode cX9_fromNow 19 = .ok (.iastore, 1) := by decide +kernel
theorem dX9_fromNow_20 : decode cX9_fromNow 20 = .ok (.iinc 1 1, 3) := by decide +kernel
theorem dX9_fromNow_23 : decode cX9_fromNow 23 = .ok (.goto (-21), 3) := by decide +kernel
theorem dX9_fromNow_26 : decode cX9_fromNow 26 = .ok (.return_, 1) := by decide +kernel
theorem dX9_puts_0 : decode cX9_puts 0 = .ok (.aload_n 0, 1) := by decide +kernel
theorem dX9_puts_1 : decode cX9_puts 1 = .ok (.getfield 39, 3) := by decide +kernel
theorem dX9_puts_4 : decode cX9_puts 4 = .ok (.astore_n 3, 1) := by decide +kernel
theorem dX9_puts_5 : decode cX9_puts 5 = .ok (.aload_n 3, 1) := by decide +kernel
theorem dX9_puts_6 : decode cX9_puts 6 = .ok (.iconst 0, 1) := by decide +kernel
theorem dX9_puts_7 : decode cX9_puts 7 = .ok (.iload_n 1, 1) := by decide +kernel
theorem dX9_puts_8 : decode cX9_puts 8 = .ok (.bipush 49, 2) := by decide +kernel
theorem dX9_puts_10 : decode cX9_puts 10 = .ok (.idiv, 1) := by decide +kernel
theorem dX9_puts_11 : decode cX9_puts 11 = .ok (.iconst 1, 1) := by decide +kernel
theorem dX9_puts_12 : decode cX9_puts 12 = .ok (.isub, 1) := by decide +kernel
theorem dX9_puts_13 : decode cX9_puts 13 = .ok (.iastore, 1) := by decide +kernel
theorem dX9_puts_14 : decode cX9_puts 14 = .ok (.aload_n 3, 1) := by decide +kernel
theorem dX9_puts_15 : decode cX9_puts 15 = .ok (.iconst 1, 1) := by decide +kernel
theorem dX9_puts_16 : decode cX9_puts 16 = .ok (.iload_n 1, 1) := by decide +kernel
theorem dX9_puts_17 : decode cX9_puts 17 = .ok (.bipush 7, 2) := by decide +kernel
theorem dX9_puts_19 : decode cX9_puts 19 = .ok (.idiv, 1) := by decide +kernel
theorem dX9_puts_20 : decode cX9_puts 20 = .ok (.bipush 7, 2) := by decide +kernel
theorem dX9_puts_22 : decode cX9_puts 22 = .ok (.irem, 1) := by decide +kernel
theorem dX9_puts_23 : decode cX9_puts 23 = .ok (.iconst 1, 1) := by decide +kernel
theorem dX9_puts_24 : decode cX9_puts 24 = .ok (.isub, 1) := by decide +kernel
theorem dX9_puts_25 : decode cX9_puts 25 = .ok (.iastore, 1) := by decide +kernel
theorem dX9_puts_26 : decode cX9_puts 26 = .ok (.aload_n 3, 1) := by decide +kernel
theorem dX9_puts_27 : decode cX9_puts 27 = .ok (.iconst 2, 1) := by decide +kernel
theorem dX9_puts_28 : decode cX9_puts 28 = .ok (.iload_n 1, 1) := by decide +kernel
theorem dX9_puts_29 : decode cX9_puts 29 = .ok (.bipush 7, 2) := by decide +kernel
theorem dX9_puts_31 : decode cX9_puts 31 = .ok (.irem, 1) := by decide +kernel
theorem dX9_puts_32 : decode cX9_puts 32 = .ok (.iconst 1, 1) := by decide +kernel
theorem dX9_puts_33 : decode cX9_puts 33 = .ok (.isub, 1) := by decide +kernel
theorem dX9_puts_34 : decode cX9_puts 34 = .ok (.iastore, 1) := by decide +kernel
theorem dX9_puts_35 : decode cX9_puts 35 = .ok (.iload_n 1, 1) := by decide +kernel
theorem dX9_puts_36 : decode cX9_puts 36 = .ok (.ifCond .le 7, 3) := by decide +kernel
theorem dX9_puts_39 : decode cX9_puts 39 = .ok (.iconst 1, 1) := by decide +kernel
theorem dX9_puts_40 : decode cX9_puts 40 = .ok (.goto 4, 3) := by decide +kernel
theorem dX9_puts_43 : decode cX9_puts 43 = .ok (.iconst 0, 1) := by decide +kernel
theorem dX9_puts_44 : decode cX9_puts 44 = .ok (.istore 4, 2) := by decide +kernel
theorem dX9_puts_46 : decode cX9_puts 46 = .ok (.iconst 0, 1) := by decide +kernel
theorem dX9_puts_47 : decode cX9_puts 47 = .ok (.istore 5, 2) := by decide +kernel
theorem dX9_puts_49 : decode cX9_puts 49 = .ok (.iload 5, 2) := by decide +kernel
theorem dX9_puts_51 : decode cX9_puts 51 = .ok (.iconst 3, 1) := by decide +kernel
theorem dX9_puts_52 : decode cX9_puts 52 = .ok (.if_icmp .ge 96, 3) := by decide +kernel
theorem dX9_puts_55 : decode cX9_puts 55 = .ok (.iload 4, 2) := by decide +kernel
theorem dX9_puts_57 : decode cX9_puts 57 = .ok (.ifCond .eq 47, 3) := by decide +kernel
theorem dX9_puts_60 : decode cX9_puts 60 = .ok (.aload_n 3, 1) := by decide +kernel
theorem dX9_puts_61 : decode cX9_puts 61 = .ok (.iload 5, 2) := by decide +kernel
theorem dX9_puts_63 : decode cX9_puts 63 = .ok (.iaload, 1) := by decide +kernel
theorem dX9_puts_64 : decode cX9_puts 64 = .ok (.aload_n 0, 1) := by decide +kernel
theorem dX9_puts_65 : decode cX9_puts 65 = .ok (.getfield 17, 3) := by decide +kernel
theorem dX9_puts_68 : decode cX9_puts 68 = .ok (.iconst 3, 1) := by decide +kernel
theorem dX9_puts_69 : decode cX9_puts 69 = .ok (.iaload, 1) := by decide +kernel
theorem dX9_puts_70 : decode cX9_puts 70 = .ok (.if_icmp .ge 34, 3) := by decide +kernel
theorem dX9_puts_73 : decode cX9_puts 73 = .ok (.aload_n 3, 1) := by decide +kernel
theorem dX9_puts_74 : decode cX9_puts 74 = .ok (.iload 5, 2) := by decide +kernel
theorem dX9_puts_76 : decode cX9_puts 76 = .ok (.iaload, 1) := by decide +kernel
theorem dX9_puts_77 : decode cX9_puts 77 = .ok (.iconst (-1), 1) := by decide +kernel
theorem dX9_puts_78 : decode cX9_puts 78 = .ok (.if_icmp .eq 22, 3) := by decide +kernel
theorem dX9_puts_81 : decode cX9_puts 81 = .ok (.iload 5, 2) := by decide +kernel
theorem dX9_puts_83 : decode cX9_puts 83 = .ok (.aload_n 0, 1) := by decide +kernel
theorem dX9_puts_84 : decode cX9_puts 84 = .ok (.getfield 17, 3) := by decide +kernel
theorem dX9_puts_87 : decode cX9_puts 87 = .ok (.iconst 0, 1) := by decide +kernel
theorem dX9_puts_88 : decode cX9_puts 88 = .ok (.iaload, 1) := by decide +kernel
theorem dX9_puts_89 : decode cX9_puts 89 = .ok (.if_icmp .ge 15, 3) := by decide +kernel
theorem dX9_puts_92 : decode cX9_puts 92 = .ok (.aload_n 3, 1) := by decide +kernel
theorem dX9_puts_93 : decode cX9_puts 93 = .ok (.iload 5, 2) := by decide +kernel
theorem dX9_puts_95 : decode cX9_puts 95 = .ok (.iaload, 1) := by decide +kernel
theorem dX9_puts_96 : decode cX9_puts 96 = .ok (.iload_n 2, 1) := by decide +kernel
theorem dX9_puts_97 : decode cX9_puts 97 = .ok (.if_icmp .eq 7, 3) := by decide +kernel
theorem dX9_puts_100 : decode cX9_puts 100 = .ok (.iconst 1, 1) := by decide +kernel
theorem dX9_puts_101 : decode cX9_puts 101 = .ok (.goto 4, 3) := by decide +kernel
theorem dX9_puts_104 : decode cX9_puts 104 = .ok (.iconst 0, 1) := by decide +kernel
theorem dX9_puts_105 : decode cX9_puts 105 = .ok (.istore 4, 2) := by decide +kernel
theorem dX9_puts_107 : decode cX9_puts 107 = .ok (.iload 4, 2) := by decide +kernel
theorem dX9_puts_109 : decode cX9_puts 109 = .ok (.ifCond .eq 30, 3) := by decide +kernel
theorem dX9_puts_112 : decode cX9_puts 112 = .ok (.aload_n 3, 1) := by decide +kernel
theorem dX9_puts_113 : decode cX9_puts 113 = .ok (.iload 5, 2) := by decide +kernel
theorem dX9_puts_115 : decode cX9_puts 115 = .ok (.iaload, 1) := by decide +kernel
theorem dX9_puts_116 : decode cX9_puts 116 = .ok (.iconst (-1), 1) := by decide +kernel
theorem dX9_puts_117 : decode cX9_puts 117 = .ok (.if_icmp .eq 18, 3) := by decide +kernel
theorem dX9_puts_120 : decode cX9_puts 120 = .ok (.aload_n 3, 1) := by decide +kernel
theorem dX9_puts_121 : decode cX9_puts 121 = .ok (.iload 5, 2) := by decide +kernel
theorem dX9_puts_123 : decode cX9_puts 123 = .ok (.iaload, 1) := by decide +kernel
theorem dX9_puts_124 : decode cX9_puts 124 = .ok (.aload_n 3, 1) := by decide +kernel
theorem dX9_puts_125 : decode cX9_puts 125 = .ok (.iload 5, 2) := by decide +kernel
theorem dX9_puts_127 : decode cX9_puts 127 = .ok (.iconst 1, 1) := by decide +kernel
theorem dX9_puts_128 : decode cX9_puts 128 = .ok (.iadd, 1) := by decide +kernel
theorem dX9_puts_129 : decode cX9_puts 129 = .ok (.iconst 3, 1) := by decide +kernel
theorem dX9_puts_130 : decode cX9_puts 130 = .ok (.irem, 1) := by decide +kernel
theorem dX9_puts_131 : decode cX9_puts 131 = .ok (.iaload, 1) := by decide +kernel
theorem dX9_puts_132 : decode cX9_puts 132 = .ok (.if_icmp .eq 7, 3) := by decide +kernel
theorem dX9_puts_135 : decode cX9_puts 135 = .ok (.iconst 1, 1) := by decide +kernel
theorem dX9_puts_136 : decode cX9_puts 136 = .ok (.goto 4, 3) := by decide +kernel
theorem dX9_puts_139 : decode cX9_puts 139 = .ok (.iconst 0, 1) := by decide +kernel
theorem dX9_puts_140 : decode cX9_puts 140 = .ok (.istore 4, 2) := by decide +kernel
theorem dX9_puts_142 : decode cX9_puts 142 = .ok (.iinc 5 1, 3) := by decide +kernel
theorem dX9_puts_145 : decode cX9_puts 145 = .ok (.goto (-96), 3) := by decide +kernel
theorem dX9_puts_148 : decode cX9_puts 148 = .ok (.iload 4, 2) := by decide +kernel
theorem dX9_puts_150 : decode cX9_puts 150 = .ok (.ireturn, 1) := by decide +kernel
theorem dX9_strong_0 : decode cX9_strong 0 = .ok (.iconst 0, 1) := by decide +kernel
theorem dX9_strong_1 : decode cX9_strong 1 = .ok (.istore_n 1, 1) := by decide +kernel
theorem dX9_strong_2 : decode cX9_strong 2 = .ok (.iload_n 1, 1) := by decide +kernel
theorem dX9_strong_3 : decode cX9_strong 3 = .ok (.bipush 6, 2) := by decide +kernel
theorem dX9_strong_5 : decode cX9_strong 5 = .ok (.if_icmp .ge 21, 3) := by decide +kernel
theorem dX9_strong_8 : decode cX9_strong 8 = .ok (.aload_n 0, 1) := by decide +kernel
theorem dX9_strong_9 : decode cX9_strong 9 = .ok (.getfield 36, 3) := by decide +kernel
theorem dX9_strong_12 : decode cX9_strong 12 = .ok (.iload_n 1, 1) := by decide +kernel
theorem dX9_strong_13 : decode cX9_strong 13 = .ok (.aload_n 0, 1) := by decide +kernel
theorem dX9_strong_14 : decode cX9_strong 14 = .ok (.getfield 60, 3) := by decide +kernel
theorem dX9_strong_17 : decode cX9_strong 17 = .ok (.iload_n 1, 1) := by decide +kernel
theorem dX9_strong_18 : decode cX9_strong 18 = .ok (.iaload, 1) := by decide +kernel
theorem dX9_strong_19 : decode cX9_strong 19 = .ok (.iastore, 1) := by decide +kernel
theorem dX9_strong_20 : decode cX9_strong 20 = .ok (.iinc 1 1, 3) := by decide +kernel
theorem dX9_strong_23 : decode cX9_strong 23 = .ok (.goto (-21), 3) := by decide +kernel
theorem dX9_strong_26 : decode cX9_strong 26 = .ok (.return_, 1) := by decide +kernel
theorem dX9_keepsBest_0 : decode cX9_keepsBest 0 = .ok (.aload_n 0, 1) := by decide +kernel
theorem dX9_keepsBest_1 : decode cX9_keepsBest 1 = .ok (.iload_n 1, 1) := by decide +kernel
theorem dX9_keepsBest_2 : decode cX9_keepsBest 2 = .ok (.putfield 241, 3) := by decide +kernel
theorem dX9_keepsBest_5 : decode cX9_keepsBest 5 = .ok (.aload_n 0, 1) := by decide +kernel
theorem dX9_keepsBest_6 : decode cX9_keepsBest 6 = .ok (.aload_n 0, 1) := by decide +kernel
theorem dX9_keepsBest_7 : decode cX9_keepsBest 7 = .ok (.getfield 205, 3) := by decide +kernel
theorem dX9_keepsBest_10 : decode cX9_keepsBest 10 = .ok (.putfield 244, 3) := by decide +kernel
theorem dX9_keepsBest_13 : decode cX9_keepsBest 13 = .ok (.iconst 0, 1) := by decide +kernel
theorem dX9_keepsBest_14 : decode cX9_keepsBest 14 = .ok (.istore_n 3, 1) := by decide +kernel
theorem dX9_keepsBest_15 : decode cX9_keepsBest 15 = .ok (.iload_n 3, 1) := by decide +kernel
theorem dX9_keepsBest_16 : decode cX9_keepsBest 16 = .ok (.iconst 3, 1) := by decide +kernel
theorem dX9_keepsBest_17 : decode cX9_keepsBest 17 = .ok (.if_icmp .ge 23, 3) := by decide +kernel
theorem dX9_keepsBest_20 : decode cX9_keepsBest 20 = .ok (.aload_n 0, 1) := by decide +kernel
theorem dX9_keepsBest_21 : decode cX9_keepsBest 21 = .ok (.getfield 48, 3) := by decide +kernel
theorem dX9_keepsBest_24 : decode cX9_keepsBest 24 = .ok (.iload_n 2, 1) := by decide +kernel
theorem dX9_keepsBest_25 : decode cX9_keepsBest 25 = .ok (.iload_n 3, 1) := by decide +kernel
theorem dX9_keepsBest_26 : decode cX9_keepsBest 26 = .ok (.iadd, 1) := by decide +kernel
theorem dX9_keepsBest_27 : decode cX9_keepsBest 27 = .ok (.aload_n 0, 1) := by decide +kernel
theorem dX9_keepsBest_28 : decode cX9_keepsBest 28 = .ok (.getfield 39, 3) := by decide +kernel
theorem dX9_keepsBest_31 : decode cX9_keepsBest 31 = .ok (.iload_n 3, 1) := by decide +kernel
theorem dX9_keepsBest_32 : decode cX9_keepsBest 32 = .ok (.iaload, 1) := by decide +kernel
theorem dX9_keepsBest_33 : decode cX9_keepsBest 33 = .ok (.iastore, 1) := by decide +kernel
theorem dX9_keepsBest_34 : decode cX9_keepsBest 34 = .ok (.iinc 3 1, 3) := by decide +kernel
theorem dX9_keepsBest_37 : decode cX9_keepsBest 37 = .ok (.goto (-22), 3) := by decide +kernel
theorem dX9_keepsBest_40 : decode cX9_keepsBest 40 = .ok (.return_, 1) := by decide +kernel
theorem dX9_finds_0 : decode cX9_finds 0 = .ok (.aload_n 0, 1) := by decide +kernel
theorem dX9_finds_1 : decode cX9_finds 1 = .ok (.iconst 0, 1) := by decide +kernel
theorem dX9_finds_2 : decode cX9_finds 2 = .ok (.putfield 241, 3) := by decide +kernel
theorem dX9_finds_5 : decode cX9_finds 5 = .ok (.iconst 1, 1) := by decide +kernel
theorem dX9_finds_6 : decode cX9_finds 6 = .ok (.istore 5, 2) := by decide +kernel
theorem dX9_finds_8 : decode cX9_finds 8 = .ok (.iload 5, 2) := by decide +kernel
theorem dX9_finds_10 : decode cX9_finds 10 = .ok (.sipush 343, 3) := by decide +kernel
theorem dX9_finds_13 : decode cX9_finds 13 = .ok (.if_icmp .ge 145, 3) := by decide +kernel
theorem dX9_finds_16 : decode cX9_finds 16 = .ok (.aload_n 0, 1) := by decide +kernel
theorem dX9_finds_17 : decode cX9_finds 17 = .ok (.iload 5, 2) := by decide +kernel
theorem dX9_finds_19 : decode cX9_finds 19 = .ok (.iload_n 3, 1) := by decide +kernel
theorem dX9_finds_20 : decode cX9_finds 20 = .ok (.invokevirtual 247, 3) := by decide +kernel
theorem dX9_finds_23 : decode cX9_finds 23 = .ok (.ifCond .eq 129, 3) := by decide +kernel
theorem dX9_finds_26 : decode cX9_finds 26 = .ok (.aload_n 0, 1) := by decide +kernel
theorem dX9_finds_27 : decode cX9_finds 27 = .ok (.invokevirtual 251, 3) := by decide +kernel
theorem dX9_finds_30 : decode cX9_finds 30 = .ok (.aload_n 0, 1) := by decide +kernel
theorem dX9_finds_31 : decode cX9_finds 31 = .ok (.iload_n 1, 1) := by decide +kernel
theorem dX9_finds_32 : decode cX9_finds 32 = .ok (.iload_n 2, 1) := by decide +kernel
theorem dX9_finds_33 : decode cX9_finds 33 = .ok (.invokevirtual 215, 3) := by decide +kernel
theorem dX9_finds_36 : decode cX9_finds 36 = .ok (.istore 6, 2) := by decide +kernel
theorem dX9_finds_38 : decode cX9_finds 38 = .ok (.iload 6, 2) := by decide +kernel
theorem dX9_finds_40 : decode cX9_finds 40 = .ok (.ifCond .le 23, 3) := by decide +kernel
theorem dX9_finds_43 : decode cX9_finds 43 = .ok (.iload 4, 2) := by decide +kernel
theorem dX9_finds_45 : decode cX9_finds 45 = .ok (.ifCond .eq 14, 3) := by decide +kernel
theorem dX9_finds_48 : decode cX9_finds 48 = .ok (.iload 6, 2) := by decide +kernel
theorem dX9_finds_50 : decode cX9_finds 50 = .ok (.aload_n 0, 1) := by decide +kernel
theorem dX9_finds_51 : decode cX9_finds 51 = .ok (.getfield 17, 3) := by decide +kernel
theorem dX9_finds_54 : decode cX9_finds 54 = .ok (.iconst 5, 1) := by decide +kernel
theorem dX9_finds_55 : decode cX9_finds 55 = .ok (.iaload, 1) := by decide +kernel
theorem dX9_finds_56 : decode cX9_finds 56 = .ok (.if_icmp .gt 7, 3) := by decide +kernel
theorem dX9_finds_59 : decode cX9_finds 59 = .ok (.iconst 1, 1) := by decide +kernel
theorem dX9_finds_60 : decode cX9_finds 60 = .ok (.goto 4, 3) := by decide +kernel
theorem dX9_finds_63 : decode cX9_finds 63 = .ok (.iconst 0, 1) := by decide +kernel
theorem dX9_finds_64 : decode cX9_finds 64 = .ok (.istore 7, 2) := by decide +kernel
theorem dX9_finds_66 : decode cX9_finds 66 = .ok (.iload 4, 2) := by decide +kernel
theorem dX9_finds_68 : decode cX9_finds 68 = .ok (.ifCond .eq 15, 3) := by decide +kernel
theorem dX9_finds_71 : decode cX9_finds 71 = .ok (.aload_n 0, 1) := by decide +kernel
theorem dX9_finds_72 : decode cX9_finds 72 = .ok (.getfield 205, 3) := by decide +kernel
theorem dX9_finds_75 : decode cX9_finds 75 = .ok (.aload_n 0, 1) := by decide +kernel
theorem dX9_finds_76 : decode cX9_finds 76 = .ok (.getfield 244, 3) := by decide +kernel
theorem dX9_finds_79 : decode cX9_finds 79 = .ok (.isub, 1) := by decide +kernel
theorem dX9_finds_80 : decode cX9_finds 80 = .ok (.goto 10, 3) := by decide +kernel
theorem dX9_finds_83 : decode cX9_finds 83 = .ok (.iload 6, 2) := by decide +kernel
theorem dX9_finds_85 : decode cX9_finds 85 = .ok (.aload_n 0, 1) := by decide +kernel
theorem dX9_finds_86 : decode cX9_finds 86 = .ok (.getfield 241, 3) := by decide +kernel
theorem dX9_finds_89 : decode cX9_finds 89 = .ok (.isub, 1) := by decide +kernel
theorem dX9_finds_90 : decode cX9_finds 90 = .ok (.istore 8, 2) := by decide +kernel
theorem dX9_finds_92 : decode cX9_finds 92 = .ok (.iload 4, 2) := by decide +kernel
theorem dX9_finds_94 : decode cX9_finds 94 = .ok (.ifCond .eq 13, 3) := by decide +kernel
theorem dX9_finds_97 : decode cX9_finds 97 = .ok (.iload 6, 2) := by decide +kernel
theorem dX9_finds_99 : decode cX9_finds 99 = .ok (.aload_n 0, 1) := by decide +kernel
theorem dX9_finds_100 : decode cX9_finds 100 = .ok (.getfield 241, 3) := by decide +kernel
theorem dX9_finds_103 : decode cX9_finds 103 = .ok (.isub, 1) := by decide +kernel
theorem dX9_finds_104 : decode cX9_finds 104 = .ok (.goto 12, 3) := by decide +kernel
theorem dX9_finds_107 : decode cX9_finds 107 = .ok (.aload_n 0, 1) := by decide +kernel
theorem dX9_finds_108 : decode cX9_finds 108 = .ok (.getfield 205, 3) := by decide +kernel
theorem dX9_finds_111 : decode cX9_finds 111 = .ok (.aload_n 0, 1) := by decide +kernel
theorem dX9_finds_112 : decode cX9_finds 112 = .ok (.getfield 244, 3) := by decide +kernel
theorem dX9_finds_115 : decode cX9_finds 115 = .ok (.isub, 1) := by decide +kernel
theorem dX9_finds_116 : decode cX9_finds 116 = .ok (.istore 9, 2) := by decide +kernel
theorem dX9_finds_118 : decode cX9_finds 118 = .ok (.iload 7, 2) := by decide +kernel
theorem dX9_finds_120 : decode cX9_finds 120 = .ok (.ifCond .eq 32, 3) := by decide +kernel
theorem dX9_finds_123 : decode cX9_finds 123 = .ok (.aload_n 0, 1) := by decide +kernel
theorem dX9_finds_124 : decode cX9_finds 124 = .ok (.getfield 241, 3) := by decide +kernel
theorem dX9_finds_127 : decode cX9_finds 127 = .ok (.ifCond .eq 18, 3) := by decide +kernel
theorem dX9_finds_130 : decode cX9_finds 130 = .ok (.iload 8, 2) := by decide +kernel
theorem dX9_finds_132 : decode cX9_finds 132 = .ok (.ifCond .lt 13, 3) := by decide +kernel
theorem dX9_finds_135 : decode cX9_finds 135 = .ok (.iload 8, 2) := by decide +kernel
theorem dX9_finds_137 : decode cX9_finds 137 = .ok (.ifCond .ne 15, 3) := by decide +kernel
theorem dX9_finds_140 : decode cX9_finds 140 = .ok (.iload 9, 2) := by decide +kernel
theorem dX9_finds_142 : decode cX9_finds 142 = .ok (.ifCond .ge 10, 3) := by decide +kernel
theorem dX9_finds_145 : decode cX9_finds 145 = .ok (.aload_n 0, 1) := by decide +kernel
theorem dX9_finds_146 : decode cX9_finds 146 = .ok (.iload 6, 2) := by decide +kernel
theorem dX9_finds_148 : decode cX9_finds 148 = .ok (.iconst 0, 1) := by decide +kernel
theorem dX9_finds_149 : decode cX9_finds 149 = .ok (.invokevirtual 254, 3) := by decide +kernel
theorem dX9_finds_152 : decode cX9_finds 152 = .ok (.iinc 5 1, 3) := by decide +kernel
theorem dX9_finds_155 : decode cX9_finds 155 = .ok (.goto (-147), 3) := by decide +kernel
theorem dX9_finds_158 : decode cX9_finds 158 = .ok (.aload_n 0, 1) := by decide +kernel
theorem dX9_finds_159 : decode cX9_finds 159 = .ok (.getfield 241, 3) := by decide +kernel
theorem dX9_finds_162 : decode cX9_finds 162 = .ok (.ifCond .le 7, 3) := by decide +kernel
theorem dX9_finds_165 : decode cX9_finds 165 = .ok (.iconst 1, 1) := by decide +kernel
theorem dX9_finds_166 : decode cX9_finds 166 = .ok (.goto 4, 3) := by decide +kernel
theorem dX9_finds_169 : decode cX9_finds 169 = .ok (.iconst 0, 1) := by decide +kernel
theorem dX9_finds_170 : decode cX9_finds 170 = .ok (.ireturn, 1) := by decide +kernel
theorem dX9_isAsked_0 : decode cX9_isAsked 0 = .ok (.iload_n 1, 1) := by decide +kernel
theorem dX9_isAsked_1 : decode cX9_isAsked 1 = .ok (.ifCond .ge 8, 3) := by decide +kernel
theorem dX9_isAsked_4 : decode cX9_isAsked 4 = .ok (.iload_n 1, 1) := by decide +kernel
theorem dX9_isAsked_5 : decode cX9_isAsked 5 = .ok (.iload_n 2, 1) := by decide +kernel
theorem dX9_isAsked_6 : decode cX9_isAsked 6 = .ok (.if_icmp .ge 11, 3) := by decide +kernel
theorem dX9_isAsked_9 : decode cX9_isAsked 9 = .ok (.aload_n 0, 1) := by decide +kernel
theorem dX9_isAsked_10 : decode cX9_isAsked 10 = .ok (.iload_n 1, 1) := by decide +kernel
theorem dX9_isAsked_11 : decode cX9_isAsked 11 = .ok (.invokevirtual 201, 3) := by decide +kernel
theorem dX9_isAsked_14 : decode cX9_isAsked 14 = .ok (.ifCond .eq 7, 3) := by decide +kernel
theorem dX9_isAsked_17 : decode cX9_isAsked 17 = .ok (.iconst 1, 1) := by decide +kernel
theorem dX9_isAsked_18 : decode cX9_isAsked 18 = .ok (.goto 4, 3) := by decide +kernel
theorem dX9_isAsked_21 : decode cX9_isAsked 21 = .ok (.iconst 0, 1) := by decide +kernel
theorem dX9_isAsked_22 : decode cX9_isAsked 22 = .ok (.ireturn, 1) := by decide +kernel
theorem dX9_soonest_0 : decode cX9_soonest 0 = .ok (.aload_n 0, 1) := by decide +kernel
theorem dX9_soonest_1 : decode cX9_soonest 1 = .ok (.iconst 0, 1) := by decide +kernel
theorem dX9_soonest_2 : decode cX9_soonest 2 = .ok (.putfield 76, 3) := by decide +kernel
theorem dX9_soonest_5 : decode cX9_soonest 5 = .ok (.aload_n 0, 1) := by decide +kernel
theorem dX9_soonest_6 : decode cX9_soonest 6 = .ok (.iload_n 2, 1) := by decide +kernel
theorem dX9_soonest_7 : decode cX9_soonest 7 = .ok (.bipush (-2), 2) := by decide +kernel
theorem dX9_soonest_9 : decode cX9_soonest 9 = .ok (.invokevirtual 258, 3) := by decide +kernel
theorem dX9_soonest_12 : decode cX9_soonest 12 = .ok (.ifCond .ne 6, 3) := by decide +kernel
theorem dX9_soonest_15 : decode cX9_soonest 15 = .ok (.ldc 191, 2) := by decide +kernel
theorem dX9_soonest_17 : decode cX9_soonest 17 = .ok (.ireturn, 1) := by decide +kernel
theorem dX9_soonest_18 : decode cX9_soonest 18 = .ok (.iload_n 1, 1) := by decide +kernel
theorem dX9_soonest_19 : decode cX9_soonest 19 = .ok (.iconst 0, 1) := by decide +kernel
theorem dX9_soonest_20 : decode cX9_soonest 20 = .ok (.sipush 240, 3) := by decide +kernel
theorem dX9_soonest_23 : decode cX9_soonest 23 = .ok (.invokestatic 82, 3) := by decide +kernel
theorem dX9_soonest_26 : decode cX9_soonest 26 = .ok (.ifCond .ne 6, 3) := by decide +kernel
theorem dX9_soonest_29 : decode cX9_soonest 29 = .ok (.ldc 86, 2) := by decide +kernel
theorem dX9_soonest_31 : decode cX9_soonest 31 = .ok (.ireturn, 1) := by decide +kernel
theorem dX9_soonest_32 : decode cX9_soonest 32 = .ok (.aload_n 0, 1) := by decide +kernel
theorem dX9_soonest_33 : decode cX9_soonest 33 = .ok (.invokevirtual 261, 3) := by decide +kernel
theorem dX9_soonest_36 : decode cX9_soonest 36 = .ok (.aload_n 0, 1) := by decide +kernel
theorem dX9_soonest_37 : decode cX9_soonest 37 = .ok (.aload_n 0, 1) := by decide +kernel
theorem dX9_soonest_38 : decode cX9_soonest 38 = .ok (.getfield 23, 3) := by decide +kernel
theorem dX9_soonest_41 : decode cX9_soonest 41 = .ok (.bipush 9, 2) := by decide +kernel
theorem dX9_soonest_43 : decode cX9_soonest 43 = .ok (.iaload, 1) := by decide +kernel
theorem dX9_soonest_44 : decode cX9_soonest 44 = .ok (.iload_n 1, 1) := by decide +kernel
theorem dX9_soonest_45 : decode cX9_soonest 45 = .ok (.iconst (-1), 1) := by decide +kernel
theorem dX9_soonest_46 : decode cX9_soonest 46 = .ok (.iconst 0, 1) := by decide +kernel
theorem dX9_soonest_47 : decode cX9_soonest 47 = .ok (.invokevirtual 264, 3) := by decide +kernel
theorem dX9_soonest_50 : decode cX9_soonest 50 = .ok (.istore_n 3, 1) := by decide +kernel
theorem dX9_soonest_51 : decode cX9_soonest 51 = .ok (.iload_n 3, 1) := by decide +kernel
theorem dX9_soonest_52 : decode cX9_soonest 52 = .ok (.ifCond .ne 7, 3) := by decide +kernel
theorem dX9_soonest_55 : decode cX9_soonest 55 = .ok (.iconst (-1), 1) := by decide +kernel
theorem dX9_soonest_56 : decode cX9_soonest 56 = .ok (.goto 32, 3) := by decide +kernel
theorem dX9_soonest_59 : decode cX9_soonest 59 = .ok (.iload_n 2, 1) := by decide +kernel
theorem dX9_soonest_60 : decode cX9_soonest 60 = .ok (.iconst (-1), 1) := by decide +kernel
theorem dX9_soonest_61 : decode cX9_soonest 61 = .ok (.if_icmp .ne 10, 3) := by decide +kernel
theorem dX9_soonest_64 : decode cX9_soonest 64 = .ok (.aload_n 0, 1) := by decide +kernel
theorem dX9_soonest_65 : decode cX9_soonest 65 = .ok (.getfield 241, 3) := by decide +kernel
theorem dX9_soonest_68 : decode cX9_soonest 68 = .ok (.goto 20, 3) := by decide +kernel
theorem dX9_soonest_71 : decode cX9_soonest 71 = .ok (.iload_n 2, 1) := by decide +kernel
theorem dX9_soonest_72 : decode cX9_soonest 72 = .ok (.ifCond .ge 10, 3) := by decide +kernel
theorem dX9_soonest_75 : decode cX9_soonest 75 = .ok (.aload_n 0, 1) := by decide +kernel
theorem dX9_soonest_76 : decode cX9_soonest 76 = .ok (.getfield 244, 3) := by decide +kernel
theorem dX9_soonest_79 : decode cX9_soonest 79 = .ok (.goto 9, 3) := by decide +kernel
theorem dX9_soonest_82 : decode cX9_soonest 82 = .ok (.aload_n 0, 1) := by decide +kernel
theorem dX9_soonest_83 : decode cX9_soonest 83 = .ok (.getfield 48, 3) := by decide +kernel
theorem dX9_soonest_86 : decode cX9_soonest 86 = .ok (.iload_n 2, 1) := by decide +kernel
theorem dX9_soonest_87 : decode cX9_soonest 87 = .ok (.iaload, 1) := by decide +kernel
theorem dX9_soonest_88 : decode cX9_soonest 88 = .ok (.ireturn, 1) := by decide +kernel
theorem dX9_cheapest_0 : decode cX9_cheapest 0 = .ok (.aload_n 0, 1) := by decide +kernel
theorem dX9_cheapest_1 : decode cX9_cheapest 1 = .ok (.iconst 0, 1) := by decide +kernel
theorem dX9_cheapest_2 : decode cX9_cheapest 2 = .ok (.putfield 76, 3) := by decide +kernel
theorem dX9_cheapest_5 : decode cX9_cheapest 5 = .ok (.aload_n 0, 1) := by decide +kernel
theorem dX9_cheapest_6 : decode cX9_cheapest 6 = .ok (.iload_n 2, 1) := by decide +kernel
theorem dX9_cheapest_7 : decode cX9_cheapest 7 = .ok (.bipush (-2), 2) := by decide +kernel
theorem dX9_cheapest_9 : decode cX9_cheapest 9 = .ok (.invokevirtual 258, 3) := by decide +kernel
theorem dX9_cheapest_12 : decode cX9_cheapest 12 = .ok (.ifCond .ne 6, 3) := by decide +kernel
theorem dX9_cheapest_15 : decode cX9_cheapest 15 = .ok (.ldc 191, 2) := by decide +kernel
theorem dX9_cheapest_17 : decode cX9_cheapest 17 = .ok (.ireturn, 1) := by decide +kernel
theorem dX9_cheapest_18 : decode cX9_cheapest 18 = .ok (.iload_n 1, 1) := by decide +kernel
theorem dX9_cheapest_19 : decode cX9_cheapest 19 = .ok (.iconst 0, 1) := by decide +kernel
theorem dX9_cheapest_20 : decode cX9_cheapest 20 = .ok (.sipush 240, 3) := by decide +kernel
theorem dX9_cheapest_23 : decode cX9_cheapest 23 = .ok (.invokestatic 82, 3) := by decide +kernel
theorem dX9_cheapest_26 : decode cX9_cheapest 26 = .ok (.ifCond .ne 6, 3) := by decide +kernel
theorem dX9_cheapest_29 : decode cX9_cheapest 29 = .ok (.ldc 86, 2) := by decide +kernel
theorem dX9_cheapest_31 : decode cX9_cheapest 31 = .ok (.ireturn, 1) := by decide +kernel
theorem dX9_cheapest_32 : decode cX9_cheapest 32 = .ok (.aload_n 0, 1) := by decide +kernel
theorem dX9_cheapest_33 : decode cX9_cheapest 33 = .ok (.invokevirtual 261, 3) := by decide +kernel
theorem dX9_cheapest_36 : decode cX9_cheapest 36 = .ok (.aload_n 0, 1) := by decide +kernel
theorem dX9_cheapest_37 : decode cX9_cheapest 37 = .ok (.aload_n 0, 1) := by decide +kernel
theorem dX9_cheapest_38 : decode cX9_cheapest 38 = .ok (.getfield 23, 3) := by decide +kernel
theorem dX9_cheapest_41 : decode cX9_cheapest 41 = .ok (.bipush 9, 2) := by decide +kernel
theorem dX9_cheapest_43 : decode cX9_cheapest 43 = .ok (.iaload, 1) := by decide +kernel
theorem dX9_cheapest_44 : decode cX9_cheapest 44 = .ok (.iload_n 1, 1) := by decide +kernel
theorem dX9_cheapest_45 : decode cX9_cheapest 45 = .ok (.iconst (-1), 1) := by decide +kernel
theorem dX9_cheapest_46 : decode cX9_cheapest 46 = .ok (.iconst 1, 1) := by decide +kernel
theorem dX9_cheapest_47 : decode cX9_cheapest 47 = .ok (.invokevirtual 264, 3) := by decide +kernel
theorem dX9_cheapest_50 : decode cX9_cheapest 50 = .ok (.istore_n 3, 1) := by decide +kernel
theorem dX9_cheapest_51 : decode cX9_cheapest 51 = .ok (.iload_n 3, 1) := by decide +kernel
theorem dX9_cheapest_52 : decode cX9_cheapest 52 = .ok (.ifCond .ne 7, 3) := by decide +kernel
theorem dX9_cheapest_55 : decode cX9_cheapest 55 = .ok (.iconst (-1), 1) := by decide +kernel
theorem dX9_cheapest_56 : decode cX9_cheapest 56 = .ok (.goto 32, 3) := by decide +kernel
theorem dX9_cheapest_59 : decode cX9_cheapest 59 = .ok (.iload_n 2, 1) := by decide +kernel
theorem dX9_cheapest_60 : decode cX9_cheapest 60 = .ok (.iconst (-1), 1) := by decide +kernel
theorem dX9_cheapest_61 : decode cX9_cheapest 61 = .ok (.if_icmp .ne 10, 3) := by decide +kernel
theorem dX9_cheapest_64 : decode cX9_cheapest 64 = .ok (.aload_n 0, 1) := by decide +kernel
theorem dX9_cheapest_65 : decode cX9_cheapest 65 = .ok (.getfield 244, 3) := by decide +kernel
theorem dX9_cheapest_68 : decode cX9_cheapest 68 = .ok (.goto 20, 3) := by decide +kernel
theorem dX9_cheapest_71 : decode cX9_cheapest 71 = .ok (.iload_n 2, 1) := by decide +kernel
theorem dX9_cheapest_72 : decode cX9_cheapest 72 = .ok (.ifCond .ge 10, 3) := by decide +kernel
theorem dX9_cheapest_75 : decode cX9_cheapest 75 = .ok (.aload_n 0, 1) := by decide +kernel
theorem dX9_cheapest_76 : decode cX9_cheapest 76 = .ok (.getfield 241, 3) := by decide +kernel
theorem dX9_cheapest_79 : decode cX9_cheapest 79 = .ok (.goto 9, 3) := by decide +kernel
theorem dX9_cheapest_82 : decode cX9_cheapest 82 = .ok (.aload_n 0, 1) := by decide +kernel
theorem dX9_cheapest_83 : decode cX9_cheapest 83 = .ok (.getfield 48, 3) := by decide +kernel
theorem dX9_cheapest_86 : decode cX9_cheapest 86 = .ok (.iload_n 2, 1) := by decide +kernel
theorem dX9_cheapest_87 : decode cX9_cheapest 87 = .ok (.iaload, 1) := by decide +kernel
theorem dX9_cheapest_88 : decode cX9_cheapest 88 = .ok (.ireturn, 1) := by decide +kernel
theorem dX9_second_0 : decode cX9_second 0 = .ok (.iconst (-1), 1) := by decide +kernel
theorem dX9_second_1 : decode cX9_second 1 = .ok (.istore 4, 2) := by decide +kernel
theorem dX9_second_3 : decode cX9_second 3 = .ok (.iconst 1, 1) := by decide +kernel
theorem dX9_second_4 : decode cX9_second 4 = .ok (.istore 5, 2) := by decide +kernel
theorem dX9_second_6 : decode cX9_second 6 = .ok (.iload 5, 2) := by decide +kernel
theorem dX9_second_8 : decode cX9_second 8 = .ok (.sipush 343, 3) := by decide +kernel
theorem dX9_second_11 : decode cX9_second 11 = .ok (.if_icmp .ge 142, 3) := by decide +kernel
theorem dX9_second_14 : decode cX9_second 14 = .ok (.aload_n 0, 1) := by decide +kernel
theorem dX9_second_15 : decode cX9_second 15 = .ok (.iload 5, 2) := by decide +kernel
theorem dX9_second_17 : decode cX9_second 17 = .ok (.iconst (-1), 1) := by decide +kernel
theorem dX9_second_18 : decode cX9_second 18 = .ok (.invokevirtual 247, 3) := by decide +kernel
theorem dX9_second_21 : decode cX9_second 21 = .ok (.ifCond .eq 126, 3) := by decide +kernel
theorem dX9_second_24 : decode cX9_second 24 = .ok (.iconst 0, 1) := by decide +kernel
theorem dX9_second_25 : decode cX9_second 25 = .ok (.istore 6, 2) := by decide +kernel
theorem dX9_second_27 : decode cX9_second 27 = .ok (.iload 6, 2) := by decide +kernel
theorem dX9_second_29 : decode cX9_second 29 = .ok (.bipush 6, 2) := by decide +kernel
theorem dX9_second_31 : decode cX9_second 31 = .ok (.if_icmp .ge 23, 3) := by decide +kernel
theorem dX9_second_34 : decode cX9_second 34 = .ok (.aload_n 0, 1) := by decide +kernel
theorem dX9_second_35 : decode cX9_second 35 = .ok (.getfield 36, 3) := by decide +kernel
theorem dX9_second_38 : decode cX9_second 38 = .ok (.iload 6, 2) := by decide +kernel
theorem dX9_second_40 : decode cX9_second 40 = .ok (.aload_n 0, 1) := by decide +kernel
theorem dX9_second_41 : decode cX9_second 41 = .ok (.getfield 63, 3) := by decide +kernel
theorem dX9_second_44 : decode cX9_second 44 = .ok (.iload 6, 2) := by decide +kernel
theorem dX9_second_46 : decode cX9_second 46 = .ok (.iaload, 1) := by decide +kernel
theorem dX9_second_47 : decode cX9_second 47 = .ok (.iastore, 1) := by decide +kernel
theorem dX9_second_48 : decode cX9_second 48 = .ok (.iinc 6 1, 3) := by decide +kernel
theorem dX9_second_51 : decode cX9_second 51 = .ok (.goto (-24), 3) := by decide +kernel
theorem dX9_second_54 : decode cX9_second 54 = .ok (.aload_n 0, 1) := by decide +kernel
theorem dX9_second_55 : decode cX9_second 55 = .ok (.iload_n 1, 1) := by decide +kernel
theorem dX9_second_56 : decode cX9_second 56 = .ok (.iload_n 2, 1) := by decide +kernel
theorem dX9_second_57 : decode cX9_second 57 = .ok (.invokevirtual 215, 3) := by decide +kernel
theorem dX9_second_60 : decode cX9_second 60 = .ok (.istore 6, 2) := by decide +kernel
theorem dX9_second_62 : decode cX9_second 62 = .ok (.iload 6, 2) := by decide +kernel
theorem dX9_second_64 : decode cX9_second 64 = .ok (.iconst 1, 1) := by decide +kernel
theorem dX9_second_65 : decode cX9_second 65 = .ok (.aload_n 0, 1) := by decide +kernel
theorem dX9_second_66 : decode cX9_second 66 = .ok (.getfield 17, 3) := by decide +kernel
theorem dX9_second_69 : decode cX9_second 69 = .ok (.iconst 5, 1) := by decide +kernel
theorem dX9_second_70 : decode cX9_second 70 = .ok (.iaload, 1) := by decide +kernel
theorem dX9_second_71 : decode cX9_second 71 = .ok (.invokestatic 82, 3) := by decide +kernel
theorem dX9_second_74 : decode cX9_second 74 = .ok (.ifCond .eq 73, 3) := by decide +kernel
theorem dX9_second_77 : decode cX9_second 77 = .ok (.iload 4, 2) := by decide +kernel
theorem dX9_second_79 : decode cX9_second 79 = .ok (.iconst (-1), 1) := by decide +kernel
theorem dX9_second_80 : decode cX9_second 80 = .ok (.if_icmp .eq 12, 3) := by decide +kernel
theorem dX9_second_83 : decode cX9_second 83 = .ok (.aload_n 0, 1) := by decide +kernel
theorem dX9_second_84 : decode cX9_second 84 = .ok (.getfield 205, 3) := by decide +kernel
theorem dX9_second_87 : decode cX9_second 87 = .ok (.iload 4, 2) := by decide +kernel
theorem dX9_second_89 : decode cX9_second 89 = .ok (.if_icmp .ge 58, 3) := by decide +kernel
theorem dX9_second_92 : decode cX9_second 92 = .ok (.iload_n 3, 1) := by decide +kernel
theorem dX9_second_93 : decode cX9_second 93 = .ok (.iconst (-1), 1) := by decide +kernel
theorem dX9_second_94 : decode cX9_second 94 = .ok (.if_icmp .eq 11, 3) := by decide +kernel
theorem dX9_second_97 : decode cX9_second 97 = .ok (.aload_n 0, 1) := by decide +kernel
theorem dX9_second_98 : decode cX9_second 98 = .ok (.getfield 205, 3) := by decide +kernel
theorem dX9_second_101 : decode cX9_second 101 = .ok (.iload_n 3, 1) := by decide +kernel
theorem dX9_second_102 : decode cX9_second 102 = .ok (.if_icmp .ge 45, 3) := by decide +kernel
theorem dX9_second_105 : decode cX9_second 105 = .ok (.aload_n 0, 1) := by decide +kernel
theorem dX9_second_106 : decode cX9_second 106 = .ok (.getfield 205, 3) := by decide +kernel
theorem dX9_second_109 : decode cX9_second 109 = .ok (.istore 4, 2) := by decide +kernel
theorem dX9_second_111 : decode cX9_second 111 = .ok (.aload_n 0, 1) := by decide +kernel
theorem dX9_second_112 : decode cX9_second 112 = .ok (.getfield 66, 3) := by decide +kernel
theorem dX9_second_115 : decode cX9_second 115 = .ok (.iconst 0, 1) := by decide +kernel
theorem dX9_second_116 : decode cX9_second 116 = .ok (.aload_n 0, 1) := by decide +kernel
theorem dX9_second_117 : decode cX9_second 117 = .ok (.getfield 39, 3) := by decide +kernel
theorem dX9_second_120 : decode cX9_second 120 = .ok (.iconst 0, 1) := by decide +kernel
theorem dX9_second_121 : decode cX9_second 121 = .ok (.iaload, 1) := by decide +kernel
theorem dX9_second_122 : decode cX9_second 122 = .ok (.iastore, 1) := by decide +kernel
theorem dX9_second_123 : decode cX9_second 123 = .ok (.aload_n 0, 1) := by decide +kernel
theorem dX9_second_124 : decode cX9_second 124 = .ok (.getfield 66, 3) := by decide +kernel
theorem dX9_second_127 : decode cX9_second 127 = .ok (.iconst 1, 1) := by decide +kernel
theorem dX9_second_128 : decode cX9_second 128 = .ok (.aload_n 0, 1) := by decide +kernel
theorem dX9_second_129 : decode cX9_second 129 = .ok (.getfield 39, 3) := by decide +kernel
theorem dX9_second_132 : decode cX9_second 132 = .ok (.iconst 1, 1) := by decide +kernel
theorem dX9_second_133 : decode cX9_second 133 = .ok (.iaload, 1) := by decide +kernel
theorem dX9_second_134 : decode cX9_second 134 = .ok (.iastore, 1) := by decide +kernel
theorem dX9_second_135 : decode cX9_second 135 = .ok (.aload_n 0, 1) := by decide +kernel
theorem dX9_second_136 : decode cX9_second 136 = .ok (.getfield 66, 3) := by decide +kernel
theorem dX9_second_139 : decode cX9_second 139 = .ok (.iconst 2, 1) := by decide +kernel
theorem dX9_second_140 : decode cX9_second 140 = .ok (.aload_n 0, 1) := by decide +kernel
theorem dX9_second_141 : decode cX9_second 141 = .ok (.getfield 39, 3) := by decide +kernel
theorem dX9_second_144 : decode cX9_second 144 = .ok (.iconst 2, 1) := by decide +kernel
theorem dX9_second_145 : decode cX9_second 145 = .ok (.iaload, 1) := by decide +kernel
theorem dX9_second_146 : decode cX9_second 146 = .ok (.iastore, 1) := by decide +kernel
theorem dX9_second_147 : decode cX9_second 147 = .ok (.iinc 5 1, 3) := by decide +kernel
theorem dX9_second_150 : decode cX9_second 150 = .ok (.goto (-144), 3) := by decide +kernel
theorem dX9_second_153 : decode cX9_second 153 = .ok (.iload 4, 2) := by decide +kernel
theorem dX9_second_155 : decode cX9_second 155 = .ok (.ireturn, 1) := by decide +kernel
theorem dX9_both_0 : decode cX9_both 0 = .ok (.iconst (-1), 1) := by decide +kernel
theorem dX9_both_1 : decode cX9_both 1 = .ok (.istore_n 2, 1) := by decide +kernel
theorem dX9_both_2 : decode cX9_both 2 = .ok (.aload_n 0, 1) := by decide +kernel
theorem dX9_both_3 : decode cX9_both 3 = .ok (.invokevirtual 261, 3) := by decide +kernel
theorem dX9_both_6 : decode cX9_both 6 = .ok (.iconst 1, 1) := by decide +kernel
theorem dX9_both_7 : decode cX9_both 7 = .ok (.istore_n 3, 1) := by decide +kernel
theorem dX9_both_8 : decode cX9_both 8 = .ok (.iload_n 3, 1) := by decide +kernel
theorem dX9_both_9 : decode cX9_both 9 = .ok (.sipush 343, 3) := by decide +kernel
theorem dX9_both_12 : decode cX9_both 12 = .ok (.if_icmp .ge 211, 3) := by decide +kernel
theorem dX9_both_15 : decode cX9_both 15 = .ok (.aload_n 0, 1) := by decide +kernel
theorem dX9_both_16 : decode cX9_both 16 = .ok (.iload_n 3, 1) := by decide +kernel
theorem dX9_both_17 : decode cX9_both 17 = .ok (.iconst (-1), 1) := by decide +kernel
theorem dX9_both_18 : decode cX9_both 18 = .ok (.invokevirtual 247, 3) := by decide +kernel
theorem dX9_both_21 : decode cX9_both 21 = .ok (.istore 4, 2) := by decide +kernel
theorem dX9_both_23 : decode cX9_both 23 = .ok (.iconst 0, 1) := by decide +kernel
theorem dX9_both_24 : decode cX9_both 24 = .ok (.istore 5, 2) := by decide +kernel
theorem dX9_both_26 : decode cX9_both 26 = .ok (.iload 4, 2) := by decide +kernel
theorem dX9_both_28 : decode cX9_both 28 = .ok (.ifCond .eq 21, 3) := by decide +kernel
theorem dX9_both_31 : decode cX9_both 31 = .ok (.aload_n 0, 1) := by decide +kernel
theorem dX9_both_32 : decode cX9_both 32 = .ok (.invokevirtual 251, 3) := by decide +kernel
theorem dX9_both_35 : decode cX9_both 35 = .ok (.aload_n 0, 1) := by decide +kernel
theorem dX9_both_36 : decode cX9_both 36 = .ok (.aload_n 0, 1) := by decide +kernel
theorem dX9_both_37 : decode cX9_both 37 = .ok (.getfield 23, 3) := by decide +kernel
theorem dX9_both_40 : decode cX9_both 40 = .ok (.bipush 9, 2) := by decide +kernel
theorem dX9_both_42 : decode cX9_both 42 = .ok (.iaload, 1) := by decide +kernel
theorem dX9_both_43 : decode cX9_both 43 = .ok (.iload_n 1, 1) := by decide +kernel
theorem dX9_both_44 : decode cX9_both 44 = .ok (.invokevirtual 215, 3) := by decide +kernel
theorem dX9_both_47 : decode cX9_both 47 = .ok (.istore 5, 2) := by decide +kernel
theorem dX9_both_49 : decode cX9_both 49 = .ok (.iload 4, 2) := by decide +kernel
theorem dX9_both_51 : decode cX9_both 51 = .ok (.ifCond .eq 166, 3) := by decide +kernel
theorem dX9_both_54 : decode cX9_both 54 = .ok (.iload 5, 2) := by decide +kernel
theorem dX9_both_56 : decode cX9_both 56 = .ok (.iconst 1, 1) := by decide +kernel
theorem dX9_both_57 : decode cX9_both 57 = .ok (.aload_n 0, 1) := by decide +kernel
theorem dX9_both_58 : decode cX9_both 58 = .ok (.getfield 17, 3) := by decide +kernel
theorem dX9_both_61 : decode cX9_both 61 = .ok (.iconst 5, 1) := by decide +kernel
theorem dX9_both_62 : decode cX9_both 62 = .ok (.iaload, 1) := by decide +kernel
theorem dX9_both_63 : decode cX9_both 63 = .ok (.invokestatic 82, 3) := by decide +kernel
theorem dX9_both_66 : decode cX9_both 66 = .ok (.ifCond .eq 151, 3) := by decide +kernel
theorem dX9_both_69 : decode cX9_both 69 = .ok (.iload_n 2, 1) := by decide +kernel
theorem dX9_both_70 : decode cX9_both 70 = .ok (.iconst (-1), 1) := by decide +kernel
theorem dX9_both_71 : decode cX9_both 71 = .ok (.if_icmp .eq 11, 3) := by decide +kernel
theorem dX9_both_74 : decode cX9_both 74 = .ok (.aload_n 0, 1) := by decide +kernel
theorem dX9_both_75 : decode cX9_both 75 = .ok (.getfield 205, 3) := by decide +kernel
theorem dX9_both_78 : decode cX9_both 78 = .ok (.iload_n 2, 1) := by decide +kernel
theorem dX9_both_79 : decode cX9_both 79 = .ok (.if_icmp .ge 138, 3) := by decide +kernel
theorem dX9_both_82 : decode cX9_both 82 = .ok (.aload_n 0, 1) := by decide +kernel
theorem dX9_both_83 : decode cX9_both 83 = .ok (.getfield 205, 3) := by decide +kernel
theorem dX9_both_86 : decode cX9_both 86 = .ok (.istore 6, 2) := by decide +kernel
theorem dX9_both_88 : decode cX9_both 88 = .ok (.aload_n 0, 1) := by decide +kernel
theorem dX9_both_89 : decode cX9_both 89 = .ok (.iconst 1, 1) := by decide +kernel
theorem dX9_both_90 : decode cX9_both 90 = .ok (.iconst 0, 1) := by decide +kernel
theorem dX9_both_91 : decode cX9_both 91 = .ok (.invokevirtual 218, 3) := by decide +kernel
theorem dX9_both_94 : decode cX9_both 94 = .ok (.iconst 0, 1) := by decide +kernel
theorem dX9_both_95 : decode cX9_both 95 = .ok (.istore 7, 2) := by decide +kernel
theorem dX9_both_97 : decode cX9_both 97 = .ok (.iload 7, 2) := by decide +kernel
theorem dX9_both_99 : decode cX9_both 99 = .ok (.bipush 6, 2) := by decide +kernel
theorem dX9_both_101 : decode cX9_both 101 = .ok (.if_icmp .ge 23, 3) := by decide +kernel
theorem dX9_both_104 : decode cX9_both 104 = .ok (.aload_n 0, 1) := by decide +kernel
theorem dX9_both_105 : decode cX9_both 105 = .ok (.getfield 63, 3) := by decide +kernel
theorem dX9_both_108 : decode cX9_both 108 = .ok (.iload 7, 2) := by decide +kernel
theorem dX9_both_110 : decode cX9_both 110 = .ok (.aload_n 0, 1) := by decide +kernel
theorem dX9_both_111 : decode cX9_both 111 = .ok (.getfield 36, 3) := by decide +kernel
theorem dX9_both_114 : decode cX9_both 114 = .ok (.iload 7, 2) := by decide +kernel
theorem dX9_both_116 : decode cX9_both 116 = .ok (.iaload, 1) := by decide +kernel
theorem dX9_both_117 : decode cX9_both 117 = .ok (.iastore, 1) := by decide +kernel
theorem dX9_both_118 : decode cX9_both 118 = .ok (.iinc 7 1, 3) := by decide +kernel
theorem dX9_both_121 : decode cX9_both 121 = .ok (.goto (-24), 3) := by decide +kernel
theorem dX9_both_124 : decode cX9_both 124 = .ok (.aload_n 0, 1) := by decide +kernel
theorem dX9_both_125 : decode cX9_both 125 = .ok (.aload_n 0, 1) := by decide +kernel
theorem dX9_both_126 : decode cX9_both 126 = .ok (.getfield 23, 3) := by decide +kernel
theorem dX9_both_129 : decode cX9_both 129 = .ok (.bipush 9, 2) := by decide +kernel
theorem dX9_both_131 : decode cX9_both 131 = .ok (.iaload, 1) := by decide +kernel
theorem dX9_both_132 : decode cX9_both 132 = .ok (.iconst 1, 1) := by decide +kernel
theorem dX9_both_133 : decode cX9_both 133 = .ok (.iadd, 1) := by decide +kernel
theorem dX9_both_134 : decode cX9_both 134 = .ok (.iload_n 1, 1) := by decide +kernel
theorem dX9_both_135 : decode cX9_both 135 = .ok (.iload_n 2, 1) := by decide +kernel
theorem dX9_both_136 : decode cX9_both 136 = .ok (.iconst (-1), 1) := by decide +kernel
theorem dX9_both_137 : decode cX9_both 137 = .ok (.if_icmp .ne 7, 3) := by decide +kernel
theorem dX9_both_140 : decode cX9_both 140 = .ok (.iconst (-1), 1) := by decide +kernel
theorem dX9_both_141 : decode cX9_both 141 = .ok (.goto 7, 3) := by decide +kernel
theorem dX9_both_144 : decode cX9_both 144 = .ok (.iload_n 2, 1) := by decide +kernel
theorem dX9_both_145 : decode cX9_both 145 = .ok (.iload 6, 2) := by decide +kernel
theorem dX9_both_147 : decode cX9_both 147 = .ok (.isub, 1) := by decide +kernel
theorem dX9_both_148 : decode cX9_both 148 = .ok (.invokevirtual 268, 3) := by decide +kernel
theorem dX9_both_151 : decode cX9_both 151 = .ok (.istore 7, 2) := by decide +kernel
theorem dX9_both_153 : decode cX9_both 153 = .ok (.iload 7, 2) := by decide +kernel
theorem dX9_both_155 : decode cX9_both 155 = .ok (.iconst (-1), 1) := by decide +kernel
theorem dX9_both_156 : decode cX9_both 156 = .ok (.if_icmp .eq 61, 3) := by decide +kernel
theorem dX9_both_159 : decode cX9_both 159 = .ok (.iload 6, 2) := by decide +kernel
theorem dX9_both_161 : decode cX9_both 161 = .ok (.iload 7, 2) := by decide +kernel
theorem dX9_both_163 : decode cX9_both 163 = .ok (.iadd, 1) := by decide +kernel
theorem dX9_both_164 : decode cX9_both 164 = .ok (.istore_n 2, 1) := by decide +kernel
theorem dX9_both_165 : decode cX9_both 165 = .ok (.aload_n 0, 1) := by decide +kernel
theorem dX9_both_166 : decode cX9_both 166 = .ok (.iload_n 3, 1) := by decide +kernel
theorem dX9_both_167 : decode cX9_both 167 = .ok (.iconst (-1), 1) := by decide +kernel
theorem dX9_both_168 : decode cX9_both 168 = .ok (.invokevirtual 247, 3) := by decide +kernel
theorem dX9_both_171 : decode cX9_both 171 = .ok (.pop, 1) := by decide +kernel
theorem dX9_both_172 : decode cX9_both 172 = .ok (.iconst 0, 1) := by decide +kernel
theorem dX9_both_173 : decode cX9_both 173 = .ok (.istore 8, 2) := by decide +kernel
theorem dX9_both_175 : decode cX9_both 175 = .ok (.iload 8, 2) := by decide +kernel
theorem dX9_both_177 : decode cX9_both 177 = .ok (.iconst 3, 1) := by decide +kernel
theorem dX9_both_178 : decode cX9_both 178 = .ok (.if_icmp .ge 39, 3) := by decide +kernel
theorem dX9_both_181 : decode cX9_both 181 = .ok (.aload_n 0, 1) := by decide +kernel
theorem dX9_both_182 : decode cX9_both 182 = .ok (.getfield 48, 3) := by decide +kernel
theorem dX9_both_185 : decode cX9_both 185 = .ok (.iload 8, 2) := by decide +kernel
theorem dX9_both_187 : decode cX9_both 187 = .ok (.aload_n 0, 1) := by decide +kernel
theorem dX9_both_188 : decode cX9_both 188 = .ok (.getfield 39, 3) := by decide +kernel
theorem dX9_both_191 : decode cX9_both 191 = .ok (.iload 8, 2) := by decide +kernel
theorem dX9_both_193 : decode cX9_both 193 = .ok (.iaload, 1) := by decide +kernel
theorem dX9_both_194 : decode cX9_both 194 = .ok (.iastore, 1) := by decide +kernel
theorem dX9_both_195 : decode cX9_both 195 = .ok (.aload_n 0, 1) := by decide +kernel
theorem dX9_both_196 : decode cX9_both 196 = .ok (.getfield 48, 3) := by decide +kernel
theorem dX9_both_199 : decode cX9_both 199 = .ok (.iconst 3, 1) := by decide +kernel
theorem dX9_both_200 : decode cX9_both 200 = .ok (.iload 8, 2) := by decide +kernel
theorem dX9_both_202 : decode cX9_both 202 = .ok (.iadd, 1) := by decide +kernel
theorem dX9_both_203 : decode cX9_both 203 = .ok (.aload_n 0, 1) := by decide +kernel
theorem dX9_both_204 : decode cX9_both 204 = .ok (.getfield 66, 3) := by decide +kernel
theorem dX9_both_207 : decode cX9_both 207 = .ok (.iload 8, 2) := by decide +kernel
theorem dX9_both_209 : decode cX9_both 209 = .ok (.iaload, 1) := by decide +kernel
theorem dX9_both_210 : decode cX9_both 210 = .ok (.iastore, 1) := by decide +kernel
theorem dX9_both_211 : decode cX9_both 211 = .ok (.iinc 8 1, 3) := by decide +kernel
theorem dX9_both_214 : decode cX9_both 214 = .ok (.goto (-39), 3) := by decide +kernel
theorem dX9_both_217 : decode cX9_both 217 = .ok (.iinc 3 1, 3) := by decide +kernel
theorem dX9_both_220 : decode cX9_both 220 = .ok (.goto (-212), 3) := by decide +kernel
theorem dX9_both_223 : decode cX9_both 223 = .ok (.iload_n 2, 1) := by decide +kernel
theorem dX9_both_224 : decode cX9_both 224 = .ok (.ireturn, 1) := by decide +kernel
theorem dX9_twice_0 : decode cX9_twice 0 = .ok (.aload_n 0, 1) := by decide +kernel
theorem dX9_twice_1 : decode cX9_twice 1 = .ok (.iconst 0, 1) := by decide +kernel
theorem dX9_twice_2 : decode cX9_twice 2 = .ok (.putfield 76, 3) := by decide +kernel
theorem dX9_twice_5 : decode cX9_twice 5 = .ok (.aload_n 0, 1) := by decide +kernel
theorem dX9_twice_6 : decode cX9_twice 6 = .ok (.iload_n 3, 1) := by decide +kernel
theorem dX9_twice_7 : decode cX9_twice 7 = .ok (.iconst (-1), 1) := by decide +kernel
theorem dX9_twice_8 : decode cX9_twice 8 = .ok (.invokevirtual 258, 3) := by decide +kernel
theorem dX9_twice_11 : decode cX9_twice 11 = .ok (.ifCond .ne 6, 3) := by decide +kernel
theorem dX9_twice_14 : decode cX9_twice 14 = .ok (.ldc 191, 2) := by decide +kernel
theorem dX9_twice_16 : decode cX9_twice 16 = .ok (.ireturn, 1) := by decide +kernel
theorem dX9_twice_17 : decode cX9_twice 17 = .ok (.iload_n 1, 1) := by decide +kernel
theorem dX9_twice_18 : decode cX9_twice 18 = .ok (.iconst 0, 1) := by decide +kernel
theorem dX9_twice_19 : decode cX9_twice 19 = .ok (.sipush 240, 3) := by decide +kernel
theorem dX9_twice_22 : decode cX9_twice 22 = .ok (.invokestatic 82, 3) := by decide +kernel
theorem dX9_twice_25 : decode cX9_twice 25 = .ok (.ifCond .eq 12, 3) := by decide +kernel
theorem dX9_twice_28 : decode cX9_twice 28 = .ok (.iload_n 2, 1) := by decide +kernel
theorem dX9_twice_29 : decode cX9_twice 29 = .ok (.iconst 0, 1) := by decide +kernel
theorem dX9_twice_30 : decode cX9_twice 30 = .ok (.iconst 1, 1) := by decide +kernel
theorem dX9_twice_31 : decode cX9_twice 31 = .ok (.invokestatic 82, 3) := by decide +kernel
theorem dX9_twice_34 : decode cX9_twice 34 = .ok (.ifCond .ne 6, 3) := by decide +kernel
theorem dX9_twice_37 : decode cX9_twice 37 = .ok (.ldc 86, 2) := by decide +kernel
theorem dX9_twice_39 : decode cX9_twice 39 = .ok (.ireturn, 1) := by decide +kernel
theorem dX9_twice_40 : decode cX9_twice 40 = .ok (.aload_n 0, 1) := by decide +kernel
theorem dX9_twice_41 : decode cX9_twice 41 = .ok (.iload_n 1, 1) := by decide +kernel
theorem dX9_twice_42 : decode cX9_twice 42 = .ok (.invokevirtual 272, 3) := by decide +kernel
theorem dX9_twice_45 : decode cX9_twice 45 = .ok (.istore 4, 2) := by decide +kernel
theorem dX9_twice_47 : decode cX9_twice 47 = .ok (.iload 4, 2) := by decide +kernel
theorem dX9_twice_49 : decode cX9_twice 49 = .ok (.iconst (-1), 1) := by decide +kernel
theorem dX9_twice_50 : decode cX9_twice 50 = .ok (.if_icmp .eq 8, 3) := by decide +kernel
theorem dX9_twice_53 : decode cX9_twice 53 = .ok (.iload_n 3, 1) := by decide +kernel
theorem dX9_twice_54 : decode cX9_twice 54 = .ok (.iconst (-1), 1) := by decide +kernel
theorem dX9_twice_55 : decode cX9_twice 55 = .ok (.if_icmp .ne 8, 3) := by decide +kernel
theorem dX9_twice_58 : decode cX9_twice 58 = .ok (.iload 4, 2) := by decide +kernel
theorem dX9_twice_60 : decode cX9_twice 60 = .ok (.goto 13, 3) := by decide +kernel
theorem dX9_twice_63 : decode cX9_twice 63 = .ok (.aload_n 0, 1) := by decide +kernel
theorem dX9_twice_64 : decode cX9_twice 64 = .ok (.getfield 48, 3) := by decide +kernel
theorem dX9_twice_67 : decode cX9_twice 67 = .ok (.iconst 3, 1) := by decide +kernel
theorem dX9_twice_68 : decode cX9_twice 68 = .ok (.iload_n 2, 1) := by decide +kernel
theorem dX9_twice_69 : decode cX9_twice 69 = .ok (.imul, 1) := by decide +kernel
theorem dX9_twice_70 : decode cX9_twice 70 = .ok (.iload_n 3, 1) := by decide +kernel
theorem dX9_twice_71 : decode cX9_twice 71 = .ok (.iadd, 1) := by decide +kernel
theorem dX9_twice_72 : decode cX9_twice 72 = .ok (.iaload, 1) := by decide +kernel
theorem dX9_twice_73 : decode cX9_twice 73 = .ok (.ireturn, 1) := by decide +kernel
theorem dX9_best_0 : decode cX9_best 0 = .ok (.aload_n 0, 1) := by decide +kernel
theorem dX9_best_1 : decode cX9_best 1 = .ok (.iconst 0, 1) := by decide +kernel
theorem dX9_best_2 : decode cX9_best 2 = .ok (.putfield 76, 3) := by decide +kernel
theorem dX9_best_5 : decode cX9_best 5 = .ok (.iload_n 1, 1) := by decide +kernel
theorem dX9_best_6 : decode cX9_best 6 = .ok (.iconst 0, 1) := by decide +kernel
theorem dX9_best_7 : decode cX9_best 7 = .ok (.sipush 240, 3) := by decide +kernel
theorem dX9_best_10 : decode cX9_best 10 = .ok (.invokestatic 82, 3) := by decide +kernel
theorem dX9_best_13 : decode cX9_best 13 = .ok (.ifCond .eq 12, 3) := by decide +kernel
theorem dX9_best_16 : decode cX9_best 16 = .ok (.iload_n 2, 1) := by decide +kernel
theorem dX9_best_17 : decode cX9_best 17 = .ok (.iconst 0, 1) := by decide +kernel
theorem dX9_best_18 : decode cX9_best 18 = .ok (.iconst 1, 1) := by decide +kernel
theorem dX9_best_19 : decode cX9_best 19 = .ok (.invokestatic 82, 3) := by decide +kernel
theorem dX9_best_22 : decode cX9_best 22 = .ok (.ifCond .ne 6, 3) := by decide +kernel
theorem dX9_best_25 : decode cX9_best 25 = .ok (.ldc 86, 2) := by decide +kernel
theorem dX9_best_27 : decode cX9_best 27 = .ok (.ireturn, 1) := by decide +kernel
theorem dX9_best_28 : decode cX9_best 28 = .ok (.iconst (-1), 1) := by decide +kernel
theorem dX9_best_29 : decode cX9_best 29 = .ok (.istore_n 3, 1) := by decide +kernel
theorem dX9_best_30 : decode cX9_best 30 = .ok (.iconst (-1), 1) := by decide +kernel
theorem dX9_best_31 : decode cX9_best 31 = .ok (.istore 4, 2) := by decide +kernel
theorem dX9_best_33 : decode cX9_best 33 = .ok (.iconst 0, 1) := by decide +kernel
theorem dX9_best_34 : decode cX9_best 34 = .ok (.istore 5, 2) := by decide +kernel
theorem dX9_best_36 : decode cX9_best 36 = .ok (.iload 5, 2) := by decide +kernel
theorem dX9_best_38 : decode cX9_best 38 = .ok (.bipush 12, 2) := by decide +kernel
theorem dX9_best_40 : decode cX9_best 40 = .ok (.if_icmp .ge 94, 3) := by decide +kernel
theorem dX9_best_43 : decode cX9_best 43 = .ok (.aload_n 0, 1) := by decide +kernel
theorem dX9_best_44 : decode cX9_best 44 = .ok (.invokevirtual 195, 3) := by decide +kernel
theorem dX9_best_47 : decode cX9_best 47 = .ok (.aload_n 0, 1) := by decide +kernel
theorem dX9_best_48 : decode cX9_best 48 = .ok (.iload 5, 2) := by decide +kernel
theorem dX9_best_50 : decode cX9_best 50 = .ok (.iconst 1, 1) := by decide +kernel
theorem dX9_best_51 : decode cX9_best 51 = .ok (.invokevirtual 218, 3) := by decide +kernel
theorem dX9_best_54 : decode cX9_best 54 = .ok (.iconst 0, 1) := by decide +kernel
theorem dX9_best_55 : decode cX9_best 55 = .ok (.istore 6, 2) := by decide +kernel
theorem dX9_best_57 : decode cX9_best 57 = .ok (.iload 6, 2) := by decide +kernel
theorem dX9_best_59 : decode cX9_best 59 = .ok (.bipush 6, 2) := by decide +kernel
theorem dX9_best_61 : decode cX9_best 61 = .ok (.if_icmp .ge 23, 3) := by decide +kernel
theorem dX9_best_64 : decode cX9_best 64 = .ok (.aload_n 0, 1) := by decide +kernel
theorem dX9_best_65 : decode cX9_best 65 = .ok (.getfield 60, 3) := by decide +kernel
theorem dX9_best_68 : decode cX9_best 68 = .ok (.iload 6, 2) := by decide +kernel
theorem dX9_best_70 : decode cX9_best 70 = .ok (.aload_n 0, 1) := by decide +kernel
theorem dX9_best_71 : decode cX9_best 71 = .ok (.getfield 36, 3) := by decide +kernel
theorem dX9_best_74 : decode cX9_best 74 = .ok (.iload 6, 2) := by decide +kernel
theorem dX9_best_76 : decode cX9_best 76 = .ok (.iaload, 1) := by decide +kernel
theorem dX9_best_77 : decode cX9_best 77 = .ok (.iastore, 1) := by decide +kernel
theorem dX9_best_78 : decode cX9_best 78 = .ok (.iinc 6 1, 3) := by decide +kernel
theorem dX9_best_81 : decode cX9_best 81 = .ok (.goto (-24), 3) := by decide +kernel
theorem dX9_best_84 : decode cX9_best 84 = .ok (.aload_n 0, 1) := by decide +kernel
theorem dX9_best_85 : decode cX9_best 85 = .ok (.aload_n 0, 1) := by decide +kernel
theorem dX9_best_86 : decode cX9_best 86 = .ok (.getfield 23, 3) := by decide +kernel
theorem dX9_best_89 : decode cX9_best 89 = .ok (.bipush 9, 2) := by decide +kernel
theorem dX9_best_91 : decode cX9_best 91 = .ok (.iaload, 1) := by decide +kernel
theorem dX9_best_92 : decode cX9_best 92 = .ok (.iload 5, 2) := by decide +kernel
theorem dX9_best_94 : decode cX9_best 94 = .ok (.iadd, 1) := by decide +kernel
theorem dX9_best_95 : decode cX9_best 95 = .ok (.iload_n 1, 1) := by decide +kernel
theorem dX9_best_96 : decode cX9_best 96 = .ok (.iconst (-1), 1) := by decide +kernel
theorem dX9_best_97 : decode cX9_best 97 = .ok (.iconst 0, 1) := by decide +kernel
theorem dX9_best_98 : decode cX9_best 98 = .ok (.invokevirtual 264, 3) := by decide +kernel
theorem dX9_best_101 : decode cX9_best 101 = .ok (.ifCond .eq 27, 3) := by decide +kernel
theorem dX9_best_104 : decode cX9_best 104 = .ok (.iload 4, 2) := by decide +kernel
theorem dX9_best_106 : decode cX9_best 106 = .ok (.iconst (-1), 1) := by decide +kernel
theorem dX9_best_107 : decode cX9_best 107 = .ok (.if_icmp .eq 12, 3) := by decide +kernel
theorem dX9_best_110 : decode cX9_best 110 = .ok (.aload_n 0, 1) := by decide +kernel
theorem dX9_best_111 : decode cX9_best 111 = .ok (.getfield 241, 3) := by decide +kernel
theorem dX9_best_114 : decode cX9_best 114 = .ok (.iload 4, 2) := by decide +kernel
theorem dX9_best_116 : decode cX9_best 116 = .ok (.if_icmp .ge 12, 3) := by decide +kernel
theorem dX9_best_119 : decode cX9_best 119 = .ok (.iload 5, 2) := by decide +kernel
theorem dX9_best_121 : decode cX9_best 121 = .ok (.istore_n 3, 1) := by decide +kernel
theorem dX9_best_122 : decode cX9_best 122 = .ok (.aload_n 0, 1) := by decide +kernel
theorem dX9_best_123 : decode cX9_best 123 = .ok (.getfield 241, 3) := by decide +kernel
theorem dX9_best_126 : decode cX9_best 126 = .ok (.istore 4, 2) := by decide +kernel
theorem dX9_best_128 : decode cX9_best 128 = .ok (.iinc 5 1, 3) := by decide +kernel
theorem dX9_best_131 : decode cX9_best 131 = .ok (.goto (-95), 3) := by decide +kernel
theorem dX9_best_134 : decode cX9_best 134 = .ok (.iload_n 2, 1) := by decide +kernel
theorem dX9_best_135 : decode cX9_best 135 = .ok (.ifCond .ne 7, 3) := by decide +kernel
theorem dX9_best_138 : decode cX9_best 138 = .ok (.iload_n 3, 1) := by decide +kernel
theorem dX9_best_139 : decode cX9_best 139 = .ok (.goto 5, 3) := by decide +kernel
theorem dX9_best_142 : decode cX9_best 142 = .ok (.iload 4, 2) := by decide +kernel
theorem dX9_best_144 : decode cX9_best 144 = .ok (.ireturn, 1) := by decide +kernel
theorem dX9_worth_0 : decode cX9_worth 0 = .ok (.aload_n 0, 1) := by decide +kernel
theorem dX9_worth_1 : decode cX9_worth 1 = .ok (.iconst 0, 1) := by decide +kernel
theorem dX9_worth_2 : decode cX9_worth 2 = .ok (.putfield 76, 3) := by decide +kernel
theorem dX9_worth_5 : decode cX9_worth 5 = .ok (.aload_n 0, 1) := by decide +kernel
theorem dX9_worth_6 : decode cX9_worth 6 = .ok (.iload_n 2, 1) := by decide +kernel
theorem dX9_worth_7 : decode cX9_worth 7 = .ok (.invokevirtual 187, 3) := by decide +kernel
theorem dX9_worth_10 : decode cX9_worth 10 = .ok (.ifCond .ne 6, 3) := by decide +kernel
theorem dX9_worth_13 : decode cX9_worth 13 = .ok (.ldc 191, 2) := by decide +kernel
theorem dX9_worth_15 : decode cX9_worth 15 = .ok (.ireturn, 1) := by decide +kernel
theorem dX9_worth_16 : decode cX9_worth 16 = .ok (.iload_n 1, 1) := by decide +kernel
theorem dX9_worth_17 : decode cX9_worth 17 = .ok (.iconst 0, 1) := by decide +kernel
theorem dX9_worth_18 : decode cX9_worth 18 = .ok (.sipush 240, 3) := by decide +kernel
theorem dX9_worth_21 : decode cX9_worth 21 = .ok (.invokestatic 82, 3) := by decide +kernel
theorem dX9_worth_24 : decode cX9_worth 24 = .ok (.ifCond .ne 6, 3) := by decide +kernel
theorem dX9_worth_27 : decode cX9_worth 27 = .ok (.ldc 86, 2) := by decide +kernel
theorem dX9_worth_29 : decode cX9_worth 29 = .ok (.ireturn, 1) := by decide +kernel
theorem dX9_worth_30 : decode cX9_worth 30 = .ok (.aload_n 0, 1) := by decide +kernel
theorem dX9_worth_31 : decode cX9_worth 31 = .ok (.invokevirtual 261, 3) := by decide +kernel
theorem dX9_worth_34 : decode cX9_worth 34 = .ok (.aload_n 0, 1) := by decide +kernel
theorem dX9_worth_35 : decode cX9_worth 35 = .ok (.aload_n 0, 1) := by decide +kernel
theorem dX9_worth_36 : decode cX9_worth 36 = .ok (.getfield 23, 3) := by decide +kernel
theorem dX9_worth_39 : decode cX9_worth 39 = .ok (.bipush 9, 2) := by decide +kernel
theorem dX9_worth_41 : decode cX9_worth 41 = .ok (.iaload, 1) := by decide +kernel
theorem dX9_worth_42 : decode cX9_worth 42 = .ok (.iload_n 1, 1) := by decide +kernel
theorem dX9_worth_43 : decode cX9_worth 43 = .ok (.iconst (-1), 1) := by decide +kernel
theorem dX9_worth_44 : decode cX9_worth 44 = .ok (.iconst 0, 1) := by decide +kernel
theorem dX9_worth_45 : decode cX9_worth 45 = .ok (.invokevirtual 264, 3) := by decide +kernel
theorem dX9_worth_48 : decode cX9_worth 48 = .ok (.ifCond .eq 10, 3) := by decide +kernel
theorem dX9_worth_51 : decode cX9_worth 51 = .ok (.aload_n 0, 1) := by decide +kernel
theorem dX9_worth_52 : decode cX9_worth 52 = .ok (.getfield 241, 3) := by decide +kernel
theorem dX9_worth_55 : decode cX9_worth 55 = .ok (.goto 5, 3) := by decide +kernel
theorem dX9_worth_58 : decode cX9_worth 58 = .ok (.bipush 121, 2) := by decide +kernel
theorem dX9_worth_60 : decode cX9_worth 60 = .ok (.istore_n 3, 1) := by decide +kernel
theorem dX9_worth_61 : decode cX9_worth 61 = .ok (.aload_n 0, 1) := by decide +kernel
theorem dX9_worth_62 : decode cX9_worth 62 = .ok (.aload_n 0, 1) := by decide +kernel
theorem dX9_worth_63 : decode cX9_worth 63 = .ok (.getfield 23, 3) := by decide +kernel
theorem dX9_worth_66 : decode cX9_worth 66 = .ok (.bipush 9, 2) := by decide +kernel
theorem dX9_worth_68 : decode cX9_worth 68 = .ok (.iaload, 1) := by decide +kernel
theorem dX9_worth_69 : decode cX9_worth 69 = .ok (.iload_n 1, 1) := by decide +kernel
theorem dX9_worth_70 : decode cX9_worth 70 = .ok (.iload_n 2, 1) := by decide +kernel
theorem dX9_worth_71 : decode cX9_worth 71 = .ok (.iconst 0, 1) := by decide +kernel
theorem dX9_worth_72 : decode cX9_worth 72 = .ok (.invokevirtual 264, 3) := by decide +kernel
theorem dX9_worth_75 : decode cX9_worth 75 = .ok (.ifCond .eq 10, 3) := by decide +kernel
theorem dX9_worth_78 : decode cX9_worth 78 = .ok (.aload_n 0, 1) := by decide +kernel
theorem dX9_worth_79 : decode cX9_worth 79 = .ok (.getfield 241, 3) := by decide +kernel
theorem dX9_worth_82 : decode cX9_worth 82 = .ok (.goto 5, 3) := by decide +kernel
theorem dX9_worth_85 : decode cX9_worth 85 = .ok (.bipush 121, 2) := by decide +kernel
theorem dX9_worth_87 : decode cX9_worth 87 = .ok (.istore 4, 2) := by decide +kernel
theorem dX9_worth_89 : decode cX9_worth 89 = .ok (.iload 4, 2) := by decide +kernel
theorem dX9_worth_91 : decode cX9_worth 91 = .ok (.iload_n 3, 1) := by decide +kernel
theorem dX9_worth_92 : decode cX9_worth 92 = .ok (.isub, 1) := by decide +kernel
theorem dX9_worth_93 : decode cX9_worth 93 = .ok (.ireturn, 1) := by decide +kernel
theorem dX9_loadOf_0 : decode cX9_loadOf 0 = .ok (.iconst 0, 1) := by decide +kernel
theorem dX9_loadOf_1 : decode cX9_loadOf 1 = .ok (.istore_n 2, 1) := by decide +kernel
theorem dX9_loadOf_2 : decode cX9_loadOf 2 = .ok (.iconst 0, 1) := by decide +kernel
theorem dX9_loadOf_3 : decode cX9_loadOf 3 = .ok (.istore_n 3, 1) := by decide +kernel
theorem dX9_loadOf_4 : decode cX9_loadOf 4 = .ok (.iload_n 3, 1) := by decide +kernel
theorem dX9_loadOf_5 : decode cX9_loadOf 5 = .ok (.aload_n 0, 1) := by decide +kernel
theorem dX9_loadOf_6 : decode cX9_loadOf 6 = .ok (.getfield 17, 3) := by decide +kernel
theorem dX9_loadOf_9 : decode cX9_loadOf 9 = .ok (.iconst 4, 1) := by decide +kernel
theorem dX9_loadOf_10 : decode cX9_loadOf 10 = .ok (.iaload, 1) := by decide +kernel
theorem dX9_loadOf_11 : decode cX9_loadOf 11 = .ok (.if_icmp .ge 34, 3) := by decide +kernel
theorem dX9_loadOf_14 : decode cX9_loadOf 14 = .ok (.iload_n 2, 1) := by decide +kernel
theorem dX9_loadOf_15 : decode cX9_loadOf 15 = .ok (.iload_n 1, 1) := by decide +kernel
theorem dX9_loadOf_16 : decode cX9_loadOf 16 = .ok (.iload_n 3, 1) := by decide +kernel
theorem dX9_loadOf_17 : decode cX9_loadOf 17 = .ok (.ishr, 1) := by decide +kernel
theorem dX9_loadOf_18 : decode cX9_loadOf 18 = .ok (.iconst 1, 1) := by decide +kernel
theorem dX9_loadOf_19 : decode cX9_loadOf 19 = .ok (.iand, 1) := by decide +kernel
theorem dX9_loadOf_20 : decode cX9_loadOf 20 = .ok (.iconst 1, 1) := by decide +kernel
theorem dX9_loadOf_21 : decode cX9_loadOf 21 = .ok (.if_icmp .ne 15, 3) := by decide +kernel
theorem dX9_loadOf_24 : decode cX9_loadOf 24 = .ok (.aload_n 0, 1) := by decide +kernel
theorem dX9_loadOf_25 : decode cX9_loadOf 25 = .ok (.getfield 17, 3) := by decide +kernel
theorem dX9_loadOf_28 : decode cX9_loadOf 28 = .ok (.bipush 80, 2) := by decide +kernel
theorem dX9_loadOf_30 : decode cX9_loadOf 30 = .ok (.iload_n 3, 1) := by decide +kernel
theorem dX9_loadOf_31 : decode cX9_loadOf 31 = .ok (.iadd, 1) := by decide +kernel
theorem dX9_loadOf_32 : decode cX9_loadOf 32 = .ok (.iaload, 1) := by decide +kernel
theorem dX9_loadOf_33 : decode cX9_loadOf 33 = .ok (.goto 4, 3) := by decide +kernel
theorem dX9_loadOf_36 : decode cX9_loadOf 36 = .ok (.iconst 0, 1) := by decide +kernel
theorem dX9_loadOf_37 : decode cX9_loadOf 37 = .ok (.iadd, 1) := by decide +kernel
theorem dX9_loadOf_38 : decode cX9_loadOf 38 = .ok (.istore_n 2, 1) := by decide +kernel
theorem dX9_loadOf_39 : decode cX9_loadOf 39 = .ok (.iinc 3 1, 3) := by decide +kernel
theorem dX9_loadOf_42 : decode cX9_loadOf 42 = .ok (.goto (-38), 3) := by decide +kernel
theorem dX9_loadOf_45 : decode cX9_loadOf 45 = .ok (.iload_n 2, 1) := by decide +kernel
theorem dX9_loadOf_46 : decode cX9_loadOf 46 = .ok (.ireturn, 1) := by decide +kernel
theorem dX9_isRow_0 : decode cX9_isRow 0 = .ok (.iconst 0, 1) := by decide +kernel
theorem dX9_isRow_1 : decode cX9_isRow 1 = .ok (.istore_n 3, 1) := by decide +kernel
theorem dX9_isRow_2 : decode cX9_isRow 2 = .ok (.iload_n 3, 1) := by decide +kernel
theorem dX9_isRow_3 : decode cX9_isRow 3 = .ok (.iload_n 2, 1) := by decide +kernel
theorem dX9_isRow_4 : decode cX9_isRow 4 = .ok (.if_icmp .ge 16, 3) := by decide +kernel
theorem dX9_isRow_7 : decode cX9_isRow 7 = .ok (.aload_n 0, 1) := by decide +kernel
theorem dX9_isRow_8 : decode cX9_isRow 8 = .ok (.getfield 54, 3) := by decide +kernel
theorem dX9_isRow_11 : decode cX9_isRow 11 = .ok (.iload_n 3, 1) := by decide +kernel
theorem dX9_isRow_12 : decode cX9_isRow 12 = .ok (.iconst 0, 1) := by decide +kernel
theorem dX9_isRow_13 : decode cX9_isRow 13 = .ok (.iastore, 1) := by decide +kernel
theorem dX9_isRow_14 : decode cX9_isRow 14 = .ok (.iinc 3 1, 3) := by decide +kernel
theorem dX9_isRow_17 : decode cX9_isRow 17 = .ok (.goto (-15), 3) := by decide +kernel
theorem dX9_isRow_20 : decode cX9_isRow 20 = .ok (.iload_n 1, 1) := by decide +kernel
theorem dX9_isRow_21 : decode cX9_isRow 21 = .ok (.istore_n 3, 1) := by decide +kernel
theorem dX9_isRow_22 : decode cX9_isRow 22 = .ok (.iconst 0, 1) := by decide +kernel
theorem dX9_isRow_23 : decode cX9_isRow 23 = .ok (.istore 4, 2) := by decide +kernel
theorem dX9_isRow_25 : decode cX9_isRow 25 = .ok (.iload 4, 2) := by decide +kernel
theorem dX9_isRow_27 : decode cX9_isRow 27 = .ok (.aload_n 0, 1) := by decide +kernel
theorem dX9_isRow_28 : decode cX9_isRow 28 = .ok (.getfield 17, 3) := by decide +kernel
theorem dX9_isRow_31 : decode cX9_isRow 31 = .ok (.iconst 4, 1) := by decide +kernel
theorem dX9_isRow_32 : decode cX9_isRow 32 = .ok (.iaload, 1) := by decide +kernel
theorem dX9_isRow_33 : decode cX9_isRow 33 = .ok (.if_icmp .ge 28, 3) := by decide +kernel
theorem dX9_isRow_36 : decode cX9_isRow 36 = .ok (.aload_n 0, 1) := by decide +kernel
theorem dX9_isRow_37 : decode cX9_isRow 37 = .ok (.getfield 54, 3) := by decide +kernel
theorem dX9_isRow_40 : decode cX9_isRow 40 = .ok (.iload_n 3, 1) := by decide +kernel
theorem dX9_isRow_41 : decode cX9_isRow 41 = .ok (.iload_n 2, 1) := by decide +kernel
theorem dX9_isRow_42 : decode cX9_isRow 42 = .ok (.irem, 1) := by decide +kernel
theorem dX9_isRow_43 : decode cX9_isRow 43 = .ok (.dup2, 1) := by decide +kernel
theorem dX9_isRow_44 : decode cX9_isRow 44 = .ok (.iaload, 1) := by decide +kernel
theorem dX9_isRow_45 : decode cX9_isRow 45 = .ok (.iconst 1, 1) := by decide +kernel
theorem dX9_isRow_46 : decode cX9_isRow 46 = .ok (.iload 4, 2) := by decide +kernel
theorem dX9_isRow_48 : decode cX9_isRow 48 = .ok (.ishl, 1) := by decide +kernel
theorem dX9_isRow_49 : decode cX9_isRow 49 = .ok (.ior, 1) := by decide +kernel
theorem dX9_isRow_50 : decode cX9_isRow 50 = .ok (.iastore, 1) := by decide +kernel
theorem dX9_isRow_51 : decode cX9_isRow 51 = .ok (.iload_n 3, 1) := by decide +kernel
theorem dX9_isRow_52 : decode cX9_isRow 52 = .ok (.iload_n 2, 1) := by decide +kernel
theorem dX9_isRow_53 : decode cX9_isRow 53 = .ok (.idiv, 1) := by decide +kernel
theorem dX9_isRow_54 : decode cX9_isRow 54 = .ok (.istore_n 3, 1) := by decide +kernel
theorem dX9_isRow_55 : decode cX9_isRow 55 = .ok (.iinc 4 1, 3) := by decide +kernel
theorem dX9_isRow_58 : decode cX9_isRow 58 = .ok (.goto (-33), 3) := by decide +kernel
theorem dX9_isRow_61 : decode cX9_isRow 61 = .ok (.iconst 1, 1) := by decide +kernel
theorem dX9_isRow_62 : decode cX9_isRow 62 = .ok (.istore 4, 2) := by decide +kernel
theorem dX9_isRow_64 : decode cX9_isRow 64 = .ok (.iconst 0, 1) := by decide +kernel
theorem dX9_isRow_65 : decode cX9_isRow 65 = .ok (.istore 5, 2) := by decide +kernel
theorem dX9_isRow_67 : decode cX9_isRow 67 = .ok (.iload 5, 2) := by decide +kernel
theorem dX9_isRow_69 : decode cX9_isRow 69 = .ok (.iload_n 2, 1) := by decide +kernel
theorem dX9_isRow_70 : decode cX9_isRow 70 = .ok (.if_icmp .ge 31, 3) := by decide +kernel
theorem dX9_isRow_73 : decode cX9_isRow 73 = .ok (.iload 4, 2) := by decide +kernel
theorem dX9_isRow_75 : decode cX9_isRow 75 = .ok (.ifCond .eq 17, 3) := by decide +kernel
theorem dX9_isRow_78 : decode cX9_isRow 78 = .ok (.aload_n 0, 1) := by decide +kernel
theorem dX9_isRow_79 : decode cX9_isRow 79 = .ok (.getfield 54, 3) := by decide +kernel
theorem dX9_isRow_82 : decode cX9_isRow 82 = .ok (.iload 5, 2) := by decide +kernel
theorem dX9_isRow_84 : decode cX9_isRow 84 = .ok (.iaload, 1) := by decide +kernel
theorem dX9_isRow_85 : decode cX9_isRow 85 = .ok (.ifCond .eq 7, 3) := by decide +kernel
theorem dX9_isRow_88 : decode cX9_isRow 88 = .ok (.iconst 1, 1) := by decide +kernel
theorem dX9_isRow_89 : decode cX9_isRow 89 = .ok (.goto 4, 3) := by decide +kernel
theorem dX9_isRow_92 : decode cX9_isRow 92 = .ok (.iconst 0, 1) := by decide +kernel
theorem dX9_isRow_93 : decode cX9_isRow 93 = .ok (.istore 4, 2) := by decide +kernel
theorem dX9_isRow_95 : decode cX9_isRow 95 = .ok (.iinc 5 1, 3) := by decide +kernel
theorem dX9_isRow_98 : decode cX9_isRow 98 = .ok (.goto (-31), 3) := by decide +kernel
theorem dX9_isRow_101 : decode cX9_isRow 101 = .ok (.iload 4, 2) := by decide +kernel
theorem dX9_isRow_103 : decode cX9_isRow 103 = .ok (.ireturn, 1) := by decide +kernel
theorem dX9_isOver_0 : decode cX9_isOver 0 = .ok (.aload_n 0, 1) := by decide +kernel
theorem dX9_isOver_1 : decode cX9_isOver 1 = .ok (.invokevirtual 261, 3) := by decide +kernel
theorem dX9_isOver_4 : decode cX9_isOver 4 = .ok (.iconst 1, 1) := by decide +kernel
theorem dX9_isOver_5 : decode cX9_isOver 5 = .ok (.istore_n 2, 1) := by decide +kernel
theorem dX9_isOver_6 : decode cX9_isOver 6 = .ok (.iconst 0, 1) := by decide +kernel
theorem dX9_isOver_7 : decode cX9_isOver 7 = .ok (.istore_n 3, 1) := by decide +kernel
theorem dX9_isOver_8 : decode cX9_isOver 8 = .ok (.iload_n 3, 1) := by decide +kernel
theorem dX9_isOver_9 : decode cX9_isOver 9 = .ok (.iload_n 1, 1) := by decide +kernel
theorem dX9_isOver_10 : decode cX9_isOver 10 = .ok (.if_icmp .ge 139, 3) := by decide +kernel
theorem dX9_isOver_13 : decode cX9_isOver 13 = .ok (.iload_n 2, 1) := by decide +kernel
theorem dX9_isOver_14 : decode cX9_isOver 14 = .ok (.ifCond .eq 135, 3) := by decide +kernel
theorem dX9_isOver_17 : decode cX9_isOver 17 = .ok (.aload_n 0, 1) := by decide +kernel
theorem dX9_isOver_18 : decode cX9_isOver 18 = .ok (.aload_n 0, 1) := by decide +kernel
theorem dX9_isOver_19 : decode cX9_isOver 19 = .ok (.getfield 54, 3) := by decide +kernel
theorem dX9_isOver_22 : decode cX9_isOver 22 = .ok (.iload_n 3, 1) := by decide +kernel
theorem dX9_isOver_23 : decode cX9_isOver 23 = .ok (.iaload, 1) := by decide +kernel
theorem dX9_isOver_24 : decode cX9_isOver 24 = .ok (.invokevirtual 275, 3) := by decide +kernel
theorem dX9_isOver_27 : decode cX9_isOver 27 = .ok (.istore 4, 2) := by decide +kernel
theorem dX9_isOver_29 : decode cX9_isOver 29 = .ok (.aload_n 0, 1) := by decide +kernel
theorem dX9_isOver_30 : decode cX9_isOver 30 = .ok (.aload_n 0, 1) := by decide +kernel
theorem dX9_isOver_31 : decode cX9_isOver 31 = .ok (.getfield 23, 3) := by decide +kernel
theorem dX9_isOver_34 : decode cX9_isOver 34 = .ok (.bipush 9, 2) := by decide +kernel
theorem dX9_isOver_36 : decode cX9_isOver 36 = .ok (.iaload, 1) := by decide +kernel
theorem dX9_isOver_37 : decode cX9_isOver 37 = .ok (.iload_n 3, 1) := by decide +kernel
theorem dX9_isOver_38 : decode cX9_isOver 38 = .ok (.iadd, 1) := by decide +kernel
theorem dX9_isOver_39 : decode cX9_isOver 39 = .ok (.iload 4, 2) := by decide +kernel
theorem dX9_isOver_41 : decode cX9_isOver 41 = .ok (.iconst (-1), 1) := by decide +kernel
theorem dX9_isOver_42 : decode cX9_isOver 42 = .ok (.iconst 0, 1) := by decide +kernel
theorem dX9_isOver_43 : decode cX9_isOver 43 = .ok (.invokevirtual 264, 3) := by decide +kernel
theorem dX9_isOver_46 : decode cX9_isOver 46 = .ok (.istore_n 2, 1) := by decide +kernel
theorem dX9_isOver_47 : decode cX9_isOver 47 = .ok (.iload_n 2, 1) := by decide +kernel
theorem dX9_isOver_48 : decode cX9_isOver 48 = .ok (.ifCond .eq 95, 3) := by decide +kernel
theorem dX9_isOver_51 : decode cX9_isOver 51 = .ok (.aload_n 0, 1) := by decide +kernel
