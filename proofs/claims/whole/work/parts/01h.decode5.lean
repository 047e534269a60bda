theorem dX9_isOver_52 : decode cX9_isOver 52 = .ok (.getfield 39, 3) := by decide +kernel
theorem dX9_isOver_55 : decode cX9_isOver 55 = .ok (.iconst 0, 1) := by decide +kernel
theorem dX9_isOver_56 : decode cX9_isOver 56 = .ok (.aload_n 0, 1) := by decide +kernel
theorem dX9_isOver_57 : decode cX9_isOver 57 = .ok (.getfield 48, 3) := by decide +kernel
theorem dX9_isOver_60 : decode cX9_isOver 60 = .ok (.iconst 0, 1) := by decide +kernel
theorem dX9_isOver_61 : decode cX9_isOver 61 = .ok (.iaload, 1) := by decide +kernel
theorem dX9_isOver_62 : decode cX9_isOver 62 = .ok (.iastore, 1) := by decide +kernel
theorem dX9_isOver_63 : decode cX9_isOver 63 = .ok (.aload_n 0, 1) := by decide +kernel
theorem dX9_isOver_64 : decode cX9_isOver 64 = .ok (.getfield 39, 3) := by decide +kernel
theorem dX9_isOver_67 : decode cX9_isOver 67 = .ok (.iconst 1, 1) := by decide +kernel
theorem dX9_isOver_68 : decode cX9_isOver 68 = .ok (.aload_n 0, 1) := by decide +kernel
theorem dX9_isOver_69 : decode cX9_isOver 69 = .ok (.getfield 48, 3) := by decide +kernel
theorem dX9_isOver_72 : decode cX9_isOver 72 = .ok (.iconst 1, 1) := by decide +kernel
theorem dX9_isOver_73 : decode cX9_isOver 73 = .ok (.iaload, 1) := by decide +kernel
theorem dX9_isOver_74 : decode cX9_isOver 74 = .ok (.iastore, 1) := by decide +kernel
theorem dX9_isOver_75 : decode cX9_isOver 75 = .ok (.aload_n 0, 1) := by decide +kernel
theorem dX9_isOver_76 : decode cX9_isOver 76 = .ok (.getfield 39, 3) := by decide +kernel
theorem dX9_isOver_79 : decode cX9_isOver 79 = .ok (.iconst 2, 1) := by decide +kernel
theorem dX9_isOver_80 : decode cX9_isOver 80 = .ok (.aload_n 0, 1) := by decide +kernel
theorem dX9_isOver_81 : decode cX9_isOver 81 = .ok (.getfield 48, 3) := by decide +kernel
theorem dX9_isOver_84 : decode cX9_isOver 84 = .ok (.iconst 2, 1) := by decide +kernel
theorem dX9_isOver_85 : decode cX9_isOver 85 = .ok (.iaload, 1) := by decide +kernel
theorem dX9_isOver_86 : decode cX9_isOver 86 = .ok (.iastore, 1) := by decide +kernel
theorem dX9_isOver_87 : decode cX9_isOver 87 = .ok (.aload_n 0, 1) := by decide +kernel
theorem dX9_isOver_88 : decode cX9_isOver 88 = .ok (.invokevirtual 251, 3) := by decide +kernel
theorem dX9_isOver_91 : decode cX9_isOver 91 = .ok (.aload_n 0, 1) := by decide +kernel
theorem dX9_isOver_92 : decode cX9_isOver 92 = .ok (.aload_n 0, 1) := by decide +kernel
theorem dX9_isOver_93 : decode cX9_isOver 93 = .ok (.getfield 23, 3) := by decide +kernel
theorem dX9_isOver_96 : decode cX9_isOver 96 = .ok (.bipush 9, 2) := by decide +kernel
theorem dX9_isOver_98 : decode cX9_isOver 98 = .ok (.iaload, 1) := by decide +kernel
theorem dX9_isOver_99 : decode cX9_isOver 99 = .ok (.iload_n 3, 1) := by decide +kernel
theorem dX9_isOver_100 : decode cX9_isOver 100 = .ok (.iadd, 1) := by decide +kernel
theorem dX9_isOver_101 : decode cX9_isOver 101 = .ok (.iload 4, 2) := by decide +kernel
theorem dX9_isOver_103 : decode cX9_isOver 103 = .ok (.invokevirtual 215, 3) := by decide +kernel
theorem dX9_isOver_106 : decode cX9_isOver 106 = .ok (.pop, 1) := by decide +kernel
theorem dX9_isOver_107 : decode cX9_isOver 107 = .ok (.aload_n 0, 1) := by decide +kernel
theorem dX9_isOver_108 : decode cX9_isOver 108 = .ok (.iconst 1, 1) := by decide +kernel
theorem dX9_isOver_109 : decode cX9_isOver 109 = .ok (.iconst 0, 1) := by decide +kernel
theorem dX9_isOver_110 : decode cX9_isOver 110 = .ok (.invokevirtual 218, 3) := by decide +kernel
theorem dX9_isOver_113 : decode cX9_isOver 113 = .ok (.iconst 0, 1) := by decide +kernel
theorem dX9_isOver_114 : decode cX9_isOver 114 = .ok (.istore 5, 2) := by decide +kernel
theorem dX9_isOver_116 : decode cX9_isOver 116 = .ok (.iload 5, 2) := by decide +kernel
theorem dX9_isOver_118 : decode cX9_isOver 118 = .ok (.bipush 6, 2) := by decide +kernel
theorem dX9_isOver_120 : decode cX9_isOver 120 = .ok (.if_icmp .ge 23, 3) := by decide +kernel
theorem dX9_isOver_123 : decode cX9_isOver 123 = .ok (.aload_n 0, 1) := by decide +kernel
theorem dX9_isOver_124 : decode cX9_isOver 124 = .ok (.getfield 60, 3) := by decide +kernel
theorem dX9_isOver_127 : decode cX9_isOver 127 = .ok (.iload 5, 2) := by decide +kernel
theorem dX9_isOver_129 : decode cX9_isOver 129 = .ok (.aload_n 0, 1) := by decide +kernel
theorem dX9_isOver_130 : decode cX9_isOver 130 = .ok (.getfield 36, 3) := by decide +kernel
theorem dX9_isOver_133 : decode cX9_isOver 133 = .ok (.iload 5, 2) := by decide +kernel
theorem dX9_isOver_135 : decode cX9_isOver 135 = .ok (.iaload, 1) := by decide +kernel
theorem dX9_isOver_136 : decode cX9_isOver 136 = .ok (.iastore, 1) := by decide +kernel
theorem dX9_isOver_137 : decode cX9_isOver 137 = .ok (.iinc 5 1, 3) := by decide +kernel
theorem dX9_isOver_140 : decode cX9_isOver 140 = .ok (.goto (-24), 3) := by decide +kernel
theorem dX9_isOver_143 : decode cX9_isOver 143 = .ok (.iinc 3 1, 3) := by decide +kernel
theorem dX9_isOver_146 : decode cX9_isOver 146 = .ok (.goto (-138), 3) := by decide +kernel
theorem dX9_isOver_149 : decode cX9_isOver 149 = .ok (.iload_n 2, 1) := by decide +kernel
theorem dX9_isOver_150 : decode cX9_isOver 150 = .ok (.ireturn, 1) := by decide +kernel
theorem dX9_isAhead_0 : decode cX9_isAhead 0 = .ok (.iconst 0, 1) := by decide +kernel
theorem dX9_isAhead_1 : decode cX9_isAhead 1 = .ok (.istore_n 2, 1) := by decide +kernel
theorem dX9_isAhead_2 : decode cX9_isAhead 2 = .ok (.iload_n 2, 1) := by decide +kernel
theorem dX9_isAhead_3 : decode cX9_isAhead 3 = .ok (.iload_n 1, 1) := by decide +kernel
theorem dX9_isAhead_4 : decode cX9_isAhead 4 = .ok (.if_icmp .ge 24, 3) := by decide +kernel
theorem dX9_isAhead_7 : decode cX9_isAhead 7 = .ok (.aload_n 0, 1) := by decide +kernel
theorem dX9_isAhead_8 : decode cX9_isAhead 8 = .ok (.getfield 54, 3) := by decide +kernel
theorem dX9_isAhead_11 : decode cX9_isAhead 11 = .ok (.iload_n 2, 1) := by decide +kernel
theorem dX9_isAhead_12 : decode cX9_isAhead 12 = .ok (.iaload, 1) := by decide +kernel
theorem dX9_isAhead_13 : decode cX9_isAhead 13 = .ok (.aload_n 0, 1) := by decide +kernel
theorem dX9_isAhead_14 : decode cX9_isAhead 14 = .ok (.getfield 51, 3) := by decide +kernel
theorem dX9_isAhead_17 : decode cX9_isAhead 17 = .ok (.iload_n 2, 1) := by decide +kernel
theorem dX9_isAhead_18 : decode cX9_isAhead 18 = .ok (.iaload, 1) := by decide +kernel
theorem dX9_isAhead_19 : decode cX9_isAhead 19 = .ok (.if_icmp .ne 9, 3) := by decide +kernel
theorem dX9_isAhead_22 : decode cX9_isAhead 22 = .ok (.iinc 2 1, 3) := by decide +kernel
theorem dX9_isAhead_25 : decode cX9_isAhead 25 = .ok (.goto (-23), 3) := by decide +kernel
theorem dX9_isAhead_28 : decode cX9_isAhead 28 = .ok (.iload_n 2, 1) := by decide +kernel
theorem dX9_isAhead_29 : decode cX9_isAhead 29 = .ok (.iload_n 1, 1) := by decide +kernel
theorem dX9_isAhead_30 : decode cX9_isAhead 30 = .ok (.if_icmp .ge 22, 3) := by decide +kernel
theorem dX9_isAhead_33 : decode cX9_isAhead 33 = .ok (.aload_n 0, 1) := by decide +kernel
theorem dX9_isAhead_34 : decode cX9_isAhead 34 = .ok (.getfield 54, 3) := by decide +kernel
theorem dX9_isAhead_37 : decode cX9_isAhead 37 = .ok (.iload_n 2, 1) := by decide +kernel
theorem dX9_isAhead_38 : decode cX9_isAhead 38 = .ok (.iaload, 1) := by decide +kernel
theorem dX9_isAhead_39 : decode cX9_isAhead 39 = .ok (.aload_n 0, 1) := by decide +kernel
theorem dX9_isAhead_40 : decode cX9_isAhead 40 = .ok (.getfield 51, 3) := by decide +kernel
theorem dX9_isAhead_43 : decode cX9_isAhead 43 = .ok (.iload_n 2, 1) := by decide +kernel
theorem dX9_isAhead_44 : decode cX9_isAhead 44 = .ok (.iaload, 1) := by decide +kernel
theorem dX9_isAhead_45 : decode cX9_isAhead 45 = .ok (.if_icmp .ge 7, 3) := by decide +kernel
theorem dX9_isAhead_48 : decode cX9_isAhead 48 = .ok (.iconst 1, 1) := by decide +kernel
theorem dX9_isAhead_49 : decode cX9_isAhead 49 = .ok (.goto 4, 3) := by decide +kernel
theorem dX9_isAhead_52 : decode cX9_isAhead 52 = .ok (.iconst 0, 1) := by decide +kernel
theorem dX9_isAhead_53 : decode cX9_isAhead 53 = .ok (.ireturn, 1) := by decide +kernel
theorem dX9_fewest_0 : decode cX9_fewest 0 = .ok (.aload_n 0, 1) := by decide +kernel
theorem dX9_fewest_1 : decode cX9_fewest 1 = .ok (.getfield 17, 3) := by decide +kernel
theorem dX9_fewest_4 : decode cX9_fewest 4 = .ok (.iconst 4, 1) := by decide +kernel
theorem dX9_fewest_5 : decode cX9_fewest 5 = .ok (.iaload, 1) := by decide +kernel
theorem dX9_fewest_6 : decode cX9_fewest 6 = .ok (.ifCond .ne 7, 3) := by decide +kernel
theorem dX9_fewest_9 : decode cX9_fewest 9 = .ok (.iconst 0, 1) := by decide +kernel
theorem dX9_fewest_10 : decode cX9_fewest 10 = .ok (.goto 4, 3) := by decide +kernel
theorem dX9_fewest_13 : decode cX9_fewest 13 = .ok (.iconst 1, 1) := by decide +kernel
theorem dX9_fewest_14 : decode cX9_fewest 14 = .ok (.istore_n 1, 1) := by decide +kernel
theorem dX9_fewest_15 : decode cX9_fewest 15 = .ok (.iload_n 1, 1) := by decide +kernel
theorem dX9_fewest_16 : decode cX9_fewest 16 = .ok (.aload_n 0, 1) := by decide +kernel
theorem dX9_fewest_17 : decode cX9_fewest 17 = .ok (.getfield 17, 3) := by decide +kernel
theorem dX9_fewest_20 : decode cX9_fewest 20 = .ok (.iconst 4, 1) := by decide +kernel
theorem dX9_fewest_21 : decode cX9_fewest 21 = .ok (.iaload, 1) := by decide +kernel
theorem dX9_fewest_22 : decode cX9_fewest 22 = .ok (.if_icmp .gt 131, 3) := by decide +kernel
theorem dX9_fewest_25 : decode cX9_fewest 25 = .ok (.iload_n 1, 1) := by decide +kernel
theorem dX9_fewest_26 : decode cX9_fewest 26 = .ok (.ifCond .ne 7, 3) := by decide +kernel
theorem dX9_fewest_29 : decode cX9_fewest 29 = .ok (.iconst 1, 1) := by decide +kernel
theorem dX9_fewest_30 : decode cX9_fewest 30 = .ok (.goto 4, 3) := by decide +kernel
theorem dX9_fewest_33 : decode cX9_fewest 33 = .ok (.iconst 0, 1) := by decide +kernel
theorem dX9_fewest_34 : decode cX9_fewest 34 = .ok (.istore_n 2, 1) := by decide +kernel
theorem dX9_fewest_35 : decode cX9_fewest 35 = .ok (.iconst 1, 1) := by decide +kernel
theorem dX9_fewest_36 : decode cX9_fewest 36 = .ok (.istore_n 3, 1) := by decide +kernel
theorem dX9_fewest_37 : decode cX9_fewest 37 = .ok (.iconst 0, 1) := by decide +kernel
theorem dX9_fewest_38 : decode cX9_fewest 38 = .ok (.istore 4, 2) := by decide +kernel
theorem dX9_fewest_40 : decode cX9_fewest 40 = .ok (.iload 4, 2) := by decide +kernel
theorem dX9_fewest_42 : decode cX9_fewest 42 = .ok (.aload_n 0, 1) := by decide +kernel
theorem dX9_fewest_43 : decode cX9_fewest 43 = .ok (.getfield 17, 3) := by decide +kernel
theorem dX9_fewest_46 : decode cX9_fewest 46 = .ok (.iconst 4, 1) := by decide +kernel
theorem dX9_fewest_47 : decode cX9_fewest 47 = .ok (.iaload, 1) := by decide +kernel
theorem dX9_fewest_48 : decode cX9_fewest 48 = .ok (.if_icmp .ge 13, 3) := by decide +kernel
theorem dX9_fewest_51 : decode cX9_fewest 51 = .ok (.iload_n 3, 1) := by decide +kernel
theorem dX9_fewest_52 : decode cX9_fewest 52 = .ok (.iload_n 1, 1) := by decide +kernel
theorem dX9_fewest_53 : decode cX9_fewest 53 = .ok (.imul, 1) := by decide +kernel
theorem dX9_fewest_54 : decode cX9_fewest 54 = .ok (.istore_n 3, 1) := by decide +kernel
theorem dX9_fewest_55 : decode cX9_fewest 55 = .ok (.iinc 4 1, 3) := by decide +kernel
theorem dX9_fewest_58 : decode cX9_fewest 58 = .ok (.goto (-18), 3) := by decide +kernel
theorem dX9_fewest_61 : decode cX9_fewest 61 = .ok (.iconst 0, 1) := by decide +kernel
theorem dX9_fewest_62 : decode cX9_fewest 62 = .ok (.istore 4, 2) := by decide +kernel
theorem dX9_fewest_64 : decode cX9_fewest 64 = .ok (.iload 4, 2) := by decide +kernel
theorem dX9_fewest_66 : decode cX9_fewest 66 = .ok (.iload_n 3, 1) := by decide +kernel
theorem dX9_fewest_67 : decode cX9_fewest 67 = .ok (.if_icmp .ge 74, 3) := by decide +kernel
theorem dX9_fewest_70 : decode cX9_fewest 70 = .ok (.iload_n 1, 1) := by decide +kernel
theorem dX9_fewest_71 : decode cX9_fewest 71 = .ok (.ifCond .le 70, 3) := by decide +kernel
theorem dX9_fewest_74 : decode cX9_fewest 74 = .ok (.aload_n 0, 1) := by decide +kernel
theorem dX9_fewest_75 : decode cX9_fewest 75 = .ok (.iload 4, 2) := by decide +kernel
theorem dX9_fewest_77 : decode cX9_fewest 77 = .ok (.iload_n 1, 1) := by decide +kernel
theorem dX9_fewest_78 : decode cX9_fewest 78 = .ok (.invokevirtual 278, 3) := by decide +kernel
theorem dX9_fewest_81 : decode cX9_fewest 81 = .ok (.ifCond .eq 54, 3) := by decide +kernel
theorem dX9_fewest_84 : decode cX9_fewest 84 = .ok (.iload_n 2, 1) := by decide +kernel
theorem dX9_fewest_85 : decode cX9_fewest 85 = .ok (.ifCond .eq 11, 3) := by decide +kernel
theorem dX9_fewest_88 : decode cX9_fewest 88 = .ok (.aload_n 0, 1) := by decide +kernel
theorem dX9_fewest_89 : decode cX9_fewest 89 = .ok (.iload_n 1, 1) := by decide +kernel
theorem dX9_fewest_90 : decode cX9_fewest 90 = .ok (.invokevirtual 281, 3) := by decide +kernel
theorem dX9_fewest_93 : decode cX9_fewest 93 = .ok (.ifCond .eq 42, 3) := by decide +kernel
theorem dX9_fewest_96 : decode cX9_fewest 96 = .ok (.aload_n 0, 1) := by decide +kernel
theorem dX9_fewest_97 : decode cX9_fewest 97 = .ok (.iload_n 1, 1) := by decide +kernel
theorem dX9_fewest_98 : decode cX9_fewest 98 = .ok (.invokevirtual 284, 3) := by decide +kernel
theorem dX9_fewest_101 : decode cX9_fewest 101 = .ok (.ifCond .eq 34, 3) := by decide +kernel
theorem dX9_fewest_104 : decode cX9_fewest 104 = .ok (.iconst 1, 1) := by decide +kernel
theorem dX9_fewest_105 : decode cX9_fewest 105 = .ok (.istore_n 2, 1) := by decide +kernel
theorem dX9_fewest_106 : decode cX9_fewest 106 = .ok (.iconst 0, 1) := by decide +kernel
theorem dX9_fewest_107 : decode cX9_fewest 107 = .ok (.istore 5, 2) := by decide +kernel
theorem dX9_fewest_109 : decode cX9_fewest 109 = .ok (.iload 5, 2) := by decide +kernel
theorem dX9_fewest_111 : decode cX9_fewest 111 = .ok (.iload_n 1, 1) := by decide +kernel
theorem dX9_fewest_112 : decode cX9_fewest 112 = .ok (.if_icmp .ge 23, 3) := by decide +kernel
theorem dX9_fewest_115 : decode cX9_fewest 115 = .ok (.aload_n 0, 1) := by decide +kernel
theorem dX9_fewest_116 : decode cX9_fewest 116 = .ok (.getfield 51, 3) := by decide +kernel
theorem dX9_fewest_119 : decode cX9_fewest 119 = .ok (.iload 5, 2) := by decide +kernel
theorem dX9_fewest_121 : decode cX9_fewest 121 = .ok (.aload_n 0, 1) := by decide +kernel
theorem dX9_fewest_122 : decode cX9_fewest 122 = .ok (.getfield 54, 3) := by decide +kernel
theorem dX9_fewest_125 : decode cX9_fewest 125 = .ok (.iload 5, 2) := by decide +kernel
theorem dX9_fewest_127 : decode cX9_fewest 127 = .ok (.iaload, 1) := by decide +kernel
theorem dX9_fewest_128 : decode cX9_fewest 128 = .ok (.iastore, 1) := by decide +kernel
theorem dX9_fewest_129 : decode cX9_fewest 129 = .ok (.iinc 5 1, 3) := by decide +kernel
theorem dX9_fewest_132 : decode cX9_fewest 132 = .ok (.goto (-23), 3) := by decide +kernel
theorem dX9_fewest_135 : decode cX9_fewest 135 = .ok (.iinc 4 1, 3) := by decide +kernel
theorem dX9_fewest_138 : decode cX9_fewest 138 = .ok (.goto (-74), 3) := by decide +kernel
theorem dX9_fewest_141 : decode cX9_fewest 141 = .ok (.iload_n 2, 1) := by decide +kernel
theorem dX9_fewest_142 : decode cX9_fewest 142 = .ok (.ifCond .eq 5, 3) := by decide +kernel
theorem dX9_fewest_145 : decode cX9_fewest 145 = .ok (.iload_n 1, 1) := by decide +kernel
theorem dX9_fewest_146 : decode cX9_fewest 146 = .ok (.ireturn, 1) := by decide +kernel
theorem dX9_fewest_147 : decode cX9_fewest 147 = .ok (.iinc 1 1, 3) := by decide +kernel
theorem dX9_fewest_150 : decode cX9_fewest 150 = .ok (.goto (-135), 3) := by decide +kernel
theorem dX9_fewest_153 : decode cX9_fewest 153 = .ok (.iconst (-1), 1) := by decide +kernel
theorem dX9_fewest_154 : decode cX9_fewest 154 = .ok (.ireturn, 1) := by decide +kernel
theorem dX9_carts_0 : decode cX9_carts 0 = .ok (.aload_n 0, 1) := by decide +kernel
theorem dX9_carts_1 : decode cX9_carts 1 = .ok (.iconst 0, 1) := by decide +kernel
theorem dX9_carts_2 : decode cX9_carts 2 = .ok (.putfield 76, 3) := by decide +kernel
theorem dX9_carts_5 : decode cX9_carts 5 = .ok (.aload_n 0, 1) := by decide +kernel
theorem dX9_carts_6 : decode cX9_carts 6 = .ok (.invokevirtual 287, 3) := by decide +kernel
theorem dX9_carts_9 : decode cX9_carts 9 = .ok (.istore_n 2, 1) := by decide +kernel
theorem dX9_carts_10 : decode cX9_carts 10 = .ok (.iload_n 1, 1) := by decide +kernel
theorem dX9_carts_11 : decode cX9_carts 11 = .ok (.iconst (-1), 1) := by decide +kernel
theorem dX9_carts_12 : decode cX9_carts 12 = .ok (.if_icmp .ne 7, 3) := by decide +kernel
theorem dX9_carts_15 : decode cX9_carts 15 = .ok (.iload_n 2, 1) := by decide +kernel
theorem dX9_carts_16 : decode cX9_carts 16 = .ok (.goto 24, 3) := by decide +kernel
theorem dX9_carts_19 : decode cX9_carts 19 = .ok (.iload_n 1, 1) := by decide +kernel
theorem dX9_carts_20 : decode cX9_carts 20 = .ok (.iconst 0, 1) := by decide +kernel
theorem dX9_carts_21 : decode cX9_carts 21 = .ok (.iload_n 2, 1) := by decide +kernel
theorem dX9_carts_22 : decode cX9_carts 22 = .ok (.iconst 1, 1) := by decide +kernel
theorem dX9_carts_23 : decode cX9_carts 23 = .ok (.isub, 1) := by decide +kernel
theorem dX9_carts_24 : decode cX9_carts 24 = .ok (.invokestatic 82, 3) := by decide +kernel
theorem dX9_carts_27 : decode cX9_carts 27 = .ok (.ifCond .eq 12, 3) := by decide +kernel
theorem dX9_carts_30 : decode cX9_carts 30 = .ok (.aload_n 0, 1) := by decide +kernel
theorem dX9_carts_31 : decode cX9_carts 31 = .ok (.getfield 51, 3) := by decide +kernel
theorem dX9_carts_34 : decode cX9_carts 34 = .ok (.iload_n 1, 1) := by decide +kernel
theorem dX9_carts_35 : decode cX9_carts 35 = .ok (.iaload, 1) := by decide +kernel
theorem dX9_carts_36 : decode cX9_carts 36 = .ok (.goto 4, 3) := by decide +kernel
theorem dX9_carts_39 : decode cX9_carts 39 = .ok (.iconst (-1), 1) := by decide +kernel
theorem dX9_carts_40 : decode cX9_carts 40 = .ok (.ireturn, 1) := by decide +kernel
theorem dX9_tell_0 : decode cX9_tell 0 = .ok (.aload_n 0, 1) := by decide +kernel
theorem dX9_tell_1 : decode cX9_tell 1 = .ok (.iconst 0, 1) := by decide +kernel
theorem dX9_tell_2 : decode cX9_tell 2 = .ok (.putfield 76, 3) := by decide +kernel
theorem dX9_tell_5 : decode cX9_tell 5 = .ok (.aload_n 0, 1) := by decide +kernel
theorem dX9_tell_6 : decode cX9_tell 6 = .ok (.getfield 39, 3) := by decide +kernel
theorem dX9_tell_9 : decode cX9_tell 9 = .ok (.iconst 0, 1) := by decide +kernel
theorem dX9_tell_10 : decode cX9_tell 10 = .ok (.iload_n 1, 1) := by decide +kernel
theorem dX9_tell_11 : decode cX9_tell 11 = .ok (.iastore, 1) := by decide +kernel
theorem dX9_tell_12 : decode cX9_tell 12 = .ok (.aload_n 0, 1) := by decide +kernel
theorem dX9_tell_13 : decode cX9_tell 13 = .ok (.getfield 39, 3) := by decide +kernel
theorem dX9_tell_16 : decode cX9_tell 16 = .ok (.iconst 1, 1) := by decide +kernel
theorem dX9_tell_17 : decode cX9_tell 17 = .ok (.iload_n 2, 1) := by decide +kernel
theorem dX9_tell_18 : decode cX9_tell 18 = .ok (.iastore, 1) := by decide +kernel
theorem dX9_tell_19 : decode cX9_tell 19 = .ok (.aload_n 0, 1) := by decide +kernel
theorem dX9_tell_20 : decode cX9_tell 20 = .ok (.getfield 39, 3) := by decide +kernel
theorem dX9_tell_23 : decode cX9_tell 23 = .ok (.iconst 2, 1) := by decide +kernel
theorem dX9_tell_24 : decode cX9_tell 24 = .ok (.iload_n 3, 1) := by decide +kernel
theorem dX9_tell_25 : decode cX9_tell 25 = .ok (.iastore, 1) := by decide +kernel
theorem dX9_tell_26 : decode cX9_tell 26 = .ok (.iconst 1, 1) := by decide +kernel
theorem dX9_tell_27 : decode cX9_tell 27 = .ok (.istore 6, 2) := by decide +kernel
theorem dX9_tell_29 : decode cX9_tell 29 = .ok (.iconst 0, 1) := by decide +kernel
theorem dX9_tell_30 : decode cX9_tell 30 = .ok (.istore 7, 2) := by decide +kernel
theorem dX9_tell_32 : decode cX9_tell 32 = .ok (.iload 7, 2) := by decide +kernel
theorem dX9_tell_34 : decode cX9_tell 34 = .ok (.iconst 3, 1) := by decide +kernel
theorem dX9_tell_35 : decode cX9_tell 35 = .ok (.if_icmp .ge 76, 3) := by decide +kernel
theorem dX9_tell_38 : decode cX9_tell 38 = .ok (.iload 6, 2) := by decide +kernel
theorem dX9_tell_40 : decode cX9_tell 40 = .ok (.ifCond .eq 62, 3) := by decide +kernel
theorem dX9_tell_43 : decode cX9_tell 43 = .ok (.aload_n 0, 1) := by decide +kernel
theorem dX9_tell_44 : decode cX9_tell 44 = .ok (.getfield 39, 3) := by decide +kernel
theorem dX9_tell_47 : decode cX9_tell 47 = .ok (.iload 7, 2) := by decide +kernel
theorem dX9_tell_49 : decode cX9_tell 49 = .ok (.iaload, 1) := by decide +kernel
theorem dX9_tell_50 : decode cX9_tell 50 = .ok (.iconst (-1), 1) := by decide +kernel
theorem dX9_tell_51 : decode cX9_tell 51 = .ok (.if_icmp .eq 47, 3) := by decide +kernel
theorem dX9_tell_54 : decode cX9_tell 54 = .ok (.aload_n 0, 1) := by decide +kernel
theorem dX9_tell_55 : decode cX9_tell 55 = .ok (.iload 7, 2) := by decide +kernel
theorem dX9_tell_57 : decode cX9_tell 57 = .ok (.invokevirtual 201, 3) := by decide +kernel
theorem dX9_tell_60 : decode cX9_tell 60 = .ok (.ifCond .eq 42, 3) := by decide +kernel
theorem dX9_tell_63 : decode cX9_tell 63 = .ok (.aload_n 0, 1) := by decide +kernel
theorem dX9_tell_64 : decode cX9_tell 64 = .ok (.aload_n 0, 1) := by decide +kernel
theorem dX9_tell_65 : decode cX9_tell 65 = .ok (.getfield 39, 3) := by decide +kernel
theorem dX9_tell_68 : decode cX9_tell 68 = .ok (.iload 7, 2) := by decide +kernel
theorem dX9_tell_70 : decode cX9_tell 70 = .ok (.iaload, 1) := by decide +kernel
theorem dX9_tell_71 : decode cX9_tell 71 = .ok (.invokevirtual 187, 3) := by decide +kernel
theorem dX9_tell_74 : decode cX9_tell 74 = .ok (.ifCond .eq 28, 3) := by decide +kernel
theorem dX9_tell_77 : decode cX9_tell 77 = .ok (.aload_n 0, 1) := by decide +kernel
theorem dX9_tell_78 : decode cX9_tell 78 = .ok (.getfield 39, 3) := by decide +kernel
theorem dX9_tell_81 : decode cX9_tell 81 = .ok (.iload 7, 2) := by decide +kernel
theorem dX9_tell_83 : decode cX9_tell 83 = .ok (.iaload, 1) := by decide +kernel
theorem dX9_tell_84 : decode cX9_tell 84 = .ok (.aload_n 0, 1) := by decide +kernel
theorem dX9_tell_85 : decode cX9_tell 85 = .ok (.getfield 39, 3) := by decide +kernel
theorem dX9_tell_88 : decode cX9_tell 88 = .ok (.iload 7, 2) := by decide +kernel
theorem dX9_tell_90 : decode cX9_tell 90 = .ok (.iconst 1, 1) := by decide +kernel
theorem dX9_tell_91 : decode cX9_tell 91 = .ok (.iadd, 1) := by decide +kernel
theorem dX9_tell_92 : decode cX9_tell 92 = .ok (.iconst 3, 1) := by decide +kernel
theorem dX9_tell_93 : decode cX9_tell 93 = .ok (.irem, 1) := by decide +kernel
theorem dX9_tell_94 : decode cX9_tell 94 = .ok (.iaload, 1) := by decide +kernel
theorem dX9_tell_95 : decode cX9_tell 95 = .ok (.if_icmp .eq 7, 3) := by decide +kernel
theorem dX9_tell_98 : decode cX9_tell 98 = .ok (.iconst 1, 1) := by decide +kernel
theorem dX9_tell_99 : decode cX9_tell 99 = .ok (.goto 4, 3) := by decide +kernel
theorem dX9_tell_102 : decode cX9_tell 102 = .ok (.iconst 0, 1) := by decide +kernel
theorem dX9_tell_103 : decode cX9_tell 103 = .ok (.istore 6, 2) := by decide +kernel
theorem dX9_tell_105 : decode cX9_tell 105 = .ok (.iinc 7 1, 3) := by decide +kernel
theorem dX9_tell_108 : decode cX9_tell 108 = .ok (.goto (-76), 3) := by decide +kernel
theorem dX9_tell_111 : decode cX9_tell 111 = .ok (.iload 6, 2) := by decide +kernel
theorem dX9_tell_113 : decode cX9_tell 113 = .ok (.ifCond .ne 6, 3) := by decide +kernel
theorem dX9_tell_116 : decode cX9_tell 116 = .ok (.ldc 191, 2) := by decide +kernel
theorem dX9_tell_118 : decode cX9_tell 118 = .ok (.ireturn, 1) := by decide +kernel
theorem dX9_tell_119 : decode cX9_tell 119 = .ok (.iload 4, 2) := by decide +kernel
theorem dX9_tell_121 : decode cX9_tell 121 = .ok (.iconst 0, 1) := by decide +kernel
theorem dX9_tell_122 : decode cX9_tell 122 = .ok (.bipush 99, 2) := by decide +kernel
theorem dX9_tell_124 : decode cX9_tell 124 = .ok (.invokestatic 82, 3) := by decide +kernel
theorem dX9_tell_127 : decode cX9_tell 127 = .ok (.ifCond .eq 14, 3) := by decide +kernel
theorem dX9_tell_130 : decode cX9_tell 130 = .ok (.iload 5, 2) := by decide +kernel
theorem dX9_tell_132 : decode cX9_tell 132 = .ok (.iconst 0, 1) := by decide +kernel
theorem dX9_tell_133 : decode cX9_tell 133 = .ok (.bipush 120, 2) := by decide +kernel
theorem dX9_tell_135 : decode cX9_tell 135 = .ok (.invokestatic 82, 3) := by decide +kernel
theorem dX9_tell_138 : decode cX9_tell 138 = .ok (.ifCond .ne 6, 3) := by decide +kernel
theorem dX9_tell_141 : decode cX9_tell 141 = .ok (.ldc 86, 2) := by decide +kernel
theorem dX9_tell_143 : decode cX9_tell 143 = .ok (.ireturn, 1) := by decide +kernel
theorem dX9_tell_144 : decode cX9_tell 144 = .ok (.iload_n 1, 1) := by decide +kernel
theorem dX9_tell_145 : decode cX9_tell 145 = .ok (.iconst (-1), 1) := by decide +kernel
theorem dX9_tell_146 : decode cX9_tell 146 = .ok (.if_icmp .ne 16, 3) := by decide +kernel
theorem dX9_tell_149 : decode cX9_tell 149 = .ok (.iload_n 2, 1) := by decide +kernel
theorem dX9_tell_150 : decode cX9_tell 150 = .ok (.iconst (-1), 1) := by decide +kernel
theorem dX9_tell_151 : decode cX9_tell 151 = .ok (.if_icmp .ne 11, 3) := by decide +kernel
theorem dX9_tell_154 : decode cX9_tell 154 = .ok (.iload_n 3, 1) := by decide +kernel
theorem dX9_tell_155 : decode cX9_tell 155 = .ok (.iconst (-1), 1) := by decide +kernel
theorem dX9_tell_156 : decode cX9_tell 156 = .ok (.if_icmp .ne 6, 3) := by decide +kernel
theorem dX9_tell_159 : decode cX9_tell 159 = .ok (.ldc 204, 2) := by decide +kernel
theorem dX9_tell_161 : decode cX9_tell 161 = .ok (.ireturn, 1) := by decide +kernel
theorem dX9_tell_162 : decode cX9_tell 162 = .ok (.aload_n 0, 1) := by decide +kernel
theorem dX9_tell_163 : decode cX9_tell 163 = .ok (.getfield 79, 3) := by decide +kernel
theorem dX9_tell_166 : decode cX9_tell 166 = .ok (.bipush 10, 2) := by decide +kernel
theorem dX9_tell_168 : decode cX9_tell 168 = .ok (.if_icmp .ne 6, 3) := by decide +kernel
theorem dX9_tell_171 : decode cX9_tell 171 = .ok (.ldc 90, 2) := by decide +kernel
theorem dX9_tell_173 : decode cX9_tell 173 = .ok (.ireturn, 1) := by decide +kernel
theorem dX9_tell_174 : decode cX9_tell 174 = .ok (.iconst 5, 1) := by decide +kernel
theorem dX9_tell_175 : decode cX9_tell 175 = .ok (.aload_n 0, 1) := by decide +kernel
theorem dX9_tell_176 : decode cX9_tell 176 = .ok (.getfield 79, 3) := by decide +kernel
theorem dX9_tell_179 : decode cX9_tell 179 = .ok (.imul, 1) := by decide +kernel
theorem dX9_tell_180 : decode cX9_tell 180 = .ok (.istore 7, 2) := by decide +kernel
theorem dX9_tell_182 : decode cX9_tell 182 = .ok (.aload_n 0, 1) := by decide +kernel
theorem dX9_tell_183 : decode cX9_tell 183 = .ok (.getfield 33, 3) := by decide +kernel
theorem dX9_tell_186 : decode cX9_tell 186 = .ok (.iload 7, 2) := by decide +kernel
theorem dX9_tell_188 : decode cX9_tell 188 = .ok (.iload_n 1, 1) := by decide +kernel
theorem dX9_tell_189 : decode cX9_tell 189 = .ok (.iastore, 1) := by decide +kernel
theorem dX9_tell_190 : decode cX9_tell 190 = .ok (.aload_n 0, 1) := by decide +kernel
theorem dX9_tell_191 : decode cX9_tell 191 = .ok (.getfield 33, 3) := by decide +kernel
theorem dX9_tell_194 : decode cX9_tell 194 = .ok (.iload 7, 2) := by decide +kernel
theorem dX9_tell_196 : decode cX9_tell 196 = .ok (.iconst 1, 1) := by decide +kernel
theorem dX9_tell_197 : decode cX9_tell 197 = .ok (.iadd, 1) := by decide +kernel
theorem dX9_tell_198 : decode cX9_tell 198 = .ok (.iload_n 2, 1) := by decide +kernel
theorem dX9_tell_199 : decode cX9_tell 199 = .ok (.iastore, 1) := by decide +kernel
theorem dX9_tell_200 : decode cX9_tell 200 = .ok (.aload_n 0, 1) := by decide +kernel
theorem dX9_tell_201 : decode cX9_tell 201 = .ok (.getfield 33, 3) := by decide +kernel
theorem dX9_tell_204 : decode cX9_tell 204 = .ok (.iload 7, 2) := by decide +kernel
theorem dX9_tell_206 : decode cX9_tell 206 = .ok (.iconst 2, 1) := by decide +kernel
theorem dX9_tell_207 : decode cX9_tell 207 = .ok (.iadd, 1) := by decide +kernel
theorem dX9_tell_208 : decode cX9_tell 208 = .ok (.iload_n 3, 1) := by decide +kernel
theorem dX9_tell_209 : decode cX9_tell 209 = .ok (.iastore, 1) := by decide +kernel
theorem dX9_tell_210 : decode cX9_tell 210 = .ok (.aload_n 0, 1) := by decide +kernel
theorem dX9_tell_211 : decode cX9_tell 211 = .ok (.getfield 33, 3) := by decide +kernel
theorem dX9_tell_214 : decode cX9_tell 214 = .ok (.iload 7, 2) := by decide +kernel
theorem dX9_tell_216 : decode cX9_tell 216 = .ok (.iconst 3, 1) := by decide +kernel
theorem dX9_tell_217 : decode cX9_tell 217 = .ok (.iadd, 1) := by decide +kernel
theorem dX9_tell_218 : decode cX9_tell 218 = .ok (.iload 4, 2) := by decide +kernel
theorem dX9_tell_220 : decode cX9_tell 220 = .ok (.iastore, 1) := by decide +kernel
theorem dX9_tell_221 : decode cX9_tell 221 = .ok (.aload_n 0, 1) := by decide +kernel
theorem dX9_tell_222 : decode cX9_tell 222 = .ok (.getfield 33, 3) := by decide +kernel
theorem dX9_tell_225 : decode cX9_tell 225 = .ok (.iload 7, 2) := by decide +kernel
theorem dX9_tell_227 : decode cX9_tell 227 = .ok (.iconst 4, 1) := by decide +kernel
theorem dX9_tell_228 : decode cX9_tell 228 = .ok (.iadd, 1) := by decide +kernel
theorem dX9_tell_229 : decode cX9_tell 229 = .ok (.iload 5, 2) := by decide +kernel
theorem dX9_tell_231 : decode cX9_tell 231 = .ok (.iastore, 1) := by decide +kernel
theorem dX9_tell_232 : decode cX9_tell 232 = .ok (.aload_n 0, 1) := by decide +kernel
theorem dX9_tell_233 : decode cX9_tell 233 = .ok (.dup, 1) := by decide +kernel
theorem dX9_tell_234 : decode cX9_tell 234 = .ok (.getfield 79, 3) := by decide +kernel
theorem dX9_tell_237 : decode cX9_tell 237 = .ok (.iconst 1, 1) := by decide +kernel
theorem dX9_tell_238 : decode cX9_tell 238 = .ok (.iadd, 1) := by decide +kernel
theorem dX9_tell_239 : decode cX9_tell 239 = .ok (.putfield 79, 3) := by decide +kernel
theorem dX9_tell_242 : decode cX9_tell 242 = .ok (.aload_n 0, 1) := by decide +kernel
theorem dX9_tell_243 : decode cX9_tell 243 = .ok (.getfield 79, 3) := by decide +kernel
theorem dX9_tell_246 : decode cX9_tell 246 = .ok (.ireturn, 1) := by decide +kernel
theorem dX9_tear_0 : decode cX9_tear 0 = .ok (.aload_n 0, 1) := by decide +kernel
theorem dX9_tear_1 : decode cX9_tear 1 = .ok (.iconst 0, 1) := by decide +kernel
theorem dX9_tear_2 : decode cX9_tear 2 = .ok (.putfield 76, 3) := by decide +kernel
theorem dX9_tear_5 : decode cX9_tear 5 = .ok (.aload_n 0, 1) := by decide +kernel
theorem dX9_tear_6 : decode cX9_tear 6 = .ok (.getfield 79, 3) := by decide +kernel
theorem dX9_tear_9 : decode cX9_tear 9 = .ok (.istore_n 1, 1) := by decide +kernel
theorem dX9_tear_10 : decode cX9_tear 10 = .ok (.aload_n 0, 1) := by decide +kernel
theorem dX9_tear_11 : decode cX9_tear 11 = .ok (.iconst 0, 1) := by decide +kernel
theorem dX9_tear_12 : decode cX9_tear 12 = .ok (.putfield 79, 3) := by decide +kernel
theorem dX9_tear_15 : decode cX9_tear 15 = .ok (.iload_n 1, 1) := by decide +kernel
theorem dX9_tear_16 : decode cX9_tear 16 = .ok (.ireturn, 1) := by decide +kernel
theorem dX9_wrongOne_0 : decode cX9_wrongOne 0 = .ok (.iconst 0, 1) := by decide +kernel
theorem dX9_wrongOne_1 : decode cX9_wrongOne 1 = .ok (.istore_n 1, 1) := by decide +kernel
theorem dX9_wrongOne_2 : decode cX9_wrongOne 2 = .ok (.iload_n 1, 1) := by decide +kernel
theorem dX9_wrongOne_3 : decode cX9_wrongOne 3 = .ok (.aload_n 0, 1) := by decide +kernel
theorem dX9_wrongOne_4 : decode cX9_wrongOne 4 = .ok (.getfield 79, 3) := by decide +kernel
theorem dX9_wrongOne_7 : decode cX9_wrongOne 7 = .ok (.if_icmp .ge 113, 3) := by decide +kernel
theorem dX9_wrongOne_10 : decode cX9_wrongOne 10 = .ok (.iconst 5, 1) := by decide +kernel
theorem dX9_wrongOne_11 : decode cX9_wrongOne 11 = .ok (.iload_n 1, 1) := by decide +kernel
theorem dX9_wrongOne_12 : decode cX9_wrongOne 12 = .ok (.imul, 1) := by decide +kernel
theorem dX9_wrongOne_13 : decode cX9_wrongOne 13 = .ok (.istore_n 2, 1) := by decide +kernel
theorem dX9_wrongOne_14 : decode cX9_wrongOne 14 = .ok (.iconst 0, 1) := by decide +kernel
theorem dX9_wrongOne_15 : decode cX9_wrongOne 15 = .ok (.istore_n 3, 1) := by decide +kernel
theorem dX9_wrongOne_16 : decode cX9_wrongOne 16 = .ok (.iload_n 3, 1) := by decide +kernel
theorem dX9_wrongOne_17 : decode cX9_wrongOne 17 = .ok (.iconst 3, 1) := by decide +kernel
theorem dX9_wrongOne_18 : decode cX9_wrongOne 18 = .ok (.if_icmp .ge 23, 3) := by decide +kernel
theorem dX9_wrongOne_21 : decode cX9_wrongOne 21 = .ok (.aload_n 0, 1) := by decide +kernel
theorem dX9_wrongOne_22 : decode cX9_wrongOne 22 = .ok (.getfield 39, 3) := by decide +kernel
theorem dX9_wrongOne_25 : decode cX9_wrongOne 25 = .ok (.iload_n 3, 1) := by decide +kernel
theorem dX9_wrongOne_26 : decode cX9_wrongOne 26 = .ok (.aload_n 0, 1) := by decide +kernel
theorem dX9_wrongOne_27 : decode cX9_wrongOne 27 = .ok (.getfield 33, 3) := by decide +kernel
theorem dX9_wrongOne_30 : decode cX9_wrongOne 30 = .ok (.iload_n 2, 1) := by decide +kernel
theorem dX9_wrongOne_31 : decode cX9_wrongOne 31 = .ok (.iload_n 3, 1) := by decide +kernel
theorem dX9_wrongOne_32 : decode cX9_wrongOne 32 = .ok (.iadd, 1) := by decide +kernel
theorem dX9_wrongOne_33 : decode cX9_wrongOne 33 = .ok (.iaload, 1) := by decide +kernel
theorem dX9_wrongOne_34 : decode cX9_wrongOne 34 = .ok (.iastore, 1) := by decide +kernel
theorem dX9_wrongOne_35 : decode cX9_wrongOne 35 = .ok (.iinc 3 1, 3) := by decide +kernel
theorem dX9_wrongOne_38 : decode cX9_wrongOne 38 = .ok (.goto (-22), 3) := by decide +kernel
theorem dX9_wrongOne_41 : decode cX9_wrongOne 41 = .ok (.iconst 0, 1) := by decide +kernel
theorem dX9_wrongOne_42 : decode cX9_wrongOne 42 = .ok (.istore_n 3, 1) := by decide +kernel
theorem dX9_wrongOne_43 : decode cX9_wrongOne 43 = .ok (.iload_n 3, 1) := by decide +kernel
theorem dX9_wrongOne_44 : decode cX9_wrongOne 44 = .ok (.bipush 6, 2) := by decide +kernel
theorem dX9_wrongOne_46 : decode cX9_wrongOne 46 = .ok (.if_icmp .ge 42, 3) := by decide +kernel
theorem dX9_wrongOne_49 : decode cX9_wrongOne 49 = .ok (.aload_n 0, 1) := by decide +kernel
theorem dX9_wrongOne_50 : decode cX9_wrongOne 50 = .ok (.getfield 36, 3) := by decide +kernel
theorem dX9_wrongOne_53 : decode cX9_wrongOne 53 = .ok (.iload_n 3, 1) := by decide +kernel
theorem dX9_wrongOne_54 : decode cX9_wrongOne 54 = .ok (.iload_n 3, 1) := by decide +kernel
theorem dX9_wrongOne_55 : decode cX9_wrongOne 55 = .ok (.aload_n 0, 1) := by decide +kernel
theorem dX9_wrongOne_56 : decode cX9_wrongOne 56 = .ok (.getfield 17, 3) := by decide +kernel
theorem dX9_wrongOne_59 : decode cX9_wrongOne 59 = .ok (.iconst 3, 1) := by decide +kernel
theorem dX9_wrongOne_60 : decode cX9_wrongOne 60 = .ok (.iaload, 1) := by decide +kernel
theorem dX9_wrongOne_61 : decode cX9_wrongOne 61 = .ok (.if_icmp .ge 19, 3) := by decide +kernel
theorem dX9_wrongOne_64 : decode cX9_wrongOne 64 = .ok (.aload_n 0, 1) := by decide +kernel
theorem dX9_wrongOne_65 : decode cX9_wrongOne 65 = .ok (.getfield 17, 3) := by decide +kernel
theorem dX9_wrongOne_68 : decode cX9_wrongOne 68 = .ok (.bipush 8, 2) := by decide +kernel
theorem dX9_wrongOne_70 : decode cX9_wrongOne 70 = .ok (.iconst 4, 1) := by decide +kernel
theorem dX9_wrongOne_71 : decode cX9_wrongOne 71 = .ok (.iload_n 3, 1) := by decide +kernel
theorem dX9_wrongOne_72 : decode cX9_wrongOne 72 = .ok (.imul, 1) := by decide +kernel
theorem dX9_wrongOne_73 : decode cX9_wrongOne 73 = .ok (.iadd, 1) := by decide +kernel
theorem dX9_wrongOne_74 : decode cX9_wrongOne 74 = .ok (.iconst 1, 1) := by decide +kernel
theorem dX9_wrongOne_75 : decode cX9_wrongOne 75 = .ok (.iadd, 1) := by decide +kernel
theorem dX9_wrongOne_76 : decode cX9_wrongOne 76 = .ok (.iaload, 1) := by decide +kernel
theorem dX9_wrongOne_77 : decode cX9_wrongOne 77 = .ok (.goto 4, 3) := by decide +kernel
theorem dX9_wrongOne_80 : decode cX9_wrongOne 80 = .ok (.iconst 0, 1) := by decide +kernel
theorem dX9_wrongOne_81 : decode cX9_wrongOne 81 = .ok (.iastore, 1) := by decide +kernel
theorem dX9_wrongOne_82 : decode cX9_wrongOne 82 = .ok (.iinc 3 1, 3) := by decide +kernel
theorem dX9_wrongOne_85 : decode cX9_wrongOne 85 = .ok (.goto (-42), 3) := by decide +kernel
theorem dX9_wrongOne_88 : decode cX9_wrongOne 88 = .ok (.aload_n 0, 1) := by decide +kernel
theorem dX9_wrongOne_89 : decode cX9_wrongOne 89 = .ok (.aload_n 0, 1) := by decide +kernel
theorem dX9_wrongOne_90 : decode cX9_wrongOne 90 = .ok (.getfield 33, 3) := by decide +kernel
theorem dX9_wrongOne_93 : decode cX9_wrongOne 93 = .ok (.iload_n 2, 1) := by decide +kernel
theorem dX9_wrongOne_94 : decode cX9_wrongOne 94 = .ok (.iconst 3, 1) := by decide +kernel
theorem dX9_wrongOne_95 : decode cX9_wrongOne 95 = .ok (.iadd, 1) := by decide +kernel
theorem dX9_wrongOne_96 : decode cX9_wrongOne 96 = .ok (.iaload, 1) := by decide +kernel
theorem dX9_wrongOne_97 : decode cX9_wrongOne 97 = .ok (.iconst 0, 1) := by decide +kernel
theorem dX9_wrongOne_98 : decode cX9_wrongOne 98 = .ok (.invokevirtual 215, 3) := by decide +kernel
theorem dX9_wrongOne_101 : decode cX9_wrongOne 101 = .ok (.aload_n 0, 1) := by decide +kernel
theorem dX9_wrongOne_102 : decode cX9_wrongOne 102 = .ok (.getfield 33, 3) := by decide +kernel
theorem dX9_wrongOne_105 : decode cX9_wrongOne 105 = .ok (.iload_n 2, 1) := by decide +kernel
theorem dX9_wrongOne_106 : decode cX9_wrongOne 106 = .ok (.iconst 4, 1) := by decide +kernel
theorem dX9_wrongOne_107 : decode cX9_wrongOne 107 = .ok (.iadd, 1) := by decide +kernel
theorem dX9_wrongOne_108 : decode cX9_wrongOne 108 = .ok (.iaload, 1) := by decide +kernel
theorem dX9_wrongOne_109 : decode cX9_wrongOne 109 = .ok (.if_icmp .eq 5, 3) := by decide +kernel
theorem dX9_wrongOne_112 : decode cX9_wrongOne 112 = .ok (.iload_n 1, 1) := by decide +kernel
theorem dX9_wrongOne_113 : decode cX9_wrongOne 113 = .ok (.ireturn, 1) := by decide +kernel
theorem dX9_wrongOne_114 : decode cX9_wrongOne 114 = .ok (.iinc 1 1, 3) := by decide +kernel
theorem dX9_wrongOne_117 : decode cX9_wrongOne 117 = .ok (.goto (-115), 3) := by decide +kernel
theorem dX9_wrongOne_120 : decode cX9_wrongOne 120 = .ok (.iconst (-1), 1) := by decide +kernel
theorem dX9_wrongOne_121 : decode cX9_wrongOne 121 = .ok (.ireturn, 1) := by decide +kernel
theorem dX9_pulls_0 : decode cX9_pulls 0 = .ok (.aload_n 0, 1) := by decide +kernel
theorem dX9_pulls_1 : decode cX9_pulls 1 = .ok (.iconst 0, 1) := by decide +kernel
theorem dX9_pulls_2 : decode cX9_pulls 2 = .ok (.putfield 76, 3) := by decide +kernel
theorem dX9_pulls_5 : decode cX9_pulls 5 = .ok (.aload_n 0, 1) := by decide +kernel
theorem dX9_pulls_6 : decode cX9_pulls 6 = .ok (.iload_n 1, 1) := by decide +kernel
theorem dX9_pulls_7 : decode cX9_pulls 7 = .ok (.invokevirtual 187, 3) := by decide +kernel
theorem dX9_pulls_10 : decode cX9_pulls 10 = .ok (.ifCond .ne 6, 3) := by decide +kernel
theorem dX9_pulls_13 : decode cX9_pulls 13 = .ok (.ldc 191, 2) := by decide +kernel
theorem dX9_pulls_15 : decode cX9_pulls 15 = .ok (.ireturn, 1) := by decide +kernel
theorem dX9_pulls_16 : decode cX9_pulls 16 = .ok (.aload_n 0, 1) := by decide +kernel
theorem dX9_pulls_17 : decode cX9_pulls 17 = .ok (.getfield 17, 3) := by decide +kernel
theorem dX9_pulls_20 : decode cX9_pulls 20 = .ok (.bipush 8, 2) := by decide +kernel
theorem dX9_pulls_22 : decode cX9_pulls 22 = .ok (.iconst 4, 1) := by decide +kernel
theorem dX9_pulls_23 : decode cX9_pulls 23 = .ok (.iload_n 1, 1) := by decide +kernel
theorem dX9_pulls_24 : decode cX9_pulls 24 = .ok (.imul, 1) := by decide +kernel
theorem dX9_pulls_25 : decode cX9_pulls 25 = .ok (.iadd, 1) := by decide +kernel
theorem dX9_pulls_26 : decode cX9_pulls 26 = .ok (.iaload, 1) := by decide +kernel
theorem dX9_pulls_27 : decode cX9_pulls 27 = .ok (.istore_n 2, 1) := by decide +kernel
theorem dX9_pulls_28 : decode cX9_pulls 28 = .ok (.iconst 0, 1) := by decide +kernel
theorem dX9_pulls_29 : decode cX9_pulls 29 = .ok (.istore_n 3, 1) := by decide +kernel
theorem dX9_pulls_30 : decode cX9_pulls 30 = .ok (.iconst 1, 1) := by decide +kernel
theorem dX9_pulls_31 : decode cX9_pulls 31 = .ok (.istore 4, 2) := by decide +kernel
theorem dX9_pulls_33 : decode cX9_pulls 33 = .ok (.iload 4, 2) := by decide +kernel
theorem dX9_pulls_35 : decode cX9_pulls 35 = .ok (.bipush 31, 2) := by decide +kernel
theorem dX9_pulls_37 : decode cX9_pulls 37 = .ok (.if_icmp .ge 43, 3) := by decide +kernel
theorem dX9_pulls_40 : decode cX9_pulls 40 = .ok (.aload_n 0, 1) := by decide +kernel
theorem dX9_pulls_41 : decode cX9_pulls 41 = .ok (.getfield 17, 3) := by decide +kernel
theorem dX9_pulls_44 : decode cX9_pulls 44 = .ok (.bipush 8, 2) := by decide +kernel
theorem dX9_pulls_46 : decode cX9_pulls 46 = .ok (.iconst 4, 1) := by decide +kernel
theorem dX9_pulls_47 : decode cX9_pulls 47 = .ok (.iload_n 1, 1) := by decide +kernel
theorem dX9_pulls_48 : decode cX9_pulls 48 = .ok (.imul, 1) := by decide +kernel
theorem dX9_pulls_49 : decode cX9_pulls 49 = .ok (.iadd, 1) := by decide +kernel
theorem dX9_pulls_50 : decode cX9_pulls 50 = .ok (.iload 4, 2) := by decide +kernel
theorem dX9_pulls_52 : decode cX9_pulls 52 = .ok (.iastore, 1) := by decide +kernel
theorem dX9_pulls_53 : decode cX9_pulls 53 = .ok (.iload_n 3, 1) := by decide +kernel
theorem dX9_pulls_54 : decode cX9_pulls 54 = .ok (.aload_n 0, 1) := by decide +kernel
theorem dX9_pulls_55 : decode cX9_pulls 55 = .ok (.invokevirtual 290, 3) := by decide +kernel
theorem dX9_pulls_58 : decode cX9_pulls 58 = .ok (.iconst (-1), 1) := by decide +kernel
theorem dX9_pulls_59 : decode cX9_pulls 59 = .ok (.if_icmp .ne 12, 3) := by decide +kernel
theorem dX9_pulls_62 : decode cX9_pulls 62 = .ok (.iconst 1, 1) := by decide +kernel
theorem dX9_pulls_63 : decode cX9_pulls 63 = .ok (.iload 4, 2) := by decide +kernel
theorem dX9_pulls_65 : decode cX9_pulls 65 = .ok (.iconst 1, 1) := by decide +kernel
theorem dX9_pulls_66 : decode cX9_pulls 66 = .ok (.isub, 1) := by decide +kernel
theorem dX9_pulls_67 : decode cX9_pulls 67 = .ok (.ishl, 1) := by decide +kernel
theorem dX9_pulls_68 : decode cX9_pulls 68 = .ok (.goto 4, 3) := by decide +kernel
theorem dX9_pulls_71 : decode cX9_pulls 71 = .ok (.iconst 0, 1) := by decide +kernel
theorem dX9_pulls_72 : decode cX9_pulls 72 = .ok (.ior, 1) := by decide +kernel
theorem dX9_pulls_73 : decode cX9_pulls 73 = .ok (.istore_n 3, 1) := by decide +kernel
theorem dX9_pulls_74 : decode cX9_pulls 74 = .ok (.iinc 4 1, 3) := by decide +kernel
theorem dX9_pulls_77 : decode cX9_pulls 77 = .ok (.goto (-44), 3) := by decide +kernel
theorem dX9_pulls_80 : decode cX9_pulls 80 = .ok (.aload_n 0, 1) := by decide +kernel
theorem dX9_pulls_81 : decode cX9_pulls 81 = .ok (.getfield 17, 3) := by decide +kernel
theorem dX9_pulls_84 : decode cX9_pulls 84 = .ok (.bipush 8, 2) := by decide +kernel
theorem dX9_pulls_86 : decode cX9_pulls 86 = .ok (.iconst 4, 1) := by decide +kernel
theorem dX9_pulls_87 : decode cX9_pulls 87 = .ok (.iload_n 1, 1) := by decide +kernel
theorem dX9_pulls_88 : decode cX9_pulls 88 = .ok (.imul, 1) := by decide +kernel
theorem dX9_pulls_89 : decode cX9_pulls 89 = .ok (.iadd, 1) := by decide +kernel
theorem dX9_pulls_90 : decode cX9_pulls 90 = .ok (.iload_n 2, 1) := by decide +kernel
theorem dX9_pulls_91 : decode cX9_pulls 91 = .ok (.iastore, 1) := by decide +kernel
theorem dX9_pulls_92 : decode cX9_pulls 92 = .ok (.iload_n 3, 1) := by decide +kernel
theorem dX9_pulls_93 : decode cX9_pulls 93 = .ok (.ireturn, 1) := by decide +kernel
theorem dX9_sham_0 : decode cX9_sham 0 = .ok (.aload_n 0, 1) := by decide +kernel
theorem dX9_sham_1 : decode cX9_sham 1 = .ok (.iconst 0, 1) := by decide +kernel
theorem dX9_sham_2 : decode cX9_sham 2 = .ok (.putfield 76, 3) := by decide +kernel
theorem dX9_sham_5 : decode cX9_sham 5 = .ok (.iconst 0, 1) := by decide +kernel
theorem dX9_sham_6 : decode cX9_sham 6 = .ok (.istore_n 1, 1) := by decide +kernel
theorem dX9_sham_7 : decode cX9_sham 7 = .ok (.iconst 0, 1) := by decide +kernel
theorem dX9_sham_8 : decode cX9_sham 8 = .ok (.istore_n 2, 1) := by decide +kernel
theorem dX9_sham_9 : decode cX9_sham 9 = .ok (.iload_n 2, 1) := by decide +kernel
theorem dX9_sham_10 : decode cX9_sham 10 = .ok (.aload_n 0, 1) := by decide +kernel
theorem dX9_sham_11 : decode cX9_sham 11 = .ok (.getfield 17, 3) := by decide +kernel
theorem dX9_sham_14 : decode cX9_sham 14 = .ok (.iconst 3, 1) := by decide +kernel
theorem dX9_sham_15 : decode cX9_sham 15 = .ok (.iaload, 1) := by decide +kernel
theorem dX9_sham_16 : decode cX9_sham 16 = .ok (.if_icmp .ge 32, 3) := by decide +kernel
theorem dX9_sham_19 : decode cX9_sham 19 = .ok (.aload_n 0, 1) := by decide +kernel
theorem dX9_sham_20 : decode cX9_sham 20 = .ok (.iload_n 2, 1) := by decide +kernel
theorem dX9_sham_21 : decode cX9_sham 21 = .ok (.putfield 45, 3) := by decide +kernel
theorem dX9_sham_24 : decode cX9_sham 24 = .ok (.iload_n 1, 1) := by decide +kernel
theorem dX9_sham_25 : decode cX9_sham 25 = .ok (.aload_n 0, 1) := by decide +kernel
theorem dX9_sham_26 : decode cX9_sham 26 = .ok (.invokevirtual 290, 3) := by decide +kernel
theorem dX9_sham_29 : decode cX9_sham 29 = .ok (.iconst (-1), 1) := by decide +kernel
theorem dX9_sham_30 : decode cX9_sham 30 = .ok (.if_icmp .ne 9, 3) := by decide +kernel
theorem dX9_sham_33 : decode cX9_sham 33 = .ok (.iconst 1, 1) := by decide +kernel
theorem dX9_sham_34 : decode cX9_sham 34 = .ok (.iload_n 2, 1) := by decide +kernel
theorem dX9_sham_35 : decode cX9_sham 35 = .ok (.ishl, 1) := by decide +kernel
theorem dX9_sham_36 : decode cX9_sham 36 = .ok (.goto 4, 3) := by decide +kernel
theorem dX9_sham_39 : decode cX9_sham 39 = .ok (.iconst 0, 1) := by decide +kernel
theorem dX9_sham_40 : decode cX9_sham 40 = .ok (.ior, 1) := by decide +kernel
theorem dX9_sham_41 : decode cX9_sham 41 = .ok (.istore_n 1, 1) := by decide +kernel
theorem dX9_sham_42 : decode cX9_sham 42 = .ok (.iinc 2 1, 3) := by decide +kernel
theorem dX9_sham_45 : decode cX9_sham 45 = .ok (.goto (-36), 3) := by decide +kernel
theorem dX9_sham_48 : decode cX9_sham 48 = .ok (.aload_n 0, 1) := by decide +kernel
theorem dX9_sham_49 : decode cX9_sham 49 = .ok (.iconst (-1), 1) := by decide +kernel
theorem dX9_sham_50 : decode cX9_sham 50 = .ok (.putfield 45, 3) := by decide +kernel
theorem dX9_sham_53 : decode cX9_sham 53 = .ok (.iload_n 1, 1) := by decide +kernel
theorem dX9_sham_54 : decode cX9_sham 54 = .ok (.ireturn, 1) := by decide +kernel
theorem dX9_judge_0 : decode cX9_judge 0 = .ok (.aload_n 0, 1) := by decide +kernel
theorem dX9_judge_1 : decode cX9_judge 1 = .ok (.iconst 0, 1) := by decide +kernel
theorem dX9_judge_2 : decode cX9_judge 2 = .ok (.putfield 76, 3) := by decide +kernel
theorem dX9_judge_5 : decode cX9_judge 5 = .ok (.aload_n 0, 1) := by decide +kernel
theorem dX9_judge_6 : decode cX9_judge 6 = .ok (.invokevirtual 290, 3) := by decide +kernel
theorem dX9_judge_9 : decode cX9_judge 9 = .ok (.ireturn, 1) := by decide +kernel
theorem dX9_seed_0 : decode cX9_seed 0 = .ok (.aload_n 0, 1) := by decide +kernel
theorem dX9_seed_1 : decode cX9_seed 1 = .ok (.iconst 0, 1) := by decide +kernel
theorem dX9_seed_2 : decode cX9_seed 2 = .ok (.putfield 76, 3) := by decide +kernel
theorem dX9_seed_5 : decode cX9_seed 5 = .ok (.iload_n 1, 1) := by decide +kernel
theorem dX9_seed_6 : decode cX9_seed 6 = .ok (.ifCond .ge 6, 3) := by decide +kernel
theorem dX9_seed_9 : decode cX9_seed 9 = .ok (.ldc 86, 2) := by decide +kernel
theorem dX9_seed_11 : decode cX9_seed 11 = .ok (.ireturn, 1) := by decide +kernel
theorem dX9_seed_12 : decode cX9_seed 12 = .ok (.aload_n 0, 1) := by decide +kernel
theorem dX9_seed_13 : decode cX9_seed 13 = .ok (.getfield 23, 3) := by decide +kernel
theorem dX9_seed_16 : decode cX9_seed 16 = .ok (.bipush 12, 2) := by decide +kernel
theorem dX9_seed_18 : decode cX9_seed 18 = .ok (.iaload, 1) := by decide +kernel
theorem dX9_seed_19 : decode cX9_seed 19 = .ok (.istore_n 2, 1) := by decide +kernel
theorem dX9_seed_20 : decode cX9_seed 20 = .ok (.aload_n 0, 1) := by decide +kernel
theorem dX9_seed_21 : decode cX9_seed 21 = .ok (.getfield 23, 3) := by decide +kernel
theorem dX9_seed_24 : decode cX9_seed 24 = .ok (.bipush 12, 2) := by decide +kernel
theorem dX9_seed_26 : decode cX9_seed 26 = .ok (.iload_n 1, 1) := by decide +kernel
theorem dX9_seed_27 : decode cX9_seed 27 = .ok (.iastore, 1) := by decide +kernel
theorem dX9_seed_28 : decode cX9_seed 28 = .ok (.iload_n 2, 1) := by decide +kernel
theorem dX9_seed_29 : decode cX9_seed 29 = .ok (.ireturn, 1) := by decide +kernel
theorem dX9_keep_0 : decode cX9_keep 0 = .ok (.aload_n 0, 1) := by decide +kernel
theorem dX9_keep_1 : decode cX9_keep 1 = .ok (.iconst 0, 1) := by decide +kernel
theorem dX9_keep_2 : decode cX9_keep 2 = .ok (.putfield 76, 3) := by decide +kernel
theorem dX9_keep_5 : decode cX9_keep 5 = .ok (.iload_n 1, 1) := by decide +kernel
theorem dX9_keep_6 : decode cX9_keep 6 = .ok (.iconst 0, 1) := by decide +kernel
theorem dX9_keep_7 : decode cX9_keep 7 = .ok (.iconst 1, 1) := by decide +kernel
theorem dX9_keep_8 : decode cX9_keep 8 = .ok (.invokestatic 82, 3) := by decide +kernel
theorem dX9_keep_11 : decode cX9_keep 11 = .ok (.ifCond .ne 6, 3) := by decide +kernel
theorem dX9_keep_14 : decode cX9_keep 14 = .ok (.ldc 191, 2) := by decide +kernel
theorem dX9_keep_16 : decode cX9_keep 16 = .ok (.ireturn, 1) := by decide +kernel
theorem dX9_keep_17 : decode cX9_keep 17 = .ok (.iconst 0, 1) := by decide +kernel
theorem dX9_keep_18 : decode cX9_keep 18 = .ok (.istore_n 2, 1) := by decide +kernel
theorem dX9_keep_19 : decode cX9_keep 19 = .ok (.iload_n 2, 1) := by decide +kernel
theorem dX9_keep_20 : decode cX9_keep 20 = .ok (.bipush 13, 2) := by decide +kernel
theorem dX9_keep_22 : decode cX9_keep 22 = .ok (.if_icmp .ge 26, 3) := by decide +kernel
theorem dX9_keep_25 : decode cX9_keep 25 = .ok (.aload_n 0, 1) := by decide +kernel
theorem dX9_keep_26 : decode cX9_keep 26 = .ok (.getfield 26, 3) := by decide +kernel
theorem dX9_keep_29 : decode cX9_keep 29 = .ok (.bipush 13, 2) := by decide +kernel
theorem dX9_keep_31 : decode cX9_keep 31 = .ok (.iload_n 1, 1) := by decide +kernel
theorem dX9_keep_32 : decode cX9_keep 32 = .ok (.imul, 1) := by decide +kernel
theorem dX9_keep_33 : decode cX9_keep 33 = .ok (.iload_n 2, 1) := by decide +kernel
theorem dX9_keep_34 : decode cX9_keep 34 = .ok (.iadd, 1) := by decide +kernel
theorem dX9_keep_35 : decode cX9_keep 35 = .ok (.aload_n 0, 1) := by decide +kernel
theorem dX9_keep_36 : decode cX9_keep 36 = .ok (.getfield 23, 3) := by decide +kernel
theorem dX9_keep_39 : decode cX9_keep 39 = .ok (.iload_n 2, 1) := by decide +kernel
theorem dX9_keep_40 : decode cX9_keep 40 = .ok (.iaload, 1) := by decide +kernel
theorem dX9_keep_41 : decode cX9_keep 41 = .ok (.iastore, 1) := by decide +kernel
theorem dX9_keep_42 : decode cX9_keep 42 = .ok (.iinc 2 1, 3) := by decide +kernel
theorem dX9_keep_45 : decode cX9_keep 45 = .ok (.goto (-26), 3) := by decide +kernel
theorem dX9_keep_48 : decode cX9_keep 48 = .ok (.aload_n 0, 1) := by decide +kernel
theorem dX9_keep_49 : decode cX9_keep 49 = .ok (.getfield 29, 3) := by decide +kernel
theorem dX9_keep_52 : decode cX9_keep 52 = .ok (.iload_n 1, 1) := by decide +kernel
theorem dX9_keep_53 : decode cX9_keep 53 = .ok (.iconst 1, 1) := by decide +kernel
theorem dX9_keep_54 : decode cX9_keep 54 = .ok (.bastore, 1) := by decide +kernel
theorem dX9_keep_55 : decode cX9_keep 55 = .ok (.iconst 1, 1) := by decide +kernel
theorem dX9_keep_56 : decode cX9_keep 56 = .ok (.ireturn, 1) := by decide +kernel
theorem dX9_goBack_0 : decode cX9_goBack 0 = .ok (.aload_n 0, 1) := by decide +kernel
theorem dX9_goBack_1 : decode cX9_goBack 1 = .ok (.iconst 0, 1) := by decide +kernel
theorem dX9_goBack_2 : decode cX9_goBack 2 = .ok (.putfield 76, 3) := by decide +kernel
theorem dX9_goBack_5 : decode cX9_goBack 5 = .ok (.iload_n 1, 1) := by decide +kernel
theorem dX9_goBack_6 : decode cX9_goBack 6 = .ok (.iconst 0, 1) := by decide +kernel
theorem dX9_goBack_7 : decode cX9_goBack 7 = .ok (.iconst 1, 1) := by decide +kernel
theorem dX9_goBack_8 : decode cX9_goBack 8 = .ok (.invokestatic 82, 3) := by decide +kernel
theorem dX9_goBack_11 : decode cX9_goBack 11 = .ok (.ifCond .ne 6, 3) := by decide +kernel
theorem dX9_goBack_14 : decode cX9_goBack 14 = .ok (.ldc 191, 2) := by decide +kernel
theorem dX9_goBack_16 : decode cX9_goBack 16 = .ok (.ireturn, 1) := by decide +kernel
theorem dX9_goBack_17 : decode cX9_goBack 17 = .ok (.aload_n 0, 1) := by decide +kernel
theorem dX9_goBack_18 : decode cX9_goBack 18 = .ok (.getfield 29, 3) := by decide +kernel
theorem dX9_goBack_21 : decode cX9_goBack 21 = .ok (.iload_n 1, 1) := by decide +kernel
theorem dX9_goBack_22 : decode cX9_goBack 22 = .ok (.baload, 1) := by decide +kernel
theorem dX9_goBack_23 : decode cX9_goBack 23 = .ok (.ifCond .ne 6, 3) := by decide +kernel
theorem dX9_goBack_26 : decode cX9_goBack 26 = .ok (.ldc 204, 2) := by decide +kernel
theorem dX9_goBack_28 : decode cX9_goBack 28 = .ok (.ireturn, 1) := by decide +kernel
theorem dX9_goBack_29 : decode cX9_goBack 29 = .ok (.iconst 0, 1) := by decide +kernel
theorem dX9_goBack_30 : decode cX9_goBack 30 = .ok (.istore_n 2, 1) := by decide +kernel
theorem dX9_goBack_31 : decode cX9_goBack 31 = .ok (.iload_n 2, 1) := by decide +kernel
theorem dX9_goBack_32 : decode cX9_goBack 32 = .ok (.bipush 13, 2) := by decide +kernel
theorem dX9_goBack_34 : decode cX9_goBack 34 = .ok (.if_icmp .ge 26, 3) := by decide +kernel
theorem dX9_goBack_37 : decode cX9_goBack 37 = .ok (.aload_n 0, 1) := by decide +kernel
theorem dX9_goBack_38 : decode cX9_goBack 38 = .ok (.getfield 23, 3) := by decide +kernel
theorem dX9_goBack_41 : decode cX9_goBack 41 = .ok (.iload_n 2, 1) := by decide +kernel
theorem dX9_goBack_42 : decode cX9_goBack 42 = .ok (.aload_n 0, 1) := by decide +kernel
theorem dX9_goBack_43 : decode cX9_goBack 43 = .ok (.getfield 26, 3) := by decide +kernel
theorem dX9_goBack_46 : decode cX9_goBack 46 = .ok (.bipush 13, 2) := by decide +kernel
theorem dX9_goBack_48 : decode cX9_goBack 48 = .ok (.iload_n 1, 1) := by decide +kernel
theorem dX9_goBack_49 : decode cX9_goBack 49 = .ok (.imul, 1) := by decide +kernel
theorem dX9_goBack_50 : decode cX9_goBack 50 = .ok (.iload_n 2, 1) := by decide +kernel
theorem dX9_goBack_51 : decode cX9_goBack 51 = .ok (.iadd, 1) := by decide +kernel
theorem dX9_goBack_52 : decode cX9_goBack 52 = .ok (.iaload, 1) := by decide +kernel
theorem dX9_goBack_53 : decode cX9_goBack 53 = .ok (.iastore, 1) := by decide +kernel
theorem dX9_goBack_54 : decode cX9_goBack 54 = .ok (.iinc 2 1, 3) := by decide +kernel
theorem dX9_goBack_57 : decode cX9_goBack 57 = .ok (.goto (-26), 3) := by decide +kernel
theorem dX9_goBack_60 : decode cX9_goBack 60 = .ok (.iconst 1, 1) := by decide +kernel
theorem dX9_goBack_61 : decode cX9_goBack 61 = .ok (.ireturn, 1) := by decide +kernel
theorem dJ9_max_7cf53_0 : decode cJ9_max_7cf53 0 = .ok (.iload_n 0, 1) := by decide +kernel
theorem dJ9_max_7cf53_1 : decode cJ9_max_7cf53 1 = .ok (.iload_n 1, 1) := by decide +kernel
theorem dJ9_max_7cf53_2 : decode cJ9_max_7cf53 2 = .ok (.if_icmp .lt 7, 3) := by decide +kernel
theorem dJ9_max_7cf53_5 : decode cJ9_max_7cf53 5 = .ok (.iload_n 0, 1) := by decide +kernel
theorem dJ9_max_7cf53_6 : decode cJ9_max_7cf53 6 = .ok (.goto 4, 3) := by decide +kernel
theorem dJ9_max_7cf53_9 : decode cJ9_max_7cf53 9 = .ok (.iload_n 1, 1) := by decide +kernel
theorem dJ9_max_7cf53_10 : decode cJ9_max_7cf53 10 = .ok (.ireturn, 1) := by decide +kernel
theorem dJ9_min_7cf53_0 : decode cJ9_min_7cf53 0 = .ok (.iload_n 0, 1) := by decide +kernel
theorem dJ9_min_7cf53_1 : decode cJ9_min_7cf53 1 = .ok (.iload_n 1, 1) := by decide +kernel
theorem dJ9_min_7cf53_2 : decode cJ9_min_7cf53 2 = .ok (.if_icmp .gt 7, 3) := by decide +kernel
theorem dJ9_min_7cf53_5 : decode cJ9_min_7cf53 5 = .ok (.iload_n 0, 1) := by decide +kernel
theorem dJ9_min_7cf53_6 : decode cJ9_min_7cf53 6 = .ok (.goto 4, 3) := by decide +kernel
theorem dJ9_min_7cf53_9 : decode cJ9_min_7cf53 9 = .ok (.iload_n 1, 1) := by decide +kernel
theorem dJ9_min_7cf53_10 : decode cJ9_min_7cf53 10 = .ok (.ireturn, 1) := by decide +kernel
theorem dJ0_length_8abf5_0 : decode cJ0_length_8abf5 0 = .ok (.aload_n 0, 1) := by decide +kernel
theorem dJ0_length_8abf5_1 : decode cJ0_length_8abf5 1 = .ok (.getfield 9, 3) := by decide +kernel
theorem dJ0_length_8abf5_4 : decode cJ0_length_8abf5 4 = .ok (.arraylength, 1) := by decide +kernel
theorem dJ0_length_8abf5_5 : decode cJ0_length_8abf5 5 = .ok (.aload_n 0, 1) := by decide +kernel
theorem dJ0_length_8abf5_6 : decode cJ0_length_8abf5 6 = .ok (.invokevirtual 335, 3) := by decide +kernel
theorem dJ0_length_8abf5_9 : decode cJ0_length_8abf5 9 = .ok (.ishr, 1) := by decide +kernel
theorem dJ0_length_8abf5_10 : decode cJ0_length_8abf5 10 = .ok (.ireturn, 1) := by decide +kernel
theorem dJ0_charAt_5068e_0 : decode cJ0_charAt_5068e 0 = .ok (.aload_n 0, 1) := by decide +kernel
theorem dJ0_charAt_5068e_1 : decode cJ0_charAt_5068e 1 = .ok (.invokevirtual 492, 3) := by decide +kernel
theorem dJ0_charAt_5068e_4 : decode cJ0_charAt_5068e 4 = .ok (.ifCond .eq 12, 3) := by decide +kernel
theorem dJ0_charAt_5068e_7 : decode cJ0_charAt_5068e 7 = .ok (.aload_n 0, 1) := by decide +kernel
theorem dJ0_charAt_5068e_8 : decode cJ0_charAt_5068e 8 = .ok (.getfield 9, 3) := by decide +kernel
theorem dJ0_charAt_5068e_11 : decode cJ0_charAt_5068e 11 = .ok (.iload_n 1, 1) := by decide +kernel
theorem dJ0_charAt_5068e_12 : decode cJ0_charAt_5068e 12 = .ok (.invokestatic 495, 3) := by decide +kernel
theorem dJ0_charAt_5068e_15 : decode cJ0_charAt_5068e 15 = .ok (.ireturn, 1) := by decide +kernel
theorem dJ0_charAt_5068e_16 : decode cJ0_charAt_5068e 16 = .ok (.aload_n 0, 1) := by decide +kernel
theorem dJ0_charAt_5068e_17 : decode cJ0_charAt_5068e 17 = .ok (.getfield 9, 3) := by decide +kernel
theorem dJ0_charAt_5068e_20 : decode cJ0_charAt_5068e 20 = .ok (.iload_n 1, 1) := by decide +kernel
theorem dJ0_charAt_5068e_21 : decode cJ0_charAt_5068e 21 = .ok (.invokestatic 498, 3) := by decide +kernel
theorem dJ0_charAt_5068e_24 : decode cJ0_charAt_5068e 24 = .ok (.ireturn, 1) := by decide +kernel
theorem dJ0_coder_7d493_0 : decode cJ0_coder_7d493 0 = .ok (.getstatic 38, 3) := by decide +kernel
theorem dJ0_coder_7d493_3 : decode cJ0_coder_7d493 3 = .ok (.ifCond .eq 10, 3) := by decide +kernel
theorem dJ0_coder_7d493_6 : decode cJ0_coder_7d493 6 = .ok (.aload_n 0, 1) := by decide +kernel
theorem dJ0_coder_7d493_7 : decode cJ0_coder_7d493 7 = .ok (.getfield 15, 3) := by decide +kernel
theorem dJ0_coder_7d493_10 : decode cJ0_coder_7d493 10 = .ok (.goto 4, 3) := by decide +kernel
theorem dJ0_coder_7d493_13 : decode cJ0_coder_7d493 13 = .ok (.iconst 1, 1) := by decide +kernel
theorem dJ0_coder_7d493_14 : decode cJ0_coder_7d493 14 = .ok (.ireturn, 1) := by decide +kernel
theorem dJ0_isLatin1_aae02_0 : decode cJ0_isLatin1_aae02 0 = .ok (.getstatic 38, 3) := by decide +kernel
theorem dJ0_isLatin1_aae02_3 : decode cJ0_isLatin1_aae02 3 = .ok (.ifCond .eq 14, 3) := by decide +kernel
theorem dJ0_isLatin1_aae02_6 : decode cJ0_isLatin1_aae02 6 = .ok (.aload_n 0, 1) := by decide +kernel
theorem dJ0_isLatin1_aae02_7 : decode cJ0_isLatin1_aae02 7 = .ok (.getfield 15, 3) := by decide +kernel
theorem dJ0_isLatin1_aae02_10 : decode cJ0_isLatin1_aae02 10 = .ok (.ifCond .ne 7, 3) := by decide +kernel
theorem dJ0_isLatin1_aae02_13 : decode cJ0_isLatin1_aae02 13 = .ok (.iconst 1, 1) := by decide +kernel
theorem dJ0_isLatin1_aae02_14 : decode cJ0_isLatin1_aae02 14 = .ok (.goto 4, 3) := by decide +kernel
theorem dJ0_isLatin1_aae02_17 : decode cJ0_isLatin1_aae02 17 = .ok (.iconst 0, 1) := by decide +kernel
theorem dJ0_isLatin1_aae02_18 : decode cJ0_isLatin1_aae02 18 = .ok (.ireturn, 1) := by decide +kernel
theorem dJ0_checkIndex_df160_0 : decode cJ0_checkIndex_df160 0 = .ok (.iload_n 0, 1) := by decide +kernel
theorem dJ0_checkIndex_df160_1 : decode cJ0_checkIndex_df160 1 = .ok (.iload_n 1, 1) := by decide +kernel
theorem dJ0_checkIndex_df160_2 : decode cJ0_checkIndex_df160 2 = .ok (.getstatic 1053, 3) := by decide +kernel
theorem dJ0_checkIndex_df160_5 : decode cJ0_checkIndex_df160 5 = .ok (.invokestatic 1059, 3) := by decide +kernel
theorem dJ0_checkIndex_df160_8 : decode cJ0_checkIndex_df160 8 = .ok (.pop, 1) := by decide +kernel
theorem dJ0_checkIndex_df160_9 : decode cJ0_checkIndex_df160 9 = .ok (.return_, 1) := by decide +kernel
theorem dJ1_charAt_3b067_0 : decode cJ1_charAt_3b067 0 = .ok (.iload_n 1, 1) := by decide +kernel
theorem dJ1_charAt_3b067_1 : decode cJ1_charAt_3b067 1 = .ok (.aload_n 0, 1) := by decide +kernel
theorem dJ1_charAt_3b067_2 : decode cJ1_charAt_3b067 2 = .ok (.arraylength, 1) := by decide +kernel
theorem dJ1_charAt_3b067_3 : decode cJ1_charAt_3b067 3 = .ok (.invokestatic 9, 3) := by decide +kernel
theorem dJ1_charAt_3b067_6 : decode cJ1_charAt_3b067 6 = .ok (.aload_n 0, 1) := by decide +kernel
theorem dJ1_charAt_3b067_7 : decode cJ1_charAt_3b067 7 = .ok (.iload_n 1, 1) := by decide +kernel
theorem dJ1_charAt_3b067_8 : decode cJ1_charAt_3b067 8 = .ok (.baload, 1) := by decide +kernel
theorem dJ1_charAt_3b067_9 : decode cJ1_charAt_3b067 9 = .ok (.sipush 255, 3) := by decide +kernel
theorem dJ1_charAt_3b067_12 : decode cJ1_charAt_3b067 12 = .ok (.iand, 1) := by decide +kernel
theorem dJ1_charAt_3b067_13 : decode cJ1_charAt_3b067 13 = .ok (.i2c, 1) := by decide +kernel
theorem dJ1_charAt_3b067_14 : decode cJ1_charAt_3b067 14 = .ok (.ireturn, 1) := by decide +kernel
theorem dJ2_getChar_3b067_0 : decode cJ2_getChar_3b067 0 = .ok (.getstatic 44, 3) := by decide +kernel
theorem dJ2_getChar_3b067_3 : decode cJ2_getChar_3b067 3 = .ok (.ifCond .ne 25, 3) := by decide +kernel
theorem dJ2_getChar_3b067_6 : decode cJ2_getChar_3b067 6 = .ok (.iload_n 1, 1) := by decide +kernel
theorem dJ2_getChar_3b067_7 : decode cJ2_getChar_3b067 7 = .ok (.ifCond .lt 11, 3) := by decide +kernel
theorem dJ2_getChar_3b067_10 : decode cJ2_getChar_3b067 10 = .ok (.iload_n 1, 1) := by decide +kernel
theorem dJ2_getChar_3b067_11 : decode cJ2_getChar_3b067 11 = .ok (.aload_n 0, 1) := by decide +kernel
theorem dJ2_getChar_3b067_12 : decode cJ2_getChar_3b067 12 = .ok (.invokestatic 48, 3) := by decide +kernel
theorem dJ2_getChar_3b067_15 : decode cJ2_getChar_3b067 15 = .ok (.if_icmp .lt 13, 3) := by decide +kernel
theorem dJ2_getChar_3b067_18 : decode cJ2_getChar_3b067 18 = .ok (.new 52, 3) := by decide +kernel
theorem dJ2_getChar_3b067_21 : decode cJ2_getChar_3b067 21 = .ok (.dup, 1) := by decide +kernel
theorem dJ2_getChar_3b067_22 : decode cJ2_getChar_3b067 22 = .ok (.ldc 54, 2) := by decide +kernel
theorem dJ2_getChar_3b067_24 : decode cJ2_getChar_3b067 24 = .ok (.invokespecial 56, 3) := by decide +kernel
theorem dJ2_getChar_3b067_27 : decode cJ2_getChar_3b067 27 = .ok (.athrow, 1) := by decide +kernel
theorem dJ2_getChar_3b067_28 : decode cJ2_getChar_3b067 28 = .ok (.iload_n 1, 1) := by decide +kernel
theorem dJ2_getChar_3b067_29 : decode cJ2_getChar_3b067 29 = .ok (.iconst 1, 1) := by decide +kernel
theorem dJ2_getChar_3b067_30 : decode cJ2_getChar_3b067 30 = .ok (.ishl, 1) := by decide +kernel
theorem dJ2_getChar_3b067_31 : decode cJ2_getChar_3b067 31 = .ok (.istore_n 1, 1) := by decide +kernel
theorem dJ2_getChar_3b067_32 : decode cJ2_getChar_3b067 32 = .ok (.aload_n 0, 1) := by decide +kernel
theorem dJ2_getChar_3b067_33 : decode cJ2_getChar_3b067 33 = .ok (.iload_n 1, 1) := by decide +kernel
theorem dJ2_getChar_3b067_34 : decode cJ2_getChar_3b067 34 = .ok (.iinc 1 1, 3) := by decide +kernel
theorem dJ2_getChar_3b067_37 : decode cJ2_getChar_3b067 37 = .ok (.baload, 1) := by decide +kernel
theorem dJ2_getChar_3b067_38 : decode cJ2_getChar_3b067 38 = .ok (.sipush 255, 3) := by decide +kernel
theorem dJ2_getChar_3b067_41 : decode cJ2_getChar_3b067 41 = .ok (.iand, 1) := by decide +kernel
theorem dJ2_getChar_3b067_42 : decode cJ2_getChar_3b067 42 = .ok (.getstatic 59, 3) := by decide +kernel
theorem dJ2_getChar_3b067_45 : decode cJ2_getChar_3b067 45 = .ok (.ishl, 1) := by decide +kernel
theorem dJ2_getChar_3b067_46 : decode cJ2_getChar_3b067 46 = .ok (.aload_n 0, 1) := by decide +kernel
theorem dJ2_getChar_3b067_47 : decode cJ2_getChar_3b067 47 = .ok (.iload_n 1, 1) := by decide +kernel
theorem dJ2_getChar_3b067_48 : decode cJ2_getChar_3b067 48 = .ok (.baload, 1) := by decide +kernel
theorem dJ2_getChar_3b067_49 : decode cJ2_getChar_3b067 49 = .ok (.sipush 255, 3) := by decide +kernel
theorem dJ2_getChar_3b067_52 : decode cJ2_getChar_3b067 52 = .ok (.iand, 1) := by decide +kernel
theorem dJ2_getChar_3b067_53 : decode cJ2_getChar_3b067 53 = .ok (.getstatic 63, 3) := by decide +kernel
theorem dJ2_getChar_3b067_56 : decode cJ2_getChar_3b067 56 = .ok (.ishl, 1) := by decide +kernel
theorem dJ2_getChar_3b067_57 : decode cJ2_getChar_3b067 57 = .ok (.ior, 1) := by decide +kernel
theorem dJ2_getChar_3b067_58 : decode cJ2_getChar_3b067 58 = .ok (.i2c, 1) := by decide +kernel
theorem dJ2_getChar_3b067_59 : decode cJ2_getChar_3b067 59 = .ok (.ireturn, 1) := by decide +kernel
theorem dJ2_length_9d52b_0 : decode cJ2_length_9d52b 0 = .ok (.aload_n 0, 1) := by decide +kernel
theorem dJ2_length_9d52b_1 : decode cJ2_length_9d52b 1 = .ok (.arraylength, 1) := by decide +kernel
theorem dJ2_length_9d52b_2 : decode cJ2_length_9d52b 2 = .ok (.iconst 1, 1) := by decide +kernel
theorem dJ2_length_9d52b_3 : decode cJ2_length_9d52b 3 = .ok (.ishr, 1) := by decide +kernel
theorem dJ2_length_9d52b_4 : decode cJ2_length_9d52b 4 = .ok (.ireturn, 1) := by decide +kernel
theorem dJ2_charAt_3b067_0 : decode cJ2_charAt_3b067 0 = .ok (.iload_n 1, 1) := by decide +kernel
theorem dJ2_charAt_3b067_1 : decode cJ2_charAt_3b067 1 = .ok (.aload_n 0, 1) := by decide +kernel
theorem dJ2_charAt_3b067_2 : decode cJ2_charAt_3b067 2 = .ok (.invokestatic 67, 3) := by decide +kernel
theorem dJ2_charAt_3b067_5 : decode cJ2_charAt_3b067 5 = .ok (.aload_n 0, 1) := by decide +kernel
theorem dJ2_charAt_3b067_6 : decode cJ2_charAt_3b067 6 = .ok (.iload_n 1, 1) := by decide +kernel
theorem dJ2_charAt_3b067_7 : decode cJ2_charAt_3b067 7 = .ok (.invokestatic 71, 3) := by decide +kernel
theorem dJ2_charAt_3b067_10 : decode cJ2_charAt_3b067 10 = .ok (.ireturn, 1) := by decide +kernel
theorem dJ2_checkIndex_2214a_0 : decode cJ2_checkIndex_2214a 0 = .ok (.iload_n 0, 1) := by decide +kernel
theorem dJ2_checkIndex_2214a_1 : decode cJ2_checkIndex_2214a 1 = .ok (.aload_n 1, 1) := by decide +kernel
theorem dJ2_checkIndex_2214a_2 : decode cJ2_checkIndex_2214a 2 = .ok (.invokestatic 48, 3) := by decide +kernel
theorem dJ2_checkIndex_2214a_5 : decode cJ2_checkIndex_2214a 5 = .ok (.invokestatic 414, 3) := by decide +kernel
theorem dJ2_checkIndex_2214a_8 : decode cJ2_checkIndex_2214a 8 = .ok (.return_, 1) := by decide +kernel
theorem dJ7_fill_53178_0 : decode cJ7_fill_53178 0 = .ok (.iconst 0, 1) := by decide +kernel
theorem dJ7_fill_53178_1 : decode cJ7_fill_53178 1 = .ok (.istore_n 2, 1) := by decide +kernel
theorem dJ7_fill_53178_2 : decode cJ7_fill_53178 2 = .ok (.aload_n 0, 1) := by decide +kernel
theorem dJ7_fill_53178_3 : decode cJ7_fill_53178 3 = .ok (.arraylength, 1) := by decide +kernel
theorem dJ7_fill_53178_4 : decode cJ7_fill_53178 4 = .ok (.istore_n 3, 1) := by decide +kernel
theorem dJ7_fill_53178_5 : decode cJ7_fill_53178 5 = .ok (.iload_n 2, 1) := by decide +kernel
theorem dJ7_fill_53178_6 : decode cJ7_fill_53178 6 = .ok (.iload_n 3, 1) := by decide +kernel
theorem dJ7_fill_53178_7 : decode cJ7_fill_53178 7 = .ok (.if_icmp .ge 13, 3) := by decide +kernel
theorem dJ7_fill_53178_10 : decode cJ7_fill_53178 10 = .ok (.aload_n 0, 1) := by decide +kernel
theorem dJ7_fill_53178_11 : decode cJ7_fill_53178 11 = .ok (.iload_n 2, 1) := by decide +kernel
theorem dJ7_fill_53178_12 : decode cJ7_fill_53178 12 = .ok (.iload_n 1, 1) := by decide +kernel
theorem dJ7_fill_53178_13 : decode cJ7_fill_53178 13 = .ok (.iastore, 1) := by decide +kernel
theorem dJ7_fill_53178_14 : decode cJ7_fill_53178 14 = .ok (.iinc 2 1, 3) := by decide +kernel
theorem dJ7_fill_53178_17 : decode cJ7_fill_53178 17 = .ok (.goto (-12), 3) := by decide +kernel
theorem dJ7_fill_53178_20 : decode cJ7_fill_53178 20 = .ok (.return_, 1) := by decide +kernel
theorem dJ3_checkIndex_8e157_0 : decode cJ3_checkIndex_8e157 0 = .ok (.iload_n 0, 1) := by decide +kernel
theorem dJ3_checkIndex_8e157_1 : decode cJ3_checkIndex_8e157 1 = .ok (.ifCond .lt 8, 3) := by decide +kernel
theorem dJ3_checkIndex_8e157_4 : decode cJ3_checkIndex_8e157 4 = .ok (.iload_n 0, 1) := by decide +kernel
theorem dJ3_checkIndex_8e157_5 : decode cJ3_checkIndex_8e157 5 = .ok (.iload_n 1, 1) := by decide +kernel
theorem dJ3_checkIndex_8e157_6 : decode cJ3_checkIndex_8e157 6 = .ok (.if_icmp .lt 10, 3) := by decide +kernel
theorem dJ3_checkIndex_8e157_9 : decode cJ3_checkIndex_8e157 9 = .ok (.aload_n 2, 1) := by decide +kernel
theorem dJ3_checkIndex_8e157_10 : decode cJ3_checkIndex_8e157 10 = .ok (.iload_n 0, 1) := by decide +kernel
theorem dJ3_checkIndex_8e157_11 : decode cJ3_checkIndex_8e157 11 = .ok (.iload_n 1, 1) := by decide +kernel
theorem dJ3_checkIndex_8e157_12 : decode cJ3_checkIndex_8e157 12 = .ok (.invokestatic 95, 3) := by decide +kernel
theorem dJ3_checkIndex_8e157_15 : decode cJ3_checkIndex_8e157 15 = .ok (.athrow, 1) := by decide +kernel
theorem dJ3_checkIndex_8e157_16 : decode cJ3_checkIndex_8e157 16 = .ok (.iload_n 0, 1) := by decide +kernel
theorem dJ3_checkIndex_8e157_17 : decode cJ3_checkIndex_8e157 17 = .ok (.ireturn, 1) := by decide +kernel
theorem dL_law_0 : decode cL_law 0 = .ok (.new 7, 3) := by decide +kernel
theorem dL_law_3 : decode cL_law 3 = .ok (.dup, 1) := by decide +kernel
theorem dL_law_4 : decode cL_law 4 = .ok (.invokespecial 9, 3) := by decide +kernel
theorem dL_law_7 : decode cL_law 7 = .ok (.astore_n 1, 1) := by decide +kernel
theorem dL_law_8 : decode cL_law 8 = .ok (.new 10, 3) := by decide +kernel
theorem dL_law_11 : decode cL_law 11 = .ok (.dup, 1) := by decide +kernel
theorem dL_law_12 : decode cL_law 12 = .ok (.invokespecial 12, 3) := by decide +kernel
theorem dL_law_15 : decode cL_law 15 = .ok (.astore_n 2, 1) := by decide +kernel
theorem dL_law_16 : decode cL_law 16 = .ok (.iconst 0, 1) := by decide +kernel
theorem dL_law_17 : decode cL_law 17 = .ok (.istore_n 3, 1) := by decide +kernel
theorem dL_law_18 : decode cL_law 18 = .ok (.iload_n 3, 1) := by decide +kernel
theorem dL_law_19 : decode cL_law 19 = .ok (.aload_n 0, 1) := by decide +kernel
theorem dL_law_20 : decode cL_law 20 = .ok (.arraylength, 1) := by decide +kernel
theorem dL_law_21 : decode cL_law 21 = .ok (.bipush 6, 2) := by decide +kernel
theorem dL_law_23 : decode cL_law 23 = .ok (.isub, 1) := by decide +kernel
theorem dL_law_24 : decode cL_law 24 = .ok (.if_icmp .gt 889, 3) := by decide +kernel
theorem dL_law_27 : decode cL_law 27 = .ok (.aload_n 0, 1) := by decide +kernel
theorem dL_law_28 : decode cL_law 28 = .ok (.iload_n 3, 1) := by decide +kernel
theorem dL_law_29 : decode cL_law 29 = .ok (.iaload, 1) := by decide +kernel
theorem dL_law_30 : decode cL_law 30 = .ok (.bipush 31, 2) := by decide +kernel
theorem dL_law_32 : decode cL_law 32 = .ok (.iand, 1) := by decide +kernel
theorem dL_law_33 : decode cL_law 33 = .ok (.tableswitch 874 0 26 #[123, 186, 199, 212, 235, 268, 301, 324, 357, 380, 403, 436, 459, 482, 515, 548, 591, 624, 657, 680, 743, 756, 779, 792, 805, 828, 851], 123) := by decide +kernel
theorem dL_law_156 : decode cL_law 156 = .ok (.aload_n 1, 1) := by decide +kernel
theorem dL_law_157 : decode cL_law 157 = .ok (.aload_n 0, 1) := by decide +kernel
theorem dL_law_158 : decode cL_law 158 = .ok (.iload_n 3, 1) := by decide +kernel
theorem dL_law_159 : decode cL_law 159 = .ok (.iconst 1, 1) := by decide +kernel
theorem dL_law_160 : decode cL_law 160 = .ok (.iadd, 1) := by decide +kernel
theorem dL_law_161 : decode cL_law 161 = .ok (.iaload, 1) := by decide +kernel
theorem dL_law_162 : decode cL_law 162 = .ok (.aload_n 0, 1) := by decide +kernel
theorem dL_law_163 : decode cL_law 163 = .ok (.iload_n 3, 1) := by decide +kernel
theorem dL_law_164 : decode cL_law 164 = .ok (.iconst 2, 1) := by decide +kernel
theorem dL_law_165 : decode cL_law 165 = .ok (.iadd, 1) := by decide +kernel
theorem dL_law_166 : decode cL_law 166 = .ok (.iaload, 1) := by decide +kernel
theorem dL_law_167 : decode cL_law 167 = .ok (.i2l, 1) := by decide +kernel
theorem dL_law_168 : decode cL_law 168 = .ok (.bipush 32, 2) := by decide +kernel
theorem dL_law_170 : decode cL_law 170 = .ok (.lshl, 1) := by decide +kernel
theorem dL_law_171 : decode cL_law 171 = .ok (.aload_n 0, 1) := by decide +kernel
theorem dL_law_172 : decode cL_law 172 = .ok (.iload_n 3, 1) := by decide +kernel
theorem dL_law_173 : decode cL_law 173 = .ok (.iconst 3, 1) := by decide +kernel
theorem dL_law_174 : decode cL_law 174 = .ok (.iadd, 1) := by decide +kernel
theorem dL_law_175 : decode cL_law 175 = .ok (.iaload, 1) := by decide +kernel
theorem dL_law_176 : decode cL_law 176 = .ok (.i2l, 1) := by decide +kernel
theorem dL_law_177 : decode cL_law 177 = .ok (.ldc2_w 13, 3) := by decide +kernel
theorem dL_law_180 : decode cL_law 180 = .ok (.land, 1) := by decide +kernel
theorem dL_law_181 : decode cL_law 181 = .ok (.lor, 1) := by decide +kernel
theorem dL_law_182 : decode cL_law 182 = .ok (.invokevirtual 15, 3) := by decide +kernel
theorem dL_law_185 : decode cL_law 185 = .ok (.aload_n 2, 1) := by decide +kernel
theorem dL_law_186 : decode cL_law 186 = .ok (.aload_n 0, 1) := by decide +kernel
theorem dL_law_187 : decode cL_law 187 = .ok (.iload_n 3, 1) := by decide +kernel
theorem dL_law_188 : decode cL_law 188 = .ok (.iconst 1, 1) := by decide +kernel
theorem dL_law_189 : decode cL_law 189 = .ok (.iadd, 1) := by decide +kernel
theorem dL_law_190 : decode cL_law 190 = .ok (.iaload, 1) := by decide +kernel
theorem dL_law_191 : decode cL_law 191 = .ok (.aload_n 0, 1) := by decide +kernel
theorem dL_law_192 : decode cL_law 192 = .ok (.iload_n 3, 1) := by decide +kernel
theorem dL_law_193 : decode cL_law 193 = .ok (.iconst 2, 1) := by decide +kernel
theorem dL_law_194 : decode cL_law 194 = .ok (.iadd, 1) := by decide +kernel
theorem dL_law_195 : decode cL_law 195 = .ok (.iaload, 1) := by decide +kernel
theorem dL_law_196 : decode cL_law 196 = .ok (.i2l, 1) := by decide +kernel
theorem dL_law_197 : decode cL_law 197 = .ok (.bipush 32, 2) := by decide +kernel
theorem dL_law_199 : decode cL_law 199 = .ok (.lshl, 1) := by decide +kernel
theorem dL_law_200 : decode cL_law 200 = .ok (.aload_n 0, 1) := by decide +kernel
theorem dL_law_201 : decode cL_law 201 = .ok (.iload_n 3, 1) := by decide +kernel
theorem dL_law_202 : decode cL_law 202 = .ok (.iconst 3, 1) := by decide +kernel
theorem dL_law_203 : decode cL_law 203 = .ok (.iadd, 1) := by decide +kernel
theorem dL_law_204 : decode cL_law 204 = .ok (.iaload, 1) := by decide +kernel
theorem dL_law_205 : decode cL_law 205 = .ok (.i2l, 1) := by decide +kernel
theorem dL_law_206 : decode cL_law 206 = .ok (.ldc2_w 13, 3) := by decide +kernel
theorem dL_law_209 : decode cL_law 209 = .ok (.land, 1) := by decide +kernel
theorem dL_law_210 : decode cL_law 210 = .ok (.lor, 1) := by decide +kernel
theorem dL_law_211 : decode cL_law 211 = .ok (.invokevirtual 19, 3) := by decide +kernel
theorem dL_law_214 : decode cL_law 214 = .ok (.if_icmp .eq 693, 3) := by decide +kernel
theorem dL_law_217 : decode cL_law 217 = .ok (.iconst 0, 1) := by decide +kernel
theorem dL_law_218 : decode cL_law 218 = .ok (.ireturn, 1) := by decide +kernel
theorem dL_law_219 : decode cL_law 219 = .ok (.aload_n 1, 1) := by decide +kernel
theorem dL_law_220 : decode cL_law 220 = .ok (.invokevirtual 20, 3) := by decide +kernel
theorem dL_law_223 : decode cL_law 223 = .ok (.aload_n 2, 1) := by decide +kernel
theorem dL_law_224 : decode cL_law 224 = .ok (.invokevirtual 24, 3) := by decide +kernel
theorem dL_law_227 : decode cL_law 227 = .ok (.if_icmp .eq 680, 3) := by decide +kernel
theorem dL_law_230 : decode cL_law 230 = .ok (.iconst 0, 1) := by decide +kernel
theorem dL_law_231 : decode cL_law 231 = .ok (.ireturn, 1) := by decide +kernel
theorem dL_law_232 : decode cL_law 232 = .ok (.aload_n 1, 1) := by decide +kernel
theorem dL_law_233 : decode cL_law 233 = .ok (.invokevirtual 25, 3) := by decide +kernel
theorem dL_law_236 : decode cL_law 236 = .ok (.aload_n 2, 1) := by decide +kernel
theorem dL_law_237 : decode cL_law 237 = .ok (.invokevirtual 28, 3) := by decide +kernel
theorem dL_law_240 : decode cL_law 240 = .ok (.if_icmp .eq 667, 3) := by decide +kernel
theorem dL_law_243 : decode cL_law 243 = .ok (.iconst 0, 1) := by decide +kernel
theorem dL_law_244 : decode cL_law 244 = .ok (.ireturn, 1) := by decide +kernel
theorem dL_law_245 : decode cL_law 245 = .ok (.aload_n 1, 1) := by decide +kernel
theorem dL_law_246 : decode cL_law 246 = .ok (.aload_n 0, 1) := by decide +kernel
theorem dL_law_247 : decode cL_law 247 = .ok (.iload_n 3, 1) := by decide +kernel
theorem dL_law_248 : decode cL_law 248 = .ok (.iconst 1, 1) := by decide +kernel
theorem dL_law_249 : decode cL_law 249 = .ok (.iadd, 1) := by decide +kernel
theorem dL_law_250 : decode cL_law 250 = .ok (.iaload, 1) := by decide +kernel
theorem dL_law_251 : decode cL_law 251 = .ok (.invokevirtual 29, 3) := by decide +kernel
theorem dL_law_254 : decode cL_law 254 = .ok (.aload_n 2, 1) := by decide +kernel
theorem dL_law_255 : decode cL_law 255 = .ok (.aload_n 0, 1) := by decide +kernel
theorem dL_law_256 : decode cL_law 256 = .ok (.iload_n 3, 1) := by decide +kernel
theorem dL_law_257 : decode cL_law 257 = .ok (.iconst 1, 1) := by decide +kernel
theorem dL_law_258 : decode cL_law 258 = .ok (.iadd, 1) := by decide +kernel
theorem dL_law_259 : decode cL_law 259 = .ok (.iaload, 1) := by decide +kernel
theorem dL_law_260 : decode cL_law 260 = .ok (.invokevirtual 33, 3) := by decide +kernel
theorem dL_law_263 : decode cL_law 263 = .ok (.if_icmp .eq 644, 3) := by decide +kernel
theorem dL_law_266 : decode cL_law 266 = .ok (.iconst 0, 1) := by decide +kernel
theorem dL_law_267 : decode cL_law 267 = .ok (.ireturn, 1) := by decide +kernel
theorem dL_law_268 : decode cL_law 268 = .ok (.aload_n 1, 1) := by decide +kernel
theorem dL_law_269 : decode cL_law 269 = .ok (.aload_n 0, 1) := by decide +kernel
theorem dL_law_270 : decode cL_law 270 = .ok (.iload_n 3, 1) := by decide +kernel
theorem dL_law_271 : decode cL_law 271 = .ok (.iconst 1, 1) := by decide +kernel
theorem dL_law_272 : decode cL_law 272 = .ok (.iadd, 1) := by decide +kernel
theorem dL_law_273 : decode cL_law 273 = .ok (.iaload, 1) := by decide +kernel
theorem dL_law_274 : decode cL_law 274 = .ok (.aload_n 0, 1) := by decide +kernel
theorem dL_law_275 : decode cL_law 275 = .ok (.iload_n 3, 1) := by decide +kernel
theorem dL_law_276 : decode cL_law 276 = .ok (.iconst 2, 1) := by decide +kernel
theorem dL_law_277 : decode cL_law 277 = .ok (.iadd, 1) := by decide +kernel
theorem dL_law_278 : decode cL_law 278 = .ok (.iaload, 1) := by decide +kernel
theorem dL_law_279 : decode cL_law 279 = .ok (.invokevirtual 34, 3) := by decide +kernel
theorem dL_law_282 : decode cL_law 282 = .ok (.aload_n 2, 1) := by decide +kernel
theorem dL_law_283 : decode cL_law 283 = .ok (.aload_n 0, 1) := by decide +kernel
theorem dL_law_284 : decode cL_law 284 = .ok (.iload_n 3, 1) := by decide +kernel
theorem dL_law_285 : decode cL_law 285 = .ok (.iconst 1, 1) := by decide +kernel
theorem dL_law_286 : decode cL_law 286 = .ok (.iadd, 1) := by decide +kernel
theorem dL_law_287 : decode cL_law 287 = .ok (.iaload, 1) := by decide +kernel
theorem dL_law_288 : decode cL_law 288 = .ok (.aload_n 0, 1) := by decide +kernel
theorem dL_law_289 : decode cL_law 289 = .ok (.iload_n 3, 1) := by decide +kernel
theorem dL_law_290 : decode cL_law 290 = .ok (.iconst 2, 1) := by decide +kernel
theorem dL_law_291 : decode cL_law 291 = .ok (.iadd, 1) := by decide +kernel
theorem dL_law_292 : decode cL_law 292 = .ok (.iaload, 1) := by decide +kernel
theorem dL_law_293 : decode cL_law 293 = .ok (.invokevirtual 38, 3) := by decide +kernel
theorem dL_law_296 : decode cL_law 296 = .ok (.if_icmp .eq 611, 3) := by decide +kernel
theorem dL_law_299 : decode cL_law 299 = .ok (.iconst 0, 1) := by decide +kernel
theorem dL_law_300 : decode cL_law 300 = .ok (.ireturn, 1) := by decide +kernel
theorem dL_law_301 : decode cL_law 301 = .ok (.aload_n 1, 1) := by decide +kernel
theorem dL_law_302 : decode cL_law 302 = .ok (.aload_n 0, 1) := by decide +kernel
theorem dL_law_303 : decode cL_law 303 = .ok (.iload_n 3, 1) := by decide +kernel
theorem dL_law_304 : decode cL_law 304 = .ok (.iconst 1, 1) := by decide +kernel
theorem dL_law_305 : decode cL_law 305 = .ok (.iadd, 1) := by decide +kernel
theorem dL_law_306 : decode cL_law 306 = .ok (.iaload, 1) := by decide +kernel
theorem dL_law_307 : decode cL_law 307 = .ok (.aload_n 0, 1) := by decide +kernel
theorem dL_law_308 : decode cL_law 308 = .ok (.iload_n 3, 1) := by decide +kernel
theorem dL_law_309 : decode cL_law 309 = .ok (.iconst 2, 1) := by decide +kernel
theorem dL_law_310 : decode cL_law 310 = .ok (.iadd, 1) := by decide +kernel
theorem dL_law_311 : decode cL_law 311 = .ok (.iaload, 1) := by decide +kernel
theorem dL_law_312 : decode cL_law 312 = .ok (.invokevirtual 39, 3) := by decide +kernel
theorem dL_law_315 : decode cL_law 315 = .ok (.aload_n 2, 1) := by decide +kernel
theorem dL_law_316 : decode cL_law 316 = .ok (.aload_n 0, 1) := by decide +kernel
theorem dL_law_317 : decode cL_law 317 = .ok (.iload_n 3, 1) := by decide +kernel
theorem dL_law_318 : decode cL_law 318 = .ok (.iconst 1, 1) := by decide +kernel
theorem dL_law_319 : decode cL_law 319 = .ok (.iadd, 1) := by decide +kernel
theorem dL_law_320 : decode cL_law 320 = .ok (.iaload, 1) := by decide +kernel
theorem dL_law_321 : decode cL_law 321 = .ok (.aload_n 0, 1) := by decide +kernel
theorem dL_law_322 : decode cL_law 322 = .ok (.iload_n 3, 1) := by decide +kernel
theorem dL_law_323 : decode cL_law 323 = .ok (.iconst 2, 1) := by decide +kernel
theorem dL_law_324 : decode cL_law 324 = .ok (.iadd, 1) := by decide +kernel
theorem dL_law_325 : decode cL_law 325 = .ok (.iaload, 1) := by decide +kernel
theorem dL_law_326 : decode cL_law 326 = .ok (.invokevirtual 42, 3) := by decide +kernel
theorem dL_law_329 : decode cL_law 329 = .ok (.if_icmp .eq 578, 3) := by decide +kernel
theorem dL_law_332 : decode cL_law 332 = .ok (.iconst 0, 1) := by decide +kernel
theorem dL_law_333 : decode cL_law 333 = .ok (.ireturn, 1) := by decide +kernel
theorem dL_law_334 : decode cL_law 334 = .ok (.aload_n 1, 1) := by decide +kernel
theorem dL_law_335 : decode cL_law 335 = .ok (.aload_n 0, 1) := by decide +kernel
theorem dL_law_336 : decode cL_law 336 = .ok (.iload_n 3, 1) := by decide +kernel
theorem dL_law_337 : decode cL_law 337 = .ok (.iconst 1, 1) := by decide +kernel
theorem dL_law_338 : decode cL_law 338 = .ok (.iadd, 1) := by decide +kernel
theorem dL_law_339 : decode cL_law 339 = .ok (.iaload, 1) := by decide +kernel
theorem dL_law_340 : decode cL_law 340 = .ok (.invokevirtual 43, 3) := by decide +kernel
theorem dL_law_343 : decode cL_law 343 = .ok (.aload_n 2, 1) := by decide +kernel
theorem dL_law_344 : decode cL_law 344 = .ok (.aload_n 0, 1) := by decide +kernel
theorem dL_law_345 : decode cL_law 345 = .ok (.iload_n 3, 1) := by decide +kernel
theorem dL_law_346 : decode cL_law 346 = .ok (.iconst 1, 1) := by decide +kernel
theorem dL_law_347 : decode cL_law 347 = .ok (.iadd, 1) := by decide +kernel
theorem dL_law_348 : decode cL_law 348 = .ok (.iaload, 1) := by decide +kernel
theorem dL_law_349 : decode cL_law 349 = .ok (.invokevirtual 46, 3) := by decide +kernel
theorem dL_law_352 : decode cL_law 352 = .ok (.if_icmp .eq 555, 3) := by decide +kernel
theorem dL_law_355 : decode cL_law 355 = .ok (.iconst 0, 1) := by decide +kernel
theorem dL_law_356 : decode cL_law 356 = .ok (.ireturn, 1) := by decide +kernel
theorem dL_law_357 : decode cL_law 357 = .ok (.aload_n 1, 1) := by decide +kernel
theorem dL_law_358 : decode cL_law 358 = .ok (.aload_n 0, 1) := by decide +kernel
theorem dL_law_359 : decode cL_law 359 = .ok (.iload_n 3, 1) := by decide +kernel
theorem dL_law_360 : decode cL_law 360 = .ok (.iconst 1, 1) := by decide +kernel
theorem dL_law_361 : decode cL_law 361 = .ok (.iadd, 1) := by decide +kernel
theorem dL_law_362 : decode cL_law 362 = .ok (.iaload, 1) := by decide +kernel
theorem dL_law_363 : decode cL_law 363 = .ok (.aload_n 0, 1) := by decide +kernel
theorem dL_law_364 : decode cL_law 364 = .ok (.iload_n 3, 1) := by decide +kernel
theorem dL_law_365 : decode cL_law 365 = .ok (.iconst 2, 1) := by decide +kernel
theorem dL_law_366 : decode cL_law 366 = .ok (.iadd, 1) := by decide +kernel
theorem dL_law_367 : decode cL_law 367 = .ok (.iaload, 1) := by decide +kernel
theorem dL_law_368 : decode cL_law 368 = .ok (.invokevirtual 47, 3) := by decide +kernel
theorem dL_law_371 : decode cL_law 371 = .ok (.aload_n 2, 1) := by decide +kernel
theorem dL_law_372 : decode cL_law 372 = .ok (.aload_n 0, 1) := by decide +kernel
theorem dL_law_373 : decode cL_law 373 = .ok (.iload_n 3, 1) := by decide +kernel
theorem dL_law_374 : decode cL_law 374 = .ok (.iconst 1, 1) := by decide +kernel
theorem dL_law_375 : decode cL_law 375 = .ok (.iadd, 1) := by decide +kernel
theorem dL_law_376 : decode cL_law 376 = .ok (.iaload, 1) := by decide +kernel
theorem dL_law_377 : decode cL_law 377 = .ok (.aload_n 0, 1) := by decide +kernel
theorem dL_law_378 : decode cL_law 378 = .ok (.iload_n 3, 1) := by decide +kernel
theorem dL_law_379 : decode cL_law 379 = .ok (.iconst 2, 1) := by decide +kernel
theorem dL_law_380 : decode cL_law 380 = .ok (.iadd, 1) := by decide +kernel
theorem dL_law_381 : decode cL_law 381 = .ok (.iaload, 1) := by decide +kernel
theorem dL_law_382 : decode cL_law 382 = .ok (.invokevirtual 50, 3) := by decide +kernel
theorem dL_law_385 : decode cL_law 385 = .ok (.if_icmp .eq 522, 3) := by decide +kernel
theorem dL_law_388 : decode cL_law 388 = .ok (.iconst 0, 1) := by decide +kernel
theorem dL_law_389 : decode cL_law 389 = .ok (.ireturn, 1) := by decide +kernel
theorem dL_law_390 : decode cL_law 390 = .ok (.aload_n 1, 1) := by decide +kernel
theorem dL_law_391 : decode cL_law 391 = .ok (.aload_n 0, 1) := by decide +kernel
theorem dL_law_392 : decode cL_law 392 = .ok (.iload_n 3, 1) := by decide +kernel
theorem dL_law_393 : decode cL_law 393 = .ok (.iconst 1, 1) := by decide +kernel
theorem dL_law_394 : decode cL_law 394 = .ok (.iadd, 1) := by decide +kernel
theorem dL_law_395 : decode cL_law 395 = .ok (.iaload, 1) := by decide +kernel
theorem dL_law_396 : decode cL_law 396 = .ok (.invokevirtual 51, 3) := by decide +kernel
theorem dL_law_399 : decode cL_law 399 = .ok (.aload_n 2, 1) := by decide +kernel
theorem dL_law_400 : decode cL_law 400 = .ok (.aload_n 0, 1) := by decide +kernel
theorem dL_law_401 : decode cL_law 401 = .ok (.iload_n 3, 1) := by decide +kernel
theorem dL_law_402 : decode cL_law 402 = .ok (.iconst 1, 1) := by decide +kernel
theorem dL_law_403 : decode cL_law 403 = .ok (.iadd, 1) := by decide +kernel
theorem dL_law_404 : decode cL_law 404 = .ok (.iaload, 1) := by decide +kernel
theorem dL_law_405 : decode cL_law 405 = .ok (.invokevirtual 54, 3) := by decide +kernel
theorem dL_law_408 : decode cL_law 408 = .ok (.if_icmp .eq 499, 3) := by decide +kernel
theorem dL_law_411 : decode cL_law 411 = .ok (.iconst 0, 1) := by decide +kernel
theorem dL_law_412 : decode cL_law 412 = .ok (.ireturn, 1) := by decide +kernel
theorem dL_law_413 : decode cL_law 413 = .ok (.aload_n 1, 1) := by decide +kernel
theorem dL_law_414 : decode cL_law 414 = .ok (.aload_n 0, 1) := by decide +kernel
theorem dL_law_415 : decode cL_law 415 = .ok (.iload_n 3, 1) := by decide +kernel
theorem dL_law_416 : decode cL_law 416 = .ok (.iconst 1, 1) := by decide +kernel
theorem dL_law_417 : decode cL_law 417 = .ok (.iadd, 1) := by decide +kernel
theorem dL_law_418 : decode cL_law 418 = .ok (.iaload, 1) := by decide +kernel
theorem dL_law_419 : decode cL_law 419 = .ok (.invokevirtual 55, 3) := by decide +kernel
theorem dL_law_422 : decode cL_law 422 = .ok (.aload_n 2, 1) := by decide +kernel
theorem dL_law_423 : decode cL_law 423 = .ok (.aload_n 0, 1) := by decide +kernel
theorem dL_law_424 : decode cL_law 424 = .ok (.iload_n 3, 1) := by decide +kernel
theorem dL_law_425 : decode cL_law 425 = .ok (.iconst 1, 1) := by decide +kernel
theorem dL_law_426 : decode cL_law 426 = .ok (.iadd, 1) := by decide +kernel
theorem dL_law_427 : decode cL_law 427 = .ok (.iaload, 1) := by decide +kernel
theorem dL_law_428 : decode cL_law 428 = .ok (.invokevirtual 58, 3) := by decide +kernel
theorem dL_law_431 : decode cL_law 431 = .ok (.if_icmp .eq 476, 3) := by decide +kernel
theorem dL_law_434 : decode cL_law 434 = .ok (.iconst 0, 1) := by decide +kernel
theorem dL_law_435 : decode cL_law 435 = .ok (.ireturn, 1) := by decide +kernel
theorem dL_law_436 : decode cL_law 436 = .ok (.aload_n 1, 1) := by decide +kernel
theorem dL_law_437 : decode cL_law 437 = .ok (.aload_n 0, 1) := by decide +kernel
theorem dL_law_438 : decode cL_law 438 = .ok (.iload_n 3, 1) := by decide +kernel
theorem dL_law_439 : decode cL_law 439 = .ok (.iconst 1, 1) := by decide +kernel
theorem dL_law_440 : decode cL_law 440 = .ok (.iadd, 1) := by decide +kernel
theorem dL_law_441 : decode cL_law 441 = .ok (.iaload, 1) := by decide +kernel
theorem dL_law_442 : decode cL_law 442 = .ok (.aload_n 0, 1) := by decide +kernel
theorem dL_law_443 : decode cL_law 443 = .ok (.iload_n 3, 1) := by decide +kernel
theorem dL_law_444 : decode cL_law 444 = .ok (.iconst 2, 1) := by decide +kernel
theorem dL_law_445 : decode cL_law 445 = .ok (.iadd, 1) := by decide +kernel
theorem dL_law_446 : decode cL_law 446 = .ok (.iaload, 1) := by decide +kernel
theorem dL_law_447 : decode cL_law 447 = .ok (.invokevirtual 59, 3) := by decide +kernel
theorem dL_law_450 : decode cL_law 450 = .ok (.aload_n 2, 1) := by decide +kernel
theorem dL_law_451 : decode cL_law 451 = .ok (.aload_n 0, 1) := by decide +kernel
theorem dL_law_452 : decode cL_law 452 = .ok (.iload_n 3, 1) := by decide +kernel
theorem dL_law_453 : decode cL_law 453 = .ok (.iconst 1, 1) := by decide +kernel
theorem dL_law_454 : decode cL_law 454 = .ok (.iadd, 1) := by decide +kernel
theorem dL_law_455 : decode cL_law 455 = .ok (.iaload, 1) := by decide +kernel
theorem dL_law_456 : decode cL_law 456 = .ok (.aload_n 0, 1) := by decide +kernel
theorem dL_law_457 : decode cL_law 457 = .ok (.iload_n 3, 1) := by decide +kernel
theorem dL_law_458 : decode cL_law 458 = .ok (.iconst 2, 1) := by decide +kernel
theorem dL_law_459 : decode cL_law 459 = .ok (.iadd, 1) := by decide +kernel
theorem dL_law_460 : decode cL_law 460 = .ok (.iaload, 1) := by decide +kernel
theorem dL_law_461 : decode cL_law 461 = .ok (.invokevirtual 62, 3) := by decide +kernel
theorem dL_law_464 : decode cL_law 464 = .ok (.if_icmp .eq 443, 3) := by decide +kernel
theorem dL_law_467 : decode cL_law 467 = .ok (.iconst 0, 1) := by decide +kernel
theorem dL_law_468 : decode cL_law 468 = .ok (.ireturn, 1) := by decide +kernel
theorem dL_law_469 : decode cL_law 469 = .ok (.aload_n 1, 1) := by decide +kernel
theorem dL_law_470 : decode cL_law 470 = .ok (.aload_n 0, 1) := by decide +kernel
theorem dL_law_471 : decode cL_law 471 = .ok (.iload_n 3, 1) := by decide +kernel
theorem dL_law_472 : decode cL_law 472 = .ok (.iconst 1, 1) := by decide +kernel
theorem dL_law_473 : decode cL_law 473 = .ok (.iadd, 1) := by decide +kernel
theorem dL_law_474 : decode cL_law 474 = .ok (.iaload, 1) := by decide +kernel
theorem dL_law_475 : decode cL_law 475 = .ok (.invokevirtual 63, 3) := by decide +kernel
theorem dL_law_478 : decode cL_law 478 = .ok (.aload_n 2, 1) := by decide +kernel
theorem dL_law_479 : decode cL_law 479 = .ok (.aload_n 0, 1) := by decide +kernel
theorem dL_law_480 : decode cL_law 480 = .ok (.iload_n 3, 1) := by decide +kernel
theorem dL_law_481 : decode cL_law 481 = .ok (.iconst 1, 1) := by decide +kernel
theorem dL_law_482 : decode cL_law 482 = .ok (.iadd, 1) := by decide +kernel
theorem dL_law_483 : decode cL_law 483 = .ok (.iaload, 1) := by decide +kernel
theorem dL_law_484 : decode cL_law 484 = .ok (.invokevirtual 66, 3) := by decide +kernel
theorem dL_law_487 : decode cL_law 487 = .ok (.if_icmp .eq 420, 3) := by decide +kernel
theorem dL_law_490 : decode cL_law 490 = .ok (.iconst 0, 1) := by decide +kernel
theorem dL_law_491 : decode cL_law 491 = .ok (.ireturn, 1) := by decide +kernel
theorem dL_law_492 : decode cL_law 492 = .ok (.aload_n 1, 1) := by decide +kernel
theorem dL_law_493 : decode cL_law 493 = .ok (.aload_n 0, 1) := by decide +kernel
theorem dL_law_494 : decode cL_law 494 = .ok (.iload_n 3, 1) := by decide +kernel
theorem dL_law_495 : decode cL_law 495 = .ok (.iconst 1, 1) := by decide +kernel
theorem dL_law_496 : decode cL_law 496 = .ok (.iadd, 1) := by decide +kernel
theorem dL_law_497 : decode cL_law 497 = .ok (.iaload, 1) := by decide +kernel
theorem dL_law_498 : decode cL_law 498 = .ok (.invokevirtual 67, 3) := by decide +kernel
theorem dL_law_501 : decode cL_law 501 = .ok (.aload_n 2, 1) := by decide +kernel
theorem dL_law_502 : decode cL_law 502 = .ok (.aload_n 0, 1) := by decide +kernel
theorem dL_law_503 : decode cL_law 503 = .ok (.iload_n 3, 1) := by decide +kernel
theorem dL_law_504 : decode cL_law 504 = .ok (.iconst 1, 1) := by decide +kernel
theorem dL_law_505 : decode cL_law 505 = .ok (.iadd, 1) := by decide +kernel
theorem dL_law_506 : decode cL_law 506 = .ok (.iaload, 1) := by decide +kernel
theorem dL_law_507 : decode cL_law 507 = .ok (.invokevirtual 70, 3) := by decide +kernel
theorem dL_law_510 : decode cL_law 510 = .ok (.if_icmp .eq 397, 3) := by decide +kernel
theorem dL_law_513 : decode cL_law 513 = .ok (.iconst 0, 1) := by decide +kernel
theorem dL_law_514 : decode cL_law 514 = .ok (.ireturn, 1) := by decide +kernel
theorem dL_law_515 : decode cL_law 515 = .ok (.aload_n 1, 1) := by decide +kernel
theorem dL_law_516 : decode cL_law 516 = .ok (.aload_n 0, 1) := by decide +kernel
theorem dL_law_517 : decode cL_law 517 = .ok (.iload_n 3, 1) := by decide +kernel
theorem dL_law_518 : decode cL_law 518 = .ok (.iconst 1, 1) := by decide +kernel
theorem dL_law_519 : decode cL_law 519 = .ok (.iadd, 1) := by decide +kernel
theorem dL_law_520 : decode cL_law 520 = .ok (.iaload, 1) := by decide +kernel
theorem dL_law_521 : decode cL_law 521 = .ok (.aload_n 0, 1) := by decide +kernel
theorem dL_law_522 : decode cL_law 522 = .ok (.iload_n 3, 1) := by decide +kernel
theorem dL_law_523 : decode cL_law 523 = .ok (.iconst 2, 1) := by decide +kernel
theorem dL_law_524 : decode cL_law 524 = .ok (.iadd, 1) := by decide +kernel
theorem dL_law_525 : decode cL_law 525 = .ok (.iaload, 1) := by decide +kernel
theorem dL_law_526 : decode cL_law 526 = .ok (.invokevirtual 71, 3) := by decide +kernel
theorem dL_law_529 : decode cL_law 529 = .ok (.aload_n 2, 1) := by decide +kernel
theorem dL_law_530 : decode cL_law 530 = .ok (.aload_n 0, 1) := by decide +kernel
theorem dL_law_531 : decode cL_law 531 = .ok (.iload_n 3, 1) := by decide +kernel
theorem dL_law_532 : decode cL_law 532 = .ok (.iconst 1, 1) := by decide +kernel
theorem dL_law_533 : decode cL_law 533 = .ok (.iadd, 1) := by decide +kernel
theorem dL_law_534 : decode cL_law 534 = .ok (.iaload, 1) := by decide +kernel
theorem dL_law_535 : decode cL_law 535 = .ok (.aload_n 0, 1) := by decide +kernel
theorem dL_law_536 : decode cL_law 536 = .ok (.iload_n 3, 1) := by decide +kernel
theorem dL_law_537 : decode cL_law 537 = .ok (.iconst 2, 1) := by decide +kernel
theorem dL_law_538 : decode cL_law 538 = .ok (.iadd, 1) := by decide +kernel
theorem dL_law_539 : decode cL_law 539 = .ok (.iaload, 1) := by decide +kernel
theorem dL_law_540 : decode cL_law 540 = .ok (.invokevirtual 74, 3) := by decide +kernel
theorem dL_law_543 : decode cL_law 543 = .ok (.if_icmp .eq 364, 3) := by decide +kernel
theorem dL_law_546 : decode cL_law 546 = .ok (.iconst 0, 1) := by decide +kernel
theorem dL_law_547 : decode cL_law 547 = .ok (.ireturn, 1) := by decide +kernel
theorem dL_law_548 : decode cL_law 548 = .ok (.aload_n 1, 1) := by decide +kernel
theorem dL_law_549 : decode cL_law 549 = .ok (.aload_n 0, 1) := by decide +kernel
theorem dL_law_550 : decode cL_law 550 = .ok (.iload_n 3, 1) := by decide +kernel
theorem dL_law_551 : decode cL_law 551 = .ok (.iconst 1, 1) := by decide +kernel
theorem dL_law_552 : decode cL_law 552 = .ok (.iadd, 1) := by decide +kernel
theorem dL_law_553 : decode cL_law 553 = .ok (.iaload, 1) := by decide +kernel
theorem dL_law_554 : decode cL_law 554 = .ok (.aload_n 0, 1) := by decide +kernel
theorem dL_law_555 : decode cL_law 555 = .ok (.iload_n 3, 1) := by decide +kernel
theorem dL_law_556 : decode cL_law 556 = .ok (.iconst 2, 1) := by decide +kernel
theorem dL_law_557 : decode cL_law 557 = .ok (.iadd, 1) := by decide +kernel
theorem dL_law_558 : decode cL_law 558 = .ok (.iaload, 1) := by decide +kernel
theorem dL_law_559 : decode cL_law 559 = .ok (.invokevirtual 75, 3) := by decide +kernel
theorem dL_law_562 : decode cL_law 562 = .ok (.aload_n 2, 1) := by decide +kernel
theorem dL_law_563 : decode cL_law 563 = .ok (.aload_n 0, 1) := by decide +kernel
theorem dL_law_564 : decode cL_law 564 = .ok (.iload_n 3, 1) := by decide +kernel
theorem dL_law_565 : decode cL_law 565 = .ok (.iconst 1, 1) := by decide +kernel
theorem dL_law_566 : decode cL_law 566 = .ok (.iadd, 1) := by decide +kernel
theorem dL_law_567 : decode cL_law 567 = .ok (.iaload, 1) := by decide +kernel
theorem dL_law_568 : decode cL_law 568 = .ok (.aload_n 0, 1) := by decide +kernel
theorem dL_law_569 : decode cL_law 569 = .ok (.iload_n 3, 1) := by decide +kernel
theorem dL_law_570 : decode cL_law 570 = .ok (.iconst 2, 1) := by decide +kernel
theorem dL_law_571 : decode cL_law 571 = .ok (.iadd, 1) := by decide +kernel
theorem dL_law_572 : decode cL_law 572 = .ok (.iaload, 1) := by decide +kernel
theorem dL_law_573 : decode cL_law 573 = .ok (.invokevirtual 78, 3) := by decide +kernel
theorem dL_law_576 : decode cL_law 576 = .ok (.if_icmp .eq 331, 3) := by decide +kernel
theorem dL_law_579 : decode cL_law 579 = .ok (.iconst 0, 1) := by decide +kernel
theorem dL_law_580 : decode cL_law 580 = .ok (.ireturn, 1) := by decide +kernel
theorem dL_law_581 : decode cL_law 581 = .ok (.aload_n 1, 1) := by decide +kernel
theorem dL_law_582 : decode cL_law 582 = .ok (.aload_n 0, 1) := by decide +kernel
theorem dL_law_583 : decode cL_law 583 = .ok (.iload_n 3, 1) := by decide +kernel
theorem dL_law_584 : decode cL_law 584 = .ok (.iconst 1, 1) := by decide +kernel
theorem dL_law_585 : decode cL_law 585 = .ok (.iadd, 1) := by decide +kernel
theorem dL_law_586 : decode cL_law 586 = .ok (.iaload, 1) := by decide +kernel
theorem dL_law_587 : decode cL_law 587 = .ok (.aload_n 0, 1) := by decide +kernel
theorem dL_law_588 : decode cL_law 588 = .ok (.iload_n 3, 1) := by decide +kernel
theorem dL_law_589 : decode cL_law 589 = .ok (.iconst 2, 1) := by decide +kernel
theorem dL_law_590 : decode cL_law 590 = .ok (.iadd, 1) := by decide +kernel
theorem dL_law_591 : decode cL_law 591 = .ok (.iaload, 1) := by decide +kernel
theorem dL_law_592 : decode cL_law 592 = .ok (.aload_n 0, 1) := by decide +kernel
theorem dL_law_593 : decode cL_law 593 = .ok (.iload_n 3, 1) := by decide +kernel
theorem dL_law_594 : decode cL_law 594 = .ok (.iconst 3, 1) := by decide +kernel
theorem dL_law_595 : decode cL_law 595 = .ok (.iadd, 1) := by decide +kernel
theorem dL_law_596 : decode cL_law 596 = .ok (.iaload, 1) := by decide +kernel
theorem dL_law_597 : decode cL_law 597 = .ok (.invokevirtual 79, 3) := by decide +kernel
theorem dL_law_600 : decode cL_law 600 = .ok (.aload_n 2, 1) := by decide +kernel
theorem dL_law_601 : decode cL_law 601 = .ok (.aload_n 0, 1) := by decide +kernel
theorem dL_law_602 : decode cL_law 602 = .ok (.iload_n 3, 1) := by decide +kernel
theorem dL_law_603 : decode cL_law 603 = .ok (.iconst 1, 1) := by decide +kernel
theorem dL_law_604 : decode cL_law 604 = .ok (.iadd, 1) := by decide +kernel
theorem dL_law_605 : decode cL_law 605 = .ok (.iaload, 1) := by decide +kernel
theorem dL_law_606 : decode cL_law 606 = .ok (.aload_n 0, 1) := by decide +kernel
theorem dL_law_607 : decode cL_law 607 = .ok (.iload_n 3, 1) := by decide +kernel
theorem dL_law_608 : decode cL_law 608 = .ok (.iconst 2, 1) := by decide +kernel
theorem dL_law_609 : decode cL_law 609 = .ok (.iadd, 1) := by decide +kernel
theorem dL_law_610 : decode cL_law 610 = .ok (.iaload, 1) := by decide +kernel
theorem dL_law_611 : decode cL_law 611 = .ok (.aload_n 0, 1) := by decide +kernel
theorem dL_law_612 : decode cL_law 612 = .ok (.iload_n 3, 1) := by decide +kernel
theorem dL_law_613 : decode cL_law 613 = .ok (.iconst 3, 1) := by decide +kernel
theorem dL_law_614 : decode cL_law 614 = .ok (.iadd, 1) := by decide +kernel
theorem dL_law_615 : decode cL_law 615 = .ok (.iaload, 1) := by decide +kernel
theorem dL_law_616 : decode cL_law 616 = .ok (.invokevirtual 83, 3) := by decide +kernel
theorem dL_law_619 : decode cL_law 619 = .ok (.if_icmp .eq 288, 3) := by decide +kernel
theorem dL_law_622 : decode cL_law 622 = .ok (.iconst 0, 1) := by decide +kernel
theorem dL_law_623 : decode cL_law 623 = .ok (.ireturn, 1) := by decide +kernel
theorem dL_law_624 : decode cL_law 624 = .ok (.aload_n 1, 1) := by decide +kernel
theorem dL_law_625 : decode cL_law 625 = .ok (.aload_n 0, 1) := by decide +kernel
theorem dL_law_626 : decode cL_law 626 = .ok (.iload_n 3, 1) := by decide +kernel
theorem dL_law_627 : decode cL_law 627 = .ok (.iconst 1, 1) := by decide +kernel
theorem dL_law_628 : decode cL_law 628 = .ok (.iadd, 1) := by decide +kernel
theorem dL_law_629 : decode cL_law 629 = .ok (.iaload, 1) := by decide +kernel
theorem dL_law_630 : decode cL_law 630 = .ok (.aload_n 0, 1) := by decide +kernel
theorem dL_law_631 : decode cL_law 631 = .ok (.iload_n 3, 1) := by decide +kernel
theorem dL_law_632 : decode cL_law 632 = .ok (.iconst 2, 1) := by decide +kernel
theorem dL_law_633 : decode cL_law 633 = .ok (.iadd, 1) := by decide +kernel
theorem dL_law_634 : decode cL_law 634 = .ok (.iaload, 1) := by decide +kernel
theorem dL_law_635 : decode cL_law 635 = .ok (.invokevirtual 84, 3) := by decide +kernel
theorem dL_law_638 : decode cL_law 638 = .ok (.aload_n 2, 1) := by decide +kernel
theorem dL_law_639 : decode cL_law 639 = .ok (.aload_n 0, 1) := by decide +kernel
theorem dL_law_640 : decode cL_law 640 = .ok (.iload_n 3, 1) := by decide +kernel
theorem dL_law_641 : decode cL_law 641 = .ok (.iconst 1, 1) := by decide +kernel
theorem dL_law_642 : decode cL_law 642 = .ok (.iadd, 1) := by decide +kernel
theorem dL_law_643 : decode cL_law 643 = .ok (.iaload, 1) := by decide +kernel
theorem dL_law_644 : decode cL_law 644 = .ok (.aload_n 0, 1) := by decide +kernel
theorem dL_law_645 : decode cL_law 645 = .ok (.iload_n 3, 1) := by decide +kernel
theorem dL_law_646 : decode cL_law 646 = .ok (.iconst 2, 1) := by decide +kernel
theorem dL_law_647 : decode cL_law 647 = .ok (.iadd, 1) := by decide +kernel
theorem dL_law_648 : decode cL_law 648 = .ok (.iaload, 1) := by decide +kernel
theorem dL_law_649 : decode cL_law 649 = .ok (.invokevirtual 87, 3) := by decide +kernel
theorem dL_law_652 : decode cL_law 652 = .ok (.if_icmp .eq 255, 3) := by decide +kernel
theorem dL_law_655 : decode cL_law 655 = .ok (.iconst 0, 1) := by decide +kernel
theorem dL_law_656 : decode cL_law 656 = .ok (.ireturn, 1) := by decide +kernel
theorem dL_law_657 : decode cL_law 657 = .ok (.aload_n 1, 1) := by decide +kernel
theorem dL_law_658 : decode cL_law 658 = .ok (.aload_n 0, 1) := by decide +kernel
theorem dL_law_659 : decode cL_law 659 = .ok (.iload_n 3, 1) := by decide +kernel
theorem dL_law_660 : decode cL_law 660 = .ok (.iconst 1, 1) := by decide +kernel
theorem dL_law_661 : decode cL_law 661 = .ok (.iadd, 1) := by decide +kernel
theorem dL_law_662 : decode cL_law 662 = .ok (.iaload, 1) := by decide +kernel
theorem dL_law_663 : decode cL_law 663 = .ok (.aload_n 0, 1) := by decide +kernel
theorem dL_law_664 : decode cL_law 664 = .ok (.iload_n 3, 1) := by decide +kernel
theorem dL_law_665 : decode cL_law 665 = .ok (.iconst 2, 1) := by decide +kernel
theorem dL_law_666 : decode cL_law 666 = .ok (.iadd, 1) := by decide +kernel
theorem dL_law_667 : decode cL_law 667 = .ok (.iaload, 1) := by decide +kernel
theorem dL_law_668 : decode cL_law 668 = .ok (.invokevirtual 88, 3) := by decide +kernel
theorem dL_law_671 : decode cL_law 671 = .ok (.aload_n 2, 1) := by decide +kernel
theorem dL_law_672 : decode cL_law 672 = .ok (.aload_n 0, 1) := by decide +kernel
theorem dL_law_673 : decode cL_law 673 = .ok (.iload_n 3, 1) := by decide +kernel
theorem dL_law_674 : decode cL_law 674 = .ok (.iconst 1, 1) := by decide +kernel
theorem dL_law_675 : decode cL_law 675 = .ok (.iadd, 1) := by decide +kernel
theorem dL_law_676 : decode cL_law 676 = .ok (.iaload, 1) := by decide +kernel
theorem dL_law_677 : decode cL_law 677 = .ok (.aload_n 0, 1) := by decide +kernel
theorem dL_law_678 : decode cL_law 678 = .ok (.iload_n 3, 1) := by decide +kernel
theorem dL_law_679 : decode cL_law 679 = .ok (.iconst 2, 1) := by decide +kernel
theorem dL_law_680 : decode cL_law 680 = .ok (.iadd, 1) := by decide +kernel
theorem dL_law_681 : decode cL_law 681 = .ok (.iaload, 1) := by decide +kernel
theorem dL_law_682 : decode cL_law 682 = .ok (.invokevirtual 91, 3) := by decide +kernel
theorem dL_law_685 : decode cL_law 685 = .ok (.if_icmp .eq 222, 3) := by decide +kernel
theorem dL_law_688 : decode cL_law 688 = .ok (.iconst 0, 1) := by decide +kernel
theorem dL_law_689 : decode cL_law 689 = .ok (.ireturn, 1) := by decide +kernel
theorem dL_law_690 : decode cL_law 690 = .ok (.aload_n 1, 1) := by decide +kernel
theorem dL_law_691 : decode cL_law 691 = .ok (.aload_n 0, 1) := by decide +kernel
theorem dL_law_692 : decode cL_law 692 = .ok (.iload_n 3, 1) := by decide +kernel
theorem dL_law_693 : decode cL_law 693 = .ok (.iconst 1, 1) := by decide +kernel
theorem dL_law_694 : decode cL_law 694 = .ok (.iadd, 1) := by decide +kernel
theorem dL_law_695 : decode cL_law 695 = .ok (.iaload, 1) := by decide +kernel
theorem dL_law_696 : decode cL_law 696 = .ok (.invokevirtual 92, 3) := by decide +kernel
theorem dL_law_699 : decode cL_law 699 = .ok (.aload_n 2, 1) := by decide +kernel
theorem dL_law_700 : decode cL_law 700 = .ok (.aload_n 0, 1) := by decide +kernel
theorem dL_law_701 : decode cL_law 701 = .ok (.iload_n 3, 1) := by decide +kernel
theorem dL_law_702 : decode cL_law 702 = .ok (.iconst 1, 1) := by decide +kernel
theorem dL_law_703 : decode cL_law 703 = .ok (.iadd, 1) := by decide +kernel
theorem dL_law_704 : decode cL_law 704 = .ok (.iaload, 1) := by decide +kernel
theorem dL_law_705 : decode cL_law 705 = .ok (.invokevirtual 95, 3) := by decide +kernel
theorem dL_law_708 : decode cL_law 708 = .ok (.if_icmp .eq 199, 3) := by decide +kernel
theorem dL_law_711 : decode cL_law 711 = .ok (.iconst 0, 1) := by decide +kernel
theorem dL_law_712 : decode cL_law 712 = .ok (.ireturn, 1) := by decide +kernel
theorem dL_law_713 : decode cL_law 713 = .ok (.aload_n 1, 1) := by decide +kernel
theorem dL_law_714 : decode cL_law 714 = .ok (.aload_n 0, 1) := by decide +kernel
theorem dL_law_715 : decode cL_law 715 = .ok (.iload_n 3, 1) := by decide +kernel
theorem dL_law_716 : decode cL_law 716 = .ok (.iconst 1, 1) := by decide +kernel
theorem dL_law_717 : decode cL_law 717 = .ok (.iadd, 1) := by decide +kernel
theorem dL_law_718 : decode cL_law 718 = .ok (.iaload, 1) := by decide +kernel
theorem dL_law_719 : decode cL_law 719 = .ok (.aload_n 0, 1) := by decide +kernel
theorem dL_law_720 : decode cL_law 720 = .ok (.iload_n 3, 1) := by decide +kernel
theorem dL_law_721 : decode cL_law 721 = .ok (.iconst 2, 1) := by decide +kernel
theorem dL_law_722 : decode cL_law 722 = .ok (.iadd, 1) := by decide +kernel
theorem dL_law_723 : decode cL_law 723 = .ok (.iaload, 1) := by decide +kernel
theorem dL_law_724 : decode cL_law 724 = .ok (.aload_n 0, 1) := by decide +kernel
theorem dL_law_725 : decode cL_law 725 = .ok (.iload_n 3, 1) := by decide +kernel
theorem dL_law_726 : decode cL_law 726 = .ok (.iconst 3, 1) := by decide +kernel
theorem dL_law_727 : decode cL_law 727 = .ok (.iadd, 1) := by decide +kernel
theorem dL_law_728 : decode cL_law 728 = .ok (.iaload, 1) := by decide +kernel
theorem dL_law_729 : decode cL_law 729 = .ok (.aload_n 0, 1) := by decide +kernel
theorem dL_law_730 : decode cL_law 730 = .ok (.iload_n 3, 1) := by decide +kernel
theorem dL_law_731 : decode cL_law 731 = .ok (.iconst 4, 1) := by decide +kernel
theorem dL_law_732 : decode cL_law 732 = .ok (.iadd, 1) := by decide +kernel
theorem dL_law_733 : decode cL_law 733 = .ok (.iaload, 1) := by decide +kernel
theorem dL_law_734 : decode cL_law 734 = .ok (.aload_n 0, 1) := by decide +kernel
theorem dL_law_735 : decode cL_law 735 = .ok (.iload_n 3, 1) := by decide +kernel
theorem dL_law_736 : decode cL_law 736 = .ok (.iconst 5, 1) := by decide +kernel
theorem dL_law_737 : decode cL_law 737 = .ok (.iadd, 1) := by decide +kernel
theorem dL_law_738 : decode cL_law 738 = .ok (.iaload, 1) := by decide +kernel
theorem dL_law_739 : decode cL_law 739 = .ok (.invokevirtual 96, 3) := by decide +kernel
theorem dL_law_742 : decode cL_law 742 = .ok (.aload_n 2, 1) := by decide +kernel
theorem dL_law_743 : decode cL_law 743 = .ok (.aload_n 0, 1) := by decide +kernel
theorem dL_law_744 : decode cL_law 744 = .ok (.iload_n 3, 1) := by decide +kernel
theorem dL_law_745 : decode cL_law 745 = .ok (.iconst 1, 1) := by decide +kernel
theorem dL_law_746 : decode cL_law 746 = .ok (.iadd, 1) := by decide +kernel
theorem dL_law_747 : decode cL_law 747 = .ok (.iaload, 1) := by decide +kernel
theorem dL_law_748 : decode cL_law 748 = .ok (.aload_n 0, 1) := by decide +kernel
theorem dL_law_749 : decode cL_law 749 = .ok (.iload_n 3, 1) := by decide +kernel
theorem dL_law_750 : decode cL_law 750 = .ok (.iconst 2, 1) := by decide +kernel
theorem dL_law_751 : decode cL_law 751 = .ok (.iadd, 1) := by decide +kernel
theorem dL_law_752 : decode cL_law 752 = .ok (.iaload, 1) := by decide +kernel
theorem dL_law_753 : decode cL_law 753 = .ok (.aload_n 0, 1) := by decide +kernel
theorem dL_law_754 : decode cL_law 754 = .ok (.iload_n 3, 1) := by decide +kernel
theorem dL_law_755 : decode cL_law 755 = .ok (.iconst 3, 1) := by decide +kernel
theorem dL_law_756 : decode cL_law 756 = .ok (.iadd, 1) := by decide +kernel
theorem dL_law_757 : decode cL_law 757 = .ok (.iaload, 1) := by decide +kernel
theorem dL_law_758 : decode cL_law 758 = .ok (.aload_n 0, 1) := by decide +kernel
theorem dL_law_759 : decode cL_law 759 = .ok (.iload_n 3, 1) := by decide +kernel
theorem dL_law_760 : decode cL_law 760 = .ok (.iconst 4, 1) := by decide +kernel
theorem dL_law_761 : decode cL_law 761 = .ok (.iadd, 1) := by decide +kernel
theorem dL_law_762 : decode cL_law 762 = .ok (.iaload, 1) := by decide +kernel
theorem dL_law_763 : decode cL_law 763 = .ok (.aload_n 0, 1) := by decide +kernel
theorem dL_law_764 : decode cL_law 764 = .ok (.iload_n 3, 1) := by decide +kernel
theorem dL_law_765 : decode cL_law 765 = .ok (.iconst 5, 1) := by decide +kernel
theorem dL_law_766 : decode cL_law 766 = .ok (.iadd, 1) := by decide +kernel
theorem dL_law_767 : decode cL_law 767 = .ok (.iaload, 1) := by decide +kernel
theorem dL_law_768 : decode cL_law 768 = .ok (.invokevirtual 100, 3) := by decide +kernel
theorem dL_law_771 : decode cL_law 771 = .ok (.if_icmp .eq 136, 3) := by decide +kernel
theorem dL_law_774 : decode cL_law 774 = .ok (.iconst 0, 1) := by decide +kernel
theorem dL_law_775 : decode cL_law 775 = .ok (.ireturn, 1) := by decide +kernel
theorem dL_law_776 : decode cL_law 776 = .ok (.aload_n 1, 1) := by decide +kernel
theorem dL_law_777 : decode cL_law 777 = .ok (.invokevirtual 101, 3) := by decide +kernel
theorem dL_law_780 : decode cL_law 780 = .ok (.aload_n 2, 1) := by decide +kernel
theorem dL_law_781 : decode cL_law 781 = .ok (.invokevirtual 104, 3) := by decide +kernel
theorem dL_law_784 : decode cL_law 784 = .ok (.if_icmp .eq 123, 3) := by decide +kernel
theorem dL_law_787 : decode cL_law 787 = .ok (.iconst 0, 1) := by decide +kernel
theorem dL_law_788 : decode cL_law 788 = .ok (.ireturn, 1) := by decide +kernel
theorem dL_law_789 : decode cL_law 789 = .ok (.aload_n 1, 1) := by decide +kernel
theorem dL_law_790 : decode cL_law 790 = .ok (.aload_n 0, 1) := by decide +kernel
theorem dL_law_791 : decode cL_law 791 = .ok (.iload_n 3, 1) := by decide +kernel
theorem dL_law_792 : decode cL_law 792 = .ok (.iconst 1, 1) := by decide +kernel
theorem dL_law_793 : decode cL_law 793 = .ok (.iadd, 1) := by decide +kernel
theorem dL_law_794 : decode cL_law 794 = .ok (.iaload, 1) := by decide +kernel
theorem dL_law_795 : decode cL_law 795 = .ok (.invokevirtual 105, 3) := by decide +kernel
theorem dL_law_798 : decode cL_law 798 = .ok (.aload_n 2, 1) := by decide +kernel
theorem dL_law_799 : decode cL_law 799 = .ok (.aload_n 0, 1) := by decide +kernel
theorem dL_law_800 : decode cL_law 800 = .ok (.iload_n 3, 1) := by decide +kernel
theorem dL_law_801 : decode cL_law 801 = .ok (.iconst 1, 1) := by decide +kernel
theorem dL_law_802 : decode cL_law 802 = .ok (.iadd, 1) := by decide +kernel
theorem dL_law_803 : decode cL_law 803 = .ok (.iaload, 1) := by decide +kernel
theorem dL_law_804 : decode cL_law 804 = .ok (.invokevirtual 108, 3) := by decide +kernel
theorem dL_law_807 : decode cL_law 807 = .ok (.if_icmp .eq 100, 3) := by decide +kernel
theorem dL_law_810 : decode cL_law 810 = .ok (.iconst 0, 1) := by decide +kernel
theorem dL_law_811 : decode cL_law 811 = .ok (.ireturn, 1) := by decide +kernel
theorem dL_law_812 : decode cL_law 812 = .ok (.aload_n 1, 1) := by decide +kernel
theorem dL_law_813 : decode cL_law 813 = .ok (.invokevirtual 109, 3) := by decide +kernel
theorem dL_law_816 : decode cL_law 816 = .ok (.aload_n 2, 1) := by decide +kernel
theorem dL_law_817 : decode cL_law 817 = .ok (.invokevirtual 112, 3) := by decide +kernel
theorem dL_law_820 : decode cL_law 820 = .ok (.if_icmp .eq 87, 3) := by decide +kernel
theorem dL_law_823 : decode cL_law 823 = .ok (.iconst 0, 1) := by decide +kernel
theorem dL_law_824 : decode cL_law 824 = .ok (.ireturn, 1) := by decide +kernel
theorem dL_law_825 : decode cL_law 825 = .ok (.aload_n 1, 1) := by decide +kernel
theorem dL_law_826 : decode cL_law 826 = .ok (.invokevirtual 113, 3) := by decide +kernel
theorem dL_law_829 : decode cL_law 829 = .ok (.aload_n 2, 1) := by decide +kernel
theorem dL_law_830 : decode cL_law 830 = .ok (.invokevirtual 116, 3) := by decide +kernel
theorem dL_law_833 : decode cL_law 833 = .ok (.if_icmp .eq 74, 3) := by decide +kernel
theorem dL_law_836 : decode cL_law 836 = .ok (.iconst 0, 1) := by decide +kernel
theorem dL_law_837 : decode cL_law 837 = .ok (.ireturn, 1) := by decide +kernel
theorem dL_law_838 : decode cL_law 838 = .ok (.aload_n 1, 1) := by decide +kernel
theorem dL_law_839 : decode cL_law 839 = .ok (.aload_n 0, 1) := by decide +kernel
theorem dL_law_840 : decode cL_law 840 = .ok (.iload_n 3, 1) := by decide +kernel
theorem dL_law_841 : decode cL_law 841 = .ok (.iconst 1, 1) := by decide +kernel
theorem dL_law_842 : decode cL_law 842 = .ok (.iadd, 1) := by decide +kernel
theorem dL_law_843 : decode cL_law 843 = .ok (.iaload, 1) := by decide +kernel
theorem dL_law_844 : decode cL_law 844 = .ok (.invokevirtual 117, 3) := by decide +kernel
theorem dL_law_847 : decode cL_law 847 = .ok (.aload_n 2, 1) := by decide +kernel
theorem dL_law_848 : decode cL_law 848 = .ok (.aload_n 0, 1) := by decide +kernel
theorem dL_law_849 : decode cL_law 849 = .ok (.iload_n 3, 1) := by decide +kernel
theorem dL_law_850 : decode cL_law 850 = .ok (.iconst 1, 1) := by decide +kernel
theorem dL_law_851 : decode cL_law 851 = .ok (.iadd, 1) := by decide +kernel
theorem dL_law_852 : decode cL_law 852 = .ok (.iaload, 1) := by decide +kernel
theorem dL_law_853 : decode cL_law 853 = .ok (.invokevirtual 120, 3) := by decide +kernel
theorem dL_law_856 : decode cL_law 856 = .ok (.if_icmp .eq 51, 3) := by decide +kernel
theorem dL_law_859 : decode cL_law 859 = .ok (.iconst 0, 1) := by decide +kernel
theorem dL_law_860 : decode cL_law 860 = .ok (.ireturn, 1) := by decide +kernel
theorem dL_law_861 : decode cL_law 861 = .ok (.aload_n 1, 1) := by decide +kernel
theorem dL_law_862 : decode cL_law 862 = .ok (.aload_n 0, 1) := by decide +kernel
theorem dL_law_863 : decode cL_law 863 = .ok (.iload_n 3, 1) := by decide +kernel
theorem dL_law_864 : decode cL_law 864 = .ok (.iconst 1, 1) := by decide +kernel
theorem dL_law_865 : decode cL_law 865 = .ok (.iadd, 1) := by decide +kernel
theorem dL_law_866 : decode cL_law 866 = .ok (.iaload, 1) := by decide +kernel
theorem dL_law_867 : decode cL_law 867 = .ok (.invokevirtual 121, 3) := by decide +kernel
theorem dL_law_870 : decode cL_law 870 = .ok (.aload_n 2, 1) := by decide +kernel
theorem dL_law_871 : decode cL_law 871 = .ok (.aload_n 0, 1) := by decide +kernel
theorem dL_law_872 : decode cL_law 872 = .ok (.iload_n 3, 1) := by decide +kernel
theorem dL_law_873 : decode cL_law 873 = .ok (.iconst 1, 1) := by decide +kernel
theorem dL_law_874 : decode cL_law 874 = .ok (.iadd, 1) := by decide +kernel
theorem dL_law_875 : decode cL_law 875 = .ok (.iaload, 1) := by decide +kernel
theorem dL_law_876 : decode cL_law 876 = .ok (.invokevirtual 124, 3) := by decide +kernel
theorem dL_law_879 : decode cL_law 879 = .ok (.if_icmp .eq 28, 3) := by decide +kernel
theorem dL_law_882 : decode cL_law 882 = .ok (.iconst 0, 1) := by decide +kernel
theorem dL_law_883 : decode cL_law 883 = .ok (.ireturn, 1) := by decide +kernel
theorem dL_law_884 : decode cL_law 884 = .ok (.aload_n 1, 1) := by decide +kernel
theorem dL_law_885 : decode cL_law 885 = .ok (.aload_n 0, 1) := by decide +kernel
theorem dL_law_886 : decode cL_law 886 = .ok (.iload_n 3, 1) := by decide +kernel
theorem dL_law_887 : decode cL_law 887 = .ok (.iconst 1, 1) := by decide +kernel
theorem dL_law_888 : decode cL_law 888 = .ok (.iadd, 1) := by decide +kernel
theorem dL_law_889 : decode cL_law 889 = .ok (.iaload, 1) := by decide +kernel
theorem dL_law_890 : decode cL_law 890 = .ok (.invokevirtual 125, 3) := by decide +kernel
theorem dL_law_893 : decode cL_law 893 = .ok (.aload_n 2, 1) := by decide +kernel
theorem dL_law_894 : decode cL_law 894 = .ok (.aload_n 0, 1) := by decide +kernel
theorem dL_law_895 : decode cL_law 895 = .ok (.iload_n 3, 1) := by decide +kernel
theorem dL_law_896 : decode cL_law 896 = .ok (.iconst 1, 1) := by decide +kernel
theorem dL_law_897 : decode cL_law 897 = .ok (.iadd, 1) := by decide +kernel
theorem dL_law_898 : decode cL_law 898 = .ok (.iaload, 1) := by decide +kernel
theorem dL_law_899 : decode cL_law 899 = .ok (.invokevirtual 128, 3) := by decide +kernel
theorem dL_law_902 : decode cL_law 902 = .ok (.if_icmp .eq 5, 3) := by decide +kernel
theorem dL_law_905 : decode cL_law 905 = .ok (.iconst 0, 1) := by decide +kernel
theorem dL_law_906 : decode cL_law 906 = .ok (.ireturn, 1) := by decide +kernel
theorem dL_law_907 : decode cL_law 907 = .ok (.iinc 3 6, 3) := by decide +kernel
theorem dL_law_910 : decode cL_law 910 = .ok (.goto (-892), 3) := by decide +kernel
theorem dL_law_913 : decode cL_law 913 = .ok (.iconst 1, 1) := by decide +kernel
theorem dL_law_914 : decode cL_law 914 = .ok (.ireturn, 1) := by decide +kernel
