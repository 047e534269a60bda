theorem dX8_told_171 : decode cX8_told 171 = .ok (.getfield 12, 3) := by decide +kernel
theorem dX8_told_174 : decode cX8_told 174 = .ok (.aload_n 0, 1) := by decide +kernel
theorem dX8_told_175 : decode cX8_told 175 = .ok (.getfield 38, 3) := by decide +kernel
theorem dX8_told_178 : decode cX8_told 178 = .ok (.getfield 141, 3) := by decide +kernel
theorem dX8_told_181 : decode cX8_told 181 = .ok (.invokevirtual 150, 3) := by decide +kernel
theorem dX8_told_184 : decode cX8_told 184 = .ok (.ireturn, 1) := by decide +kernel
theorem dX8_told_185 : decode cX8_told 185 = .ok (.aload_n 0, 1) := by decide +kernel
theorem dX8_told_186 : decode cX8_told 186 = .ok (.invokevirtual 154, 3) := by decide +kernel
theorem dX8_told_189 : decode cX8_told 189 = .ok (.ireturn, 1) := by decide +kernel
theorem dX8_told_190 : decode cX8_told 190 = .ok (.ldc 80, 2) := by decide +kernel
theorem dX8_told_192 : decode cX8_told 192 = .ok (.ireturn, 1) := by decide +kernel
theorem dX8_lameSet_0 : decode cX8_lameSet 0 = .ok (.iconst 0, 1) := by decide +kernel
theorem dX8_lameSet_1 : decode cX8_lameSet 1 = .ok (.istore_n 1, 1) := by decide +kernel
theorem dX8_lameSet_2 : decode cX8_lameSet 2 = .ok (.iconst 0, 1) := by decide +kernel
theorem dX8_lameSet_3 : decode cX8_lameSet 3 = .ok (.istore_n 2, 1) := by decide +kernel
theorem dX8_lameSet_4 : decode cX8_lameSet 4 = .ok (.iload_n 2, 1) := by decide +kernel
theorem dX8_lameSet_5 : decode cX8_lameSet 5 = .ok (.aload_n 0, 1) := by decide +kernel
theorem dX8_lameSet_6 : decode cX8_lameSet 6 = .ok (.getfield 12, 3) := by decide +kernel
theorem dX8_lameSet_9 : decode cX8_lameSet 9 = .ok (.getfield 131, 3) := by decide +kernel
theorem dX8_lameSet_12 : decode cX8_lameSet 12 = .ok (.if_icmp .ge 33, 3) := by decide +kernel
theorem dX8_lameSet_15 : decode cX8_lameSet 15 = .ok (.iload_n 2, 1) := by decide +kernel
theorem dX8_lameSet_16 : decode cX8_lameSet 16 = .ok (.bipush 6, 2) := by decide +kernel
theorem dX8_lameSet_18 : decode cX8_lameSet 18 = .ok (.if_icmp .ge 27, 3) := by decide +kernel
theorem dX8_lameSet_21 : decode cX8_lameSet 21 = .ok (.aload_n 0, 1) := by decide +kernel
theorem dX8_lameSet_22 : decode cX8_lameSet 22 = .ok (.getfield 38, 3) := by decide +kernel
theorem dX8_lameSet_25 : decode cX8_lameSet 25 = .ok (.getfield 157, 3) := by decide +kernel
theorem dX8_lameSet_28 : decode cX8_lameSet 28 = .ok (.iload_n 2, 1) := by decide +kernel
theorem dX8_lameSet_29 : decode cX8_lameSet 29 = .ok (.iaload, 1) := by decide +kernel
theorem dX8_lameSet_30 : decode cX8_lameSet 30 = .ok (.ifCond .ne 9, 3) := by decide +kernel
theorem dX8_lameSet_33 : decode cX8_lameSet 33 = .ok (.iload_n 1, 1) := by decide +kernel
theorem dX8_lameSet_34 : decode cX8_lameSet 34 = .ok (.iconst 1, 1) := by decide +kernel
theorem dX8_lameSet_35 : decode cX8_lameSet 35 = .ok (.iload_n 2, 1) := by decide +kernel
theorem dX8_lameSet_36 : decode cX8_lameSet 36 = .ok (.ishl, 1) := by decide +kernel
theorem dX8_lameSet_37 : decode cX8_lameSet 37 = .ok (.ior, 1) := by decide +kernel
theorem dX8_lameSet_38 : decode cX8_lameSet 38 = .ok (.istore_n 1, 1) := by decide +kernel
theorem dX8_lameSet_39 : decode cX8_lameSet 39 = .ok (.iinc 2 1, 3) := by decide +kernel
theorem dX8_lameSet_42 : decode cX8_lameSet 42 = .ok (.goto (-38), 3) := by decide +kernel
theorem dX8_lameSet_45 : decode cX8_lameSet 45 = .ok (.iload_n 1, 1) := by decide +kernel
theorem dX8_lameSet_46 : decode cX8_lameSet 46 = .ok (.ireturn, 1) := by decide +kernel
theorem dX8_horse_0 : decode cX8_horse 0 = .ok (.aload_n 0, 1) := by decide +kernel
theorem dX8_horse_1 : decode cX8_horse 1 = .ok (.getfield 12, 3) := by decide +kernel
theorem dX8_horse_4 : decode cX8_horse 4 = .ok (.iload_n 1, 1) := by decide +kernel
theorem dX8_horse_5 : decode cX8_horse 5 = .ok (.invokevirtual 161, 3) := by decide +kernel
theorem dX8_horse_8 : decode cX8_horse 8 = .ok (.ifCond .ne 6, 3) := by decide +kernel
theorem dX8_horse_11 : decode cX8_horse 11 = .ok (.ldc 165, 2) := by decide +kernel
theorem dX8_horse_13 : decode cX8_horse 13 = .ok (.ireturn, 1) := by decide +kernel
theorem dX8_horse_14 : decode cX8_horse 14 = .ok (.iload_n 2, 1) := by decide +kernel
theorem dX8_horse_15 : decode cX8_horse 15 = .ok (.tableswitch 113 0 6 #[41, 51, 61, 71, 88, 98, 107], 41) := by decide +kernel
theorem dX8_horse_56 : decode cX8_horse 56 = .ok (.aload_n 0, 1) := by decide +kernel
theorem dX8_horse_57 : decode cX8_horse 57 = .ok (.getfield 12, 3) := by decide +kernel
theorem dX8_horse_60 : decode cX8_horse 60 = .ok (.getfield 166, 3) := by decide +kernel
theorem dX8_horse_63 : decode cX8_horse 63 = .ok (.iload_n 1, 1) := by decide +kernel
theorem dX8_horse_64 : decode cX8_horse 64 = .ok (.iaload, 1) := by decide +kernel
theorem dX8_horse_65 : decode cX8_horse 65 = .ok (.ireturn, 1) := by decide +kernel
theorem dX8_horse_66 : decode cX8_horse 66 = .ok (.aload_n 0, 1) := by decide +kernel
theorem dX8_horse_67 : decode cX8_horse 67 = .ok (.getfield 12, 3) := by decide +kernel
theorem dX8_horse_70 : decode cX8_horse 70 = .ok (.getfield 169, 3) := by decide +kernel
theorem dX8_horse_73 : decode cX8_horse 73 = .ok (.iload_n 1, 1) := by decide +kernel
theorem dX8_horse_74 : decode cX8_horse 74 = .ok (.iaload, 1) := by decide +kernel
theorem dX8_horse_75 : decode cX8_horse 75 = .ok (.ireturn, 1) := by decide +kernel
theorem dX8_horse_76 : decode cX8_horse 76 = .ok (.aload_n 0, 1) := by decide +kernel
theorem dX8_horse_77 : decode cX8_horse 77 = .ok (.getfield 12, 3) := by decide +kernel
theorem dX8_horse_80 : decode cX8_horse 80 = .ok (.getfield 170, 3) := by decide +kernel
theorem dX8_horse_83 : decode cX8_horse 83 = .ok (.iload_n 1, 1) := by decide +kernel
theorem dX8_horse_84 : decode cX8_horse 84 = .ok (.iaload, 1) := by decide +kernel
theorem dX8_horse_85 : decode cX8_horse 85 = .ok (.ireturn, 1) := by decide +kernel
theorem dX8_horse_86 : decode cX8_horse 86 = .ok (.aload_n 0, 1) := by decide +kernel
theorem dX8_horse_87 : decode cX8_horse 87 = .ok (.getfield 12, 3) := by decide +kernel
theorem dX8_horse_90 : decode cX8_horse 90 = .ok (.iload_n 1, 1) := by decide +kernel
theorem dX8_horse_91 : decode cX8_horse 91 = .ok (.invokevirtual 173, 3) := by decide +kernel
theorem dX8_horse_94 : decode cX8_horse 94 = .ok (.ifCond .eq 7, 3) := by decide +kernel
theorem dX8_horse_97 : decode cX8_horse 97 = .ok (.iconst 1, 1) := by decide +kernel
theorem dX8_horse_98 : decode cX8_horse 98 = .ok (.goto 4, 3) := by decide +kernel
theorem dX8_horse_101 : decode cX8_horse 101 = .ok (.iconst 0, 1) := by decide +kernel
theorem dX8_horse_102 : decode cX8_horse 102 = .ok (.ireturn, 1) := by decide +kernel
theorem dX8_horse_103 : decode cX8_horse 103 = .ok (.aload_n 0, 1) := by decide +kernel
theorem dX8_horse_104 : decode cX8_horse 104 = .ok (.getfield 38, 3) := by decide +kernel
theorem dX8_horse_107 : decode cX8_horse 107 = .ok (.getfield 157, 3) := by decide +kernel
theorem dX8_horse_110 : decode cX8_horse 110 = .ok (.iload_n 1, 1) := by decide +kernel
theorem dX8_horse_111 : decode cX8_horse 111 = .ok (.iaload, 1) := by decide +kernel
theorem dX8_horse_112 : decode cX8_horse 112 = .ok (.ireturn, 1) := by decide +kernel
theorem dX8_horse_113 : decode cX8_horse 113 = .ok (.aload_n 0, 1) := by decide +kernel
theorem dX8_horse_114 : decode cX8_horse 114 = .ok (.getfield 38, 3) := by decide +kernel
theorem dX8_horse_117 : decode cX8_horse 117 = .ok (.iload_n 1, 1) := by decide +kernel
theorem dX8_horse_118 : decode cX8_horse 118 = .ok (.invokevirtual 176, 3) := by decide +kernel
theorem dX8_horse_121 : decode cX8_horse 121 = .ok (.ireturn, 1) := by decide +kernel
theorem dX8_horse_122 : decode cX8_horse 122 = .ok (.aload_n 0, 1) := by decide +kernel
theorem dX8_horse_123 : decode cX8_horse 123 = .ok (.iload_n 1, 1) := by decide +kernel
theorem dX8_horse_124 : decode cX8_horse 124 = .ok (.invokevirtual 179, 3) := by decide +kernel
theorem dX8_horse_127 : decode cX8_horse 127 = .ok (.ireturn, 1) := by decide +kernel
theorem dX8_horse_128 : decode cX8_horse 128 = .ok (.ldc 80, 2) := by decide +kernel
theorem dX8_horse_130 : decode cX8_horse 130 = .ok (.ireturn, 1) := by decide +kernel
theorem dX8_pullNow_0 : decode cX8_pullNow 0 = .ok (.aload_n 0, 1) := by decide +kernel
theorem dX8_pullNow_1 : decode cX8_pullNow 1 = .ok (.getfield 38, 3) := by decide +kernel
theorem dX8_pullNow_4 : decode cX8_pullNow 4 = .ok (.iload_n 1, 1) := by decide +kernel
theorem dX8_pullNow_5 : decode cX8_pullNow 5 = .ok (.invokevirtual 176, 3) := by decide +kernel
theorem dX8_pullNow_8 : decode cX8_pullNow 8 = .ok (.istore_n 2, 1) := by decide +kernel
theorem dX8_pullNow_9 : decode cX8_pullNow 9 = .ok (.iload_n 2, 1) := by decide +kernel
theorem dX8_pullNow_10 : decode cX8_pullNow 10 = .ok (.iconst (-1), 1) := by decide +kernel
theorem dX8_pullNow_11 : decode cX8_pullNow 11 = .ok (.if_icmp .eq 15, 3) := by decide +kernel
theorem dX8_pullNow_14 : decode cX8_pullNow 14 = .ok (.aload_n 0, 1) := by decide +kernel
theorem dX8_pullNow_15 : decode cX8_pullNow 15 = .ok (.getfield 38, 3) := by decide +kernel
theorem dX8_pullNow_18 : decode cX8_pullNow 18 = .ok (.getfield 157, 3) := by decide +kernel
theorem dX8_pullNow_21 : decode cX8_pullNow 21 = .ok (.iload_n 1, 1) := by decide +kernel
theorem dX8_pullNow_22 : decode cX8_pullNow 22 = .ok (.iaload, 1) := by decide +kernel
theorem dX8_pullNow_23 : decode cX8_pullNow 23 = .ok (.ifCond .ne 5, 3) := by decide +kernel
theorem dX8_pullNow_26 : decode cX8_pullNow 26 = .ok (.iconst 0, 1) := by decide +kernel
theorem dX8_pullNow_27 : decode cX8_pullNow 27 = .ok (.ireturn, 1) := by decide +kernel
theorem dX8_pullNow_28 : decode cX8_pullNow 28 = .ok (.aload_n 0, 1) := by decide +kernel
theorem dX8_pullNow_29 : decode cX8_pullNow 29 = .ok (.invokevirtual 182, 3) := by decide +kernel
theorem dX8_pullNow_32 : decode cX8_pullNow 32 = .ok (.aload_n 0, 1) := by decide +kernel
theorem dX8_pullNow_33 : decode cX8_pullNow 33 = .ok (.getfield 31, 3) := by decide +kernel
theorem dX8_pullNow_36 : decode cX8_pullNow 36 = .ok (.iconst 0, 1) := by decide +kernel
theorem dX8_pullNow_37 : decode cX8_pullNow 37 = .ok (.iload_n 2, 1) := by decide +kernel
theorem dX8_pullNow_38 : decode cX8_pullNow 38 = .ok (.invokevirtual 185, 3) := by decide +kernel
theorem dX8_pullNow_41 : decode cX8_pullNow 41 = .ok (.ireturn, 1) := by decide +kernel
theorem dX8_beside_0 : decode cX8_beside 0 = .ok (.aload_n 0, 1) := by decide +kernel
theorem dX8_beside_1 : decode cX8_beside 1 = .ok (.getfield 12, 3) := by decide +kernel
theorem dX8_beside_4 : decode cX8_beside 4 = .ok (.iload_n 1, 1) := by decide +kernel
theorem dX8_beside_5 : decode cX8_beside 5 = .ok (.invokevirtual 161, 3) := by decide +kernel
theorem dX8_beside_8 : decode cX8_beside 8 = .ok (.ifCond .eq 19, 3) := by decide +kernel
theorem dX8_beside_11 : decode cX8_beside 11 = .ok (.aload_n 0, 1) := by decide +kernel
theorem dX8_beside_12 : decode cX8_beside 12 = .ok (.getfield 12, 3) := by decide +kernel
theorem dX8_beside_15 : decode cX8_beside 15 = .ok (.iload_n 2, 1) := by decide +kernel
theorem dX8_beside_16 : decode cX8_beside 16 = .ok (.invokevirtual 161, 3) := by decide +kernel
theorem dX8_beside_19 : decode cX8_beside 19 = .ok (.ifCond .eq 8, 3) := by decide +kernel
theorem dX8_beside_22 : decode cX8_beside 22 = .ok (.iload_n 1, 1) := by decide +kernel
theorem dX8_beside_23 : decode cX8_beside 23 = .ok (.iload_n 2, 1) := by decide +kernel
theorem dX8_beside_24 : decode cX8_beside 24 = .ok (.if_icmp .ne 6, 3) := by decide +kernel
theorem dX8_beside_27 : decode cX8_beside 27 = .ok (.ldc 165, 2) := by decide +kernel
theorem dX8_beside_29 : decode cX8_beside 29 = .ok (.ireturn, 1) := by decide +kernel
theorem dX8_beside_30 : decode cX8_beside 30 = .ok (.aload_n 0, 1) := by decide +kernel
theorem dX8_beside_31 : decode cX8_beside 31 = .ok (.getfield 12, 3) := by decide +kernel
theorem dX8_beside_34 : decode cX8_beside 34 = .ok (.iload_n 1, 1) := by decide +kernel
theorem dX8_beside_35 : decode cX8_beside 35 = .ok (.iload_n 2, 1) := by decide +kernel
theorem dX8_beside_36 : decode cX8_beside 36 = .ok (.invokevirtual 189, 3) := by decide +kernel
theorem dX8_beside_39 : decode cX8_beside 39 = .ok (.ireturn, 1) := by decide +kernel
theorem dX8_cart_0 : decode cX8_cart 0 = .ok (.iload_n 1, 1) := by decide +kernel
theorem dX8_cart_1 : decode cX8_cart 1 = .ok (.ifCond .lt 19, 3) := by decide +kernel
theorem dX8_cart_4 : decode cX8_cart 4 = .ok (.iload_n 1, 1) := by decide +kernel
theorem dX8_cart_5 : decode cX8_cart 5 = .ok (.aload_n 0, 1) := by decide +kernel
theorem dX8_cart_6 : decode cX8_cart 6 = .ok (.getfield 12, 3) := by decide +kernel
theorem dX8_cart_9 : decode cX8_cart 9 = .ok (.getfield 134, 3) := by decide +kernel
theorem dX8_cart_12 : decode cX8_cart 12 = .ok (.if_icmp .ge 8, 3) := by decide +kernel
theorem dX8_cart_15 : decode cX8_cart 15 = .ok (.iload_n 1, 1) := by decide +kernel
theorem dX8_cart_16 : decode cX8_cart 16 = .ok (.iconst 4, 1) := by decide +kernel
theorem dX8_cart_17 : decode cX8_cart 17 = .ok (.if_icmp .lt 8, 3) := by decide +kernel
theorem dX8_cart_20 : decode cX8_cart 20 = .ok (.ldc 165, 2) := by decide +kernel
theorem dX8_cart_22 : decode cX8_cart 22 = .ok (.goto 12, 3) := by decide +kernel
theorem dX8_cart_25 : decode cX8_cart 25 = .ok (.aload_n 0, 1) := by decide +kernel
theorem dX8_cart_26 : decode cX8_cart 26 = .ok (.getfield 12, 3) := by decide +kernel
theorem dX8_cart_29 : decode cX8_cart 29 = .ok (.getfield 192, 3) := by decide +kernel
theorem dX8_cart_32 : decode cX8_cart 32 = .ok (.iload_n 1, 1) := by decide +kernel
theorem dX8_cart_33 : decode cX8_cart 33 = .ok (.iaload, 1) := by decide +kernel
theorem dX8_cart_34 : decode cX8_cart 34 = .ok (.ireturn, 1) := by decide +kernel
theorem dX8_put_0 : decode cX8_put 0 = .ok (.aload_n 0, 1) := by decide +kernel
theorem dX8_put_1 : decode cX8_put 1 = .ok (.getfield 12, 3) := by decide +kernel
theorem dX8_put_4 : decode cX8_put 4 = .ok (.iload_n 1, 1) := by decide +kernel
theorem dX8_put_5 : decode cX8_put 5 = .ok (.invokevirtual 161, 3) := by decide +kernel
theorem dX8_put_8 : decode cX8_put 8 = .ok (.ifCond .eq 19, 3) := by decide +kernel
theorem dX8_put_11 : decode cX8_put 11 = .ok (.iload_n 2, 1) := by decide +kernel
theorem dX8_put_12 : decode cX8_put 12 = .ok (.iconst (-1), 1) := by decide +kernel
theorem dX8_put_13 : decode cX8_put 13 = .ok (.if_icmp .eq 17, 3) := by decide +kernel
theorem dX8_put_16 : decode cX8_put 16 = .ok (.aload_n 0, 1) := by decide +kernel
theorem dX8_put_17 : decode cX8_put 17 = .ok (.getfield 12, 3) := by decide +kernel
theorem dX8_put_20 : decode cX8_put 20 = .ok (.iload_n 2, 1) := by decide +kernel
theorem dX8_put_21 : decode cX8_put 21 = .ok (.invokevirtual 195, 3) := by decide +kernel
theorem dX8_put_24 : decode cX8_put 24 = .ok (.ifCond .ne 6, 3) := by decide +kernel
theorem dX8_put_27 : decode cX8_put 27 = .ok (.ldc 165, 2) := by decide +kernel
theorem dX8_put_29 : decode cX8_put 29 = .ok (.ireturn, 1) := by decide +kernel
theorem dX8_put_30 : decode cX8_put 30 = .ok (.iload_n 2, 1) := by decide +kernel
theorem dX8_put_31 : decode cX8_put 31 = .ok (.iconst (-1), 1) := by decide +kernel
theorem dX8_put_32 : decode cX8_put 32 = .ok (.if_icmp .eq 32, 3) := by decide +kernel
theorem dX8_put_35 : decode cX8_put 35 = .ok (.aload_n 0, 1) := by decide +kernel
theorem dX8_put_36 : decode cX8_put 36 = .ok (.getfield 38, 3) := by decide +kernel
theorem dX8_put_39 : decode cX8_put 39 = .ok (.getfield 198, 3) := by decide +kernel
theorem dX8_put_42 : decode cX8_put 42 = .ok (.iload_n 2, 1) := by decide +kernel
theorem dX8_put_43 : decode cX8_put 43 = .ok (.iaload, 1) := by decide +kernel
theorem dX8_put_44 : decode cX8_put 44 = .ok (.iconst (-1), 1) := by decide +kernel
theorem dX8_put_45 : decode cX8_put 45 = .ok (.if_icmp .eq 19, 3) := by decide +kernel
theorem dX8_put_48 : decode cX8_put 48 = .ok (.aload_n 0, 1) := by decide +kernel
theorem dX8_put_49 : decode cX8_put 49 = .ok (.getfield 38, 3) := by decide +kernel
theorem dX8_put_52 : decode cX8_put 52 = .ok (.getfield 198, 3) := by decide +kernel
theorem dX8_put_55 : decode cX8_put 55 = .ok (.iload_n 2, 1) := by decide +kernel
theorem dX8_put_56 : decode cX8_put 56 = .ok (.iaload, 1) := by decide +kernel
theorem dX8_put_57 : decode cX8_put 57 = .ok (.iload_n 1, 1) := by decide +kernel
theorem dX8_put_58 : decode cX8_put 58 = .ok (.if_icmp .eq 6, 3) := by decide +kernel
theorem dX8_put_61 : decode cX8_put 61 = .ok (.ldc 201, 2) := by decide +kernel
theorem dX8_put_63 : decode cX8_put 63 = .ok (.ireturn, 1) := by decide +kernel
theorem dX8_put_64 : decode cX8_put 64 = .ok (.aload_n 0, 1) := by decide +kernel
theorem dX8_put_65 : decode cX8_put 65 = .ok (.getfield 38, 3) := by decide +kernel
theorem dX8_put_68 : decode cX8_put 68 = .ok (.iload_n 1, 1) := by decide +kernel
theorem dX8_put_69 : decode cX8_put 69 = .ok (.invokevirtual 176, 3) := by decide +kernel
theorem dX8_put_72 : decode cX8_put 72 = .ok (.istore_n 3, 1) := by decide +kernel
theorem dX8_put_73 : decode cX8_put 73 = .ok (.iload_n 3, 1) := by decide +kernel
theorem dX8_put_74 : decode cX8_put 74 = .ok (.iconst (-1), 1) := by decide +kernel
theorem dX8_put_75 : decode cX8_put 75 = .ok (.if_icmp .eq 13, 3) := by decide +kernel
theorem dX8_put_78 : decode cX8_put 78 = .ok (.aload_n 0, 1) := by decide +kernel
theorem dX8_put_79 : decode cX8_put 79 = .ok (.getfield 38, 3) := by decide +kernel
theorem dX8_put_82 : decode cX8_put 82 = .ok (.getfield 198, 3) := by decide +kernel
theorem dX8_put_85 : decode cX8_put 85 = .ok (.iload_n 3, 1) := by decide +kernel
theorem dX8_put_86 : decode cX8_put 86 = .ok (.iconst (-1), 1) := by decide +kernel
theorem dX8_put_87 : decode cX8_put 87 = .ok (.iastore, 1) := by decide +kernel
theorem dX8_put_88 : decode cX8_put 88 = .ok (.iload_n 2, 1) := by decide +kernel
theorem dX8_put_89 : decode cX8_put 89 = .ok (.iconst (-1), 1) := by decide +kernel
theorem dX8_put_90 : decode cX8_put 90 = .ok (.if_icmp .eq 13, 3) := by decide +kernel
theorem dX8_put_93 : decode cX8_put 93 = .ok (.aload_n 0, 1) := by decide +kernel
theorem dX8_put_94 : decode cX8_put 94 = .ok (.getfield 38, 3) := by decide +kernel
theorem dX8_put_97 : decode cX8_put 97 = .ok (.getfield 198, 3) := by decide +kernel
theorem dX8_put_100 : decode cX8_put 100 = .ok (.iload_n 2, 1) := by decide +kernel
theorem dX8_put_101 : decode cX8_put 101 = .ok (.iload_n 1, 1) := by decide +kernel
theorem dX8_put_102 : decode cX8_put 102 = .ok (.iastore, 1) := by decide +kernel
theorem dX8_put_103 : decode cX8_put 103 = .ok (.iload_n 3, 1) := by decide +kernel
theorem dX8_put_104 : decode cX8_put 104 = .ok (.ireturn, 1) := by decide +kernel
theorem dX8_at_0 : decode cX8_at 0 = .ok (.aload_n 0, 1) := by decide +kernel
theorem dX8_at_1 : decode cX8_at 1 = .ok (.getfield 12, 3) := by decide +kernel
theorem dX8_at_4 : decode cX8_at 4 = .ok (.iload_n 1, 1) := by decide +kernel
theorem dX8_at_5 : decode cX8_at 5 = .ok (.invokevirtual 195, 3) := by decide +kernel
theorem dX8_at_8 : decode cX8_at 8 = .ok (.ifCond .eq 15, 3) := by decide +kernel
theorem dX8_at_11 : decode cX8_at 11 = .ok (.aload_n 0, 1) := by decide +kernel
theorem dX8_at_12 : decode cX8_at 12 = .ok (.getfield 38, 3) := by decide +kernel
theorem dX8_at_15 : decode cX8_at 15 = .ok (.getfield 198, 3) := by decide +kernel
theorem dX8_at_18 : decode cX8_at 18 = .ok (.iload_n 1, 1) := by decide +kernel
theorem dX8_at_19 : decode cX8_at 19 = .ok (.iaload, 1) := by decide +kernel
theorem dX8_at_20 : decode cX8_at 20 = .ok (.goto 5, 3) := by decide +kernel
theorem dX8_at_23 : decode cX8_at 23 = .ok (.ldc 165, 2) := by decide +kernel
theorem dX8_at_25 : decode cX8_at 25 = .ok (.ireturn, 1) := by decide +kernel
theorem dX8_cross_0 : decode cX8_cross 0 = .ok (.iload_n 1, 1) := by decide +kernel
theorem dX8_cross_1 : decode cX8_cross 1 = .ok (.invokestatic 202, 3) := by decide +kernel
theorem dX8_cross_4 : decode cX8_cross 4 = .ok (.ifCond .eq 6, 3) := by decide +kernel
theorem dX8_cross_7 : decode cX8_cross 7 = .ok (.ldc 80, 2) := by decide +kernel
theorem dX8_cross_9 : decode cX8_cross 9 = .ok (.ireturn, 1) := by decide +kernel
theorem dX8_cross_10 : decode cX8_cross 10 = .ok (.aload_n 0, 1) := by decide +kernel
theorem dX8_cross_11 : decode cX8_cross 11 = .ok (.getfield 38, 3) := by decide +kernel
theorem dX8_cross_14 : decode cX8_cross 14 = .ok (.invokevirtual 205, 3) := by decide +kernel
theorem dX8_cross_17 : decode cX8_cross 17 = .ok (.ifCond .eq 8, 3) := by decide +kernel
theorem dX8_cross_20 : decode cX8_cross 20 = .ok (.ldc 201, 2) := by decide +kernel
theorem dX8_cross_22 : decode cX8_cross 22 = .ok (.goto 8, 3) := by decide +kernel
theorem dX8_cross_25 : decode cX8_cross 25 = .ok (.aload_n 0, 1) := by decide +kernel
theorem dX8_cross_26 : decode cX8_cross 26 = .ok (.iload_n 1, 1) := by decide +kernel
theorem dX8_cross_27 : decode cX8_cross 27 = .ok (.invokevirtual 209, 3) := by decide +kernel
theorem dX8_cross_30 : decode cX8_cross 30 = .ok (.ireturn, 1) := by decide +kernel
theorem dX8_crossOver_0 : decode cX8_crossOver 0 = .ok (.aload_n 0, 1) := by decide +kernel
theorem dX8_crossOver_1 : decode cX8_crossOver 1 = .ok (.invokevirtual 182, 3) := by decide +kernel
theorem dX8_crossOver_4 : decode cX8_crossOver 4 = .ok (.aload_n 0, 1) := by decide +kernel
theorem dX8_crossOver_5 : decode cX8_crossOver 5 = .ok (.getfield 31, 3) := by decide +kernel
theorem dX8_crossOver_8 : decode cX8_crossOver 8 = .ok (.iconst 0, 1) := by decide +kernel
theorem dX8_crossOver_9 : decode cX8_crossOver 9 = .ok (.aload_n 0, 1) := by decide +kernel
theorem dX8_crossOver_10 : decode cX8_crossOver 10 = .ok (.getfield 38, 3) := by decide +kernel
theorem dX8_crossOver_13 : decode cX8_crossOver 13 = .ok (.getfield 157, 3) := by decide +kernel
theorem dX8_crossOver_16 : decode cX8_crossOver 16 = .ok (.aload_n 0, 1) := by decide +kernel
theorem dX8_crossOver_17 : decode cX8_crossOver 17 = .ok (.iload_n 1, 1) := by decide +kernel
theorem dX8_crossOver_18 : decode cX8_crossOver 18 = .ok (.invokevirtual 212, 3) := by decide +kernel
theorem dX8_crossOver_21 : decode cX8_crossOver 21 = .ok (.bipush 120, 2) := by decide +kernel
theorem dX8_crossOver_23 : decode cX8_crossOver 23 = .ok (.invokevirtual 215, 3) := by decide +kernel
theorem dX8_crossOver_26 : decode cX8_crossOver 26 = .ok (.istore_n 2, 1) := by decide +kernel
theorem dX8_crossOver_27 : decode cX8_crossOver 27 = .ok (.iload_n 2, 1) := by decide +kernel
theorem dX8_crossOver_28 : decode cX8_crossOver 28 = .ok (.iconst (-1), 1) := by decide +kernel
theorem dX8_crossOver_29 : decode cX8_crossOver 29 = .ok (.if_icmp .ne 8, 3) := by decide +kernel
theorem dX8_crossOver_32 : decode cX8_crossOver 32 = .ok (.bipush 120, 2) := by decide +kernel
theorem dX8_crossOver_34 : decode cX8_crossOver 34 = .ok (.goto 4, 3) := by decide +kernel
theorem dX8_crossOver_37 : decode cX8_crossOver 37 = .ok (.iload_n 2, 1) := by decide +kernel
theorem dX8_crossOver_38 : decode cX8_crossOver 38 = .ok (.istore_n 3, 1) := by decide +kernel
theorem dX8_crossOver_39 : decode cX8_crossOver 39 = .ok (.aload_n 0, 1) := by decide +kernel
theorem dX8_crossOver_40 : decode cX8_crossOver 40 = .ok (.getfield 31, 3) := by decide +kernel
theorem dX8_crossOver_43 : decode cX8_crossOver 43 = .ok (.iconst 0, 1) := by decide +kernel
theorem dX8_crossOver_44 : decode cX8_crossOver 44 = .ok (.aload_n 0, 1) := by decide +kernel
theorem dX8_crossOver_45 : decode cX8_crossOver 45 = .ok (.getfield 38, 3) := by decide +kernel
theorem dX8_crossOver_48 : decode cX8_crossOver 48 = .ok (.getfield 157, 3) := by decide +kernel
theorem dX8_crossOver_51 : decode cX8_crossOver 51 = .ok (.iload_n 3, 1) := by decide +kernel
theorem dX8_crossOver_52 : decode cX8_crossOver 52 = .ok (.invokevirtual 219, 3) := by decide +kernel
theorem dX8_crossOver_55 : decode cX8_crossOver 55 = .ok (.istore 4, 2) := by decide +kernel
theorem dX8_crossOver_57 : decode cX8_crossOver 57 = .ok (.aload_n 0, 1) := by decide +kernel
theorem dX8_crossOver_58 : decode cX8_crossOver 58 = .ok (.getfield 38, 3) := by decide +kernel
theorem dX8_crossOver_61 : decode cX8_crossOver 61 = .ok (.ldc 222, 2) := by decide +kernel
theorem dX8_crossOver_63 : decode cX8_crossOver 63 = .ok (.aload_n 0, 1) := by decide +kernel
theorem dX8_crossOver_64 : decode cX8_crossOver 64 = .ok (.getfield 38, 3) := by decide +kernel
theorem dX8_crossOver_67 : decode cX8_crossOver 67 = .ok (.getfield 144, 3) := by decide +kernel
theorem dX8_crossOver_70 : decode cX8_crossOver 70 = .ok (.iload 4, 2) := by decide +kernel
theorem dX8_crossOver_72 : decode cX8_crossOver 72 = .ok (.iadd, 1) := by decide +kernel
theorem dX8_crossOver_73 : decode cX8_crossOver 73 = .ok (.invokestatic 223, 3) := by decide +kernel
theorem dX8_crossOver_76 : decode cX8_crossOver 76 = .ok (.putfield 144, 3) := by decide +kernel
theorem dX8_crossOver_79 : decode cX8_crossOver 79 = .ok (.iload_n 2, 1) := by decide +kernel
theorem dX8_crossOver_80 : decode cX8_crossOver 80 = .ok (.iconst (-1), 1) := by decide +kernel
theorem dX8_crossOver_81 : decode cX8_crossOver 81 = .ok (.if_icmp .ne 16, 3) := by decide +kernel
theorem dX8_crossOver_84 : decode cX8_crossOver 84 = .ok (.aload_n 0, 1) := by decide +kernel
theorem dX8_crossOver_85 : decode cX8_crossOver 85 = .ok (.getfield 38, 3) := by decide +kernel
theorem dX8_crossOver_88 : decode cX8_crossOver 88 = .ok (.dup, 1) := by decide +kernel
theorem dX8_crossOver_89 : decode cX8_crossOver 89 = .ok (.getfield 147, 3) := by decide +kernel
theorem dX8_crossOver_92 : decode cX8_crossOver 92 = .ok (.iconst 1, 1) := by decide +kernel
theorem dX8_crossOver_93 : decode cX8_crossOver 93 = .ok (.iadd, 1) := by decide +kernel
theorem dX8_crossOver_94 : decode cX8_crossOver 94 = .ok (.putfield 147, 3) := by decide +kernel
theorem dX8_crossOver_97 : decode cX8_crossOver 97 = .ok (.aload_n 0, 1) := by decide +kernel
theorem dX8_crossOver_98 : decode cX8_crossOver 98 = .ok (.getfield 31, 3) := by decide +kernel
theorem dX8_crossOver_101 : decode cX8_crossOver 101 = .ok (.iconst 0, 1) := by decide +kernel
theorem dX8_crossOver_102 : decode cX8_crossOver 102 = .ok (.iload_n 3, 1) := by decide +kernel
theorem dX8_crossOver_103 : decode cX8_crossOver 103 = .ok (.aload_n 0, 1) := by decide +kernel
theorem dX8_crossOver_104 : decode cX8_crossOver 104 = .ok (.getfield 38, 3) := by decide +kernel
theorem dX8_crossOver_107 : decode cX8_crossOver 107 = .ok (.getfield 157, 3) := by decide +kernel
theorem dX8_crossOver_110 : decode cX8_crossOver 110 = .ok (.aload_n 0, 1) := by decide +kernel
theorem dX8_crossOver_111 : decode cX8_crossOver 111 = .ok (.getfield 38, 3) := by decide +kernel
theorem dX8_crossOver_114 : decode cX8_crossOver 114 = .ok (.getfield 157, 3) := by decide +kernel
theorem dX8_crossOver_117 : decode cX8_crossOver 117 = .ok (.invokevirtual 228, 3) := by decide +kernel
theorem dX8_crossOver_120 : decode cX8_crossOver 120 = .ok (.aload_n 0, 1) := by decide +kernel
theorem dX8_crossOver_121 : decode cX8_crossOver 121 = .ok (.getfield 38, 3) := by decide +kernel
theorem dX8_crossOver_124 : decode cX8_crossOver 124 = .ok (.dup, 1) := by decide +kernel
theorem dX8_crossOver_125 : decode cX8_crossOver 125 = .ok (.getfield 141, 3) := by decide +kernel
theorem dX8_crossOver_128 : decode cX8_crossOver 128 = .ok (.iconst 1, 1) := by decide +kernel
theorem dX8_crossOver_129 : decode cX8_crossOver 129 = .ok (.iadd, 1) := by decide +kernel
theorem dX8_crossOver_130 : decode cX8_crossOver 130 = .ok (.putfield 141, 3) := by decide +kernel
theorem dX8_crossOver_133 : decode cX8_crossOver 133 = .ok (.aload_n 0, 1) := by decide +kernel
theorem dX8_crossOver_134 : decode cX8_crossOver 134 = .ok (.invokevirtual 115, 3) := by decide +kernel
theorem dX8_crossOver_137 : decode cX8_crossOver 137 = .ok (.iload_n 2, 1) := by decide +kernel
theorem dX8_crossOver_138 : decode cX8_crossOver 138 = .ok (.ireturn, 1) := by decide +kernel
theorem dX8_seatStanding_0 : decode cX8_seatStanding 0 = .ok (.aload_n 0, 1) := by decide +kernel
theorem dX8_seatStanding_1 : decode cX8_seatStanding 1 = .ok (.getfield 31, 3) := by decide +kernel
theorem dX8_seatStanding_4 : decode cX8_seatStanding 4 = .ok (.iconst 0, 1) := by decide +kernel
theorem dX8_seatStanding_5 : decode cX8_seatStanding 5 = .ok (.aload_n 0, 1) := by decide +kernel
theorem dX8_seatStanding_6 : decode cX8_seatStanding 6 = .ok (.getfield 38, 3) := by decide +kernel
theorem dX8_seatStanding_9 : decode cX8_seatStanding 9 = .ok (.getfield 198, 3) := by decide +kernel
theorem dX8_seatStanding_12 : decode cX8_seatStanding 12 = .ok (.iconst 0, 1) := by decide +kernel
theorem dX8_seatStanding_13 : decode cX8_seatStanding 13 = .ok (.iaload, 1) := by decide +kernel
theorem dX8_seatStanding_14 : decode cX8_seatStanding 14 = .ok (.aload_n 0, 1) := by decide +kernel
theorem dX8_seatStanding_15 : decode cX8_seatStanding 15 = .ok (.getfield 38, 3) := by decide +kernel
theorem dX8_seatStanding_18 : decode cX8_seatStanding 18 = .ok (.getfield 198, 3) := by decide +kernel
theorem dX8_seatStanding_21 : decode cX8_seatStanding 21 = .ok (.iconst 1, 1) := by decide +kernel
theorem dX8_seatStanding_22 : decode cX8_seatStanding 22 = .ok (.iaload, 1) := by decide +kernel
theorem dX8_seatStanding_23 : decode cX8_seatStanding 23 = .ok (.aload_n 0, 1) := by decide +kernel
theorem dX8_seatStanding_24 : decode cX8_seatStanding 24 = .ok (.getfield 38, 3) := by decide +kernel
theorem dX8_seatStanding_27 : decode cX8_seatStanding 27 = .ok (.getfield 198, 3) := by decide +kernel
theorem dX8_seatStanding_30 : decode cX8_seatStanding 30 = .ok (.iconst 2, 1) := by decide +kernel
theorem dX8_seatStanding_31 : decode cX8_seatStanding 31 = .ok (.iaload, 1) := by decide +kernel
theorem dX8_seatStanding_32 : decode cX8_seatStanding 32 = .ok (.invokevirtual 232, 3) := by decide +kernel
theorem dX8_seatStanding_35 : decode cX8_seatStanding 35 = .ok (.return_, 1) := by decide +kernel
theorem dX8_push_0 : decode cX8_push 0 = .ok (.aload_n 0, 1) := by decide +kernel
theorem dX8_push_1 : decode cX8_push 1 = .ok (.getfield 12, 3) := by decide +kernel
theorem dX8_push_4 : decode cX8_push 4 = .ok (.aload_n 0, 1) := by decide +kernel
theorem dX8_push_5 : decode cX8_push 5 = .ok (.getfield 38, 3) := by decide +kernel
theorem dX8_push_8 : decode cX8_push 8 = .ok (.getfield 141, 3) := by decide +kernel
theorem dX8_push_11 : decode cX8_push 11 = .ok (.invokevirtual 150, 3) := by decide +kernel
theorem dX8_push_14 : decode cX8_push 14 = .ok (.iload_n 1, 1) := by decide +kernel
theorem dX8_push_15 : decode cX8_push 15 = .ok (.isub, 1) := by decide +kernel
theorem dX8_push_16 : decode cX8_push 16 = .ok (.ireturn, 1) := by decide +kernel
theorem dX8_isNoLoad_0 : decode cX8_isNoLoad 0 = .ok (.iload_n 0, 1) := by decide +kernel
theorem dX8_isNoLoad_1 : decode cX8_isNoLoad 1 = .ok (.ifCond .lt 10, 3) := by decide +kernel
theorem dX8_isNoLoad_4 : decode cX8_isNoLoad 4 = .ok (.iload_n 0, 1) := by decide +kernel
theorem dX8_isNoLoad_5 : decode cX8_isNoLoad 5 = .ok (.sipush 240, 3) := by decide +kernel
theorem dX8_isNoLoad_8 : decode cX8_isNoLoad 8 = .ok (.if_icmp .le 7, 3) := by decide +kernel
theorem dX8_isNoLoad_11 : decode cX8_isNoLoad 11 = .ok (.iconst 1, 1) := by decide +kernel
theorem dX8_isNoLoad_12 : decode cX8_isNoLoad 12 = .ok (.goto 4, 3) := by decide +kernel
theorem dX8_isNoLoad_15 : decode cX8_isNoLoad 15 = .ok (.iconst 0, 1) := by decide +kernel
theorem dX8_isNoLoad_16 : decode cX8_isNoLoad 16 = .ok (.ireturn, 1) := by decide +kernel
theorem dX8_trial_0 : decode cX8_trial 0 = .ok (.iload_n 1, 1) := by decide +kernel
theorem dX8_trial_1 : decode cX8_trial 1 = .ok (.invokestatic 202, 3) := by decide +kernel
theorem dX8_trial_4 : decode cX8_trial 4 = .ok (.ifCond .ne 12, 3) := by decide +kernel
theorem dX8_trial_7 : decode cX8_trial 7 = .ok (.iload_n 2, 1) := by decide +kernel
theorem dX8_trial_8 : decode cX8_trial 8 = .ok (.ifCond .lt 8, 3) := by decide +kernel
theorem dX8_trial_11 : decode cX8_trial 11 = .ok (.iload_n 2, 1) := by decide +kernel
theorem dX8_trial_12 : decode cX8_trial 12 = .ok (.iconst 1, 1) := by decide +kernel
theorem dX8_trial_13 : decode cX8_trial 13 = .ok (.if_icmp .le 6, 3) := by decide +kernel
theorem dX8_trial_16 : decode cX8_trial 16 = .ok (.ldc 80, 2) := by decide +kernel
theorem dX8_trial_18 : decode cX8_trial 18 = .ok (.ireturn, 1) := by decide +kernel
theorem dX8_trial_19 : decode cX8_trial 19 = .ok (.aload_n 0, 1) := by decide +kernel
theorem dX8_trial_20 : decode cX8_trial 20 = .ok (.getfield 38, 3) := by decide +kernel
theorem dX8_trial_23 : decode cX8_trial 23 = .ok (.invokevirtual 205, 3) := by decide +kernel
theorem dX8_trial_26 : decode cX8_trial 26 = .ok (.ifCond .eq 6, 3) := by decide +kernel
theorem dX8_trial_29 : decode cX8_trial 29 = .ok (.ldc 201, 2) := by decide +kernel
theorem dX8_trial_31 : decode cX8_trial 31 = .ok (.ireturn, 1) := by decide +kernel
theorem dX8_trial_32 : decode cX8_trial 32 = .ok (.aload_n 0, 1) := by decide +kernel
theorem dX8_trial_33 : decode cX8_trial 33 = .ok (.invokevirtual 182, 3) := by decide +kernel
theorem dX8_trial_36 : decode cX8_trial 36 = .ok (.aload_n 0, 1) := by decide +kernel
theorem dX8_trial_37 : decode cX8_trial 37 = .ok (.getfield 31, 3) := by decide +kernel
theorem dX8_trial_40 : decode cX8_trial 40 = .ok (.iconst 0, 1) := by decide +kernel
theorem dX8_trial_41 : decode cX8_trial 41 = .ok (.aload_n 0, 1) := by decide +kernel
theorem dX8_trial_42 : decode cX8_trial 42 = .ok (.getfield 38, 3) := by decide +kernel
theorem dX8_trial_45 : decode cX8_trial 45 = .ok (.getfield 157, 3) := by decide +kernel
theorem dX8_trial_48 : decode cX8_trial 48 = .ok (.aload_n 0, 1) := by decide +kernel
theorem dX8_trial_49 : decode cX8_trial 49 = .ok (.iload_n 1, 1) := by decide +kernel
theorem dX8_trial_50 : decode cX8_trial 50 = .ok (.invokevirtual 212, 3) := by decide +kernel
theorem dX8_trial_53 : decode cX8_trial 53 = .ok (.bipush 120, 2) := by decide +kernel
theorem dX8_trial_55 : decode cX8_trial 55 = .ok (.invokevirtual 215, 3) := by decide +kernel
theorem dX8_trial_58 : decode cX8_trial 58 = .ok (.istore_n 3, 1) := by decide +kernel
theorem dX8_trial_59 : decode cX8_trial 59 = .ok (.iload_n 2, 1) := by decide +kernel
theorem dX8_trial_60 : decode cX8_trial 60 = .ok (.ifCond .ne 5, 3) := by decide +kernel
theorem dX8_trial_63 : decode cX8_trial 63 = .ok (.iload_n 3, 1) := by decide +kernel
theorem dX8_trial_64 : decode cX8_trial 64 = .ok (.ireturn, 1) := by decide +kernel
theorem dX8_trial_65 : decode cX8_trial 65 = .ok (.aload_n 0, 1) := by decide +kernel
theorem dX8_trial_66 : decode cX8_trial 66 = .ok (.getfield 31, 3) := by decide +kernel
theorem dX8_trial_69 : decode cX8_trial 69 = .ok (.iconst 0, 1) := by decide +kernel
theorem dX8_trial_70 : decode cX8_trial 70 = .ok (.aload_n 0, 1) := by decide +kernel
theorem dX8_trial_71 : decode cX8_trial 71 = .ok (.getfield 38, 3) := by decide +kernel
theorem dX8_trial_74 : decode cX8_trial 74 = .ok (.getfield 157, 3) := by decide +kernel
theorem dX8_trial_77 : decode cX8_trial 77 = .ok (.iload_n 3, 1) := by decide +kernel
theorem dX8_trial_78 : decode cX8_trial 78 = .ok (.iconst (-1), 1) := by decide +kernel
theorem dX8_trial_79 : decode cX8_trial 79 = .ok (.if_icmp .ne 8, 3) := by decide +kernel
theorem dX8_trial_82 : decode cX8_trial 82 = .ok (.bipush 120, 2) := by decide +kernel
theorem dX8_trial_84 : decode cX8_trial 84 = .ok (.goto 4, 3) := by decide +kernel
theorem dX8_trial_87 : decode cX8_trial 87 = .ok (.iload_n 3, 1) := by decide +kernel
theorem dX8_trial_88 : decode cX8_trial 88 = .ok (.invokevirtual 219, 3) := by decide +kernel
theorem dX8_trial_91 : decode cX8_trial 91 = .ok (.ireturn, 1) := by decide +kernel
theorem dX8_rest_0 : decode cX8_rest 0 = .ok (.iload_n 1, 1) := by decide +kernel
theorem dX8_rest_1 : decode cX8_rest 1 = .ok (.iconst 1, 1) := by decide +kernel
theorem dX8_rest_2 : decode cX8_rest 2 = .ok (.if_icmp .lt 9, 3) := by decide +kernel
theorem dX8_rest_5 : decode cX8_rest 5 = .ok (.iload_n 1, 1) := by decide +kernel
theorem dX8_rest_6 : decode cX8_rest 6 = .ok (.bipush 99, 2) := by decide +kernel
theorem dX8_rest_8 : decode cX8_rest 8 = .ok (.if_icmp .le 6, 3) := by decide +kernel
theorem dX8_rest_11 : decode cX8_rest 11 = .ok (.ldc 80, 2) := by decide +kernel
theorem dX8_rest_13 : decode cX8_rest 13 = .ok (.ireturn, 1) := by decide +kernel
theorem dX8_rest_14 : decode cX8_rest 14 = .ok (.aload_n 0, 1) := by decide +kernel
theorem dX8_rest_15 : decode cX8_rest 15 = .ok (.iload_n 1, 1) := by decide +kernel
theorem dX8_rest_16 : decode cX8_rest 16 = .ok (.invokevirtual 236, 3) := by decide +kernel
theorem dX8_rest_19 : decode cX8_rest 19 = .ok (.aload_n 0, 1) := by decide +kernel
theorem dX8_rest_20 : decode cX8_rest 20 = .ok (.getfield 38, 3) := by decide +kernel
theorem dX8_rest_23 : decode cX8_rest 23 = .ok (.getfield 141, 3) := by decide +kernel
theorem dX8_rest_26 : decode cX8_rest 26 = .ok (.ireturn, 1) := by decide +kernel
theorem dX8_restAll_0 : decode cX8_restAll 0 = .ok (.aload_n 0, 1) := by decide +kernel
theorem dX8_restAll_1 : decode cX8_restAll 1 = .ok (.getfield 12, 3) := by decide +kernel
theorem dX8_restAll_4 : decode cX8_restAll 4 = .ok (.aload_n 0, 1) := by decide +kernel
theorem dX8_restAll_5 : decode cX8_restAll 5 = .ok (.getfield 38, 3) := by decide +kernel
theorem dX8_restAll_8 : decode cX8_restAll 8 = .ok (.getfield 157, 3) := by decide +kernel
theorem dX8_restAll_11 : decode cX8_restAll 11 = .ok (.iload_n 1, 1) := by decide +kernel
theorem dX8_restAll_12 : decode cX8_restAll 12 = .ok (.aload_n 0, 1) := by decide +kernel
theorem dX8_restAll_13 : decode cX8_restAll 13 = .ok (.getfield 38, 3) := by decide +kernel
theorem dX8_restAll_16 : decode cX8_restAll 16 = .ok (.getfield 157, 3) := by decide +kernel
theorem dX8_restAll_19 : decode cX8_restAll 19 = .ok (.invokevirtual 239, 3) := by decide +kernel
theorem dX8_restAll_22 : decode cX8_restAll 22 = .ok (.aload_n 0, 1) := by decide +kernel
theorem dX8_restAll_23 : decode cX8_restAll 23 = .ok (.getfield 38, 3) := by decide +kernel
theorem dX8_restAll_26 : decode cX8_restAll 26 = .ok (.dup, 1) := by decide +kernel
theorem dX8_restAll_27 : decode cX8_restAll 27 = .ok (.getfield 141, 3) := by decide +kernel
theorem dX8_restAll_30 : decode cX8_restAll 30 = .ok (.iload_n 1, 1) := by decide +kernel
theorem dX8_restAll_31 : decode cX8_restAll 31 = .ok (.iadd, 1) := by decide +kernel
theorem dX8_restAll_32 : decode cX8_restAll 32 = .ok (.putfield 141, 3) := by decide +kernel
theorem dX8_restAll_35 : decode cX8_restAll 35 = .ok (.aload_n 0, 1) := by decide +kernel
theorem dX8_restAll_36 : decode cX8_restAll 36 = .ok (.invokevirtual 115, 3) := by decide +kernel
theorem dX8_restAll_39 : decode cX8_restAll 39 = .ok (.return_, 1) := by decide +kernel
theorem dX8_drift_0 : decode cX8_drift 0 = .ok (.iload_n 1, 1) := by decide +kernel
theorem dX8_drift_1 : decode cX8_drift 1 = .ok (.iconst 1, 1) := by decide +kernel
theorem dX8_drift_2 : decode cX8_drift 2 = .ok (.if_icmp .lt 9, 3) := by decide +kernel
theorem dX8_drift_5 : decode cX8_drift 5 = .ok (.iload_n 1, 1) := by decide +kernel
theorem dX8_drift_6 : decode cX8_drift 6 = .ok (.bipush 99, 2) := by decide +kernel
theorem dX8_drift_8 : decode cX8_drift 8 = .ok (.if_icmp .le 6, 3) := by decide +kernel
theorem dX8_drift_11 : decode cX8_drift 11 = .ok (.ldc 80, 2) := by decide +kernel
theorem dX8_drift_13 : decode cX8_drift 13 = .ok (.ireturn, 1) := by decide +kernel
theorem dX8_drift_14 : decode cX8_drift 14 = .ok (.aload_n 0, 1) := by decide +kernel
theorem dX8_drift_15 : decode cX8_drift 15 = .ok (.getfield 12, 3) := by decide +kernel
theorem dX8_drift_18 : decode cX8_drift 18 = .ok (.getfield 97, 3) := by decide +kernel
theorem dX8_drift_21 : decode cX8_drift 21 = .ok (.ifCond .eq 13, 3) := by decide +kernel
theorem dX8_drift_24 : decode cX8_drift 24 = .ok (.aload_n 0, 1) := by decide +kernel
theorem dX8_drift_25 : decode cX8_drift 25 = .ok (.getfield 12, 3) := by decide +kernel
theorem dX8_drift_28 : decode cX8_drift 28 = .ok (.getfield 131, 3) := by decide +kernel
theorem dX8_drift_31 : decode cX8_drift 31 = .ok (.ifCond .ne 6, 3) := by decide +kernel
theorem dX8_drift_34 : decode cX8_drift 34 = .ok (.ldc 201, 2) := by decide +kernel
theorem dX8_drift_36 : decode cX8_drift 36 = .ok (.ireturn, 1) := by decide +kernel
theorem dX8_drift_37 : decode cX8_drift 37 = .ok (.iconst 0, 1) := by decide +kernel
theorem dX8_drift_38 : decode cX8_drift 38 = .ok (.istore_n 2, 1) := by decide +kernel
theorem dX8_drift_39 : decode cX8_drift 39 = .ok (.iload_n 2, 1) := by decide +kernel
theorem dX8_drift_40 : decode cX8_drift 40 = .ok (.iload_n 1, 1) := by decide +kernel
theorem dX8_drift_41 : decode cX8_drift 41 = .ok (.if_icmp .ge 13, 3) := by decide +kernel
theorem dX8_drift_44 : decode cX8_drift 44 = .ok (.aload_n 0, 1) := by decide +kernel
theorem dX8_drift_45 : decode cX8_drift 45 = .ok (.invokevirtual 243, 3) := by decide +kernel
theorem dX8_drift_48 : decode cX8_drift 48 = .ok (.iinc 2 1, 3) := by decide +kernel
theorem dX8_drift_51 : decode cX8_drift 51 = .ok (.goto (-12), 3) := by decide +kernel
theorem dX8_drift_54 : decode cX8_drift 54 = .ok (.aload_n 0, 1) := by decide +kernel
theorem dX8_drift_55 : decode cX8_drift 55 = .ok (.getfield 38, 3) := by decide +kernel
theorem dX8_drift_58 : decode cX8_drift 58 = .ok (.getfield 147, 3) := by decide +kernel
theorem dX8_drift_61 : decode cX8_drift 61 = .ok (.ireturn, 1) := by decide +kernel
theorem dX8_driftDay_0 : decode cX8_driftDay 0 = .ok (.aload_n 0, 1) := by decide +kernel
theorem dX8_driftDay_1 : decode cX8_driftDay 1 = .ok (.getfield 38, 3) := by decide +kernel
theorem dX8_driftDay_4 : decode cX8_driftDay 4 = .ok (.getfield 198, 3) := by decide +kernel
theorem dX8_driftDay_7 : decode cX8_driftDay 7 = .ok (.iconst (-1), 1) := by decide +kernel
theorem dX8_driftDay_8 : decode cX8_driftDay 8 = .ok (.invokestatic 246, 3) := by decide +kernel
theorem dX8_driftDay_11 : decode cX8_driftDay 11 = .ok (.iconst 0, 1) := by decide +kernel
theorem dX8_driftDay_12 : decode cX8_driftDay 12 = .ok (.istore_n 1, 1) := by decide +kernel
theorem dX8_driftDay_13 : decode cX8_driftDay 13 = .ok (.iload_n 1, 1) := by decide +kernel
theorem dX8_driftDay_14 : decode cX8_driftDay 14 = .ok (.aload_n 0, 1) := by decide +kernel
theorem dX8_driftDay_15 : decode cX8_driftDay 15 = .ok (.getfield 12, 3) := by decide +kernel
theorem dX8_driftDay_18 : decode cX8_driftDay 18 = .ok (.getfield 97, 3) := by decide +kernel
theorem dX8_driftDay_21 : decode cX8_driftDay 21 = .ok (.if_icmp .ge 64, 3) := by decide +kernel
theorem dX8_driftDay_24 : decode cX8_driftDay 24 = .ok (.iload_n 1, 1) := by decide +kernel
theorem dX8_driftDay_25 : decode cX8_driftDay 25 = .ok (.iconst 3, 1) := by decide +kernel
theorem dX8_driftDay_26 : decode cX8_driftDay 26 = .ok (.if_icmp .ge 59, 3) := by decide +kernel
theorem dX8_driftDay_29 : decode cX8_driftDay 29 = .ok (.aload_n 0, 1) := by decide +kernel
theorem dX8_driftDay_30 : decode cX8_driftDay 30 = .ok (.getfield 38, 3) := by decide +kernel
theorem dX8_driftDay_33 : decode cX8_driftDay 33 = .ok (.aload_n 0, 1) := by decide +kernel
theorem dX8_driftDay_34 : decode cX8_driftDay 34 = .ok (.getfield 12, 3) := by decide +kernel
theorem dX8_driftDay_37 : decode cX8_driftDay 37 = .ok (.getfield 131, 3) := by decide +kernel
theorem dX8_driftDay_40 : decode cX8_driftDay 40 = .ok (.iconst 1, 1) := by decide +kernel
theorem dX8_driftDay_41 : decode cX8_driftDay 41 = .ok (.iadd, 1) := by decide +kernel
theorem dX8_driftDay_42 : decode cX8_driftDay 42 = .ok (.invokevirtual 251, 3) := by decide +kernel
theorem dX8_driftDay_45 : decode cX8_driftDay 45 = .ok (.istore_n 2, 1) := by decide +kernel
theorem dX8_driftDay_46 : decode cX8_driftDay 46 = .ok (.iload_n 2, 1) := by decide +kernel
theorem dX8_driftDay_47 : decode cX8_driftDay 47 = .ok (.aload_n 0, 1) := by decide +kernel
theorem dX8_driftDay_48 : decode cX8_driftDay 48 = .ok (.getfield 12, 3) := by decide +kernel
theorem dX8_driftDay_51 : decode cX8_driftDay 51 = .ok (.getfield 131, 3) := by decide +kernel
theorem dX8_driftDay_54 : decode cX8_driftDay 54 = .ok (.if_icmp .ge 25, 3) := by decide +kernel
theorem dX8_driftDay_57 : decode cX8_driftDay 57 = .ok (.aload_n 0, 1) := by decide +kernel
theorem dX8_driftDay_58 : decode cX8_driftDay 58 = .ok (.getfield 38, 3) := by decide +kernel
theorem dX8_driftDay_61 : decode cX8_driftDay 61 = .ok (.iload_n 2, 1) := by decide +kernel
theorem dX8_driftDay_62 : decode cX8_driftDay 62 = .ok (.invokevirtual 176, 3) := by decide +kernel
theorem dX8_driftDay_65 : decode cX8_driftDay 65 = .ok (.iconst (-1), 1) := by decide +kernel
theorem dX8_driftDay_66 : decode cX8_driftDay 66 = .ok (.if_icmp .ne 13, 3) := by decide +kernel
theorem dX8_driftDay_69 : decode cX8_driftDay 69 = .ok (.aload_n 0, 1) := by decide +kernel
theorem dX8_driftDay_70 : decode cX8_driftDay 70 = .ok (.getfield 38, 3) := by decide +kernel
theorem dX8_driftDay_73 : decode cX8_driftDay 73 = .ok (.getfield 198, 3) := by decide +kernel
theorem dX8_driftDay_76 : decode cX8_driftDay 76 = .ok (.iload_n 1, 1) := by decide +kernel
theorem dX8_driftDay_77 : decode cX8_driftDay 77 = .ok (.iload_n 2, 1) := by decide +kernel
theorem dX8_driftDay_78 : decode cX8_driftDay 78 = .ok (.iastore, 1) := by decide +kernel
theorem dX8_driftDay_79 : decode cX8_driftDay 79 = .ok (.iinc 1 1, 3) := by decide +kernel
theorem dX8_driftDay_82 : decode cX8_driftDay 82 = .ok (.goto (-69), 3) := by decide +kernel
theorem dX8_driftDay_85 : decode cX8_driftDay 85 = .ok (.aload_n 0, 1) := by decide +kernel
theorem dX8_driftDay_86 : decode cX8_driftDay 86 = .ok (.getfield 38, 3) := by decide +kernel
theorem dX8_driftDay_89 : decode cX8_driftDay 89 = .ok (.bipush 30, 2) := by decide +kernel
theorem dX8_driftDay_91 : decode cX8_driftDay 91 = .ok (.invokevirtual 251, 3) := by decide +kernel
theorem dX8_driftDay_94 : decode cX8_driftDay 94 = .ok (.istore_n 1, 1) := by decide +kernel
theorem dX8_driftDay_95 : decode cX8_driftDay 95 = .ok (.aload_n 0, 1) := by decide +kernel
theorem dX8_driftDay_96 : decode cX8_driftDay 96 = .ok (.getfield 38, 3) := by decide +kernel
theorem dX8_driftDay_99 : decode cX8_driftDay 99 = .ok (.invokevirtual 205, 3) := by decide +kernel
theorem dX8_driftDay_102 : decode cX8_driftDay 102 = .ok (.ifCond .ne 9, 3) := by decide +kernel
theorem dX8_driftDay_105 : decode cX8_driftDay 105 = .ok (.aload_n 0, 1) := by decide +kernel
theorem dX8_driftDay_106 : decode cX8_driftDay 106 = .ok (.iload_n 1, 1) := by decide +kernel
theorem dX8_driftDay_107 : decode cX8_driftDay 107 = .ok (.invokevirtual 209, 3) := by decide +kernel
theorem dX8_driftDay_110 : decode cX8_driftDay 110 = .ok (.pop, 1) := by decide +kernel
theorem dX8_driftDay_111 : decode cX8_driftDay 111 = .ok (.aload_n 0, 1) := by decide +kernel
theorem dX8_driftDay_112 : decode cX8_driftDay 112 = .ok (.aload_n 0, 1) := by decide +kernel
theorem dX8_driftDay_113 : decode cX8_driftDay 113 = .ok (.getfield 38, 3) := by decide +kernel
theorem dX8_driftDay_116 : decode cX8_driftDay 116 = .ok (.iconst 4, 1) := by decide +kernel
theorem dX8_driftDay_117 : decode cX8_driftDay 117 = .ok (.invokevirtual 251, 3) := by decide +kernel
theorem dX8_driftDay_120 : decode cX8_driftDay 120 = .ok (.invokevirtual 236, 3) := by decide +kernel
theorem dX8_driftDay_123 : decode cX8_driftDay 123 = .ok (.return_, 1) := by decide +kernel
theorem dX8_soonest_0 : decode cX8_soonest 0 = .ok (.iload_n 2, 1) := by decide +kernel
theorem dX8_soonest_1 : decode cX8_soonest 1 = .ok (.iconst (-1), 1) := by decide +kernel
theorem dX8_soonest_2 : decode cX8_soonest 2 = .ok (.if_icmp .eq 23, 3) := by decide +kernel
theorem dX8_soonest_5 : decode cX8_soonest 5 = .ok (.iload_n 2, 1) := by decide +kernel
theorem dX8_soonest_6 : decode cX8_soonest 6 = .ok (.bipush (-2), 2) := by decide +kernel
theorem dX8_soonest_8 : decode cX8_soonest 8 = .ok (.if_icmp .eq 17, 3) := by decide +kernel
theorem dX8_soonest_11 : decode cX8_soonest 11 = .ok (.aload_n 0, 1) := by decide +kernel
theorem dX8_soonest_12 : decode cX8_soonest 12 = .ok (.getfield 12, 3) := by decide +kernel
theorem dX8_soonest_15 : decode cX8_soonest 15 = .ok (.iload_n 2, 1) := by decide +kernel
theorem dX8_soonest_16 : decode cX8_soonest 16 = .ok (.invokevirtual 195, 3) := by decide +kernel
theorem dX8_soonest_19 : decode cX8_soonest 19 = .ok (.ifCond .ne 6, 3) := by decide +kernel
theorem dX8_soonest_22 : decode cX8_soonest 22 = .ok (.ldc 165, 2) := by decide +kernel
theorem dX8_soonest_24 : decode cX8_soonest 24 = .ok (.ireturn, 1) := by decide +kernel
theorem dX8_soonest_25 : decode cX8_soonest 25 = .ok (.iload_n 1, 1) := by decide +kernel
theorem dX8_soonest_26 : decode cX8_soonest 26 = .ok (.invokestatic 202, 3) := by decide +kernel
theorem dX8_soonest_29 : decode cX8_soonest 29 = .ok (.ifCond .eq 6, 3) := by decide +kernel
theorem dX8_soonest_32 : decode cX8_soonest 32 = .ok (.ldc 80, 2) := by decide +kernel
theorem dX8_soonest_34 : decode cX8_soonest 34 = .ok (.ireturn, 1) := by decide +kernel
theorem dX8_soonest_35 : decode cX8_soonest 35 = .ok (.aload_n 0, 1) := by decide +kernel
theorem dX8_soonest_36 : decode cX8_soonest 36 = .ok (.getfield 53, 3) := by decide +kernel
theorem dX8_soonest_39 : decode cX8_soonest 39 = .ok (.aload_n 0, 1) := by decide +kernel
theorem dX8_soonest_40 : decode cX8_soonest 40 = .ok (.getfield 38, 3) := by decide +kernel
theorem dX8_soonest_43 : decode cX8_soonest 43 = .ok (.getfield 157, 3) := by decide +kernel
theorem dX8_soonest_46 : decode cX8_soonest 46 = .ok (.aload_n 0, 1) := by decide +kernel
theorem dX8_soonest_47 : decode cX8_soonest 47 = .ok (.iload_n 1, 1) := by decide +kernel
theorem dX8_soonest_48 : decode cX8_soonest 48 = .ok (.invokevirtual 212, 3) := by decide +kernel
theorem dX8_soonest_51 : decode cX8_soonest 51 = .ok (.iconst (-1), 1) := by decide +kernel
theorem dX8_soonest_52 : decode cX8_soonest 52 = .ok (.invokevirtual 254, 3) := by decide +kernel
theorem dX8_soonest_55 : decode cX8_soonest 55 = .ok (.ifCond .ne 5, 3) := by decide +kernel
theorem dX8_soonest_58 : decode cX8_soonest 58 = .ok (.iconst (-1), 1) := by decide +kernel
theorem dX8_soonest_59 : decode cX8_soonest 59 = .ok (.ireturn, 1) := by decide +kernel
theorem dX8_soonest_60 : decode cX8_soonest 60 = .ok (.iload_n 2, 1) := by decide +kernel
theorem dX8_soonest_61 : decode cX8_soonest 61 = .ok (.iconst (-1), 1) := by decide +kernel
theorem dX8_soonest_62 : decode cX8_soonest 62 = .ok (.if_icmp .ne 11, 3) := by decide +kernel
theorem dX8_soonest_65 : decode cX8_soonest 65 = .ok (.aload_n 0, 1) := by decide +kernel
theorem dX8_soonest_66 : decode cX8_soonest 66 = .ok (.getfield 53, 3) := by decide +kernel
theorem dX8_soonest_69 : decode cX8_soonest 69 = .ok (.getfield 258, 3) := by decide +kernel
theorem dX8_soonest_72 : decode cX8_soonest 72 = .ok (.ireturn, 1) := by decide +kernel
theorem dX8_soonest_73 : decode cX8_soonest 73 = .ok (.iload_n 2, 1) := by decide +kernel
theorem dX8_soonest_74 : decode cX8_soonest 74 = .ok (.bipush (-2), 2) := by decide +kernel
theorem dX8_soonest_76 : decode cX8_soonest 76 = .ok (.if_icmp .ne 13, 3) := by decide +kernel
theorem dX8_soonest_79 : decode cX8_soonest 79 = .ok (.aload_n 0, 1) := by decide +kernel
theorem dX8_soonest_80 : decode cX8_soonest 80 = .ok (.getfield 53, 3) := by decide +kernel
theorem dX8_soonest_83 : decode cX8_soonest 83 = .ok (.getfield 260, 3) := by decide +kernel
theorem dX8_soonest_86 : decode cX8_soonest 86 = .ok (.goto 18, 3) := by decide +kernel
theorem dX8_soonest_89 : decode cX8_soonest 89 = .ok (.aload_n 0, 1) := by decide +kernel
theorem dX8_soonest_90 : decode cX8_soonest 90 = .ok (.getfield 31, 3) := by decide +kernel
theorem dX8_soonest_93 : decode cX8_soonest 93 = .ok (.aload_n 0, 1) := by decide +kernel
theorem dX8_soonest_94 : decode cX8_soonest 94 = .ok (.getfield 53, 3) := by decide +kernel
theorem dX8_soonest_97 : decode cX8_soonest 97 = .ok (.getfield 261, 3) := by decide +kernel
theorem dX8_soonest_100 : decode cX8_soonest 100 = .ok (.iload_n 2, 1) := by decide +kernel
theorem dX8_soonest_101 : decode cX8_soonest 101 = .ok (.invokevirtual 264, 3) := by decide +kernel
theorem dX8_soonest_104 : decode cX8_soonest 104 = .ok (.ireturn, 1) := by decide +kernel
theorem dX8_cheapest_0 : decode cX8_cheapest 0 = .ok (.iload_n 2, 1) := by decide +kernel
theorem dX8_cheapest_1 : decode cX8_cheapest 1 = .ok (.iconst (-1), 1) := by decide +kernel
theorem dX8_cheapest_2 : decode cX8_cheapest 2 = .ok (.if_icmp .eq 23, 3) := by decide +kernel
theorem dX8_cheapest_5 : decode cX8_cheapest 5 = .ok (.iload_n 2, 1) := by decide +kernel
theorem dX8_cheapest_6 : decode cX8_cheapest 6 = .ok (.bipush (-2), 2) := by decide +kernel
theorem dX8_cheapest_8 : decode cX8_cheapest 8 = .ok (.if_icmp .eq 17, 3) := by decide +kernel
theorem dX8_cheapest_11 : decode cX8_cheapest 11 = .ok (.aload_n 0, 1) := by decide +kernel
theorem dX8_cheapest_12 : decode cX8_cheapest 12 = .ok (.getfield 12, 3) := by decide +kernel
theorem dX8_cheapest_15 : decode cX8_cheapest 15 = .ok (.iload_n 2, 1) := by decide +kernel
theorem dX8_cheapest_16 : decode cX8_cheapest 16 = .ok (.invokevirtual 195, 3) := by decide +kernel
theorem dX8_cheapest_19 : decode cX8_cheapest 19 = .ok (.ifCond .ne 6, 3) := by decide +kernel
theorem dX8_cheapest_22 : decode cX8_cheapest 22 = .ok (.ldc 165, 2) := by decide +kernel
theorem dX8_cheapest_24 : decode cX8_cheapest 24 = .ok (.ireturn, 1) := by decide +kernel
theorem dX8_cheapest_25 : decode cX8_cheapest 25 = .ok (.iload_n 1, 1) := by decide +kernel
theorem dX8_cheapest_26 : decode cX8_cheapest 26 = .ok (.invokestatic 202, 3) := by decide +kernel
theorem dX8_cheapest_29 : decode cX8_cheapest 29 = .ok (.ifCond .eq 6, 3) := by decide +kernel
theorem dX8_cheapest_32 : decode cX8_cheapest 32 = .ok (.ldc 80, 2) := by decide +kernel
theorem dX8_cheapest_34 : decode cX8_cheapest 34 = .ok (.ireturn, 1) := by decide +kernel
theorem dX8_cheapest_35 : decode cX8_cheapest 35 = .ok (.aload_n 0, 1) := by decide +kernel
theorem dX8_cheapest_36 : decode cX8_cheapest 36 = .ok (.getfield 53, 3) := by decide +kernel
theorem dX8_cheapest_39 : decode cX8_cheapest 39 = .ok (.aload_n 0, 1) := by decide +kernel
theorem dX8_cheapest_40 : decode cX8_cheapest 40 = .ok (.getfield 38, 3) := by decide +kernel
theorem dX8_cheapest_43 : decode cX8_cheapest 43 = .ok (.getfield 157, 3) := by decide +kernel
theorem dX8_cheapest_46 : decode cX8_cheapest 46 = .ok (.aload_n 0, 1) := by decide +kernel
theorem dX8_cheapest_47 : decode cX8_cheapest 47 = .ok (.iload_n 1, 1) := by decide +kernel
theorem dX8_cheapest_48 : decode cX8_cheapest 48 = .ok (.invokevirtual 212, 3) := by decide +kernel
theorem dX8_cheapest_51 : decode cX8_cheapest 51 = .ok (.invokevirtual 267, 3) := by decide +kernel
theorem dX8_cheapest_54 : decode cX8_cheapest 54 = .ok (.ifCond .ne 5, 3) := by decide +kernel
theorem dX8_cheapest_57 : decode cX8_cheapest 57 = .ok (.iconst (-1), 1) := by decide +kernel
theorem dX8_cheapest_58 : decode cX8_cheapest 58 = .ok (.ireturn, 1) := by decide +kernel
theorem dX8_cheapest_59 : decode cX8_cheapest 59 = .ok (.iload_n 2, 1) := by decide +kernel
theorem dX8_cheapest_60 : decode cX8_cheapest 60 = .ok (.iconst (-1), 1) := by decide +kernel
theorem dX8_cheapest_61 : decode cX8_cheapest 61 = .ok (.if_icmp .ne 11, 3) := by decide +kernel
theorem dX8_cheapest_64 : decode cX8_cheapest 64 = .ok (.aload_n 0, 1) := by decide +kernel
theorem dX8_cheapest_65 : decode cX8_cheapest 65 = .ok (.getfield 53, 3) := by decide +kernel
theorem dX8_cheapest_68 : decode cX8_cheapest 68 = .ok (.getfield 260, 3) := by decide +kernel
theorem dX8_cheapest_71 : decode cX8_cheapest 71 = .ok (.ireturn, 1) := by decide +kernel
theorem dX8_cheapest_72 : decode cX8_cheapest 72 = .ok (.iload_n 2, 1) := by decide +kernel
theorem dX8_cheapest_73 : decode cX8_cheapest 73 = .ok (.bipush (-2), 2) := by decide +kernel
theorem dX8_cheapest_75 : decode cX8_cheapest 75 = .ok (.if_icmp .ne 13, 3) := by decide +kernel
theorem dX8_cheapest_78 : decode cX8_cheapest 78 = .ok (.aload_n 0, 1) := by decide +kernel
theorem dX8_cheapest_79 : decode cX8_cheapest 79 = .ok (.getfield 53, 3) := by decide +kernel
theorem dX8_cheapest_82 : decode cX8_cheapest 82 = .ok (.getfield 258, 3) := by decide +kernel
theorem dX8_cheapest_85 : decode cX8_cheapest 85 = .ok (.goto 18, 3) := by decide +kernel
theorem dX8_cheapest_88 : decode cX8_cheapest 88 = .ok (.aload_n 0, 1) := by decide +kernel
theorem dX8_cheapest_89 : decode cX8_cheapest 89 = .ok (.getfield 31, 3) := by decide +kernel
theorem dX8_cheapest_92 : decode cX8_cheapest 92 = .ok (.aload_n 0, 1) := by decide +kernel
theorem dX8_cheapest_93 : decode cX8_cheapest 93 = .ok (.getfield 53, 3) := by decide +kernel
theorem dX8_cheapest_96 : decode cX8_cheapest 96 = .ok (.getfield 261, 3) := by decide +kernel
theorem dX8_cheapest_99 : decode cX8_cheapest 99 = .ok (.iload_n 2, 1) := by decide +kernel
theorem dX8_cheapest_100 : decode cX8_cheapest 100 = .ok (.invokevirtual 264, 3) := by decide +kernel
theorem dX8_cheapest_103 : decode cX8_cheapest 103 = .ok (.ireturn, 1) := by decide +kernel
theorem dX8_twice_0 : decode cX8_twice 0 = .ok (.iload_n 3, 1) := by decide +kernel
theorem dX8_twice_1 : decode cX8_twice 1 = .ok (.iconst (-1), 1) := by decide +kernel
theorem dX8_twice_2 : decode cX8_twice 2 = .ok (.if_icmp .eq 17, 3) := by decide +kernel
theorem dX8_twice_5 : decode cX8_twice 5 = .ok (.aload_n 0, 1) := by decide +kernel
theorem dX8_twice_6 : decode cX8_twice 6 = .ok (.getfield 12, 3) := by decide +kernel
theorem dX8_twice_9 : decode cX8_twice 9 = .ok (.iload_n 3, 1) := by decide +kernel
theorem dX8_twice_10 : decode cX8_twice 10 = .ok (.invokevirtual 195, 3) := by decide +kernel
theorem dX8_twice_13 : decode cX8_twice 13 = .ok (.ifCond .ne 6, 3) := by decide +kernel
theorem dX8_twice_16 : decode cX8_twice 16 = .ok (.ldc 165, 2) := by decide +kernel
theorem dX8_twice_18 : decode cX8_twice 18 = .ok (.ireturn, 1) := by decide +kernel
theorem dX8_twice_19 : decode cX8_twice 19 = .ok (.iload_n 1, 1) := by decide +kernel
theorem dX8_twice_20 : decode cX8_twice 20 = .ok (.invokestatic 202, 3) := by decide +kernel
theorem dX8_twice_23 : decode cX8_twice 23 = .ok (.ifCond .ne 12, 3) := by decide +kernel
theorem dX8_twice_26 : decode cX8_twice 26 = .ok (.iload_n 2, 1) := by decide +kernel
theorem dX8_twice_27 : decode cX8_twice 27 = .ok (.ifCond .lt 8, 3) := by decide +kernel
theorem dX8_twice_30 : decode cX8_twice 30 = .ok (.iload_n 2, 1) := by decide +kernel
theorem dX8_twice_31 : decode cX8_twice 31 = .ok (.iconst 1, 1) := by decide +kernel
theorem dX8_twice_32 : decode cX8_twice 32 = .ok (.if_icmp .le 6, 3) := by decide +kernel
theorem dX8_twice_35 : decode cX8_twice 35 = .ok (.ldc 80, 2) := by decide +kernel
theorem dX8_twice_37 : decode cX8_twice 37 = .ok (.ireturn, 1) := by decide +kernel
theorem dX8_twice_38 : decode cX8_twice 38 = .ok (.aload_n 0, 1) := by decide +kernel
theorem dX8_twice_39 : decode cX8_twice 39 = .ok (.getfield 60, 3) := by decide +kernel
theorem dX8_twice_42 : decode cX8_twice 42 = .ok (.aload_n 0, 1) := by decide +kernel
theorem dX8_twice_43 : decode cX8_twice 43 = .ok (.getfield 38, 3) := by decide +kernel
theorem dX8_twice_46 : decode cX8_twice 46 = .ok (.getfield 157, 3) := by decide +kernel
theorem dX8_twice_49 : decode cX8_twice 49 = .ok (.aload_n 0, 1) := by decide +kernel
theorem dX8_twice_50 : decode cX8_twice 50 = .ok (.getfield 38, 3) := by decide +kernel
theorem dX8_twice_53 : decode cX8_twice 53 = .ok (.getfield 141, 3) := by decide +kernel
theorem dX8_twice_56 : decode cX8_twice 56 = .ok (.iload_n 1, 1) := by decide +kernel
theorem dX8_twice_57 : decode cX8_twice 57 = .ok (.invokevirtual 271, 3) := by decide +kernel
theorem dX8_twice_60 : decode cX8_twice 60 = .ok (.ifCond .ne 5, 3) := by decide +kernel
theorem dX8_twice_63 : decode cX8_twice 63 = .ok (.iconst (-1), 1) := by decide +kernel
theorem dX8_twice_64 : decode cX8_twice 64 = .ok (.ireturn, 1) := by decide +kernel
theorem dX8_twice_65 : decode cX8_twice 65 = .ok (.iload_n 3, 1) := by decide +kernel
theorem dX8_twice_66 : decode cX8_twice 66 = .ok (.iconst (-1), 1) := by decide +kernel
theorem dX8_twice_67 : decode cX8_twice 67 = .ok (.if_icmp .ne 13, 3) := by decide +kernel
theorem dX8_twice_70 : decode cX8_twice 70 = .ok (.aload_n 0, 1) := by decide +kernel
theorem dX8_twice_71 : decode cX8_twice 71 = .ok (.getfield 60, 3) := by decide +kernel
theorem dX8_twice_74 : decode cX8_twice 74 = .ok (.getfield 274, 3) := by decide +kernel
theorem dX8_twice_77 : decode cX8_twice 77 = .ok (.goto 32, 3) := by decide +kernel
theorem dX8_twice_80 : decode cX8_twice 80 = .ok (.aload_n 0, 1) := by decide +kernel
theorem dX8_twice_81 : decode cX8_twice 81 = .ok (.getfield 31, 3) := by decide +kernel
theorem dX8_twice_84 : decode cX8_twice 84 = .ok (.iload_n 2, 1) := by decide +kernel
theorem dX8_twice_85 : decode cX8_twice 85 = .ok (.ifCond .ne 13, 3) := by decide +kernel
theorem dX8_twice_88 : decode cX8_twice 88 = .ok (.aload_n 0, 1) := by decide +kernel
theorem dX8_twice_89 : decode cX8_twice 89 = .ok (.getfield 60, 3) := by decide +kernel
theorem dX8_twice_92 : decode cX8_twice 92 = .ok (.getfield 275, 3) := by decide +kernel
theorem dX8_twice_95 : decode cX8_twice 95 = .ok (.goto 10, 3) := by decide +kernel
theorem dX8_twice_98 : decode cX8_twice 98 = .ok (.aload_n 0, 1) := by decide +kernel
theorem dX8_twice_99 : decode cX8_twice 99 = .ok (.getfield 60, 3) := by decide +kernel
theorem dX8_twice_102 : decode cX8_twice 102 = .ok (.getfield 278, 3) := by decide +kernel
theorem dX8_twice_105 : decode cX8_twice 105 = .ok (.iload_n 3, 1) := by decide +kernel
theorem dX8_twice_106 : decode cX8_twice 106 = .ok (.invokevirtual 264, 3) := by decide +kernel
theorem dX8_twice_109 : decode cX8_twice 109 = .ok (.ireturn, 1) := by decide +kernel
theorem dX8_best_0 : decode cX8_best 0 = .ok (.iload_n 1, 1) := by decide +kernel
theorem dX8_best_1 : decode cX8_best 1 = .ok (.invokestatic 202, 3) := by decide +kernel
theorem dX8_best_4 : decode cX8_best 4 = .ok (.ifCond .ne 12, 3) := by decide +kernel
theorem dX8_best_7 : decode cX8_best 7 = .ok (.iload_n 2, 1) := by decide +kernel
theorem dX8_best_8 : decode cX8_best 8 = .ok (.ifCond .lt 8, 3) := by decide +kernel
theorem dX8_best_11 : decode cX8_best 11 = .ok (.iload_n 2, 1) := by decide +kernel
theorem dX8_best_12 : decode cX8_best 12 = .ok (.iconst 1, 1) := by decide +kernel
theorem dX8_best_13 : decode cX8_best 13 = .ok (.if_icmp .le 6, 3) := by decide +kernel
theorem dX8_best_16 : decode cX8_best 16 = .ok (.ldc 80, 2) := by decide +kernel
theorem dX8_best_18 : decode cX8_best 18 = .ok (.ireturn, 1) := by decide +kernel
theorem dX8_best_19 : decode cX8_best 19 = .ok (.aload_n 0, 1) := by decide +kernel
theorem dX8_best_20 : decode cX8_best 20 = .ok (.getfield 53, 3) := by decide +kernel
theorem dX8_best_23 : decode cX8_best 23 = .ok (.aload_n 0, 1) := by decide +kernel
theorem dX8_best_24 : decode cX8_best 24 = .ok (.getfield 38, 3) := by decide +kernel
theorem dX8_best_27 : decode cX8_best 27 = .ok (.getfield 157, 3) := by decide +kernel
theorem dX8_best_30 : decode cX8_best 30 = .ok (.aload_n 0, 1) := by decide +kernel
theorem dX8_best_31 : decode cX8_best 31 = .ok (.getfield 38, 3) := by decide +kernel
theorem dX8_best_34 : decode cX8_best 34 = .ok (.getfield 141, 3) := by decide +kernel
theorem dX8_best_37 : decode cX8_best 37 = .ok (.iload_n 1, 1) := by decide +kernel
theorem dX8_best_38 : decode cX8_best 38 = .ok (.invokevirtual 281, 3) := by decide +kernel
theorem dX8_best_41 : decode cX8_best 41 = .ok (.ifCond .ne 5, 3) := by decide +kernel
theorem dX8_best_44 : decode cX8_best 44 = .ok (.iconst (-1), 1) := by decide +kernel
theorem dX8_best_45 : decode cX8_best 45 = .ok (.ireturn, 1) := by decide +kernel
theorem dX8_best_46 : decode cX8_best 46 = .ok (.iload_n 2, 1) := by decide +kernel
theorem dX8_best_47 : decode cX8_best 47 = .ok (.ifCond .ne 13, 3) := by decide +kernel
theorem dX8_best_50 : decode cX8_best 50 = .ok (.aload_n 0, 1) := by decide +kernel
theorem dX8_best_51 : decode cX8_best 51 = .ok (.getfield 53, 3) := by decide +kernel
theorem dX8_best_54 : decode cX8_best 54 = .ok (.getfield 284, 3) := by decide +kernel
theorem dX8_best_57 : decode cX8_best 57 = .ok (.goto 10, 3) := by decide +kernel
theorem dX8_best_60 : decode cX8_best 60 = .ok (.aload_n 0, 1) := by decide +kernel
theorem dX8_best_61 : decode cX8_best 61 = .ok (.getfield 53, 3) := by decide +kernel
theorem dX8_best_64 : decode cX8_best 64 = .ok (.getfield 287, 3) := by decide +kernel
theorem dX8_best_67 : decode cX8_best 67 = .ok (.ireturn, 1) := by decide +kernel
theorem dX8_worth_0 : decode cX8_worth 0 = .ok (.aload_n 0, 1) := by decide +kernel
theorem dX8_worth_1 : decode cX8_worth 1 = .ok (.getfield 12, 3) := by decide +kernel
theorem dX8_worth_4 : decode cX8_worth 4 = .ok (.iload_n 2, 1) := by decide +kernel
theorem dX8_worth_5 : decode cX8_worth 5 = .ok (.invokevirtual 161, 3) := by decide +kernel
theorem dX8_worth_8 : decode cX8_worth 8 = .ok (.ifCond .ne 6, 3) := by decide +kernel
theorem dX8_worth_11 : decode cX8_worth 11 = .ok (.ldc 165, 2) := by decide +kernel
theorem dX8_worth_13 : decode cX8_worth 13 = .ok (.ireturn, 1) := by decide +kernel
theorem dX8_worth_14 : decode cX8_worth 14 = .ok (.iload_n 1, 1) := by decide +kernel
theorem dX8_worth_15 : decode cX8_worth 15 = .ok (.invokestatic 202, 3) := by decide +kernel
theorem dX8_worth_18 : decode cX8_worth 18 = .ok (.ifCond .eq 6, 3) := by decide +kernel
theorem dX8_worth_21 : decode cX8_worth 21 = .ok (.ldc 80, 2) := by decide +kernel
theorem dX8_worth_23 : decode cX8_worth 23 = .ok (.ireturn, 1) := by decide +kernel
theorem dX8_worth_24 : decode cX8_worth 24 = .ok (.aload_n 0, 1) := by decide +kernel
theorem dX8_worth_25 : decode cX8_worth 25 = .ok (.iload_n 2, 1) := by decide +kernel
theorem dX8_worth_26 : decode cX8_worth 26 = .ok (.iload_n 1, 1) := by decide +kernel
theorem dX8_worth_27 : decode cX8_worth 27 = .ok (.invokevirtual 290, 3) := by decide +kernel
theorem dX8_worth_30 : decode cX8_worth 30 = .ok (.aload_n 0, 1) := by decide +kernel
theorem dX8_worth_31 : decode cX8_worth 31 = .ok (.iconst (-1), 1) := by decide +kernel
theorem dX8_worth_32 : decode cX8_worth 32 = .ok (.iload_n 1, 1) := by decide +kernel
theorem dX8_worth_33 : decode cX8_worth 33 = .ok (.invokevirtual 290, 3) := by decide +kernel
theorem dX8_worth_36 : decode cX8_worth 36 = .ok (.isub, 1) := by decide +kernel
theorem dX8_worth_37 : decode cX8_worth 37 = .ok (.ireturn, 1) := by decide +kernel
theorem dX8_soonestWithout_0 : decode cX8_soonestWithout 0 = .ok (.aload_n 0, 1) := by decide +kernel
theorem dX8_soonestWithout_1 : decode cX8_soonestWithout 1 = .ok (.getfield 53, 3) := by decide +kernel
theorem dX8_soonestWithout_4 : decode cX8_soonestWithout 4 = .ok (.aload_n 0, 1) := by decide +kernel
theorem dX8_soonestWithout_5 : decode cX8_soonestWithout 5 = .ok (.getfield 38, 3) := by decide +kernel
theorem dX8_soonestWithout_8 : decode cX8_soonestWithout 8 = .ok (.getfield 157, 3) := by decide +kernel
theorem dX8_soonestWithout_11 : decode cX8_soonestWithout 11 = .ok (.aload_n 0, 1) := by decide +kernel
theorem dX8_soonestWithout_12 : decode cX8_soonestWithout 12 = .ok (.iload_n 2, 1) := by decide +kernel
theorem dX8_soonestWithout_13 : decode cX8_soonestWithout 13 = .ok (.invokevirtual 212, 3) := by decide +kernel
theorem dX8_soonestWithout_16 : decode cX8_soonestWithout 16 = .ok (.iload_n 1, 1) := by decide +kernel
theorem dX8_soonestWithout_17 : decode cX8_soonestWithout 17 = .ok (.invokevirtual 254, 3) := by decide +kernel
theorem dX8_soonestWithout_20 : decode cX8_soonestWithout 20 = .ok (.ifCond .eq 13, 3) := by decide +kernel
theorem dX8_soonestWithout_23 : decode cX8_soonestWithout 23 = .ok (.aload_n 0, 1) := by decide +kernel
theorem dX8_soonestWithout_24 : decode cX8_soonestWithout 24 = .ok (.getfield 53, 3) := by decide +kernel
theorem dX8_soonestWithout_27 : decode cX8_soonestWithout 27 = .ok (.getfield 258, 3) := by decide +kernel
theorem dX8_soonestWithout_30 : decode cX8_soonestWithout 30 = .ok (.goto 5, 3) := by decide +kernel
theorem dX8_soonestWithout_33 : decode cX8_soonestWithout 33 = .ok (.bipush 121, 2) := by decide +kernel
theorem dX8_soonestWithout_35 : decode cX8_soonestWithout 35 = .ok (.ireturn, 1) := by decide +kernel
theorem dX8_carts_0 : decode cX8_carts 0 = .ok (.aload_n 0, 1) := by decide +kernel
theorem dX8_carts_1 : decode cX8_carts 1 = .ok (.getfield 69, 3) := by decide +kernel
theorem dX8_carts_4 : decode cX8_carts 4 = .ok (.aload_n 0, 1) := by decide +kernel
theorem dX8_carts_5 : decode cX8_carts 5 = .ok (.getfield 38, 3) := by decide +kernel
theorem dX8_carts_8 : decode cX8_carts 8 = .ok (.getfield 157, 3) := by decide +kernel
theorem dX8_carts_11 : decode cX8_carts 11 = .ok (.aload_n 0, 1) := by decide +kernel
theorem dX8_carts_12 : decode cX8_carts 12 = .ok (.getfield 38, 3) := by decide +kernel
theorem dX8_carts_15 : decode cX8_carts 15 = .ok (.getfield 141, 3) := by decide +kernel
theorem dX8_carts_18 : decode cX8_carts 18 = .ok (.invokevirtual 293, 3) := by decide +kernel
theorem dX8_carts_21 : decode cX8_carts 21 = .ok (.iload_n 1, 1) := by decide +kernel
theorem dX8_carts_22 : decode cX8_carts 22 = .ok (.iconst (-1), 1) := by decide +kernel
theorem dX8_carts_23 : decode cX8_carts 23 = .ok (.if_icmp .ne 11, 3) := by decide +kernel
theorem dX8_carts_26 : decode cX8_carts 26 = .ok (.aload_n 0, 1) := by decide +kernel
theorem dX8_carts_27 : decode cX8_carts 27 = .ok (.getfield 69, 3) := by decide +kernel
theorem dX8_carts_30 : decode cX8_carts 30 = .ok (.getfield 295, 3) := by decide +kernel
theorem dX8_carts_33 : decode cX8_carts 33 = .ok (.ireturn, 1) := by decide +kernel
theorem dX8_carts_34 : decode cX8_carts 34 = .ok (.iload_n 1, 1) := by decide +kernel
theorem dX8_carts_35 : decode cX8_carts 35 = .ok (.ifCond .lt 19, 3) := by decide +kernel
theorem dX8_carts_38 : decode cX8_carts 38 = .ok (.iload_n 1, 1) := by decide +kernel
theorem dX8_carts_39 : decode cX8_carts 39 = .ok (.aload_n 0, 1) := by decide +kernel
theorem dX8_carts_40 : decode cX8_carts 40 = .ok (.getfield 69, 3) := by decide +kernel
theorem dX8_carts_43 : decode cX8_carts 43 = .ok (.getfield 295, 3) := by decide +kernel
theorem dX8_carts_46 : decode cX8_carts 46 = .ok (.if_icmp .ge 8, 3) := by decide +kernel
theorem dX8_carts_49 : decode cX8_carts 49 = .ok (.iload_n 1, 1) := by decide +kernel
theorem dX8_carts_50 : decode cX8_carts 50 = .ok (.iconst 4, 1) := by decide +kernel
theorem dX8_carts_51 : decode cX8_carts 51 = .ok (.if_icmp .lt 7, 3) := by decide +kernel
theorem dX8_carts_54 : decode cX8_carts 54 = .ok (.iconst (-1), 1) := by decide +kernel
theorem dX8_carts_55 : decode cX8_carts 55 = .ok (.goto 12, 3) := by decide +kernel
theorem dX8_carts_58 : decode cX8_carts 58 = .ok (.aload_n 0, 1) := by decide +kernel
theorem dX8_carts_59 : decode cX8_carts 59 = .ok (.getfield 69, 3) := by decide +kernel
theorem dX8_carts_62 : decode cX8_carts 62 = .ok (.getfield 298, 3) := by decide +kernel
theorem dX8_carts_65 : decode cX8_carts 65 = .ok (.iload_n 1, 1) := by decide +kernel
theorem dX8_carts_66 : decode cX8_carts 66 = .ok (.iaload, 1) := by decide +kernel
theorem dX8_carts_67 : decode cX8_carts 67 = .ok (.ireturn, 1) := by decide +kernel
theorem dX8_tell_0 : decode cX8_tell 0 = .ok (.aload_n 0, 1) := by decide +kernel
theorem dX8_tell_1 : decode cX8_tell 1 = .ok (.iload_n 1, 1) := by decide +kernel
theorem dX8_tell_2 : decode cX8_tell 2 = .ok (.iconst 0, 1) := by decide +kernel
theorem dX8_tell_3 : decode cX8_tell 3 = .ok (.invokevirtual 301, 3) := by decide +kernel
theorem dX8_tell_6 : decode cX8_tell 6 = .ok (.ifCond .eq 30, 3) := by decide +kernel
theorem dX8_tell_9 : decode cX8_tell 9 = .ok (.aload_n 0, 1) := by decide +kernel
theorem dX8_tell_10 : decode cX8_tell 10 = .ok (.iload_n 2, 1) := by decide +kernel
theorem dX8_tell_11 : decode cX8_tell 11 = .ok (.iconst 1, 1) := by decide +kernel
theorem dX8_tell_12 : decode cX8_tell 12 = .ok (.invokevirtual 301, 3) := by decide +kernel
theorem dX8_tell_15 : decode cX8_tell 15 = .ok (.ifCond .eq 21, 3) := by decide +kernel
theorem dX8_tell_18 : decode cX8_tell 18 = .ok (.aload_n 0, 1) := by decide +kernel
theorem dX8_tell_19 : decode cX8_tell 19 = .ok (.iload_n 3, 1) := by decide +kernel
theorem dX8_tell_20 : decode cX8_tell 20 = .ok (.iconst 2, 1) := by decide +kernel
theorem dX8_tell_21 : decode cX8_tell 21 = .ok (.invokevirtual 301, 3) := by decide +kernel
theorem dX8_tell_24 : decode cX8_tell 24 = .ok (.ifCond .eq 12, 3) := by decide +kernel
theorem dX8_tell_27 : decode cX8_tell 27 = .ok (.iload_n 1, 1) := by decide +kernel
theorem dX8_tell_28 : decode cX8_tell 28 = .ok (.iload_n 2, 1) := by decide +kernel
theorem dX8_tell_29 : decode cX8_tell 29 = .ok (.iload_n 3, 1) := by decide +kernel
theorem dX8_tell_30 : decode cX8_tell 30 = .ok (.invokestatic 305, 3) := by decide +kernel
theorem dX8_tell_33 : decode cX8_tell 33 = .ok (.ifCond .eq 6, 3) := by decide +kernel
theorem dX8_tell_36 : decode cX8_tell 36 = .ok (.ldc 165, 2) := by decide +kernel
theorem dX8_tell_38 : decode cX8_tell 38 = .ok (.ireturn, 1) := by decide +kernel
theorem dX8_tell_39 : decode cX8_tell 39 = .ok (.iload 4, 2) := by decide +kernel
theorem dX8_tell_41 : decode cX8_tell 41 = .ok (.ifCond .lt 22, 3) := by decide +kernel
theorem dX8_tell_44 : decode cX8_tell 44 = .ok (.iload 4, 2) := by decide +kernel
theorem dX8_tell_46 : decode cX8_tell 46 = .ok (.bipush 99, 2) := by decide +kernel
theorem dX8_tell_48 : decode cX8_tell 48 = .ok (.if_icmp .gt 15, 3) := by decide +kernel
theorem dX8_tell_51 : decode cX8_tell 51 = .ok (.iload 5, 2) := by decide +kernel
theorem dX8_tell_53 : decode cX8_tell 53 = .ok (.ifCond .lt 10, 3) := by decide +kernel
theorem dX8_tell_56 : decode cX8_tell 56 = .ok (.iload 5, 2) := by decide +kernel
theorem dX8_tell_58 : decode cX8_tell 58 = .ok (.bipush 120, 2) := by decide +kernel
theorem dX8_tell_60 : decode cX8_tell 60 = .ok (.if_icmp .le 6, 3) := by decide +kernel
theorem dX8_tell_63 : decode cX8_tell 63 = .ok (.ldc 80, 2) := by decide +kernel
theorem dX8_tell_65 : decode cX8_tell 65 = .ok (.ireturn, 1) := by decide +kernel
theorem dX8_tell_66 : decode cX8_tell 66 = .ok (.iload_n 1, 1) := by decide +kernel
theorem dX8_tell_67 : decode cX8_tell 67 = .ok (.iconst (-1), 1) := by decide +kernel
theorem dX8_tell_68 : decode cX8_tell 68 = .ok (.if_icmp .ne 16, 3) := by decide +kernel
theorem dX8_tell_71 : decode cX8_tell 71 = .ok (.iload_n 2, 1) := by decide +kernel
theorem dX8_tell_72 : decode cX8_tell 72 = .ok (.iconst (-1), 1) := by decide +kernel
theorem dX8_tell_73 : decode cX8_tell 73 = .ok (.if_icmp .ne 11, 3) := by decide +kernel
theorem dX8_tell_76 : decode cX8_tell 76 = .ok (.iload_n 3, 1) := by decide +kernel
theorem dX8_tell_77 : decode cX8_tell 77 = .ok (.iconst (-1), 1) := by decide +kernel
theorem dX8_tell_78 : decode cX8_tell 78 = .ok (.if_icmp .ne 6, 3) := by decide +kernel
theorem dX8_tell_81 : decode cX8_tell 81 = .ok (.ldc 201, 2) := by decide +kernel
theorem dX8_tell_83 : decode cX8_tell 83 = .ok (.ireturn, 1) := by decide +kernel
theorem dX8_tell_84 : decode cX8_tell 84 = .ok (.aload_n 0, 1) := by decide +kernel
theorem dX8_tell_85 : decode cX8_tell 85 = .ok (.getfield 76, 3) := by decide +kernel
theorem dX8_tell_88 : decode cX8_tell 88 = .ok (.getfield 112, 3) := by decide +kernel
theorem dX8_tell_91 : decode cX8_tell 91 = .ok (.bipush 10, 2) := by decide +kernel
theorem dX8_tell_93 : decode cX8_tell 93 = .ok (.if_icmp .lt 6, 3) := by decide +kernel
theorem dX8_tell_96 : decode cX8_tell 96 = .ok (.ldc 85, 2) := by decide +kernel
theorem dX8_tell_98 : decode cX8_tell 98 = .ok (.ireturn, 1) := by decide +kernel
theorem dX8_tell_99 : decode cX8_tell 99 = .ok (.aload_n 0, 1) := by decide +kernel
theorem dX8_tell_100 : decode cX8_tell 100 = .ok (.getfield 76, 3) := by decide +kernel
theorem dX8_tell_103 : decode cX8_tell 103 = .ok (.iload_n 1, 1) := by decide +kernel
theorem dX8_tell_104 : decode cX8_tell 104 = .ok (.iload_n 2, 1) := by decide +kernel
theorem dX8_tell_105 : decode cX8_tell 105 = .ok (.iload_n 3, 1) := by decide +kernel
theorem dX8_tell_106 : decode cX8_tell 106 = .ok (.iload 4, 2) := by decide +kernel
theorem dX8_tell_108 : decode cX8_tell 108 = .ok (.iload 5, 2) := by decide +kernel
theorem dX8_tell_110 : decode cX8_tell 110 = .ok (.invokevirtual 309, 3) := by decide +kernel
theorem dX8_tell_113 : decode cX8_tell 113 = .ok (.aload_n 0, 1) := by decide +kernel
theorem dX8_tell_114 : decode cX8_tell 114 = .ok (.getfield 76, 3) := by decide +kernel
theorem dX8_tell_117 : decode cX8_tell 117 = .ok (.getfield 112, 3) := by decide +kernel
theorem dX8_tell_120 : decode cX8_tell 120 = .ok (.ireturn, 1) := by decide +kernel
theorem dX8_canStand_0 : decode cX8_canStand 0 = .ok (.iload_n 1, 1) := by decide +kernel
theorem dX8_canStand_1 : decode cX8_canStand 1 = .ok (.iconst (-1), 1) := by decide +kernel
theorem dX8_canStand_2 : decode cX8_canStand 2 = .ok (.if_icmp .eq 25, 3) := by decide +kernel
theorem dX8_canStand_5 : decode cX8_canStand 5 = .ok (.aload_n 0, 1) := by decide +kernel
theorem dX8_canStand_6 : decode cX8_canStand 6 = .ok (.getfield 12, 3) := by decide +kernel
theorem dX8_canStand_9 : decode cX8_canStand 9 = .ok (.iload_n 2, 1) := by decide +kernel
theorem dX8_canStand_10 : decode cX8_canStand 10 = .ok (.invokevirtual 195, 3) := by decide +kernel
theorem dX8_canStand_13 : decode cX8_canStand 13 = .ok (.ifCond .eq 18, 3) := by decide +kernel
theorem dX8_canStand_16 : decode cX8_canStand 16 = .ok (.aload_n 0, 1) := by decide +kernel
theorem dX8_canStand_17 : decode cX8_canStand 17 = .ok (.getfield 12, 3) := by decide +kernel
theorem dX8_canStand_20 : decode cX8_canStand 20 = .ok (.iload_n 1, 1) := by decide +kernel
theorem dX8_canStand_21 : decode cX8_canStand 21 = .ok (.invokevirtual 161, 3) := by decide +kernel
theorem dX8_canStand_24 : decode cX8_canStand 24 = .ok (.ifCond .eq 7, 3) := by decide +kernel
theorem dX8_canStand_27 : decode cX8_canStand 27 = .ok (.iconst 1, 1) := by decide +kernel
theorem dX8_canStand_28 : decode cX8_canStand 28 = .ok (.goto 4, 3) := by decide +kernel
theorem dX8_canStand_31 : decode cX8_canStand 31 = .ok (.iconst 0, 1) := by decide +kernel
theorem dX8_canStand_32 : decode cX8_canStand 32 = .ok (.ireturn, 1) := by decide +kernel
theorem dX8_tear_0 : decode cX8_tear 0 = .ok (.aload_n 0, 1) := by decide +kernel
theorem dX8_tear_1 : decode cX8_tear 1 = .ok (.getfield 76, 3) := by decide +kernel
theorem dX8_tear_4 : decode cX8_tear 4 = .ok (.getfield 112, 3) := by decide +kernel
theorem dX8_tear_7 : decode cX8_tear 7 = .ok (.istore_n 1, 1) := by decide +kernel
theorem dX8_tear_8 : decode cX8_tear 8 = .ok (.aload_n 0, 1) := by decide +kernel
theorem dX8_tear_9 : decode cX8_tear 9 = .ok (.getfield 76, 3) := by decide +kernel
theorem dX8_tear_12 : decode cX8_tear 12 = .ok (.iconst 0, 1) := by decide +kernel
theorem dX8_tear_13 : decode cX8_tear 13 = .ok (.putfield 112, 3) := by decide +kernel
theorem dX8_tear_16 : decode cX8_tear 16 = .ok (.iload_n 1, 1) := by decide +kernel
theorem dX8_tear_17 : decode cX8_tear 17 = .ok (.ireturn, 1) := by decide +kernel
theorem dX8_pulls_0 : decode cX8_pulls 0 = .ok (.aload_n 0, 1) := by decide +kernel
theorem dX8_pulls_1 : decode cX8_pulls 1 = .ok (.getfield 12, 3) := by decide +kernel
theorem dX8_pulls_4 : decode cX8_pulls 4 = .ok (.iload_n 1, 1) := by decide +kernel
theorem dX8_pulls_5 : decode cX8_pulls 5 = .ok (.invokevirtual 161, 3) := by decide +kernel
theorem dX8_pulls_8 : decode cX8_pulls 8 = .ok (.ifCond .ne 6, 3) := by decide +kernel
theorem dX8_pulls_11 : decode cX8_pulls 11 = .ok (.ldc 165, 2) := by decide +kernel
theorem dX8_pulls_13 : decode cX8_pulls 13 = .ok (.ireturn, 1) := by decide +kernel
theorem dX8_pulls_14 : decode cX8_pulls 14 = .ok (.iconst 0, 1) := by decide +kernel
theorem dX8_pulls_15 : decode cX8_pulls 15 = .ok (.istore_n 2, 1) := by decide +kernel
theorem dX8_pulls_16 : decode cX8_pulls 16 = .ok (.iconst 1, 1) := by decide +kernel
theorem dX8_pulls_17 : decode cX8_pulls 17 = .ok (.istore_n 3, 1) := by decide +kernel
theorem dX8_pulls_18 : decode cX8_pulls 18 = .ok (.iload_n 3, 1) := by decide +kernel
theorem dX8_pulls_19 : decode cX8_pulls 19 = .ok (.bipush 30, 2) := by decide +kernel
theorem dX8_pulls_21 : decode cX8_pulls 21 = .ok (.if_icmp .gt 30, 3) := by decide +kernel
theorem dX8_pulls_24 : decode cX8_pulls 24 = .ok (.aload_n 0, 1) := by decide +kernel
theorem dX8_pulls_25 : decode cX8_pulls 25 = .ok (.getfield 76, 3) := by decide +kernel
theorem dX8_pulls_28 : decode cX8_pulls 28 = .ok (.iload_n 1, 1) := by decide +kernel
theorem dX8_pulls_29 : decode cX8_pulls 29 = .ok (.iload_n 3, 1) := by decide +kernel
theorem dX8_pulls_30 : decode cX8_pulls 30 = .ok (.invokevirtual 313, 3) := by decide +kernel
theorem dX8_pulls_33 : decode cX8_pulls 33 = .ok (.iconst (-1), 1) := by decide +kernel
theorem dX8_pulls_34 : decode cX8_pulls 34 = .ok (.if_icmp .ne 11, 3) := by decide +kernel
theorem dX8_pulls_37 : decode cX8_pulls 37 = .ok (.iload_n 2, 1) := by decide +kernel
theorem dX8_pulls_38 : decode cX8_pulls 38 = .ok (.iconst 1, 1) := by decide +kernel
theorem dX8_pulls_39 : decode cX8_pulls 39 = .ok (.iload_n 3, 1) := by decide +kernel
theorem dX8_pulls_40 : decode cX8_pulls 40 = .ok (.iconst 1, 1) := by decide +kernel
theorem dX8_pulls_41 : decode cX8_pulls 41 = .ok (.isub, 1) := by decide +kernel
theorem dX8_pulls_42 : decode cX8_pulls 42 = .ok (.ishl, 1) := by decide +kernel
theorem dX8_pulls_43 : decode cX8_pulls 43 = .ok (.ior, 1) := by decide +kernel
theorem dX8_pulls_44 : decode cX8_pulls 44 = .ok (.istore_n 2, 1) := by decide +kernel
theorem dX8_pulls_45 : decode cX8_pulls 45 = .ok (.iinc 3 1, 3) := by decide +kernel
theorem dX8_pulls_48 : decode cX8_pulls 48 = .ok (.goto (-30), 3) := by decide +kernel
theorem dX8_pulls_51 : decode cX8_pulls 51 = .ok (.iload_n 2, 1) := by decide +kernel
theorem dX8_pulls_52 : decode cX8_pulls 52 = .ok (.ireturn, 1) := by decide +kernel
theorem dX8_sham_0 : decode cX8_sham 0 = .ok (.iconst 0, 1) := by decide +kernel
theorem dX8_sham_1 : decode cX8_sham 1 = .ok (.istore_n 1, 1) := by decide +kernel
theorem dX8_sham_2 : decode cX8_sham 2 = .ok (.iconst 0, 1) := by decide +kernel
theorem dX8_sham_3 : decode cX8_sham 3 = .ok (.istore_n 2, 1) := by decide +kernel
theorem dX8_sham_4 : decode cX8_sham 4 = .ok (.iload_n 2, 1) := by decide +kernel
theorem dX8_sham_5 : decode cX8_sham 5 = .ok (.aload_n 0, 1) := by decide +kernel
theorem dX8_sham_6 : decode cX8_sham 6 = .ok (.getfield 12, 3) := by decide +kernel
theorem dX8_sham_9 : decode cX8_sham 9 = .ok (.getfield 131, 3) := by decide +kernel
theorem dX8_sham_12 : decode cX8_sham 12 = .ok (.if_icmp .ge 28, 3) := by decide +kernel
theorem dX8_sham_15 : decode cX8_sham 15 = .ok (.aload_n 0, 1) := by decide +kernel
theorem dX8_sham_16 : decode cX8_sham 16 = .ok (.getfield 76, 3) := by decide +kernel
theorem dX8_sham_19 : decode cX8_sham 19 = .ok (.iload_n 2, 1) := by decide +kernel
theorem dX8_sham_20 : decode cX8_sham 20 = .ok (.iconst 0, 1) := by decide +kernel
theorem dX8_sham_21 : decode cX8_sham 21 = .ok (.invokevirtual 313, 3) := by decide +kernel
theorem dX8_sham_24 : decode cX8_sham 24 = .ok (.iconst (-1), 1) := by decide +kernel
theorem dX8_sham_25 : decode cX8_sham 25 = .ok (.if_icmp .ne 9, 3) := by decide +kernel
theorem dX8_sham_28 : decode cX8_sham 28 = .ok (.iload_n 1, 1) := by decide +kernel
theorem dX8_sham_29 : decode cX8_sham 29 = .ok (.iconst 1, 1) := by decide +kernel
theorem dX8_sham_30 : decode cX8_sham 30 = .ok (.iload_n 2, 1) := by decide +kernel
theorem dX8_sham_31 : decode cX8_sham 31 = .ok (.ishl, 1) := by decide +kernel
theorem dX8_sham_32 : decode cX8_sham 32 = .ok (.ior, 1) := by decide +kernel
theorem dX8_sham_33 : decode cX8_sham 33 = .ok (.istore_n 1, 1) := by decide +kernel
theorem dX8_sham_34 : decode cX8_sham 34 = .ok (.iinc 2 1, 3) := by decide +kernel
theorem dX8_sham_37 : decode cX8_sham 37 = .ok (.goto (-33), 3) := by decide +kernel
theorem dX8_sham_40 : decode cX8_sham 40 = .ok (.iload_n 1, 1) := by decide +kernel
theorem dX8_sham_41 : decode cX8_sham 41 = .ok (.ireturn, 1) := by decide +kernel
theorem dX8_judge_0 : decode cX8_judge 0 = .ok (.aload_n 0, 1) := by decide +kernel
theorem dX8_judge_1 : decode cX8_judge 1 = .ok (.getfield 76, 3) := by decide +kernel
theorem dX8_judge_4 : decode cX8_judge 4 = .ok (.iconst (-1), 1) := by decide +kernel
theorem dX8_judge_5 : decode cX8_judge 5 = .ok (.iconst 0, 1) := by decide +kernel
theorem dX8_judge_6 : decode cX8_judge 6 = .ok (.invokevirtual 313, 3) := by decide +kernel
theorem dX8_judge_9 : decode cX8_judge 9 = .ok (.ireturn, 1) := by decide +kernel
theorem dX8_seed_0 : decode cX8_seed 0 = .ok (.iload_n 1, 1) := by decide +kernel
theorem dX8_seed_1 : decode cX8_seed 1 = .ok (.ifCond .ge 6, 3) := by decide +kernel
theorem dX8_seed_4 : decode cX8_seed 4 = .ok (.ldc 80, 2) := by decide +kernel
theorem dX8_seed_6 : decode cX8_seed 6 = .ok (.ireturn, 1) := by decide +kernel
theorem dX8_seed_7 : decode cX8_seed 7 = .ok (.aload_n 0, 1) := by decide +kernel
theorem dX8_seed_8 : decode cX8_seed 8 = .ok (.getfield 38, 3) := by decide +kernel
theorem dX8_seed_11 : decode cX8_seed 11 = .ok (.getfield 316, 3) := by decide +kernel
theorem dX8_seed_14 : decode cX8_seed 14 = .ok (.istore_n 2, 1) := by decide +kernel
theorem dX8_seed_15 : decode cX8_seed 15 = .ok (.aload_n 0, 1) := by decide +kernel
theorem dX8_seed_16 : decode cX8_seed 16 = .ok (.getfield 38, 3) := by decide +kernel
theorem dX8_seed_19 : decode cX8_seed 19 = .ok (.iload_n 1, 1) := by decide +kernel
theorem dX8_seed_20 : decode cX8_seed 20 = .ok (.putfield 316, 3) := by decide +kernel
theorem dX8_seed_23 : decode cX8_seed 23 = .ok (.iload_n 2, 1) := by decide +kernel
theorem dX8_seed_24 : decode cX8_seed 24 = .ok (.ireturn, 1) := by decide +kernel
theorem dX8_keep_0 : decode cX8_keep 0 = .ok (.iload_n 1, 1) := by decide +kernel
theorem dX8_keep_1 : decode cX8_keep 1 = .ok (.ifCond .lt 8, 3) := by decide +kernel
theorem dX8_keep_4 : decode cX8_keep 4 = .ok (.iload_n 1, 1) := by decide +kernel
theorem dX8_keep_5 : decode cX8_keep 5 = .ok (.iconst 1, 1) := by decide +kernel
theorem dX8_keep_6 : decode cX8_keep 6 = .ok (.if_icmp .le 6, 3) := by decide +kernel
theorem dX8_keep_9 : decode cX8_keep 9 = .ok (.ldc 165, 2) := by decide +kernel
theorem dX8_keep_11 : decode cX8_keep 11 = .ok (.ireturn, 1) := by decide +kernel
theorem dX8_keep_12 : decode cX8_keep 12 = .ok (.iload_n 1, 1) := by decide +kernel
theorem dX8_keep_13 : decode cX8_keep 13 = .ok (.ifCond .ne 10, 3) := by decide +kernel
theorem dX8_keep_16 : decode cX8_keep 16 = .ok (.aload_n 0, 1) := by decide +kernel
theorem dX8_keep_17 : decode cX8_keep 17 = .ok (.getfield 42, 3) := by decide +kernel
theorem dX8_keep_20 : decode cX8_keep 20 = .ok (.goto 7, 3) := by decide +kernel
theorem dX8_keep_23 : decode cX8_keep 23 = .ok (.aload_n 0, 1) := by decide +kernel
theorem dX8_keep_24 : decode cX8_keep 24 = .ok (.getfield 45, 3) := by decide +kernel
theorem dX8_keep_27 : decode cX8_keep 27 = .ok (.astore_n 2, 1) := by decide +kernel
theorem dX8_keep_28 : decode cX8_keep 28 = .ok (.aload_n 2, 1) := by decide +kernel
theorem dX8_keep_29 : decode cX8_keep 29 = .ok (.aload_n 0, 1) := by decide +kernel
theorem dX8_keep_30 : decode cX8_keep 30 = .ok (.getfield 38, 3) := by decide +kernel
theorem dX8_keep_33 : decode cX8_keep 33 = .ok (.invokevirtual 319, 3) := by decide +kernel
theorem dX8_keep_36 : decode cX8_keep 36 = .ok (.aload_n 2, 1) := by decide +kernel
theorem dX8_keep_37 : decode cX8_keep 37 = .ok (.iconst 1, 1) := by decide +kernel
theorem dX8_keep_38 : decode cX8_keep 38 = .ok (.putfield 108, 3) := by decide +kernel
theorem dX8_keep_41 : decode cX8_keep 41 = .ok (.iconst 1, 1) := by decide +kernel
theorem dX8_keep_42 : decode cX8_keep 42 = .ok (.ireturn, 1) := by decide +kernel
theorem dX8_goBack_0 : decode cX8_goBack 0 = .ok (.iload_n 1, 1) := by decide +kernel
theorem dX8_goBack_1 : decode cX8_goBack 1 = .ok (.ifCond .lt 8, 3) := by decide +kernel
theorem dX8_goBack_4 : decode cX8_goBack 4 = .ok (.iload_n 1, 1) := by decide +kernel
theorem dX8_goBack_5 : decode cX8_goBack 5 = .ok (.iconst 1, 1) := by decide +kernel
theorem dX8_goBack_6 : decode cX8_goBack 6 = .ok (.if_icmp .le 6, 3) := by decide +kernel
theorem dX8_goBack_9 : decode cX8_goBack 9 = .ok (.ldc 165, 2) := by decide +kernel
theorem dX8_goBack_11 : decode cX8_goBack 11 = .ok (.ireturn, 1) := by decide +kernel
theorem dX8_goBack_12 : decode cX8_goBack 12 = .ok (.iload_n 1, 1) := by decide +kernel
theorem dX8_goBack_13 : decode cX8_goBack 13 = .ok (.ifCond .ne 10, 3) := by decide +kernel
theorem dX8_goBack_16 : decode cX8_goBack 16 = .ok (.aload_n 0, 1) := by decide +kernel
theorem dX8_goBack_17 : decode cX8_goBack 17 = .ok (.getfield 42, 3) := by decide +kernel
theorem dX8_goBack_20 : decode cX8_goBack 20 = .ok (.goto 7, 3) := by decide +kernel
theorem dX8_goBack_23 : decode cX8_goBack 23 = .ok (.aload_n 0, 1) := by decide +kernel
theorem dX8_goBack_24 : decode cX8_goBack 24 = .ok (.getfield 45, 3) := by decide +kernel
theorem dX8_goBack_27 : decode cX8_goBack 27 = .ok (.astore_n 2, 1) := by decide +kernel
theorem dX8_goBack_28 : decode cX8_goBack 28 = .ok (.aload_n 2, 1) := by decide +kernel
theorem dX8_goBack_29 : decode cX8_goBack 29 = .ok (.getfield 108, 3) := by decide +kernel
theorem dX8_goBack_32 : decode cX8_goBack 32 = .ok (.ifCond .ne 6, 3) := by decide +kernel
theorem dX8_goBack_35 : decode cX8_goBack 35 = .ok (.ldc 201, 2) := by decide +kernel
theorem dX8_goBack_37 : decode cX8_goBack 37 = .ok (.ireturn, 1) := by decide +kernel
theorem dX8_goBack_38 : decode cX8_goBack 38 = .ok (.aload_n 0, 1) := by decide +kernel
theorem dX8_goBack_39 : decode cX8_goBack 39 = .ok (.getfield 38, 3) := by decide +kernel
theorem dX8_goBack_42 : decode cX8_goBack 42 = .ok (.aload_n 2, 1) := by decide +kernel
theorem dX8_goBack_43 : decode cX8_goBack 43 = .ok (.invokevirtual 319, 3) := by decide +kernel
theorem dX8_goBack_46 : decode cX8_goBack 46 = .ok (.aload_n 0, 1) := by decide +kernel
theorem dX8_goBack_47 : decode cX8_goBack 47 = .ok (.invokevirtual 115, 3) := by decide +kernel
theorem dX8_goBack_50 : decode cX8_goBack 50 = .ok (.iconst 1, 1) := by decide +kernel
theorem dX8_goBack_51 : decode cX8_goBack 51 = .ok (.ireturn, 1) := by decide +kernel
theorem dX9_init_0 : decode cX9_init 0 = .ok (.aload_n 0, 1) := by decide +kernel
theorem dX9_init_1 : decode cX9_init 1 = .ok (.invokespecial 1, 3) := by decide +kernel
theorem dX9_init_4 : decode cX9_init 4 = .ok (.aload_n 0, 1) := by decide +kernel
theorem dX9_init_5 : decode cX9_init 5 = .ok (.sipush 500, 3) := by decide +kernel
theorem dX9_init_8 : decode cX9_init 8 = .ok (.newarray .int, 2) := by decide +kernel
theorem dX9_init_10 : decode cX9_init 10 = .ok (.putfield 7, 3) := by decide +kernel
theorem dX9_init_13 : decode cX9_init 13 = .ok (.aload_n 0, 1) := by decide +kernel
theorem dX9_init_14 : decode cX9_init 14 = .ok (.iconst (-1), 1) := by decide +kernel
theorem dX9_init_15 : decode cX9_init 15 = .ok (.putfield 13, 3) := by decide +kernel
theorem dX9_init_18 : decode cX9_init 18 = .ok (.aload_n 0, 1) := by decide +kernel
theorem dX9_init_19 : decode cX9_init 19 = .ok (.bipush 84, 2) := by decide +kernel
theorem dX9_init_21 : decode cX9_init 21 = .ok (.newarray .int, 2) := by decide +kernel
theorem dX9_init_23 : decode cX9_init 23 = .ok (.putfield 17, 3) := by decide +kernel
theorem dX9_init_26 : decode cX9_init 26 = .ok (.aload_n 0, 1) := by decide +kernel
theorem dX9_init_27 : decode cX9_init 27 = .ok (.bipush 84, 2) := by decide +kernel
theorem dX9_init_29 : decode cX9_init 29 = .ok (.newarray .int, 2) := by decide +kernel
theorem dX9_init_31 : decode cX9_init 31 = .ok (.putfield 20, 3) := by decide +kernel
theorem dX9_init_34 : decode cX9_init 34 = .ok (.aload_n 0, 1) := by decide +kernel
theorem dX9_init_35 : decode cX9_init 35 = .ok (.bipush 13, 2) := by decide +kernel
theorem dX9_init_37 : decode cX9_init 37 = .ok (.newarray .int, 2) := by decide +kernel
theorem dX9_init_39 : decode cX9_init 39 = .ok (.putfield 23, 3) := by decide +kernel
theorem dX9_init_42 : decode cX9_init 42 = .ok (.aload_n 0, 1) := by decide +kernel
theorem dX9_init_43 : decode cX9_init 43 = .ok (.bipush 26, 2) := by decide +kernel
theorem dX9_init_45 : decode cX9_init 45 = .ok (.newarray .int, 2) := by decide +kernel
theorem dX9_init_47 : decode cX9_init 47 = .ok (.putfield 26, 3) := by decide +kernel
theorem dX9_init_50 : decode cX9_init 50 = .ok (.aload_n 0, 1) := by decide +kernel
theorem dX9_init_51 : decode cX9_init 51 = .ok (.iconst 2, 1) := by decide +kernel
theorem dX9_init_52 : decode cX9_init 52 = .ok (.newarray .boolean, 2) := by decide +kernel
theorem dX9_init_54 : decode cX9_init 54 = .ok (.putfield 29, 3) := by decide +kernel
theorem dX9_init_57 : decode cX9_init 57 = .ok (.aload_n 0, 1) := by decide +kernel
theorem dX9_init_58 : decode cX9_init 58 = .ok (.bipush 50, 2) := by decide +kernel
theorem dX9_init_60 : decode cX9_init 60 = .ok (.newarray .int, 2) := by decide +kernel
theorem dX9_init_62 : decode cX9_init 62 = .ok (.putfield 33, 3) := by decide +kernel
theorem dX9_init_65 : decode cX9_init 65 = .ok (.aload_n 0, 1) := by decide +kernel
theorem dX9_init_66 : decode cX9_init 66 = .ok (.bipush 6, 2) := by decide +kernel
theorem dX9_init_68 : decode cX9_init 68 = .ok (.newarray .int, 2) := by decide +kernel
theorem dX9_init_70 : decode cX9_init 70 = .ok (.putfield 36, 3) := by decide +kernel
theorem dX9_init_73 : decode cX9_init 73 = .ok (.aload_n 0, 1) := by decide +kernel
theorem dX9_init_74 : decode cX9_init 74 = .ok (.iconst 3, 1) := by decide +kernel
theorem dX9_init_75 : decode cX9_init 75 = .ok (.newarray .int, 2) := by decide +kernel
theorem dX9_init_77 : decode cX9_init 77 = .ok (.putfield 39, 3) := by decide +kernel
theorem dX9_init_80 : decode cX9_init 80 = .ok (.aload_n 0, 1) := by decide +kernel
theorem dX9_init_81 : decode cX9_init 81 = .ok (.iconst 3, 1) := by decide +kernel
theorem dX9_init_82 : decode cX9_init 82 = .ok (.newarray .int, 2) := by decide +kernel
theorem dX9_init_84 : decode cX9_init 84 = .ok (.putfield 42, 3) := by decide +kernel
theorem dX9_init_87 : decode cX9_init 87 = .ok (.aload_n 0, 1) := by decide +kernel
theorem dX9_init_88 : decode cX9_init 88 = .ok (.iconst (-1), 1) := by decide +kernel
theorem dX9_init_89 : decode cX9_init 89 = .ok (.putfield 45, 3) := by decide +kernel
theorem dX9_init_92 : decode cX9_init 92 = .ok (.aload_n 0, 1) := by decide +kernel
theorem dX9_init_93 : decode cX9_init 93 = .ok (.bipush 6, 2) := by decide +kernel
theorem dX9_init_95 : decode cX9_init 95 = .ok (.newarray .int, 2) := by decide +kernel
theorem dX9_init_97 : decode cX9_init 97 = .ok (.putfield 48, 3) := by decide +kernel
theorem dX9_init_100 : decode cX9_init 100 = .ok (.aload_n 0, 1) := by decide +kernel
theorem dX9_init_101 : decode cX9_init 101 = .ok (.iconst 4, 1) := by decide +kernel
theorem dX9_init_102 : decode cX9_init 102 = .ok (.newarray .int, 2) := by decide +kernel
theorem dX9_init_104 : decode cX9_init 104 = .ok (.putfield 51, 3) := by decide +kernel
theorem dX9_init_107 : decode cX9_init 107 = .ok (.aload_n 0, 1) := by decide +kernel
theorem dX9_init_108 : decode cX9_init 108 = .ok (.iconst 4, 1) := by decide +kernel
theorem dX9_init_109 : decode cX9_init 109 = .ok (.newarray .int, 2) := by decide +kernel
theorem dX9_init_111 : decode cX9_init 111 = .ok (.putfield 54, 3) := by decide +kernel
theorem dX9_init_114 : decode cX9_init 114 = .ok (.aload_n 0, 1) := by decide +kernel
theorem dX9_init_115 : decode cX9_init 115 = .ok (.bipush 6, 2) := by decide +kernel
theorem dX9_init_117 : decode cX9_init 117 = .ok (.newarray .int, 2) := by decide +kernel
theorem dX9_init_119 : decode cX9_init 119 = .ok (.putfield 57, 3) := by decide +kernel
theorem dX9_init_122 : decode cX9_init 122 = .ok (.aload_n 0, 1) := by decide +kernel
theorem dX9_init_123 : decode cX9_init 123 = .ok (.bipush 6, 2) := by decide +kernel
theorem dX9_init_125 : decode cX9_init 125 = .ok (.newarray .int, 2) := by decide +kernel
theorem dX9_init_127 : decode cX9_init 127 = .ok (.putfield 60, 3) := by decide +kernel
theorem dX9_init_130 : decode cX9_init 130 = .ok (.aload_n 0, 1) := by decide +kernel
theorem dX9_init_131 : decode cX9_init 131 = .ok (.bipush 6, 2) := by decide +kernel
theorem dX9_init_133 : decode cX9_init 133 = .ok (.newarray .int, 2) := by decide +kernel
theorem dX9_init_135 : decode cX9_init 135 = .ok (.putfield 63, 3) := by decide +kernel
theorem dX9_init_138 : decode cX9_init 138 = .ok (.aload_n 0, 1) := by decide +kernel
theorem dX9_init_139 : decode cX9_init 139 = .ok (.iconst 3, 1) := by decide +kernel
theorem dX9_init_140 : decode cX9_init 140 = .ok (.newarray .int, 2) := by decide +kernel
theorem dX9_init_142 : decode cX9_init 142 = .ok (.putfield 66, 3) := by decide +kernel
theorem dX9_init_145 : decode cX9_init 145 = .ok (.aload_n 0, 1) := by decide +kernel
theorem dX9_init_146 : decode cX9_init 146 = .ok (.getfield 17, 3) := by decide +kernel
theorem dX9_init_149 : decode cX9_init 149 = .ok (.invokestatic 69, 3) := by decide +kernel
theorem dX9_init_152 : decode cX9_init 152 = .ok (.aload_n 0, 1) := by decide +kernel
theorem dX9_init_153 : decode cX9_init 153 = .ok (.invokevirtual 73, 3) := by decide +kernel
theorem dX9_init_156 : decode cX9_init 156 = .ok (.return_, 1) := by decide +kernel
theorem dX9_in_0 : decode cX9_in 0 = .ok (.iload_n 0, 1) := by decide +kernel
theorem dX9_in_1 : decode cX9_in 1 = .ok (.iload_n 1, 1) := by decide +kernel
theorem dX9_in_2 : decode cX9_in 2 = .ok (.if_icmp .lt 12, 3) := by decide +kernel
theorem dX9_in_5 : decode cX9_in 5 = .ok (.iload_n 0, 1) := by decide +kernel
theorem dX9_in_6 : decode cX9_in 6 = .ok (.iload_n 2, 1) := by decide +kernel
theorem dX9_in_7 : decode cX9_in 7 = .ok (.if_icmp .gt 7, 3) := by decide +kernel
theorem dX9_in_10 : decode cX9_in 10 = .ok (.iconst 1, 1) := by decide +kernel
theorem dX9_in_11 : decode cX9_in 11 = .ok (.goto 4, 3) := by decide +kernel
theorem dX9_in_14 : decode cX9_in 14 = .ok (.iconst 0, 1) := by decide +kernel
theorem dX9_in_15 : decode cX9_in 15 = .ok (.ireturn, 1) := by decide +kernel
theorem dX9_empties_0 : decode cX9_empties 0 = .ok (.iconst 0, 1) := by decide +kernel
theorem dX9_empties_1 : decode cX9_empties 1 = .ok (.istore_n 1, 1) := by decide +kernel
theorem dX9_empties_2 : decode cX9_empties 2 = .ok (.iload_n 1, 1) := by decide +kernel
theorem dX9_empties_3 : decode cX9_empties 3 = .ok (.bipush 84, 2) := by decide +kernel
theorem dX9_empties_5 : decode cX9_empties 5 = .ok (.if_icmp .ge 13, 3) := by decide +kernel
theorem dX9_empties_8 : decode cX9_empties 8 = .ok (.aload_n 0, 1) := by decide +kernel
theorem dX9_empties_9 : decode cX9_empties 9 = .ok (.iload_n 1, 1) := by decide +kernel
theorem dX9_empties_10 : decode cX9_empties 10 = .ok (.iconst 0, 1) := by decide +kernel
theorem dX9_empties_11 : decode cX9_empties 11 = .ok (.iastore, 1) := by decide +kernel
theorem dX9_empties_12 : decode cX9_empties 12 = .ok (.iinc 1 1, 3) := by decide +kernel
theorem dX9_empties_15 : decode cX9_empties 15 = .ok (.goto (-13), 3) := by decide +kernel
theorem dX9_empties_18 : decode cX9_empties 18 = .ok (.aload_n 0, 1) := by decide +kernel
theorem dX9_empties_19 : decode cX9_empties 19 = .ok (.iconst 1, 1) := by decide +kernel
theorem dX9_empties_20 : decode cX9_empties 20 = .ok (.iconst (-1), 1) := by decide +kernel
theorem dX9_empties_21 : decode cX9_empties 21 = .ok (.iastore, 1) := by decide +kernel
theorem dX9_empties_22 : decode cX9_empties 22 = .ok (.aload_n 0, 1) := by decide +kernel
theorem dX9_empties_23 : decode cX9_empties 23 = .ok (.iconst 5, 1) := by decide +kernel
theorem dX9_empties_24 : decode cX9_empties 24 = .ok (.bipush 60, 2) := by decide +kernel
theorem dX9_empties_26 : decode cX9_empties 26 = .ok (.iastore, 1) := by decide +kernel
theorem dX9_empties_27 : decode cX9_empties 27 = .ok (.iconst 0, 1) := by decide +kernel
theorem dX9_empties_28 : decode cX9_empties 28 = .ok (.istore_n 1, 1) := by decide +kernel
theorem dX9_empties_29 : decode cX9_empties 29 = .ok (.iload_n 1, 1) := by decide +kernel
theorem dX9_empties_30 : decode cX9_empties 30 = .ok (.bipush 36, 2) := by decide +kernel
theorem dX9_empties_32 : decode cX9_empties 32 = .ok (.if_icmp .ge 16, 3) := by decide +kernel
theorem dX9_empties_35 : decode cX9_empties 35 = .ok (.aload_n 0, 1) := by decide +kernel
theorem dX9_empties_36 : decode cX9_empties 36 = .ok (.bipush 32, 2) := by decide +kernel
theorem dX9_empties_38 : decode cX9_empties 38 = .ok (.iload_n 1, 1) := by decide +kernel
theorem dX9_empties_39 : decode cX9_empties 39 = .ok (.iadd, 1) := by decide +kernel
theorem dX9_empties_40 : decode cX9_empties 40 = .ok (.iconst 5, 1) := by decide +kernel
theorem dX9_empties_41 : decode cX9_empties 41 = .ok (.iastore, 1) := by decide +kernel
theorem dX9_empties_42 : decode cX9_empties 42 = .ok (.iinc 1 1, 3) := by decide +kernel
theorem dX9_empties_45 : decode cX9_empties 45 = .ok (.goto (-16), 3) := by decide +kernel
theorem dX9_empties_48 : decode cX9_empties 48 = .ok (.return_, 1) := by decide +kernel
theorem dX9_anew_0 : decode cX9_anew 0 = .ok (.iconst 0, 1) := by decide +kernel
theorem dX9_anew_1 : decode cX9_anew 1 = .ok (.istore_n 1, 1) := by decide +kernel
theorem dX9_anew_2 : decode cX9_anew 2 = .ok (.iload_n 1, 1) := by decide +kernel
theorem dX9_anew_3 : decode cX9_anew 3 = .ok (.bipush 6, 2) := by decide +kernel
theorem dX9_anew_5 : decode cX9_anew 5 = .ok (.if_icmp .ge 42, 3) := by decide +kernel
theorem dX9_anew_8 : decode cX9_anew 8 = .ok (.aload_n 0, 1) := by decide +kernel
theorem dX9_anew_9 : decode cX9_anew 9 = .ok (.getfield 23, 3) := by decide +kernel
theorem dX9_anew_12 : decode cX9_anew 12 = .ok (.iload_n 1, 1) := by decide +kernel
theorem dX9_anew_13 : decode cX9_anew 13 = .ok (.iload_n 1, 1) := by decide +kernel
theorem dX9_anew_14 : decode cX9_anew 14 = .ok (.aload_n 0, 1) := by decide +kernel
theorem dX9_anew_15 : decode cX9_anew 15 = .ok (.getfield 17, 3) := by decide +kernel
theorem dX9_anew_18 : decode cX9_anew 18 = .ok (.iconst 3, 1) := by decide +kernel
theorem dX9_anew_19 : decode cX9_anew 19 = .ok (.iaload, 1) := by decide +kernel
theorem dX9_anew_20 : decode cX9_anew 20 = .ok (.if_icmp .ge 19, 3) := by decide +kernel
theorem dX9_anew_23 : decode cX9_anew 23 = .ok (.aload_n 0, 1) := by decide +kernel
theorem dX9_anew_24 : decode cX9_anew 24 = .ok (.getfield 17, 3) := by decide +kernel
theorem dX9_anew_27 : decode cX9_anew 27 = .ok (.bipush 8, 2) := by decide +kernel
theorem dX9_anew_29 : decode cX9_anew 29 = .ok (.iconst 4, 1) := by decide +kernel
theorem dX9_anew_30 : decode cX9_anew 30 = .ok (.iload_n 1, 1) := by decide +kernel
theorem dX9_anew_31 : decode cX9_anew 31 = .ok (.imul, 1) := by decide +kernel
theorem dX9_anew_32 : decode cX9_anew 32 = .ok (.iadd, 1) := by decide +kernel
theorem dX9_anew_33 : decode cX9_anew 33 = .ok (.iconst 1, 1) := by decide +kernel
theorem dX9_anew_34 : decode cX9_anew 34 = .ok (.iadd, 1) := by decide +kernel
theorem dX9_anew_35 : decode cX9_anew 35 = .ok (.iaload, 1) := by decide +kernel
theorem dX9_anew_36 : decode cX9_anew 36 = .ok (.goto 4, 3) := by decide +kernel
theorem dX9_anew_39 : decode cX9_anew 39 = .ok (.iconst 0, 1) := by decide +kernel
theorem dX9_anew_40 : decode cX9_anew 40 = .ok (.iastore, 1) := by decide +kernel
theorem dX9_anew_41 : decode cX9_anew 41 = .ok (.iinc 1 1, 3) := by decide +kernel
theorem dX9_anew_44 : decode cX9_anew 44 = .ok (.goto (-42), 3) := by decide +kernel
theorem dX9_anew_47 : decode cX9_anew 47 = .ok (.iconst 0, 1) := by decide +kernel
theorem dX9_anew_48 : decode cX9_anew 48 = .ok (.istore_n 1, 1) := by decide +kernel
theorem dX9_anew_49 : decode cX9_anew 49 = .ok (.iload_n 1, 1) := by decide +kernel
theorem dX9_anew_50 : decode cX9_anew 50 = .ok (.iconst 3, 1) := by decide +kernel
theorem dX9_anew_51 : decode cX9_anew 51 = .ok (.if_icmp .ge 19, 3) := by decide +kernel
theorem dX9_anew_54 : decode cX9_anew 54 = .ok (.aload_n 0, 1) := by decide +kernel
theorem dX9_anew_55 : decode cX9_anew 55 = .ok (.getfield 23, 3) := by decide +kernel
theorem dX9_anew_58 : decode cX9_anew 58 = .ok (.bipush 6, 2) := by decide +kernel
theorem dX9_anew_60 : decode cX9_anew 60 = .ok (.iload_n 1, 1) := by decide +kernel
theorem dX9_anew_61 : decode cX9_anew 61 = .ok (.iadd, 1) := by decide +kernel
theorem dX9_anew_62 : decode cX9_anew 62 = .ok (.iconst (-1), 1) := by decide +kernel
theorem dX9_anew_63 : decode cX9_anew 63 = .ok (.iastore, 1) := by decide +kernel
theorem dX9_anew_64 : decode cX9_anew 64 = .ok (.iinc 1 1, 3) := by decide +kernel
theorem dX9_anew_67 : decode cX9_anew 67 = .ok (.goto (-18), 3) := by decide +kernel
theorem dX9_anew_70 : decode cX9_anew 70 = .ok (.aload_n 0, 1) := by decide +kernel
theorem dX9_anew_71 : decode cX9_anew 71 = .ok (.getfield 23, 3) := by decide +kernel
theorem dX9_anew_74 : decode cX9_anew 74 = .ok (.bipush 9, 2) := by decide +kernel
theorem dX9_anew_76 : decode cX9_anew 76 = .ok (.iconst 0, 1) := by decide +kernel
theorem dX9_anew_77 : decode cX9_anew 77 = .ok (.iastore, 1) := by decide +kernel
theorem dX9_anew_78 : decode cX9_anew 78 = .ok (.aload_n 0, 1) := by decide +kernel
theorem dX9_anew_79 : decode cX9_anew 79 = .ok (.getfield 23, 3) := by decide +kernel
theorem dX9_anew_82 : decode cX9_anew 82 = .ok (.bipush 10, 2) := by decide +kernel
theorem dX9_anew_84 : decode cX9_anew 84 = .ok (.iconst 0, 1) := by decide +kernel
theorem dX9_anew_85 : decode cX9_anew 85 = .ok (.iastore, 1) := by decide +kernel
theorem dX9_anew_86 : decode cX9_anew 86 = .ok (.aload_n 0, 1) := by decide +kernel
theorem dX9_anew_87 : decode cX9_anew 87 = .ok (.getfield 23, 3) := by decide +kernel
theorem dX9_anew_90 : decode cX9_anew 90 = .ok (.bipush 11, 2) := by decide +kernel
theorem dX9_anew_92 : decode cX9_anew 92 = .ok (.iconst 0, 1) := by decide +kernel
theorem dX9_anew_93 : decode cX9_anew 93 = .ok (.iastore, 1) := by decide +kernel
theorem dX9_anew_94 : decode cX9_anew 94 = .ok (.aload_n 0, 1) := by decide +kernel
theorem dX9_anew_95 : decode cX9_anew 95 = .ok (.iconst 0, 1) := by decide +kernel
theorem dX9_anew_96 : decode cX9_anew 96 = .ok (.putfield 79, 3) := by decide +kernel
theorem dX9_anew_99 : decode cX9_anew 99 = .ok (.aload_n 0, 1) := by decide +kernel
theorem dX9_anew_100 : decode cX9_anew 100 = .ok (.getfield 29, 3) := by decide +kernel
theorem dX9_anew_103 : decode cX9_anew 103 = .ok (.iconst 0, 1) := by decide +kernel
theorem dX9_anew_104 : decode cX9_anew 104 = .ok (.iconst 0, 1) := by decide +kernel
theorem dX9_anew_105 : decode cX9_anew 105 = .ok (.bastore, 1) := by decide +kernel
theorem dX9_anew_106 : decode cX9_anew 106 = .ok (.aload_n 0, 1) := by decide +kernel
theorem dX9_anew_107 : decode cX9_anew 107 = .ok (.getfield 29, 3) := by decide +kernel
theorem dX9_anew_110 : decode cX9_anew 110 = .ok (.iconst 1, 1) := by decide +kernel
theorem dX9_anew_111 : decode cX9_anew 111 = .ok (.iconst 0, 1) := by decide +kernel
theorem dX9_anew_112 : decode cX9_anew 112 = .ok (.bastore, 1) := by decide +kernel
theorem dX9_anew_113 : decode cX9_anew 113 = .ok (.return_, 1) := by decide +kernel
theorem dX9_feed_0 : decode cX9_feed 0 = .ok (.aload_n 0, 1) := by decide +kernel
theorem dX9_feed_1 : decode cX9_feed 1 = .ok (.iconst 0, 1) := by decide +kernel
theorem dX9_feed_2 : decode cX9_feed 2 = .ok (.putfield 76, 3) := by decide +kernel
theorem dX9_feed_5 : decode cX9_feed 5 = .ok (.iload_n 1, 1) := by decide +kernel
theorem dX9_feed_6 : decode cX9_feed 6 = .ok (.iconst 1, 1) := by decide +kernel
theorem dX9_feed_7 : decode cX9_feed 7 = .ok (.bipush 8, 2) := by decide +kernel
theorem dX9_feed_9 : decode cX9_feed 9 = .ok (.invokestatic 82, 3) := by decide +kernel
theorem dX9_feed_12 : decode cX9_feed 12 = .ok (.ifCond .ne 6, 3) := by decide +kernel
theorem dX9_feed_15 : decode cX9_feed 15 = .ok (.ldc 86, 2) := by decide +kernel
theorem dX9_feed_17 : decode cX9_feed 17 = .ok (.ireturn, 1) := by decide +kernel
theorem dX9_feed_18 : decode cX9_feed 18 = .ok (.aload_n 0, 1) := by decide +kernel
theorem dX9_feed_19 : decode cX9_feed 19 = .ok (.getfield 87, 3) := by decide +kernel
theorem dX9_feed_22 : decode cX9_feed 22 = .ok (.iload_n 1, 1) := by decide +kernel
theorem dX9_feed_23 : decode cX9_feed 23 = .ok (.iadd, 1) := by decide +kernel
theorem dX9_feed_24 : decode cX9_feed 24 = .ok (.sipush 500, 3) := by decide +kernel
theorem dX9_feed_27 : decode cX9_feed 27 = .ok (.if_icmp .le 6, 3) := by decide +kernel
theorem dX9_feed_30 : decode cX9_feed 30 = .ok (.ldc 90, 2) := by decide +kernel
theorem dX9_feed_32 : decode cX9_feed 32 = .ok (.ireturn, 1) := by decide +kernel
theorem dX9_feed_33 : decode cX9_feed 33 = .ok (.iconst 0, 1) := by decide +kernel
theorem dX9_feed_34 : decode cX9_feed 34 = .ok (.istore 4, 2) := by decide +kernel
theorem dX9_feed_36 : decode cX9_feed 36 = .ok (.iload 4, 2) := by decide +kernel
theorem dX9_feed_38 : decode cX9_feed 38 = .ok (.iload_n 1, 1) := by decide +kernel
theorem dX9_feed_39 : decode cX9_feed 39 = .ok (.if_icmp .ge 44, 3) := by decide +kernel
theorem dX9_feed_42 : decode cX9_feed 42 = .ok (.aload_n 0, 1) := by decide +kernel
theorem dX9_feed_43 : decode cX9_feed 43 = .ok (.getfield 7, 3) := by decide +kernel
theorem dX9_feed_46 : decode cX9_feed 46 = .ok (.aload_n 0, 1) := by decide +kernel
theorem dX9_feed_47 : decode cX9_feed 47 = .ok (.getfield 87, 3) := by decide +kernel
theorem dX9_feed_50 : decode cX9_feed 50 = .ok (.lload_n 2, 1) := by decide +kernel
theorem dX9_feed_51 : decode cX9_feed 51 = .ok (.bipush 8, 2) := by decide +kernel
theorem dX9_feed_53 : decode cX9_feed 53 = .ok (.iload_n 1, 1) := by decide +kernel
theorem dX9_feed_54 : decode cX9_feed 54 = .ok (.iconst 1, 1) := by decide +kernel
theorem dX9_feed_55 : decode cX9_feed 55 = .ok (.isub, 1) := by decide +kernel
theorem dX9_feed_56 : decode cX9_feed 56 = .ok (.iload 4, 2) := by decide +kernel
theorem dX9_feed_58 : decode cX9_feed 58 = .ok (.isub, 1) := by decide +kernel
theorem dX9_feed_59 : decode cX9_feed 59 = .ok (.imul, 1) := by decide +kernel
theorem dX9_feed_60 : decode cX9_feed 60 = .ok (.lshr, 1) := by decide +kernel
theorem dX9_feed_61 : decode cX9_feed 61 = .ok (.ldc2_w 91, 3) := by decide +kernel
theorem dX9_feed_64 : decode cX9_feed 64 = .ok (.land, 1) := by decide +kernel
theorem dX9_feed_65 : decode cX9_feed 65 = .ok (.l2i, 1) := by decide +kernel
theorem dX9_feed_66 : decode cX9_feed 66 = .ok (.iastore, 1) := by decide +kernel
theorem dX9_feed_67 : decode cX9_feed 67 = .ok (.aload_n 0, 1) := by decide +kernel
theorem dX9_feed_68 : decode cX9_feed 68 = .ok (.dup, 1) := by decide +kernel
theorem dX9_feed_69 : decode cX9_feed 69 = .ok (.getfield 87, 3) := by decide +kernel
theorem dX9_feed_72 : decode cX9_feed 72 = .ok (.iconst 1, 1) := by decide +kernel
theorem dX9_feed_73 : decode cX9_feed 73 = .ok (.iadd, 1) := by decide +kernel
theorem dX9_feed_74 : decode cX9_feed 74 = .ok (.putfield 87, 3) := by decide +kernel
theorem dX9_feed_77 : decode cX9_feed 77 = .ok (.iinc 4 1, 3) := by decide +kernel
theorem dX9_feed_80 : decode cX9_feed 80 = .ok (.goto (-44), 3) := by decide +kernel
theorem dX9_feed_83 : decode cX9_feed 83 = .ok (.aload_n 0, 1) := by decide +kernel
theorem dX9_feed_84 : decode cX9_feed 84 = .ok (.getfield 87, 3) := by decide +kernel
theorem dX9_feed_87 : decode cX9_feed 87 = .ok (.ireturn, 1) := by decide +kernel
theorem dX9_byteAt_0 : decode cX9_byteAt 0 = .ok (.iload_n 1, 1) := by decide +kernel
theorem dX9_byteAt_1 : decode cX9_byteAt 1 = .ok (.aload_n 0, 1) := by decide +kernel
theorem dX9_byteAt_2 : decode cX9_byteAt 2 = .ok (.getfield 87, 3) := by decide +kernel
theorem dX9_byteAt_5 : decode cX9_byteAt 5 = .ok (.if_icmp .ge 12, 3) := by decide +kernel
theorem dX9_byteAt_8 : decode cX9_byteAt 8 = .ok (.aload_n 0, 1) := by decide +kernel
theorem dX9_byteAt_9 : decode cX9_byteAt 9 = .ok (.getfield 7, 3) := by decide +kernel
theorem dX9_byteAt_12 : decode cX9_byteAt 12 = .ok (.iload_n 1, 1) := by decide +kernel
theorem dX9_byteAt_13 : decode cX9_byteAt 13 = .ok (.iaload, 1) := by decide +kernel
theorem dX9_byteAt_14 : decode cX9_byteAt 14 = .ok (.goto 4, 3) := by decide +kernel
theorem dX9_byteAt_17 : decode cX9_byteAt 17 = .ok (.iconst (-1), 1) := by decide +kernel
theorem dX9_byteAt_18 : decode cX9_byteAt 18 = .ok (.ireturn, 1) := by decide +kernel
theorem dX9_add_0 : decode cX9_add 0 = .ok (.iload_n 2, 1) := by decide +kernel
theorem dX9_add_1 : decode cX9_add 1 = .ok (.ifCond .ne 7, 3) := by decide +kernel
theorem dX9_add_4 : decode cX9_add 4 = .ok (.lload_n 0, 1) := by decide +kernel
theorem dX9_add_5 : decode cX9_add 5 = .ok (.goto 11, 3) := by decide +kernel
theorem dX9_add_8 : decode cX9_add 8 = .ok (.ldc2_w 93, 3) := by decide +kernel
theorem dX9_add_11 : decode cX9_add 11 = .ok (.lload_n 0, 1) := by decide +kernel
theorem dX9_add_12 : decode cX9_add 12 = .ok (.lmul, 1) := by decide +kernel
theorem dX9_add_13 : decode cX9_add 13 = .ok (.iload_n 2, 1) := by decide +kernel
theorem dX9_add_14 : decode cX9_add 14 = .ok (.i2l, 1) := by decide +kernel
theorem dX9_add_15 : decode cX9_add 15 = .ok (.ladd, 1) := by decide +kernel
theorem dX9_add_16 : decode cX9_add 16 = .ok (.lreturn, 1) := by decide +kernel
theorem dX9_named_0 : decode cX9_named 0 = .ok (.lconst 0, 1) := by decide +kernel
theorem dX9_named_1 : decode cX9_named 1 = .ok (.iload_n 0, 1) := by decide +kernel
theorem dX9_named_2 : decode cX9_named 2 = .ok (.invokestatic 95, 3) := by decide +kernel
theorem dX9_named_5 : decode cX9_named 5 = .ok (.iload_n 1, 1) := by decide +kernel
theorem dX9_named_6 : decode cX9_named 6 = .ok (.invokestatic 95, 3) := by decide +kernel
theorem dX9_named_9 : decode cX9_named 9 = .ok (.iload_n 2, 1) := by decide +kernel
theorem dX9_named_10 : decode cX9_named 10 = .ok (.invokestatic 95, 3) := by decide +kernel
theorem dX9_named_13 : decode cX9_named 13 = .ok (.iload_n 3, 1) := by decide +kernel
theorem dX9_named_14 : decode cX9_named 14 = .ok (.invokestatic 95, 3) := by decide +kernel
theorem dX9_named_17 : decode cX9_named 17 = .ok (.iload 4, 2) := by decide +kernel
theorem dX9_named_19 : decode cX9_named 19 = .ok (.invokestatic 95, 3) := by decide +kernel
theorem dX9_named_22 : decode cX9_named 22 = .ok (.iload 5, 2) := by decide +kernel
theorem dX9_named_24 : decode cX9_named 24 = .ok (.invokestatic 95, 3) := by decide +kernel
theorem dX9_named_27 : decode cX9_named 27 = .ok (.iload 6, 2) := by decide +kernel
theorem dX9_named_29 : decode cX9_named 29 = .ok (.invokestatic 95, 3) := by decide +kernel
theorem dX9_named_32 : decode cX9_named 32 = .ok (.lreturn, 1) := by decide +kernel
theorem dX9_wordOf_0 : decode cX9_wordOf 0 = .ok (.lload_n 0, 1) := by decide +kernel
theorem dX9_wordOf_1 : decode cX9_wordOf 1 = .ok (.bipush 98, 2) := by decide +kernel
theorem dX9_wordOf_3 : decode cX9_wordOf 3 = .ok (.bipush 101, 2) := by decide +kernel
theorem dX9_wordOf_5 : decode cX9_wordOf 5 = .ok (.bipush 108, 2) := by decide +kernel
theorem dX9_wordOf_7 : decode cX9_wordOf 7 = .ok (.bipush 116, 2) := by decide +kernel
theorem dX9_wordOf_9 : decode cX9_wordOf 9 = .ok (.iconst 0, 1) := by decide +kernel
theorem dX9_wordOf_10 : decode cX9_wordOf 10 = .ok (.iconst 0, 1) := by decide +kernel
theorem dX9_wordOf_11 : decode cX9_wordOf 11 = .ok (.iconst 0, 1) := by decide +kernel
theorem dX9_wordOf_12 : decode cX9_wordOf 12 = .ok (.invokestatic 99, 3) := by decide +kernel
theorem dX9_wordOf_15 : decode cX9_wordOf 15 = .ok (.lcmp, 1) := by decide +kernel
theorem dX9_wordOf_16 : decode cX9_wordOf 16 = .ok (.ifCond .ne 7, 3) := by decide +kernel
theorem dX9_wordOf_19 : decode cX9_wordOf 19 = .ok (.iconst 0, 1) := by decide +kernel
theorem dX9_wordOf_20 : decode cX9_wordOf 20 = .ok (.goto 52, 3) := by decide +kernel
theorem dX9_wordOf_23 : decode cX9_wordOf 23 = .ok (.lload_n 0, 1) := by decide +kernel
theorem dX9_wordOf_24 : decode cX9_wordOf 24 = .ok (.bipush 104, 2) := by decide +kernel
theorem dX9_wordOf_26 : decode cX9_wordOf 26 = .ok (.bipush 111, 2) := by decide +kernel
theorem dX9_wordOf_28 : decode cX9_wordOf 28 = .ok (.bipush 114, 2) := by decide +kernel
theorem dX9_wordOf_30 : decode cX9_wordOf 30 = .ok (.bipush 115, 2) := by decide +kernel
theorem dX9_wordOf_32 : decode cX9_wordOf 32 = .ok (.bipush 101, 2) := by decide +kernel
theorem dX9_wordOf_34 : decode cX9_wordOf 34 = .ok (.iconst 0, 1) := by decide +kernel
theorem dX9_wordOf_35 : decode cX9_wordOf 35 = .ok (.iconst 0, 1) := by decide +kernel
theorem dX9_wordOf_36 : decode cX9_wordOf 36 = .ok (.invokestatic 99, 3) := by decide +kernel
theorem dX9_wordOf_39 : decode cX9_wordOf 39 = .ok (.lcmp, 1) := by decide +kernel
theorem dX9_wordOf_40 : decode cX9_wordOf 40 = .ok (.ifCond .ne 7, 3) := by decide +kernel
theorem dX9_wordOf_43 : decode cX9_wordOf 43 = .ok (.iconst 1, 1) := by decide +kernel
theorem dX9_wordOf_44 : decode cX9_wordOf 44 = .ok (.goto 28, 3) := by decide +kernel
theorem dX9_wordOf_47 : decode cX9_wordOf 47 = .ok (.lload_n 0, 1) := by decide +kernel
theorem dX9_wordOf_48 : decode cX9_wordOf 48 = .ok (.bipush 98, 2) := by decide +kernel
theorem dX9_wordOf_50 : decode cX9_wordOf 50 = .ok (.bipush 108, 2) := by decide +kernel
theorem dX9_wordOf_52 : decode cX9_wordOf 52 = .ok (.bipush 105, 2) := by decide +kernel
theorem dX9_wordOf_54 : decode cX9_wordOf 54 = .ok (.bipush 110, 2) := by decide +kernel
theorem dX9_wordOf_56 : decode cX9_wordOf 56 = .ok (.bipush 100, 2) := by decide +kernel
theorem dX9_wordOf_58 : decode cX9_wordOf 58 = .ok (.iconst 0, 1) := by decide +kernel
theorem dX9_wordOf_59 : decode cX9_wordOf 59 = .ok (.iconst 0, 1) := by decide +kernel
theorem dX9_wordOf_60 : decode cX9_wordOf 60 = .ok (.invokestatic 99, 3) := by decide +kernel
theorem dX9_wordOf_63 : decode cX9_wordOf 63 = .ok (.lcmp, 1) := by decide +kernel
theorem dX9_wordOf_64 : decode cX9_wordOf 64 = .ok (.ifCond .ne 7, 3) := by decide +kernel
theorem dX9_wordOf_67 : decode cX9_wordOf 67 = .ok (.iconst 2, 1) := by decide +kernel
theorem dX9_wordOf_68 : decode cX9_wordOf 68 = .ok (.goto 4, 3) := by decide +kernel
theorem dX9_wordOf_71 : decode cX9_wordOf 71 = .ok (.iconst (-1), 1) := by decide +kernel
theorem dX9_wordOf_72 : decode cX9_wordOf 72 = .ok (.istore_n 2, 1) := by decide +kernel
theorem dX9_wordOf_73 : decode cX9_wordOf 73 = .ok (.lload_n 0, 1) := by decide +kernel
theorem dX9_wordOf_74 : decode cX9_wordOf 74 = .ok (.bipush 98, 2) := by decide +kernel
theorem dX9_wordOf_76 : decode cX9_wordOf 76 = .ok (.bipush 101, 2) := by decide +kernel
theorem dX9_wordOf_78 : decode cX9_wordOf 78 = .ok (.bipush 115, 2) := by decide +kernel
theorem dX9_wordOf_80 : decode cX9_wordOf 80 = .ok (.bipush 105, 2) := by decide +kernel
theorem dX9_wordOf_82 : decode cX9_wordOf 82 = .ok (.bipush 100, 2) := by decide +kernel
theorem dX9_wordOf_84 : decode cX9_wordOf 84 = .ok (.bipush 101, 2) := by decide +kernel
theorem dX9_wordOf_86 : decode cX9_wordOf 86 = .ok (.iconst 0, 1) := by decide +kernel
theorem dX9_wordOf_87 : decode cX9_wordOf 87 = .ok (.invokestatic 99, 3) := by decide +kernel
theorem dX9_wordOf_90 : decode cX9_wordOf 90 = .ok (.lcmp, 1) := by decide +kernel
theorem dX9_wordOf_91 : decode cX9_wordOf 91 = .ok (.ifCond .ne 7, 3) := by decide +kernel
theorem dX9_wordOf_94 : decode cX9_wordOf 94 = .ok (.iconst 3, 1) := by decide +kernel
theorem dX9_wordOf_95 : decode cX9_wordOf 95 = .ok (.goto 50, 3) := by decide +kernel
theorem dX9_wordOf_98 : decode cX9_wordOf 98 = .ok (.lload_n 0, 1) := by decide +kernel
theorem dX9_wordOf_99 : decode cX9_wordOf 99 = .ok (.bipush 116, 2) := by decide +kernel
theorem dX9_wordOf_101 : decode cX9_wordOf 101 = .ok (.bipush 105, 2) := by decide +kernel
theorem dX9_wordOf_103 : decode cX9_wordOf 103 = .ok (.bipush 100, 2) := by decide +kernel
theorem dX9_wordOf_105 : decode cX9_wordOf 105 = .ok (.bipush 101, 2) := by decide +kernel
theorem dX9_wordOf_107 : decode cX9_wordOf 107 = .ok (.iconst 0, 1) := by decide +kernel
theorem dX9_wordOf_108 : decode cX9_wordOf 108 = .ok (.iconst 0, 1) := by decide +kernel
theorem dX9_wordOf_109 : decode cX9_wordOf 109 = .ok (.iconst 0, 1) := by decide +kernel
theorem dX9_wordOf_110 : decode cX9_wordOf 110 = .ok (.invokestatic 99, 3) := by decide +kernel
theorem dX9_wordOf_113 : decode cX9_wordOf 113 = .ok (.lcmp, 1) := by decide +kernel
theorem dX9_wordOf_114 : decode cX9_wordOf 114 = .ok (.ifCond .ne 7, 3) := by decide +kernel
theorem dX9_wordOf_117 : decode cX9_wordOf 117 = .ok (.iconst 4, 1) := by decide +kernel
theorem dX9_wordOf_118 : decode cX9_wordOf 118 = .ok (.goto 27, 3) := by decide +kernel
theorem dX9_wordOf_121 : decode cX9_wordOf 121 = .ok (.lload_n 0, 1) := by decide +kernel
theorem dX9_wordOf_122 : decode cX9_wordOf 122 = .ok (.bipush 99, 2) := by decide +kernel
theorem dX9_wordOf_124 : decode cX9_wordOf 124 = .ok (.bipush 97, 2) := by decide +kernel
theorem dX9_wordOf_126 : decode cX9_wordOf 126 = .ok (.bipush 114, 2) := by decide +kernel
theorem dX9_wordOf_128 : decode cX9_wordOf 128 = .ok (.bipush 116, 2) := by decide +kernel
theorem dX9_wordOf_130 : decode cX9_wordOf 130 = .ok (.iconst 0, 1) := by decide +kernel
theorem dX9_wordOf_131 : decode cX9_wordOf 131 = .ok (.iconst 0, 1) := by decide +kernel
theorem dX9_wordOf_132 : decode cX9_wordOf 132 = .ok (.iconst 0, 1) := by decide +kernel
theorem dX9_wordOf_133 : decode cX9_wordOf 133 = .ok (.invokestatic 99, 3) := by decide +kernel
theorem dX9_wordOf_136 : decode cX9_wordOf 136 = .ok (.lcmp, 1) := by decide +kernel
theorem dX9_wordOf_137 : decode cX9_wordOf 137 = .ok (.ifCond .ne 7, 3) := by decide +kernel
theorem dX9_wordOf_140 : decode cX9_wordOf 140 = .ok (.iconst 5, 1) := by decide +kernel
theorem dX9_wordOf_141 : decode cX9_wordOf 141 = .ok (.goto 4, 3) := by decide +kernel
theorem dX9_wordOf_144 : decode cX9_wordOf 144 = .ok (.iload_n 2, 1) := by decide +kernel
