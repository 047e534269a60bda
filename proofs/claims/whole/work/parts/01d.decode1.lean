theorem dX4_readClause_62 : decode cX4_readClause 62 = .ok (.invokevirtual 40, 3) := by decide +kernel
theorem dX4_readClause_65 : decode cX4_readClause 65 = .ok (.putfield 30, 3) := by decide +kernel
theorem dX4_readClause_68 : decode cX4_readClause 68 = .ok (.aload_n 0, 1) := by decide +kernel
theorem dX4_readClause_69 : decode cX4_readClause 69 = .ok (.iload_n 3, 1) := by decide +kernel
theorem dX4_readClause_70 : decode cX4_readClause 70 = .ok (.aload_n 1, 1) := by decide +kernel
theorem dX4_readClause_71 : decode cX4_readClause 71 = .ok (.invokevirtual 59, 3) := by decide +kernel
theorem dX4_readClause_74 : decode cX4_readClause 74 = .ok (.return_, 1) := by decide +kernel
theorem dX4_kindOf_0 : decode cX4_kindOf 0 = .ok (.aload_n 0, 1) := by decide +kernel
theorem dX4_kindOf_1 : decode cX4_kindOf 1 = .ok (.ldc 63, 2) := by decide +kernel
theorem dX4_kindOf_3 : decode cX4_kindOf 3 = .ok (.iload_n 1, 1) := by decide +kernel
theorem dX4_kindOf_4 : decode cX4_kindOf 4 = .ok (.iload_n 2, 1) := by decide +kernel
theorem dX4_kindOf_5 : decode cX4_kindOf 5 = .ok (.invokevirtual 65, 3) := by decide +kernel
theorem dX4_kindOf_8 : decode cX4_kindOf 8 = .ok (.ifCond .eq 5, 3) := by decide +kernel
theorem dX4_kindOf_11 : decode cX4_kindOf 11 = .ok (.iconst 0, 1) := by decide +kernel
theorem dX4_kindOf_12 : decode cX4_kindOf 12 = .ok (.ireturn, 1) := by decide +kernel
theorem dX4_kindOf_13 : decode cX4_kindOf 13 = .ok (.aload_n 0, 1) := by decide +kernel
theorem dX4_kindOf_14 : decode cX4_kindOf 14 = .ok (.ldc 69, 2) := by decide +kernel
theorem dX4_kindOf_16 : decode cX4_kindOf 16 = .ok (.iload_n 1, 1) := by decide +kernel
theorem dX4_kindOf_17 : decode cX4_kindOf 17 = .ok (.iload_n 2, 1) := by decide +kernel
theorem dX4_kindOf_18 : decode cX4_kindOf 18 = .ok (.invokevirtual 65, 3) := by decide +kernel
theorem dX4_kindOf_21 : decode cX4_kindOf 21 = .ok (.ifCond .eq 5, 3) := by decide +kernel
theorem dX4_kindOf_24 : decode cX4_kindOf 24 = .ok (.iconst 1, 1) := by decide +kernel
theorem dX4_kindOf_25 : decode cX4_kindOf 25 = .ok (.ireturn, 1) := by decide +kernel
theorem dX4_kindOf_26 : decode cX4_kindOf 26 = .ok (.aload_n 0, 1) := by decide +kernel
theorem dX4_kindOf_27 : decode cX4_kindOf 27 = .ok (.ldc 71, 2) := by decide +kernel
theorem dX4_kindOf_29 : decode cX4_kindOf 29 = .ok (.iload_n 1, 1) := by decide +kernel
theorem dX4_kindOf_30 : decode cX4_kindOf 30 = .ok (.iload_n 2, 1) := by decide +kernel
theorem dX4_kindOf_31 : decode cX4_kindOf 31 = .ok (.invokevirtual 65, 3) := by decide +kernel
theorem dX4_kindOf_34 : decode cX4_kindOf 34 = .ok (.ifCond .eq 5, 3) := by decide +kernel
theorem dX4_kindOf_37 : decode cX4_kindOf 37 = .ok (.iconst 2, 1) := by decide +kernel
theorem dX4_kindOf_38 : decode cX4_kindOf 38 = .ok (.ireturn, 1) := by decide +kernel
theorem dX4_kindOf_39 : decode cX4_kindOf 39 = .ok (.aload_n 0, 1) := by decide +kernel
theorem dX4_kindOf_40 : decode cX4_kindOf 40 = .ok (.ldc 73, 2) := by decide +kernel
theorem dX4_kindOf_42 : decode cX4_kindOf 42 = .ok (.iload_n 1, 1) := by decide +kernel
theorem dX4_kindOf_43 : decode cX4_kindOf 43 = .ok (.iload_n 2, 1) := by decide +kernel
theorem dX4_kindOf_44 : decode cX4_kindOf 44 = .ok (.invokevirtual 65, 3) := by decide +kernel
theorem dX4_kindOf_47 : decode cX4_kindOf 47 = .ok (.ifCond .eq 5, 3) := by decide +kernel
theorem dX4_kindOf_50 : decode cX4_kindOf 50 = .ok (.iconst 3, 1) := by decide +kernel
theorem dX4_kindOf_51 : decode cX4_kindOf 51 = .ok (.ireturn, 1) := by decide +kernel
theorem dX4_kindOf_52 : decode cX4_kindOf 52 = .ok (.aload_n 0, 1) := by decide +kernel
theorem dX4_kindOf_53 : decode cX4_kindOf 53 = .ok (.ldc 75, 2) := by decide +kernel
theorem dX4_kindOf_55 : decode cX4_kindOf 55 = .ok (.iload_n 1, 1) := by decide +kernel
theorem dX4_kindOf_56 : decode cX4_kindOf 56 = .ok (.iload_n 2, 1) := by decide +kernel
theorem dX4_kindOf_57 : decode cX4_kindOf 57 = .ok (.invokevirtual 65, 3) := by decide +kernel
theorem dX4_kindOf_60 : decode cX4_kindOf 60 = .ok (.ifCond .eq 5, 3) := by decide +kernel
theorem dX4_kindOf_63 : decode cX4_kindOf 63 = .ok (.iconst 4, 1) := by decide +kernel
theorem dX4_kindOf_64 : decode cX4_kindOf 64 = .ok (.ireturn, 1) := by decide +kernel
theorem dX4_kindOf_65 : decode cX4_kindOf 65 = .ok (.aload_n 0, 1) := by decide +kernel
theorem dX4_kindOf_66 : decode cX4_kindOf 66 = .ok (.ldc 77, 2) := by decide +kernel
theorem dX4_kindOf_68 : decode cX4_kindOf 68 = .ok (.iload_n 1, 1) := by decide +kernel
theorem dX4_kindOf_69 : decode cX4_kindOf 69 = .ok (.iload_n 2, 1) := by decide +kernel
theorem dX4_kindOf_70 : decode cX4_kindOf 70 = .ok (.invokevirtual 65, 3) := by decide +kernel
theorem dX4_kindOf_73 : decode cX4_kindOf 73 = .ok (.ifCond .eq 5, 3) := by decide +kernel
theorem dX4_kindOf_76 : decode cX4_kindOf 76 = .ok (.iconst 5, 1) := by decide +kernel
theorem dX4_kindOf_77 : decode cX4_kindOf 77 = .ok (.ireturn, 1) := by decide +kernel
theorem dX4_kindOf_78 : decode cX4_kindOf 78 = .ok (.aload_n 0, 1) := by decide +kernel
theorem dX4_kindOf_79 : decode cX4_kindOf 79 = .ok (.ldc 79, 2) := by decide +kernel
theorem dX4_kindOf_81 : decode cX4_kindOf 81 = .ok (.iload_n 1, 1) := by decide +kernel
theorem dX4_kindOf_82 : decode cX4_kindOf 82 = .ok (.iload_n 2, 1) := by decide +kernel
theorem dX4_kindOf_83 : decode cX4_kindOf 83 = .ok (.invokevirtual 65, 3) := by decide +kernel
theorem dX4_kindOf_86 : decode cX4_kindOf 86 = .ok (.ifCond .eq 8, 3) := by decide +kernel
theorem dX4_kindOf_89 : decode cX4_kindOf 89 = .ok (.bipush 6, 2) := by decide +kernel
theorem dX4_kindOf_91 : decode cX4_kindOf 91 = .ok (.goto 4, 3) := by decide +kernel
theorem dX4_kindOf_94 : decode cX4_kindOf 94 = .ok (.iconst (-1), 1) := by decide +kernel
theorem dX4_kindOf_95 : decode cX4_kindOf 95 = .ok (.ireturn, 1) := by decide +kernel
theorem dX4_isTooMany_0 : decode cX4_isTooMany 0 = .ok (.iload_n 1, 1) := by decide +kernel
theorem dX4_isTooMany_1 : decode cX4_isTooMany 1 = .ok (.tableswitch 126 0 6 #[43, 56, 126, 71, 86, 99, 113], 43) := by decide +kernel
theorem dX4_isTooMany_44 : decode cX4_isTooMany 44 = .ok (.aload_n 2, 1) := by decide +kernel
theorem dX4_isTooMany_45 : decode cX4_isTooMany 45 = .ok (.getfield 48, 3) := by decide +kernel
theorem dX4_isTooMany_48 : decode cX4_isTooMany 48 = .ok (.ifCond .le 7, 3) := by decide +kernel
theorem dX4_isTooMany_51 : decode cX4_isTooMany 51 = .ok (.iconst 1, 1) := by decide +kernel
theorem dX4_isTooMany_52 : decode cX4_isTooMany 52 = .ok (.goto 4, 3) := by decide +kernel
theorem dX4_isTooMany_55 : decode cX4_isTooMany 55 = .ok (.iconst 0, 1) := by decide +kernel
theorem dX4_isTooMany_56 : decode cX4_isTooMany 56 = .ok (.ireturn, 1) := by decide +kernel
theorem dX4_isTooMany_57 : decode cX4_isTooMany 57 = .ok (.aload_n 2, 1) := by decide +kernel
theorem dX4_isTooMany_58 : decode cX4_isTooMany 58 = .ok (.getfield 81, 3) := by decide +kernel
theorem dX4_isTooMany_61 : decode cX4_isTooMany 61 = .ok (.bipush 6, 2) := by decide +kernel
theorem dX4_isTooMany_63 : decode cX4_isTooMany 63 = .ok (.if_icmp .lt 7, 3) := by decide +kernel
theorem dX4_isTooMany_66 : decode cX4_isTooMany 66 = .ok (.iconst 1, 1) := by decide +kernel
theorem dX4_isTooMany_67 : decode cX4_isTooMany 67 = .ok (.goto 4, 3) := by decide +kernel
theorem dX4_isTooMany_70 : decode cX4_isTooMany 70 = .ok (.iconst 0, 1) := by decide +kernel
theorem dX4_isTooMany_71 : decode cX4_isTooMany 71 = .ok (.ireturn, 1) := by decide +kernel
theorem dX4_isTooMany_72 : decode cX4_isTooMany 72 = .ok (.aload_n 2, 1) := by decide +kernel
theorem dX4_isTooMany_73 : decode cX4_isTooMany 73 = .ok (.getfield 84, 3) := by decide +kernel
theorem dX4_isTooMany_76 : decode cX4_isTooMany 76 = .ok (.bipush 12, 2) := by decide +kernel
theorem dX4_isTooMany_78 : decode cX4_isTooMany 78 = .ok (.if_icmp .lt 7, 3) := by decide +kernel
theorem dX4_isTooMany_81 : decode cX4_isTooMany 81 = .ok (.iconst 1, 1) := by decide +kernel
theorem dX4_isTooMany_82 : decode cX4_isTooMany 82 = .ok (.goto 4, 3) := by decide +kernel
theorem dX4_isTooMany_85 : decode cX4_isTooMany 85 = .ok (.iconst 0, 1) := by decide +kernel
theorem dX4_isTooMany_86 : decode cX4_isTooMany 86 = .ok (.ireturn, 1) := by decide +kernel
theorem dX4_isTooMany_87 : decode cX4_isTooMany 87 = .ok (.aload_n 2, 1) := by decide +kernel
theorem dX4_isTooMany_88 : decode cX4_isTooMany 88 = .ok (.getfield 87, 3) := by decide +kernel
theorem dX4_isTooMany_91 : decode cX4_isTooMany 91 = .ok (.ifCond .le 7, 3) := by decide +kernel
theorem dX4_isTooMany_94 : decode cX4_isTooMany 94 = .ok (.iconst 1, 1) := by decide +kernel
theorem dX4_isTooMany_95 : decode cX4_isTooMany 95 = .ok (.goto 4, 3) := by decide +kernel
theorem dX4_isTooMany_98 : decode cX4_isTooMany 98 = .ok (.iconst 0, 1) := by decide +kernel
theorem dX4_isTooMany_99 : decode cX4_isTooMany 99 = .ok (.ireturn, 1) := by decide +kernel
theorem dX4_isTooMany_100 : decode cX4_isTooMany 100 = .ok (.aload_n 2, 1) := by decide +kernel
theorem dX4_isTooMany_101 : decode cX4_isTooMany 101 = .ok (.getfield 90, 3) := by decide +kernel
theorem dX4_isTooMany_104 : decode cX4_isTooMany 104 = .ok (.iconst 4, 1) := by decide +kernel
theorem dX4_isTooMany_105 : decode cX4_isTooMany 105 = .ok (.if_icmp .lt 7, 3) := by decide +kernel
theorem dX4_isTooMany_108 : decode cX4_isTooMany 108 = .ok (.iconst 1, 1) := by decide +kernel
theorem dX4_isTooMany_109 : decode cX4_isTooMany 109 = .ok (.goto 4, 3) := by decide +kernel
theorem dX4_isTooMany_112 : decode cX4_isTooMany 112 = .ok (.iconst 0, 1) := by decide +kernel
theorem dX4_isTooMany_113 : decode cX4_isTooMany 113 = .ok (.ireturn, 1) := by decide +kernel
theorem dX4_isTooMany_114 : decode cX4_isTooMany 114 = .ok (.aload_n 2, 1) := by decide +kernel
theorem dX4_isTooMany_115 : decode cX4_isTooMany 115 = .ok (.getfield 93, 3) := by decide +kernel
theorem dX4_isTooMany_118 : decode cX4_isTooMany 118 = .ok (.ifCond .eq 7, 3) := by decide +kernel
theorem dX4_isTooMany_121 : decode cX4_isTooMany 121 = .ok (.iconst 1, 1) := by decide +kernel
theorem dX4_isTooMany_122 : decode cX4_isTooMany 122 = .ok (.goto 4, 3) := by decide +kernel
theorem dX4_isTooMany_125 : decode cX4_isTooMany 125 = .ok (.iconst 0, 1) := by decide +kernel
theorem dX4_isTooMany_126 : decode cX4_isTooMany 126 = .ok (.ireturn, 1) := by decide +kernel
theorem dX4_isTooMany_127 : decode cX4_isTooMany 127 = .ok (.iconst 0, 1) := by decide +kernel
theorem dX4_isTooMany_128 : decode cX4_isTooMany 128 = .ok (.ireturn, 1) := by decide +kernel
theorem dX4_readParts_0 : decode cX4_readParts 0 = .ok (.iload_n 1, 1) := by decide +kernel
theorem dX4_readParts_1 : decode cX4_readParts 1 = .ok (.tableswitch 87 0 5 #[39, 47, 55, 63, 71, 79], 39) := by decide +kernel
theorem dX4_readParts_40 : decode cX4_readParts 40 = .ok (.aload_n 0, 1) := by decide +kernel
theorem dX4_readParts_41 : decode cX4_readParts 41 = .ok (.aload_n 2, 1) := by decide +kernel
theorem dX4_readParts_42 : decode cX4_readParts 42 = .ok (.invokevirtual 95, 3) := by decide +kernel
theorem dX4_readParts_45 : decode cX4_readParts 45 = .ok (.goto 48, 3) := by decide +kernel
theorem dX4_readParts_48 : decode cX4_readParts 48 = .ok (.aload_n 0, 1) := by decide +kernel
theorem dX4_readParts_49 : decode cX4_readParts 49 = .ok (.aload_n 2, 1) := by decide +kernel
theorem dX4_readParts_50 : decode cX4_readParts 50 = .ok (.invokevirtual 98, 3) := by decide +kernel
theorem dX4_readParts_53 : decode cX4_readParts 53 = .ok (.goto 40, 3) := by decide +kernel
theorem dX4_readParts_56 : decode cX4_readParts 56 = .ok (.aload_n 0, 1) := by decide +kernel
theorem dX4_readParts_57 : decode cX4_readParts 57 = .ok (.aload_n 2, 1) := by decide +kernel
theorem dX4_readParts_58 : decode cX4_readParts 58 = .ok (.invokevirtual 101, 3) := by decide +kernel
theorem dX4_readParts_61 : decode cX4_readParts 61 = .ok (.goto 32, 3) := by decide +kernel
theorem dX4_readParts_64 : decode cX4_readParts 64 = .ok (.aload_n 0, 1) := by decide +kernel
theorem dX4_readParts_65 : decode cX4_readParts 65 = .ok (.aload_n 2, 1) := by decide +kernel
theorem dX4_readParts_66 : decode cX4_readParts 66 = .ok (.invokevirtual 104, 3) := by decide +kernel
theorem dX4_readParts_69 : decode cX4_readParts 69 = .ok (.goto 24, 3) := by decide +kernel
theorem dX4_readParts_72 : decode cX4_readParts 72 = .ok (.aload_n 0, 1) := by decide +kernel
theorem dX4_readParts_73 : decode cX4_readParts 73 = .ok (.aload_n 2, 1) := by decide +kernel
theorem dX4_readParts_74 : decode cX4_readParts 74 = .ok (.invokevirtual 107, 3) := by decide +kernel
theorem dX4_readParts_77 : decode cX4_readParts 77 = .ok (.goto 16, 3) := by decide +kernel
theorem dX4_readParts_80 : decode cX4_readParts 80 = .ok (.aload_n 0, 1) := by decide +kernel
theorem dX4_readParts_81 : decode cX4_readParts 81 = .ok (.aload_n 2, 1) := by decide +kernel
theorem dX4_readParts_82 : decode cX4_readParts 82 = .ok (.invokevirtual 110, 3) := by decide +kernel
theorem dX4_readParts_85 : decode cX4_readParts 85 = .ok (.goto 8, 3) := by decide +kernel
theorem dX4_readParts_88 : decode cX4_readParts 88 = .ok (.aload_n 0, 1) := by decide +kernel
theorem dX4_readParts_89 : decode cX4_readParts 89 = .ok (.aload_n 2, 1) := by decide +kernel
theorem dX4_readParts_90 : decode cX4_readParts 90 = .ok (.invokevirtual 113, 3) := by decide +kernel
theorem dX4_readParts_93 : decode cX4_readParts 93 = .ok (.return_, 1) := by decide +kernel
theorem dX4_readBelt_0 : decode cX4_readBelt 0 = .ok (.aload_n 0, 1) := by decide +kernel
theorem dX4_readBelt_1 : decode cX4_readBelt 1 = .ok (.invokevirtual 116, 3) := by decide +kernel
theorem dX4_readBelt_4 : decode cX4_readBelt 4 = .ok (.istore_n 2, 1) := by decide +kernel
theorem dX4_readBelt_5 : decode cX4_readBelt 5 = .ok (.aload_n 0, 1) := by decide +kernel
theorem dX4_readBelt_6 : decode cX4_readBelt 6 = .ok (.iconst 1, 1) := by decide +kernel
theorem dX4_readBelt_7 : decode cX4_readBelt 7 = .ok (.iconst 3, 1) := by decide +kernel
theorem dX4_readBelt_8 : decode cX4_readBelt 8 = .ok (.invokevirtual 120, 3) := by decide +kernel
theorem dX4_readBelt_11 : decode cX4_readBelt 11 = .ok (.istore_n 3, 1) := by decide +kernel
theorem dX4_readBelt_12 : decode cX4_readBelt 12 = .ok (.aload_n 0, 1) := by decide +kernel
theorem dX4_readBelt_13 : decode cX4_readBelt 13 = .ok (.iconst 1, 1) := by decide +kernel
theorem dX4_readBelt_14 : decode cX4_readBelt 14 = .ok (.sipush 999, 3) := by decide +kernel
theorem dX4_readBelt_17 : decode cX4_readBelt 17 = .ok (.invokevirtual 120, 3) := by decide +kernel
theorem dX4_readBelt_20 : decode cX4_readBelt 20 = .ok (.istore 4, 2) := by decide +kernel
theorem dX4_readBelt_22 : decode cX4_readBelt 22 = .ok (.aload_n 0, 1) := by decide +kernel
theorem dX4_readBelt_23 : decode cX4_readBelt 23 = .ok (.invokevirtual 123, 3) := by decide +kernel
theorem dX4_readBelt_26 : decode cX4_readBelt 26 = .ok (.aload_n 0, 1) := by decide +kernel
theorem dX4_readBelt_27 : decode cX4_readBelt 27 = .ok (.getfield 27, 3) := by decide +kernel
theorem dX4_readBelt_30 : decode cX4_readBelt 30 = .ok (.ifCond .ne 19, 3) := by decide +kernel
theorem dX4_readBelt_33 : decode cX4_readBelt 33 = .ok (.aload_n 1, 1) := by decide +kernel
theorem dX4_readBelt_34 : decode cX4_readBelt 34 = .ok (.iload_n 2, 1) := by decide +kernel
theorem dX4_readBelt_35 : decode cX4_readBelt 35 = .ok (.putfield 126, 3) := by decide +kernel
theorem dX4_readBelt_38 : decode cX4_readBelt 38 = .ok (.aload_n 1, 1) := by decide +kernel
theorem dX4_readBelt_39 : decode cX4_readBelt 39 = .ok (.iload_n 3, 1) := by decide +kernel
theorem dX4_readBelt_40 : decode cX4_readBelt 40 = .ok (.putfield 48, 3) := by decide +kernel
theorem dX4_readBelt_43 : decode cX4_readBelt 43 = .ok (.aload_n 1, 1) := by decide +kernel
theorem dX4_readBelt_44 : decode cX4_readBelt 44 = .ok (.iload 4, 2) := by decide +kernel
theorem dX4_readBelt_46 : decode cX4_readBelt 46 = .ok (.putfield 129, 3) := by decide +kernel
theorem dX4_readBelt_49 : decode cX4_readBelt 49 = .ok (.return_, 1) := by decide +kernel
theorem dX4_readLaw_0 : decode cX4_readLaw 0 = .ok (.aload_n 0, 1) := by decide +kernel
theorem dX4_readLaw_1 : decode cX4_readLaw 1 = .ok (.invokevirtual 33, 3) := by decide +kernel
theorem dX4_readLaw_4 : decode cX4_readLaw 4 = .ok (.aload_n 0, 1) := by decide +kernel
theorem dX4_readLaw_5 : decode cX4_readLaw 5 = .ok (.getfield 30, 3) := by decide +kernel
theorem dX4_readLaw_8 : decode cX4_readLaw 8 = .ok (.istore_n 1, 1) := by decide +kernel
theorem dX4_readLaw_9 : decode cX4_readLaw 9 = .ok (.aload_n 0, 1) := by decide +kernel
theorem dX4_readLaw_10 : decode cX4_readLaw 10 = .ok (.aload_n 0, 1) := by decide +kernel
theorem dX4_readLaw_11 : decode cX4_readLaw 11 = .ok (.iload_n 1, 1) := by decide +kernel
theorem dX4_readLaw_12 : decode cX4_readLaw 12 = .ok (.invokevirtual 40, 3) := by decide +kernel
theorem dX4_readLaw_15 : decode cX4_readLaw 15 = .ok (.putfield 30, 3) := by decide +kernel
theorem dX4_readLaw_18 : decode cX4_readLaw 18 = .ok (.aload_n 0, 1) := by decide +kernel
theorem dX4_readLaw_19 : decode cX4_readLaw 19 = .ok (.ldc 132, 2) := by decide +kernel
theorem dX4_readLaw_21 : decode cX4_readLaw 21 = .ok (.iload_n 1, 1) := by decide +kernel
theorem dX4_readLaw_22 : decode cX4_readLaw 22 = .ok (.aload_n 0, 1) := by decide +kernel
theorem dX4_readLaw_23 : decode cX4_readLaw 23 = .ok (.getfield 30, 3) := by decide +kernel
theorem dX4_readLaw_26 : decode cX4_readLaw 26 = .ok (.invokevirtual 65, 3) := by decide +kernel
theorem dX4_readLaw_29 : decode cX4_readLaw 29 = .ok (.ifCond .eq 5, 3) := by decide +kernel
theorem dX4_readLaw_32 : decode cX4_readLaw 32 = .ok (.iconst 0, 1) := by decide +kernel
theorem dX4_readLaw_33 : decode cX4_readLaw 33 = .ok (.ireturn, 1) := by decide +kernel
theorem dX4_readLaw_34 : decode cX4_readLaw 34 = .ok (.aload_n 0, 1) := by decide +kernel
theorem dX4_readLaw_35 : decode cX4_readLaw 35 = .ok (.ldc 134, 2) := by decide +kernel
theorem dX4_readLaw_37 : decode cX4_readLaw 37 = .ok (.iload_n 1, 1) := by decide +kernel
theorem dX4_readLaw_38 : decode cX4_readLaw 38 = .ok (.aload_n 0, 1) := by decide +kernel
theorem dX4_readLaw_39 : decode cX4_readLaw 39 = .ok (.getfield 30, 3) := by decide +kernel
theorem dX4_readLaw_42 : decode cX4_readLaw 42 = .ok (.invokevirtual 65, 3) := by decide +kernel
theorem dX4_readLaw_45 : decode cX4_readLaw 45 = .ok (.ifCond .ne 9, 3) := by decide +kernel
theorem dX4_readLaw_48 : decode cX4_readLaw 48 = .ok (.aload_n 0, 1) := by decide +kernel
theorem dX4_readLaw_49 : decode cX4_readLaw 49 = .ok (.iconst 1, 1) := by decide +kernel
theorem dX4_readLaw_50 : decode cX4_readLaw 50 = .ok (.iload_n 1, 1) := by decide +kernel
theorem dX4_readLaw_51 : decode cX4_readLaw 51 = .ok (.invokevirtual 51, 3) := by decide +kernel
theorem dX4_readLaw_54 : decode cX4_readLaw 54 = .ok (.iconst 1, 1) := by decide +kernel
theorem dX4_readLaw_55 : decode cX4_readLaw 55 = .ok (.ireturn, 1) := by decide +kernel
theorem dX4_readHorse_0 : decode cX4_readHorse 0 = .ok (.aload_n 0, 1) := by decide +kernel
theorem dX4_readHorse_1 : decode cX4_readHorse 1 = .ok (.iconst 1, 1) := by decide +kernel
theorem dX4_readHorse_2 : decode cX4_readHorse 2 = .ok (.bipush 30, 2) := by decide +kernel
theorem dX4_readHorse_4 : decode cX4_readHorse 4 = .ok (.invokevirtual 120, 3) := by decide +kernel
theorem dX4_readHorse_7 : decode cX4_readHorse 7 = .ok (.istore_n 2, 1) := by decide +kernel
theorem dX4_readHorse_8 : decode cX4_readHorse 8 = .ok (.aload_n 0, 1) := by decide +kernel
theorem dX4_readHorse_9 : decode cX4_readHorse 9 = .ok (.iconst 1, 1) := by decide +kernel
theorem dX4_readHorse_10 : decode cX4_readHorse 10 = .ok (.sipush 200, 3) := by decide +kernel
theorem dX4_readHorse_13 : decode cX4_readHorse 13 = .ok (.invokevirtual 120, 3) := by decide +kernel
theorem dX4_readHorse_16 : decode cX4_readHorse 16 = .ok (.istore_n 3, 1) := by decide +kernel
theorem dX4_readHorse_17 : decode cX4_readHorse 17 = .ok (.aload_n 0, 1) := by decide +kernel
theorem dX4_readHorse_18 : decode cX4_readHorse 18 = .ok (.iconst 0, 1) := by decide +kernel
theorem dX4_readHorse_19 : decode cX4_readHorse 19 = .ok (.bipush 60, 2) := by decide +kernel
theorem dX4_readHorse_21 : decode cX4_readHorse 21 = .ok (.invokevirtual 120, 3) := by decide +kernel
theorem dX4_readHorse_24 : decode cX4_readHorse 24 = .ok (.istore 4, 2) := by decide +kernel
theorem dX4_readHorse_26 : decode cX4_readHorse 26 = .ok (.aload_n 0, 1) := by decide +kernel
theorem dX4_readHorse_27 : decode cX4_readHorse 27 = .ok (.invokevirtual 123, 3) := by decide +kernel
theorem dX4_readHorse_30 : decode cX4_readHorse 30 = .ok (.aload_n 0, 1) := by decide +kernel
theorem dX4_readHorse_31 : decode cX4_readHorse 31 = .ok (.getfield 27, 3) := by decide +kernel
theorem dX4_readHorse_34 : decode cX4_readHorse 34 = .ok (.ifCond .ne 11, 3) := by decide +kernel
theorem dX4_readHorse_37 : decode cX4_readHorse 37 = .ok (.aload_n 1, 1) := by decide +kernel
theorem dX4_readHorse_38 : decode cX4_readHorse 38 = .ok (.iload_n 2, 1) := by decide +kernel
theorem dX4_readHorse_39 : decode cX4_readHorse 39 = .ok (.iload_n 3, 1) := by decide +kernel
theorem dX4_readHorse_40 : decode cX4_readHorse 40 = .ok (.iload 4, 2) := by decide +kernel
theorem dX4_readHorse_42 : decode cX4_readHorse 42 = .ok (.invokevirtual 136, 3) := by decide +kernel
theorem dX4_readHorse_45 : decode cX4_readHorse 45 = .ok (.return_, 1) := by decide +kernel
theorem dX4_readBlind_0 : decode cX4_readBlind 0 = .ok (.aload_n 0, 1) := by decide +kernel
theorem dX4_readBlind_1 : decode cX4_readBlind 1 = .ok (.iconst 0, 1) := by decide +kernel
theorem dX4_readBlind_2 : decode cX4_readBlind 2 = .ok (.aload_n 1, 1) := by decide +kernel
theorem dX4_readBlind_3 : decode cX4_readBlind 3 = .ok (.getfield 81, 3) := by decide +kernel
theorem dX4_readBlind_6 : decode cX4_readBlind 6 = .ok (.iconst 1, 1) := by decide +kernel
theorem dX4_readBlind_7 : decode cX4_readBlind 7 = .ok (.isub, 1) := by decide +kernel
theorem dX4_readBlind_8 : decode cX4_readBlind 8 = .ok (.invokevirtual 120, 3) := by decide +kernel
theorem dX4_readBlind_11 : decode cX4_readBlind 11 = .ok (.istore_n 2, 1) := by decide +kernel
theorem dX4_readBlind_12 : decode cX4_readBlind 12 = .ok (.aload_n 1, 1) := by decide +kernel
theorem dX4_readBlind_13 : decode cX4_readBlind 13 = .ok (.iload_n 2, 1) := by decide +kernel
theorem dX4_readBlind_14 : decode cX4_readBlind 14 = .ok (.invokevirtual 140, 3) := by decide +kernel
theorem dX4_readBlind_17 : decode cX4_readBlind 17 = .ok (.ifCond .eq 12, 3) := by decide +kernel
theorem dX4_readBlind_20 : decode cX4_readBlind 20 = .ok (.aload_n 0, 1) := by decide +kernel
theorem dX4_readBlind_21 : decode cX4_readBlind 21 = .ok (.iconst 4, 1) := by decide +kernel
theorem dX4_readBlind_22 : decode cX4_readBlind 22 = .ok (.aload_n 0, 1) := by decide +kernel
theorem dX4_readBlind_23 : decode cX4_readBlind 23 = .ok (.getfield 144, 3) := by decide +kernel
theorem dX4_readBlind_26 : decode cX4_readBlind 26 = .ok (.invokevirtual 51, 3) := by decide +kernel
theorem dX4_readBlind_29 : decode cX4_readBlind 29 = .ok (.aload_n 0, 1) := by decide +kernel
theorem dX4_readBlind_30 : decode cX4_readBlind 30 = .ok (.invokevirtual 123, 3) := by decide +kernel
theorem dX4_readBlind_33 : decode cX4_readBlind 33 = .ok (.aload_n 0, 1) := by decide +kernel
theorem dX4_readBlind_34 : decode cX4_readBlind 34 = .ok (.getfield 27, 3) := by decide +kernel
theorem dX4_readBlind_37 : decode cX4_readBlind 37 = .ok (.ifCond .ne 15, 3) := by decide +kernel
theorem dX4_readBlind_40 : decode cX4_readBlind 40 = .ok (.aload_n 1, 1) := by decide +kernel
theorem dX4_readBlind_41 : decode cX4_readBlind 41 = .ok (.dup, 1) := by decide +kernel
theorem dX4_readBlind_42 : decode cX4_readBlind 42 = .ok (.getfield 147, 3) := by decide +kernel
theorem dX4_readBlind_45 : decode cX4_readBlind 45 = .ok (.iconst 1, 1) := by decide +kernel
theorem dX4_readBlind_46 : decode cX4_readBlind 46 = .ok (.iload_n 2, 1) := by decide +kernel
theorem dX4_readBlind_47 : decode cX4_readBlind 47 = .ok (.ishl, 1) := by decide +kernel
theorem dX4_readBlind_48 : decode cX4_readBlind 48 = .ok (.ior, 1) := by decide +kernel
theorem dX4_readBlind_49 : decode cX4_readBlind 49 = .ok (.putfield 147, 3) := by decide +kernel
theorem dX4_readBlind_52 : decode cX4_readBlind 52 = .ok (.return_, 1) := by decide +kernel
theorem dX4_readBeside_0 : decode cX4_readBeside 0 = .ok (.aload_n 0, 1) := by decide +kernel
theorem dX4_readBeside_1 : decode cX4_readBeside 1 = .ok (.iconst 0, 1) := by decide +kernel
theorem dX4_readBeside_2 : decode cX4_readBeside 2 = .ok (.aload_n 1, 1) := by decide +kernel
theorem dX4_readBeside_3 : decode cX4_readBeside 3 = .ok (.getfield 81, 3) := by decide +kernel
theorem dX4_readBeside_6 : decode cX4_readBeside 6 = .ok (.iconst 1, 1) := by decide +kernel
theorem dX4_readBeside_7 : decode cX4_readBeside 7 = .ok (.isub, 1) := by decide +kernel
theorem dX4_readBeside_8 : decode cX4_readBeside 8 = .ok (.invokevirtual 120, 3) := by decide +kernel
theorem dX4_readBeside_11 : decode cX4_readBeside 11 = .ok (.istore_n 2, 1) := by decide +kernel
theorem dX4_readBeside_12 : decode cX4_readBeside 12 = .ok (.aload_n 0, 1) := by decide +kernel
theorem dX4_readBeside_13 : decode cX4_readBeside 13 = .ok (.iconst 0, 1) := by decide +kernel
theorem dX4_readBeside_14 : decode cX4_readBeside 14 = .ok (.aload_n 1, 1) := by decide +kernel
theorem dX4_readBeside_15 : decode cX4_readBeside 15 = .ok (.getfield 81, 3) := by decide +kernel
theorem dX4_readBeside_18 : decode cX4_readBeside 18 = .ok (.iconst 1, 1) := by decide +kernel
theorem dX4_readBeside_19 : decode cX4_readBeside 19 = .ok (.isub, 1) := by decide +kernel
theorem dX4_readBeside_20 : decode cX4_readBeside 20 = .ok (.invokevirtual 120, 3) := by decide +kernel
theorem dX4_readBeside_23 : decode cX4_readBeside 23 = .ok (.istore_n 3, 1) := by decide +kernel
theorem dX4_readBeside_24 : decode cX4_readBeside 24 = .ok (.iload_n 2, 1) := by decide +kernel
theorem dX4_readBeside_25 : decode cX4_readBeside 25 = .ok (.iload_n 3, 1) := by decide +kernel
theorem dX4_readBeside_26 : decode cX4_readBeside 26 = .ok (.if_icmp .eq 12, 3) := by decide +kernel
theorem dX4_readBeside_29 : decode cX4_readBeside 29 = .ok (.aload_n 1, 1) := by decide +kernel
theorem dX4_readBeside_30 : decode cX4_readBeside 30 = .ok (.iload_n 2, 1) := by decide +kernel
theorem dX4_readBeside_31 : decode cX4_readBeside 31 = .ok (.iload_n 3, 1) := by decide +kernel
theorem dX4_readBeside_32 : decode cX4_readBeside 32 = .ok (.invokevirtual 150, 3) := by decide +kernel
theorem dX4_readBeside_35 : decode cX4_readBeside 35 = .ok (.ifCond .eq 12, 3) := by decide +kernel
theorem dX4_readBeside_38 : decode cX4_readBeside 38 = .ok (.aload_n 0, 1) := by decide +kernel
theorem dX4_readBeside_39 : decode cX4_readBeside 39 = .ok (.iconst 4, 1) := by decide +kernel
theorem dX4_readBeside_40 : decode cX4_readBeside 40 = .ok (.aload_n 0, 1) := by decide +kernel
theorem dX4_readBeside_41 : decode cX4_readBeside 41 = .ok (.getfield 144, 3) := by decide +kernel
theorem dX4_readBeside_44 : decode cX4_readBeside 44 = .ok (.invokevirtual 51, 3) := by decide +kernel
theorem dX4_readBeside_47 : decode cX4_readBeside 47 = .ok (.aload_n 0, 1) := by decide +kernel
theorem dX4_readBeside_48 : decode cX4_readBeside 48 = .ok (.iconst 0, 1) := by decide +kernel
theorem dX4_readBeside_49 : decode cX4_readBeside 49 = .ok (.bipush 10, 2) := by decide +kernel
theorem dX4_readBeside_51 : decode cX4_readBeside 51 = .ok (.invokevirtual 120, 3) := by decide +kernel
theorem dX4_readBeside_54 : decode cX4_readBeside 54 = .ok (.istore 4, 2) := by decide +kernel
theorem dX4_readBeside_56 : decode cX4_readBeside 56 = .ok (.aload_n 0, 1) := by decide +kernel
theorem dX4_readBeside_57 : decode cX4_readBeside 57 = .ok (.invokevirtual 123, 3) := by decide +kernel
theorem dX4_readBeside_60 : decode cX4_readBeside 60 = .ok (.aload_n 0, 1) := by decide +kernel
theorem dX4_readBeside_61 : decode cX4_readBeside 61 = .ok (.getfield 27, 3) := by decide +kernel
theorem dX4_readBeside_64 : decode cX4_readBeside 64 = .ok (.ifCond .ne 13, 3) := by decide +kernel
theorem dX4_readBeside_67 : decode cX4_readBeside 67 = .ok (.aload_n 1, 1) := by decide +kernel
theorem dX4_readBeside_68 : decode cX4_readBeside 68 = .ok (.iload_n 2, 1) := by decide +kernel
theorem dX4_readBeside_69 : decode cX4_readBeside 69 = .ok (.iload_n 3, 1) := by decide +kernel
theorem dX4_readBeside_70 : decode cX4_readBeside 70 = .ok (.iload 4, 2) := by decide +kernel
theorem dX4_readBeside_72 : decode cX4_readBeside 72 = .ok (.iconst 5, 1) := by decide +kernel
theorem dX4_readBeside_73 : decode cX4_readBeside 73 = .ok (.isub, 1) := by decide +kernel
theorem dX4_readBeside_74 : decode cX4_readBeside 74 = .ok (.invokevirtual 154, 3) := by decide +kernel
theorem dX4_readBeside_77 : decode cX4_readBeside 77 = .ok (.return_, 1) := by decide +kernel
theorem dX4_readTide_0 : decode cX4_readTide 0 = .ok (.iconst 1, 1) := by decide +kernel
theorem dX4_readTide_1 : decode cX4_readTide 1 = .ok (.istore_n 2, 1) := by decide +kernel
theorem dX4_readTide_2 : decode cX4_readTide 2 = .ok (.iconst 0, 1) := by decide +kernel
theorem dX4_readTide_3 : decode cX4_readTide 3 = .ok (.istore_n 3, 1) := by decide +kernel
theorem dX4_readTide_4 : decode cX4_readTide 4 = .ok (.iload_n 3, 1) := by decide +kernel
theorem dX4_readTide_5 : decode cX4_readTide 5 = .ok (.bipush 12, 2) := by decide +kernel
theorem dX4_readTide_7 : decode cX4_readTide 7 = .ok (.if_icmp .ge 54, 3) := by decide +kernel
theorem dX4_readTide_10 : decode cX4_readTide 10 = .ok (.iload_n 2, 1) := by decide +kernel
theorem dX4_readTide_11 : decode cX4_readTide 11 = .ok (.ifCond .eq 50, 3) := by decide +kernel
theorem dX4_readTide_14 : decode cX4_readTide 14 = .ok (.aload_n 0, 1) := by decide +kernel
theorem dX4_readTide_15 : decode cX4_readTide 15 = .ok (.iconst 0, 1) := by decide +kernel
theorem dX4_readTide_16 : decode cX4_readTide 16 = .ok (.bipush 40, 2) := by decide +kernel
theorem dX4_readTide_18 : decode cX4_readTide 18 = .ok (.invokevirtual 120, 3) := by decide +kernel
theorem dX4_readTide_21 : decode cX4_readTide 21 = .ok (.istore 4, 2) := by decide +kernel
theorem dX4_readTide_23 : decode cX4_readTide 23 = .ok (.aload_n 0, 1) := by decide +kernel
theorem dX4_readTide_24 : decode cX4_readTide 24 = .ok (.getfield 27, 3) := by decide +kernel
theorem dX4_readTide_27 : decode cX4_readTide 27 = .ok (.ifCond .ne 9, 3) := by decide +kernel
theorem dX4_readTide_30 : decode cX4_readTide 30 = .ok (.aload_n 1, 1) := by decide +kernel
theorem dX4_readTide_31 : decode cX4_readTide 31 = .ok (.iload 4, 2) := by decide +kernel
theorem dX4_readTide_33 : decode cX4_readTide 33 = .ok (.invokevirtual 157, 3) := by decide +kernel
theorem dX4_readTide_36 : decode cX4_readTide 36 = .ok (.iload_n 3, 1) := by decide +kernel
theorem dX4_readTide_37 : decode cX4_readTide 37 = .ok (.bipush 11, 2) := by decide +kernel
theorem dX4_readTide_39 : decode cX4_readTide 39 = .ok (.if_icmp .ge 14, 3) := by decide +kernel
theorem dX4_readTide_42 : decode cX4_readTide 42 = .ok (.aload_n 0, 1) := by decide +kernel
theorem dX4_readTide_43 : decode cX4_readTide 43 = .ok (.invokevirtual 161, 3) := by decide +kernel
theorem dX4_readTide_46 : decode cX4_readTide 46 = .ok (.ifCond .eq 7, 3) := by decide +kernel
theorem dX4_readTide_49 : decode cX4_readTide 49 = .ok (.iconst 1, 1) := by decide +kernel
theorem dX4_readTide_50 : decode cX4_readTide 50 = .ok (.goto 4, 3) := by decide +kernel
theorem dX4_readTide_53 : decode cX4_readTide 53 = .ok (.iconst 0, 1) := by decide +kernel
theorem dX4_readTide_54 : decode cX4_readTide 54 = .ok (.istore_n 2, 1) := by decide +kernel
theorem dX4_readTide_55 : decode cX4_readTide 55 = .ok (.iinc 3 1, 3) := by decide +kernel
theorem dX4_readTide_58 : decode cX4_readTide 58 = .ok (.goto (-54), 3) := by decide +kernel
theorem dX4_readTide_61 : decode cX4_readTide 61 = .ok (.aload_n 0, 1) := by decide +kernel
theorem dX4_readTide_62 : decode cX4_readTide 62 = .ok (.invokevirtual 123, 3) := by decide +kernel
theorem dX4_readTide_65 : decode cX4_readTide 65 = .ok (.return_, 1) := by decide +kernel
theorem dX4_readCart_0 : decode cX4_readCart 0 = .ok (.aload_n 0, 1) := by decide +kernel
theorem dX4_readCart_1 : decode cX4_readCart 1 = .ok (.iconst 0, 1) := by decide +kernel
theorem dX4_readCart_2 : decode cX4_readCart 2 = .ok (.bipush 60, 2) := by decide +kernel
theorem dX4_readCart_4 : decode cX4_readCart 4 = .ok (.invokevirtual 120, 3) := by decide +kernel
theorem dX4_readCart_7 : decode cX4_readCart 7 = .ok (.istore_n 2, 1) := by decide +kernel
theorem dX4_readCart_8 : decode cX4_readCart 8 = .ok (.aload_n 0, 1) := by decide +kernel
theorem dX4_readCart_9 : decode cX4_readCart 9 = .ok (.invokevirtual 123, 3) := by decide +kernel
theorem dX4_readCart_12 : decode cX4_readCart 12 = .ok (.aload_n 0, 1) := by decide +kernel
theorem dX4_readCart_13 : decode cX4_readCart 13 = .ok (.getfield 27, 3) := by decide +kernel
theorem dX4_readCart_16 : decode cX4_readCart 16 = .ok (.ifCond .ne 8, 3) := by decide +kernel
theorem dX4_readCart_19 : decode cX4_readCart 19 = .ok (.aload_n 1, 1) := by decide +kernel
theorem dX4_readCart_20 : decode cX4_readCart 20 = .ok (.iload_n 2, 1) := by decide +kernel
theorem dX4_readCart_21 : decode cX4_readCart 21 = .ok (.invokevirtual 165, 3) := by decide +kernel
theorem dX4_readCart_24 : decode cX4_readCart 24 = .ok (.return_, 1) := by decide +kernel
theorem dX4_readDue_0 : decode cX4_readDue 0 = .ok (.aload_n 0, 1) := by decide +kernel
theorem dX4_readDue_1 : decode cX4_readDue 1 = .ok (.iconst 1, 1) := by decide +kernel
theorem dX4_readDue_2 : decode cX4_readDue 2 = .ok (.bipush 120, 2) := by decide +kernel
theorem dX4_readDue_4 : decode cX4_readDue 4 = .ok (.invokevirtual 120, 3) := by decide +kernel
theorem dX4_readDue_7 : decode cX4_readDue 7 = .ok (.istore_n 2, 1) := by decide +kernel
theorem dX4_readDue_8 : decode cX4_readDue 8 = .ok (.aload_n 0, 1) := by decide +kernel
theorem dX4_readDue_9 : decode cX4_readDue 9 = .ok (.invokevirtual 123, 3) := by decide +kernel
theorem dX4_readDue_12 : decode cX4_readDue 12 = .ok (.aload_n 0, 1) := by decide +kernel
theorem dX4_readDue_13 : decode cX4_readDue 13 = .ok (.getfield 27, 3) := by decide +kernel
theorem dX4_readDue_16 : decode cX4_readDue 16 = .ok (.ifCond .ne 8, 3) := by decide +kernel
theorem dX4_readDue_19 : decode cX4_readDue 19 = .ok (.aload_n 1, 1) := by decide +kernel
theorem dX4_readDue_20 : decode cX4_readDue 20 = .ok (.iload_n 2, 1) := by decide +kernel
theorem dX4_readDue_21 : decode cX4_readDue 21 = .ok (.putfield 93, 3) := by decide +kernel
theorem dX4_readDue_24 : decode cX4_readDue 24 = .ok (.return_, 1) := by decide +kernel
theorem dX4_readNumber_0 : decode cX4_readNumber 0 = .ok (.aload_n 0, 1) := by decide +kernel
theorem dX4_readNumber_1 : decode cX4_readNumber 1 = .ok (.invokevirtual 33, 3) := by decide +kernel
theorem dX4_readNumber_4 : decode cX4_readNumber 4 = .ok (.aload_n 0, 1) := by decide +kernel
theorem dX4_readNumber_5 : decode cX4_readNumber 5 = .ok (.aload_n 0, 1) := by decide +kernel
theorem dX4_readNumber_6 : decode cX4_readNumber 6 = .ok (.getfield 30, 3) := by decide +kernel
theorem dX4_readNumber_9 : decode cX4_readNumber 9 = .ok (.invokevirtual 168, 3) := by decide +kernel
theorem dX4_readNumber_12 : decode cX4_readNumber 12 = .ok (.ifCond .ne 12, 3) := by decide +kernel
theorem dX4_readNumber_15 : decode cX4_readNumber 15 = .ok (.aload_n 0, 1) := by decide +kernel
theorem dX4_readNumber_16 : decode cX4_readNumber 16 = .ok (.iconst 1, 1) := by decide +kernel
theorem dX4_readNumber_17 : decode cX4_readNumber 17 = .ok (.aload_n 0, 1) := by decide +kernel
theorem dX4_readNumber_18 : decode cX4_readNumber 18 = .ok (.getfield 30, 3) := by decide +kernel
theorem dX4_readNumber_21 : decode cX4_readNumber 21 = .ok (.invokevirtual 51, 3) := by decide +kernel
theorem dX4_readNumber_24 : decode cX4_readNumber 24 = .ok (.aload_n 0, 1) := by decide +kernel
theorem dX4_readNumber_25 : decode cX4_readNumber 25 = .ok (.getfield 27, 3) := by decide +kernel
theorem dX4_readNumber_28 : decode cX4_readNumber 28 = .ok (.ifCond .eq 5, 3) := by decide +kernel
theorem dX4_readNumber_31 : decode cX4_readNumber 31 = .ok (.iconst (-1), 1) := by decide +kernel
theorem dX4_readNumber_32 : decode cX4_readNumber 32 = .ok (.ireturn, 1) := by decide +kernel
theorem dX4_readNumber_33 : decode cX4_readNumber 33 = .ok (.aload_n 0, 1) := by decide +kernel
theorem dX4_readNumber_34 : decode cX4_readNumber 34 = .ok (.aload_n 0, 1) := by decide +kernel
theorem dX4_readNumber_35 : decode cX4_readNumber 35 = .ok (.getfield 30, 3) := by decide +kernel
theorem dX4_readNumber_38 : decode cX4_readNumber 38 = .ok (.putfield 144, 3) := by decide +kernel
theorem dX4_readNumber_41 : decode cX4_readNumber 41 = .ok (.iconst 0, 1) := by decide +kernel
theorem dX4_readNumber_42 : decode cX4_readNumber 42 = .ok (.istore_n 3, 1) := by decide +kernel
theorem dX4_readNumber_43 : decode cX4_readNumber 43 = .ok (.aload_n 0, 1) := by decide +kernel
theorem dX4_readNumber_44 : decode cX4_readNumber 44 = .ok (.getfield 144, 3) := by decide +kernel
theorem dX4_readNumber_47 : decode cX4_readNumber 47 = .ok (.istore 4, 2) := by decide +kernel
theorem dX4_readNumber_49 : decode cX4_readNumber 49 = .ok (.iload 4, 2) := by decide +kernel
theorem dX4_readNumber_51 : decode cX4_readNumber 51 = .ok (.aload_n 0, 1) := by decide +kernel
theorem dX4_readNumber_52 : decode cX4_readNumber 52 = .ok (.getfield 19, 3) := by decide +kernel
theorem dX4_readNumber_55 : decode cX4_readNumber 55 = .ok (.if_icmp .ge 42, 3) := by decide +kernel
theorem dX4_readNumber_58 : decode cX4_readNumber 58 = .ok (.aload_n 0, 1) := by decide +kernel
theorem dX4_readNumber_59 : decode cX4_readNumber 59 = .ok (.iload 4, 2) := by decide +kernel
theorem dX4_readNumber_61 : decode cX4_readNumber 61 = .ok (.invokevirtual 168, 3) := by decide +kernel
theorem dX4_readNumber_64 : decode cX4_readNumber 64 = .ok (.ifCond .eq 33, 3) := by decide +kernel
theorem dX4_readNumber_67 : decode cX4_readNumber 67 = .ok (.iload_n 3, 1) := by decide +kernel
theorem dX4_readNumber_68 : decode cX4_readNumber 68 = .ok (.bipush 10, 2) := by decide +kernel
theorem dX4_readNumber_70 : decode cX4_readNumber 70 = .ok (.imul, 1) := by decide +kernel
theorem dX4_readNumber_71 : decode cX4_readNumber 71 = .ok (.aload_n 0, 1) := by decide +kernel
theorem dX4_readNumber_72 : decode cX4_readNumber 72 = .ok (.getfield 9, 3) := by decide +kernel
theorem dX4_readNumber_75 : decode cX4_readNumber 75 = .ok (.iload 4, 2) := by decide +kernel
theorem dX4_readNumber_77 : decode cX4_readNumber 77 = .ok (.iaload, 1) := by decide +kernel
theorem dX4_readNumber_78 : decode cX4_readNumber 78 = .ok (.iadd, 1) := by decide +kernel
theorem dX4_readNumber_79 : decode cX4_readNumber 79 = .ok (.bipush 48, 2) := by decide +kernel
theorem dX4_readNumber_81 : decode cX4_readNumber 81 = .ok (.isub, 1) := by decide +kernel
theorem dX4_readNumber_82 : decode cX4_readNumber 82 = .ok (.istore_n 3, 1) := by decide +kernel
theorem dX4_readNumber_83 : decode cX4_readNumber 83 = .ok (.aload_n 0, 1) := by decide +kernel
theorem dX4_readNumber_84 : decode cX4_readNumber 84 = .ok (.iload 4, 2) := by decide +kernel
theorem dX4_readNumber_86 : decode cX4_readNumber 86 = .ok (.iconst 1, 1) := by decide +kernel
theorem dX4_readNumber_87 : decode cX4_readNumber 87 = .ok (.iadd, 1) := by decide +kernel
theorem dX4_readNumber_88 : decode cX4_readNumber 88 = .ok (.putfield 30, 3) := by decide +kernel
theorem dX4_readNumber_91 : decode cX4_readNumber 91 = .ok (.iinc 4 1, 3) := by decide +kernel
theorem dX4_readNumber_94 : decode cX4_readNumber 94 = .ok (.goto (-45), 3) := by decide +kernel
theorem dX4_readNumber_97 : decode cX4_readNumber 97 = .ok (.aload_n 0, 1) := by decide +kernel
theorem dX4_readNumber_98 : decode cX4_readNumber 98 = .ok (.getfield 30, 3) := by decide +kernel
theorem dX4_readNumber_101 : decode cX4_readNumber 101 = .ok (.aload_n 0, 1) := by decide +kernel
theorem dX4_readNumber_102 : decode cX4_readNumber 102 = .ok (.getfield 144, 3) := by decide +kernel
theorem dX4_readNumber_105 : decode cX4_readNumber 105 = .ok (.isub, 1) := by decide +kernel
theorem dX4_readNumber_106 : decode cX4_readNumber 106 = .ok (.iconst 3, 1) := by decide +kernel
theorem dX4_readNumber_107 : decode cX4_readNumber 107 = .ok (.if_icmp .gt 13, 3) := by decide +kernel
theorem dX4_readNumber_110 : decode cX4_readNumber 110 = .ok (.iload_n 3, 1) := by decide +kernel
theorem dX4_readNumber_111 : decode cX4_readNumber 111 = .ok (.iload_n 1, 1) := by decide +kernel
theorem dX4_readNumber_112 : decode cX4_readNumber 112 = .ok (.if_icmp .lt 8, 3) := by decide +kernel
theorem dX4_readNumber_115 : decode cX4_readNumber 115 = .ok (.iload_n 3, 1) := by decide +kernel
theorem dX4_readNumber_116 : decode cX4_readNumber 116 = .ok (.iload_n 2, 1) := by decide +kernel
theorem dX4_readNumber_117 : decode cX4_readNumber 117 = .ok (.if_icmp .le 14, 3) := by decide +kernel
theorem dX4_readNumber_120 : decode cX4_readNumber 120 = .ok (.aload_n 0, 1) := by decide +kernel
theorem dX4_readNumber_121 : decode cX4_readNumber 121 = .ok (.iconst 2, 1) := by decide +kernel
theorem dX4_readNumber_122 : decode cX4_readNumber 122 = .ok (.aload_n 0, 1) := by decide +kernel
theorem dX4_readNumber_123 : decode cX4_readNumber 123 = .ok (.getfield 144, 3) := by decide +kernel
theorem dX4_readNumber_126 : decode cX4_readNumber 126 = .ok (.invokevirtual 51, 3) := by decide +kernel
theorem dX4_readNumber_129 : decode cX4_readNumber 129 = .ok (.iconst (-1), 1) := by decide +kernel
theorem dX4_readNumber_130 : decode cX4_readNumber 130 = .ok (.ireturn, 1) := by decide +kernel
theorem dX4_readNumber_131 : decode cX4_readNumber 131 = .ok (.iload_n 3, 1) := by decide +kernel
theorem dX4_readNumber_132 : decode cX4_readNumber 132 = .ok (.ireturn, 1) := by decide +kernel
theorem dX4_readSemicolon_0 : decode cX4_readSemicolon 0 = .ok (.aload_n 0, 1) := by decide +kernel
theorem dX4_readSemicolon_1 : decode cX4_readSemicolon 1 = .ok (.invokevirtual 33, 3) := by decide +kernel
theorem dX4_readSemicolon_4 : decode cX4_readSemicolon 4 = .ok (.aload_n 0, 1) := by decide +kernel
theorem dX4_readSemicolon_5 : decode cX4_readSemicolon 5 = .ok (.bipush 59, 2) := by decide +kernel
theorem dX4_readSemicolon_7 : decode cX4_readSemicolon 7 = .ok (.invokevirtual 171, 3) := by decide +kernel
theorem dX4_readSemicolon_10 : decode cX4_readSemicolon 10 = .ok (.ifCond .eq 16, 3) := by decide +kernel
theorem dX4_readSemicolon_13 : decode cX4_readSemicolon 13 = .ok (.aload_n 0, 1) := by decide +kernel
theorem dX4_readSemicolon_14 : decode cX4_readSemicolon 14 = .ok (.dup, 1) := by decide +kernel
theorem dX4_readSemicolon_15 : decode cX4_readSemicolon 15 = .ok (.getfield 30, 3) := by decide +kernel
theorem dX4_readSemicolon_18 : decode cX4_readSemicolon 18 = .ok (.iconst 1, 1) := by decide +kernel
theorem dX4_readSemicolon_19 : decode cX4_readSemicolon 19 = .ok (.iadd, 1) := by decide +kernel
theorem dX4_readSemicolon_20 : decode cX4_readSemicolon 20 = .ok (.putfield 30, 3) := by decide +kernel
theorem dX4_readSemicolon_23 : decode cX4_readSemicolon 23 = .ok (.goto 12, 3) := by decide +kernel
theorem dX4_readSemicolon_26 : decode cX4_readSemicolon 26 = .ok (.aload_n 0, 1) := by decide +kernel
theorem dX4_readSemicolon_27 : decode cX4_readSemicolon 27 = .ok (.iconst 1, 1) := by decide +kernel
theorem dX4_readSemicolon_28 : decode cX4_readSemicolon 28 = .ok (.aload_n 0, 1) := by decide +kernel
theorem dX4_readSemicolon_29 : decode cX4_readSemicolon 29 = .ok (.getfield 30, 3) := by decide +kernel
theorem dX4_readSemicolon_32 : decode cX4_readSemicolon 32 = .ok (.invokevirtual 51, 3) := by decide +kernel
theorem dX4_readSemicolon_35 : decode cX4_readSemicolon 35 = .ok (.return_, 1) := by decide +kernel
theorem dX4_takeComma_0 : decode cX4_takeComma 0 = .ok (.aload_n 0, 1) := by decide +kernel
theorem dX4_takeComma_1 : decode cX4_takeComma 1 = .ok (.invokevirtual 33, 3) := by decide +kernel
theorem dX4_takeComma_4 : decode cX4_takeComma 4 = .ok (.aload_n 0, 1) := by decide +kernel
theorem dX4_takeComma_5 : decode cX4_takeComma 5 = .ok (.getfield 27, 3) := by decide +kernel
theorem dX4_takeComma_8 : decode cX4_takeComma 8 = .ok (.ifCond .ne 12, 3) := by decide +kernel
theorem dX4_takeComma_11 : decode cX4_takeComma 11 = .ok (.aload_n 0, 1) := by decide +kernel
theorem dX4_takeComma_12 : decode cX4_takeComma 12 = .ok (.bipush 44, 2) := by decide +kernel
theorem dX4_takeComma_14 : decode cX4_takeComma 14 = .ok (.invokevirtual 171, 3) := by decide +kernel
theorem dX4_takeComma_17 : decode cX4_takeComma 17 = .ok (.ifCond .ne 5, 3) := by decide +kernel
theorem dX4_takeComma_20 : decode cX4_takeComma 20 = .ok (.iconst 0, 1) := by decide +kernel
theorem dX4_takeComma_21 : decode cX4_takeComma 21 = .ok (.ireturn, 1) := by decide +kernel
theorem dX4_takeComma_22 : decode cX4_takeComma 22 = .ok (.aload_n 0, 1) := by decide +kernel
theorem dX4_takeComma_23 : decode cX4_takeComma 23 = .ok (.dup, 1) := by decide +kernel
theorem dX4_takeComma_24 : decode cX4_takeComma 24 = .ok (.getfield 30, 3) := by decide +kernel
theorem dX4_takeComma_27 : decode cX4_takeComma 27 = .ok (.iconst 1, 1) := by decide +kernel
theorem dX4_takeComma_28 : decode cX4_takeComma 28 = .ok (.iadd, 1) := by decide +kernel
theorem dX4_takeComma_29 : decode cX4_takeComma 29 = .ok (.putfield 30, 3) := by decide +kernel
theorem dX4_takeComma_32 : decode cX4_takeComma 32 = .ok (.iconst 1, 1) := by decide +kernel
theorem dX4_takeComma_33 : decode cX4_takeComma 33 = .ok (.ireturn, 1) := by decide +kernel
theorem dX4_skipBlanks_0 : decode cX4_skipBlanks 0 = .ok (.aload_n 0, 1) := by decide +kernel
theorem dX4_skipBlanks_1 : decode cX4_skipBlanks 1 = .ok (.getfield 30, 3) := by decide +kernel
theorem dX4_skipBlanks_4 : decode cX4_skipBlanks 4 = .ok (.aload_n 0, 1) := by decide +kernel
theorem dX4_skipBlanks_5 : decode cX4_skipBlanks 5 = .ok (.getfield 19, 3) := by decide +kernel
theorem dX4_skipBlanks_8 : decode cX4_skipBlanks 8 = .ok (.if_icmp .ge 40, 3) := by decide +kernel
theorem dX4_skipBlanks_11 : decode cX4_skipBlanks 11 = .ok (.aload_n 0, 1) := by decide +kernel
theorem dX4_skipBlanks_12 : decode cX4_skipBlanks 12 = .ok (.getfield 30, 3) := by decide +kernel
theorem dX4_skipBlanks_15 : decode cX4_skipBlanks 15 = .ok (.sipush 500, 3) := by decide +kernel
theorem dX4_skipBlanks_18 : decode cX4_skipBlanks 18 = .ok (.if_icmp .ge 30, 3) := by decide +kernel
theorem dX4_skipBlanks_21 : decode cX4_skipBlanks 21 = .ok (.aload_n 0, 1) := by decide +kernel
theorem dX4_skipBlanks_22 : decode cX4_skipBlanks 22 = .ok (.getfield 9, 3) := by decide +kernel
theorem dX4_skipBlanks_25 : decode cX4_skipBlanks 25 = .ok (.aload_n 0, 1) := by decide +kernel
theorem dX4_skipBlanks_26 : decode cX4_skipBlanks 26 = .ok (.getfield 30, 3) := by decide +kernel
theorem dX4_skipBlanks_29 : decode cX4_skipBlanks 29 = .ok (.iaload, 1) := by decide +kernel
theorem dX4_skipBlanks_30 : decode cX4_skipBlanks 30 = .ok (.bipush 32, 2) := by decide +kernel
theorem dX4_skipBlanks_32 : decode cX4_skipBlanks 32 = .ok (.if_icmp .ne 16, 3) := by decide +kernel
theorem dX4_skipBlanks_35 : decode cX4_skipBlanks 35 = .ok (.aload_n 0, 1) := by decide +kernel
theorem dX4_skipBlanks_36 : decode cX4_skipBlanks 36 = .ok (.dup, 1) := by decide +kernel
theorem dX4_skipBlanks_37 : decode cX4_skipBlanks 37 = .ok (.getfield 30, 3) := by decide +kernel
theorem dX4_skipBlanks_40 : decode cX4_skipBlanks 40 = .ok (.iconst 1, 1) := by decide +kernel
theorem dX4_skipBlanks_41 : decode cX4_skipBlanks 41 = .ok (.iadd, 1) := by decide +kernel
theorem dX4_skipBlanks_42 : decode cX4_skipBlanks 42 = .ok (.putfield 30, 3) := by decide +kernel
theorem dX4_skipBlanks_45 : decode cX4_skipBlanks 45 = .ok (.goto (-45), 3) := by decide +kernel
theorem dX4_skipBlanks_48 : decode cX4_skipBlanks 48 = .ok (.return_, 1) := by decide +kernel
theorem dX4_isSign_0 : decode cX4_isSign 0 = .ok (.aload_n 0, 1) := by decide +kernel
theorem dX4_isSign_1 : decode cX4_isSign 1 = .ok (.getfield 30, 3) := by decide +kernel
theorem dX4_isSign_4 : decode cX4_isSign 4 = .ok (.ifCond .lt 41, 3) := by decide +kernel
theorem dX4_isSign_7 : decode cX4_isSign 7 = .ok (.aload_n 0, 1) := by decide +kernel
theorem dX4_isSign_8 : decode cX4_isSign 8 = .ok (.getfield 30, 3) := by decide +kernel
theorem dX4_isSign_11 : decode cX4_isSign 11 = .ok (.aload_n 0, 1) := by decide +kernel
theorem dX4_isSign_12 : decode cX4_isSign 12 = .ok (.getfield 19, 3) := by decide +kernel
theorem dX4_isSign_15 : decode cX4_isSign 15 = .ok (.if_icmp .ge 30, 3) := by decide +kernel
theorem dX4_isSign_18 : decode cX4_isSign 18 = .ok (.aload_n 0, 1) := by decide +kernel
theorem dX4_isSign_19 : decode cX4_isSign 19 = .ok (.getfield 30, 3) := by decide +kernel
theorem dX4_isSign_22 : decode cX4_isSign 22 = .ok (.sipush 500, 3) := by decide +kernel
theorem dX4_isSign_25 : decode cX4_isSign 25 = .ok (.if_icmp .ge 20, 3) := by decide +kernel
theorem dX4_isSign_28 : decode cX4_isSign 28 = .ok (.aload_n 0, 1) := by decide +kernel
theorem dX4_isSign_29 : decode cX4_isSign 29 = .ok (.getfield 9, 3) := by decide +kernel
theorem dX4_isSign_32 : decode cX4_isSign 32 = .ok (.aload_n 0, 1) := by decide +kernel
theorem dX4_isSign_33 : decode cX4_isSign 33 = .ok (.getfield 30, 3) := by decide +kernel
theorem dX4_isSign_36 : decode cX4_isSign 36 = .ok (.iaload, 1) := by decide +kernel
theorem dX4_isSign_37 : decode cX4_isSign 37 = .ok (.iload_n 1, 1) := by decide +kernel
theorem dX4_isSign_38 : decode cX4_isSign 38 = .ok (.if_icmp .ne 7, 3) := by decide +kernel
theorem dX4_isSign_41 : decode cX4_isSign 41 = .ok (.iconst 1, 1) := by decide +kernel
theorem dX4_isSign_42 : decode cX4_isSign 42 = .ok (.goto 4, 3) := by decide +kernel
theorem dX4_isSign_45 : decode cX4_isSign 45 = .ok (.iconst 0, 1) := by decide +kernel
theorem dX4_isSign_46 : decode cX4_isSign 46 = .ok (.ireturn, 1) := by decide +kernel
theorem dX4_isFigure_0 : decode cX4_isFigure 0 = .ok (.iload_n 1, 1) := by decide +kernel
theorem dX4_isFigure_1 : decode cX4_isFigure 1 = .ok (.ifCond .lt 44, 3) := by decide +kernel
theorem dX4_isFigure_4 : decode cX4_isFigure 4 = .ok (.iload_n 1, 1) := by decide +kernel
theorem dX4_isFigure_5 : decode cX4_isFigure 5 = .ok (.aload_n 0, 1) := by decide +kernel
theorem dX4_isFigure_6 : decode cX4_isFigure 6 = .ok (.getfield 19, 3) := by decide +kernel
theorem dX4_isFigure_9 : decode cX4_isFigure 9 = .ok (.if_icmp .ge 36, 3) := by decide +kernel
theorem dX4_isFigure_12 : decode cX4_isFigure 12 = .ok (.iload_n 1, 1) := by decide +kernel
theorem dX4_isFigure_13 : decode cX4_isFigure 13 = .ok (.sipush 500, 3) := by decide +kernel
theorem dX4_isFigure_16 : decode cX4_isFigure 16 = .ok (.if_icmp .ge 29, 3) := by decide +kernel
theorem dX4_isFigure_19 : decode cX4_isFigure 19 = .ok (.aload_n 0, 1) := by decide +kernel
theorem dX4_isFigure_20 : decode cX4_isFigure 20 = .ok (.getfield 9, 3) := by decide +kernel
theorem dX4_isFigure_23 : decode cX4_isFigure 23 = .ok (.iload_n 1, 1) := by decide +kernel
theorem dX4_isFigure_24 : decode cX4_isFigure 24 = .ok (.iaload, 1) := by decide +kernel
theorem dX4_isFigure_25 : decode cX4_isFigure 25 = .ok (.bipush 48, 2) := by decide +kernel
theorem dX4_isFigure_27 : decode cX4_isFigure 27 = .ok (.if_icmp .lt 18, 3) := by decide +kernel
theorem dX4_isFigure_30 : decode cX4_isFigure 30 = .ok (.aload_n 0, 1) := by decide +kernel
theorem dX4_isFigure_31 : decode cX4_isFigure 31 = .ok (.getfield 9, 3) := by decide +kernel
theorem dX4_isFigure_34 : decode cX4_isFigure 34 = .ok (.iload_n 1, 1) := by decide +kernel
theorem dX4_isFigure_35 : decode cX4_isFigure 35 = .ok (.iaload, 1) := by decide +kernel
theorem dX4_isFigure_36 : decode cX4_isFigure 36 = .ok (.bipush 57, 2) := by decide +kernel
theorem dX4_isFigure_38 : decode cX4_isFigure 38 = .ok (.if_icmp .gt 7, 3) := by decide +kernel
theorem dX4_isFigure_41 : decode cX4_isFigure 41 = .ok (.iconst 1, 1) := by decide +kernel
theorem dX4_isFigure_42 : decode cX4_isFigure 42 = .ok (.goto 4, 3) := by decide +kernel
theorem dX4_isFigure_45 : decode cX4_isFigure 45 = .ok (.iconst 0, 1) := by decide +kernel
theorem dX4_isFigure_46 : decode cX4_isFigure 46 = .ok (.ireturn, 1) := by decide +kernel
theorem dX4_isLetter_0 : decode cX4_isLetter 0 = .ok (.iload_n 1, 1) := by decide +kernel
theorem dX4_isLetter_1 : decode cX4_isLetter 1 = .ok (.ifCond .lt 44, 3) := by decide +kernel
theorem dX4_isLetter_4 : decode cX4_isLetter 4 = .ok (.iload_n 1, 1) := by decide +kernel
theorem dX4_isLetter_5 : decode cX4_isLetter 5 = .ok (.aload_n 0, 1) := by decide +kernel
theorem dX4_isLetter_6 : decode cX4_isLetter 6 = .ok (.getfield 19, 3) := by decide +kernel
theorem dX4_isLetter_9 : decode cX4_isLetter 9 = .ok (.if_icmp .ge 36, 3) := by decide +kernel
theorem dX4_isLetter_12 : decode cX4_isLetter 12 = .ok (.iload_n 1, 1) := by decide +kernel
theorem dX4_isLetter_13 : decode cX4_isLetter 13 = .ok (.sipush 500, 3) := by decide +kernel
theorem dX4_isLetter_16 : decode cX4_isLetter 16 = .ok (.if_icmp .ge 29, 3) := by decide +kernel
theorem dX4_isLetter_19 : decode cX4_isLetter 19 = .ok (.aload_n 0, 1) := by decide +kernel
theorem dX4_isLetter_20 : decode cX4_isLetter 20 = .ok (.getfield 9, 3) := by decide +kernel
theorem dX4_isLetter_23 : decode cX4_isLetter 23 = .ok (.iload_n 1, 1) := by decide +kernel
theorem dX4_isLetter_24 : decode cX4_isLetter 24 = .ok (.iaload, 1) := by decide +kernel
theorem dX4_isLetter_25 : decode cX4_isLetter 25 = .ok (.bipush 97, 2) := by decide +kernel
theorem dX4_isLetter_27 : decode cX4_isLetter 27 = .ok (.if_icmp .lt 18, 3) := by decide +kernel
theorem dX4_isLetter_30 : decode cX4_isLetter 30 = .ok (.aload_n 0, 1) := by decide +kernel
theorem dX4_isLetter_31 : decode cX4_isLetter 31 = .ok (.getfield 9, 3) := by decide +kernel
theorem dX4_isLetter_34 : decode cX4_isLetter 34 = .ok (.iload_n 1, 1) := by decide +kernel
theorem dX4_isLetter_35 : decode cX4_isLetter 35 = .ok (.iaload, 1) := by decide +kernel
theorem dX4_isLetter_36 : decode cX4_isLetter 36 = .ok (.bipush 122, 2) := by decide +kernel
theorem dX4_isLetter_38 : decode cX4_isLetter 38 = .ok (.if_icmp .gt 7, 3) := by decide +kernel
theorem dX4_isLetter_41 : decode cX4_isLetter 41 = .ok (.iconst 1, 1) := by decide +kernel
theorem dX4_isLetter_42 : decode cX4_isLetter 42 = .ok (.goto 4, 3) := by decide +kernel
theorem dX4_isLetter_45 : decode cX4_isLetter 45 = .ok (.iconst 0, 1) := by decide +kernel
theorem dX4_isLetter_46 : decode cX4_isLetter 46 = .ok (.ireturn, 1) := by decide +kernel
theorem dX4_wordEnd_0 : decode cX4_wordEnd 0 = .ok (.iload_n 1, 1) := by decide +kernel
theorem dX4_wordEnd_1 : decode cX4_wordEnd 1 = .ok (.istore_n 2, 1) := by decide +kernel
theorem dX4_wordEnd_2 : decode cX4_wordEnd 2 = .ok (.iload_n 1, 1) := by decide +kernel
theorem dX4_wordEnd_3 : decode cX4_wordEnd 3 = .ok (.istore_n 3, 1) := by decide +kernel
theorem dX4_wordEnd_4 : decode cX4_wordEnd 4 = .ok (.iload_n 3, 1) := by decide +kernel
theorem dX4_wordEnd_5 : decode cX4_wordEnd 5 = .ok (.aload_n 0, 1) := by decide +kernel
theorem dX4_wordEnd_6 : decode cX4_wordEnd 6 = .ok (.getfield 19, 3) := by decide +kernel
theorem dX4_wordEnd_9 : decode cX4_wordEnd 9 = .ok (.if_icmp .ge 21, 3) := by decide +kernel
theorem dX4_wordEnd_12 : decode cX4_wordEnd 12 = .ok (.aload_n 0, 1) := by decide +kernel
theorem dX4_wordEnd_13 : decode cX4_wordEnd 13 = .ok (.iload_n 3, 1) := by decide +kernel
theorem dX4_wordEnd_14 : decode cX4_wordEnd 14 = .ok (.invokevirtual 175, 3) := by decide +kernel
theorem dX4_wordEnd_17 : decode cX4_wordEnd 17 = .ok (.ifCond .eq 13, 3) := by decide +kernel
theorem dX4_wordEnd_20 : decode cX4_wordEnd 20 = .ok (.iload_n 3, 1) := by decide +kernel
theorem dX4_wordEnd_21 : decode cX4_wordEnd 21 = .ok (.iconst 1, 1) := by decide +kernel
theorem dX4_wordEnd_22 : decode cX4_wordEnd 22 = .ok (.iadd, 1) := by decide +kernel
theorem dX4_wordEnd_23 : decode cX4_wordEnd 23 = .ok (.istore_n 2, 1) := by decide +kernel
theorem dX4_wordEnd_24 : decode cX4_wordEnd 24 = .ok (.iinc 3 1, 3) := by decide +kernel
theorem dX4_wordEnd_27 : decode cX4_wordEnd 27 = .ok (.goto (-23), 3) := by decide +kernel
theorem dX4_wordEnd_30 : decode cX4_wordEnd 30 = .ok (.iload_n 2, 1) := by decide +kernel
theorem dX4_wordEnd_31 : decode cX4_wordEnd 31 = .ok (.ireturn, 1) := by decide +kernel
theorem dX4_isWord_0 : decode cX4_isWord 0 = .ok (.iload_n 3, 1) := by decide +kernel
theorem dX4_isWord_1 : decode cX4_isWord 1 = .ok (.iload_n 2, 1) := by decide +kernel
theorem dX4_isWord_2 : decode cX4_isWord 2 = .ok (.isub, 1) := by decide +kernel
theorem dX4_isWord_3 : decode cX4_isWord 3 = .ok (.aload_n 1, 1) := by decide +kernel
theorem dX4_isWord_4 : decode cX4_isWord 4 = .ok (.invokevirtual 178, 3) := by decide +kernel
theorem dX4_isWord_7 : decode cX4_isWord 7 = .ok (.if_icmp .ne 14, 3) := by decide +kernel
theorem dX4_isWord_10 : decode cX4_isWord 10 = .ok (.iload_n 2, 1) := by decide +kernel
theorem dX4_isWord_11 : decode cX4_isWord 11 = .ok (.ifCond .lt 10, 3) := by decide +kernel
theorem dX4_isWord_14 : decode cX4_isWord 14 = .ok (.iload_n 3, 1) := by decide +kernel
theorem dX4_isWord_15 : decode cX4_isWord 15 = .ok (.sipush 500, 3) := by decide +kernel
theorem dX4_isWord_18 : decode cX4_isWord 18 = .ok (.if_icmp .le 5, 3) := by decide +kernel
theorem dX4_isWord_21 : decode cX4_isWord 21 = .ok (.iconst 0, 1) := by decide +kernel
theorem dX4_isWord_22 : decode cX4_isWord 22 = .ok (.ireturn, 1) := by decide +kernel
theorem dX4_isWord_23 : decode cX4_isWord 23 = .ok (.iconst 0, 1) := by decide +kernel
theorem dX4_isWord_24 : decode cX4_isWord 24 = .ok (.istore 4, 2) := by decide +kernel
theorem dX4_isWord_26 : decode cX4_isWord 26 = .ok (.iload 4, 2) := by decide +kernel
theorem dX4_isWord_28 : decode cX4_isWord 28 = .ok (.aload_n 1, 1) := by decide +kernel
theorem dX4_isWord_29 : decode cX4_isWord 29 = .ok (.invokevirtual 178, 3) := by decide +kernel
theorem dX4_isWord_32 : decode cX4_isWord 32 = .ok (.if_icmp .ge 29, 3) := by decide +kernel
theorem dX4_isWord_35 : decode cX4_isWord 35 = .ok (.aload_n 0, 1) := by decide +kernel
theorem dX4_isWord_36 : decode cX4_isWord 36 = .ok (.getfield 9, 3) := by decide +kernel
theorem dX4_isWord_39 : decode cX4_isWord 39 = .ok (.iload_n 2, 1) := by decide +kernel
theorem dX4_isWord_40 : decode cX4_isWord 40 = .ok (.iload 4, 2) := by decide +kernel
theorem dX4_isWord_42 : decode cX4_isWord 42 = .ok (.iadd, 1) := by decide +kernel
theorem dX4_isWord_43 : decode cX4_isWord 43 = .ok (.iaload, 1) := by decide +kernel
theorem dX4_isWord_44 : decode cX4_isWord 44 = .ok (.aload_n 1, 1) := by decide +kernel
theorem dX4_isWord_45 : decode cX4_isWord 45 = .ok (.iload 4, 2) := by decide +kernel
theorem dX4_isWord_47 : decode cX4_isWord 47 = .ok (.invokevirtual 182, 3) := by decide +kernel
theorem dX4_isWord_50 : decode cX4_isWord 50 = .ok (.if_icmp .eq 5, 3) := by decide +kernel
theorem dX4_isWord_53 : decode cX4_isWord 53 = .ok (.iconst 0, 1) := by decide +kernel
theorem dX4_isWord_54 : decode cX4_isWord 54 = .ok (.ireturn, 1) := by decide +kernel
theorem dX4_isWord_55 : decode cX4_isWord 55 = .ok (.iinc 4 1, 3) := by decide +kernel
theorem dX4_isWord_58 : decode cX4_isWord 58 = .ok (.goto (-32), 3) := by decide +kernel
theorem dX4_isWord_61 : decode cX4_isWord 61 = .ok (.iconst 1, 1) := by decide +kernel
theorem dX4_isWord_62 : decode cX4_isWord 62 = .ok (.ireturn, 1) := by decide +kernel
theorem dX4_fail_0 : decode cX4_fail 0 = .ok (.aload_n 0, 1) := by decide +kernel
theorem dX4_fail_1 : decode cX4_fail 1 = .ok (.getfield 27, 3) := by decide +kernel
theorem dX4_fail_4 : decode cX4_fail 4 = .ok (.ifCond .ne 13, 3) := by decide +kernel
theorem dX4_fail_7 : decode cX4_fail 7 = .ok (.aload_n 0, 1) := by decide +kernel
theorem dX4_fail_8 : decode cX4_fail 8 = .ok (.iload_n 1, 1) := by decide +kernel
theorem dX4_fail_9 : decode cX4_fail 9 = .ok (.putfield 27, 3) := by decide +kernel
theorem dX4_fail_12 : decode cX4_fail 12 = .ok (.aload_n 0, 1) := by decide +kernel
theorem dX4_fail_13 : decode cX4_fail 13 = .ok (.iload_n 2, 1) := by decide +kernel
theorem dX4_fail_14 : decode cX4_fail 14 = .ok (.putfield 15, 3) := by decide +kernel
theorem dX4_fail_17 : decode cX4_fail 17 = .ok (.return_, 1) := by decide +kernel
theorem dX5_init_0 : decode cX5_init 0 = .ok (.aload_n 0, 1) := by decide +kernel
theorem dX5_init_1 : decode cX5_init 1 = .ok (.invokespecial 3, 3) := by decide +kernel
theorem dX5_init_4 : decode cX5_init 4 = .ok (.aload_n 0, 1) := by decide +kernel
theorem dX5_init_5 : decode cX5_init 5 = .ok (.bipush 6, 2) := by decide +kernel
theorem dX5_init_7 : decode cX5_init 7 = .ok (.newarray .int, 2) := by decide +kernel
theorem dX5_init_9 : decode cX5_init 9 = .ok (.putfield 9, 3) := by decide +kernel
theorem dX5_init_12 : decode cX5_init 12 = .ok (.aload_n 0, 1) := by decide +kernel
theorem dX5_init_13 : decode cX5_init 13 = .ok (.iconst 3, 1) := by decide +kernel
theorem dX5_init_14 : decode cX5_init 14 = .ok (.newarray .int, 2) := by decide +kernel
theorem dX5_init_16 : decode cX5_init 16 = .ok (.putfield 15, 3) := by decide +kernel
theorem dX5_init_19 : decode cX5_init 19 = .ok (.aload_n 0, 1) := by decide +kernel
theorem dX5_init_20 : decode cX5_init 20 = .ok (.getfield 15, 3) := by decide +kernel
theorem dX5_init_23 : decode cX5_init 23 = .ok (.iconst (-1), 1) := by decide +kernel
theorem dX5_init_24 : decode cX5_init 24 = .ok (.invokestatic 18, 3) := by decide +kernel
theorem dX5_init_27 : decode cX5_init 27 = .ok (.return_, 1) := by decide +kernel
theorem dX5_begin_0 : decode cX5_begin 0 = .ok (.aload_n 0, 1) := by decide +kernel
theorem dX5_begin_1 : decode cX5_begin 1 = .ok (.iconst 0, 1) := by decide +kernel
theorem dX5_begin_2 : decode cX5_begin 2 = .ok (.putfield 24, 3) := by decide +kernel
theorem dX5_begin_5 : decode cX5_begin 5 = .ok (.aload_n 0, 1) := by decide +kernel
theorem dX5_begin_6 : decode cX5_begin 6 = .ok (.iconst 0, 1) := by decide +kernel
theorem dX5_begin_7 : decode cX5_begin 7 = .ok (.putfield 28, 3) := by decide +kernel
theorem dX5_begin_10 : decode cX5_begin 10 = .ok (.aload_n 0, 1) := by decide +kernel
theorem dX5_begin_11 : decode cX5_begin 11 = .ok (.iconst 0, 1) := by decide +kernel
theorem dX5_begin_12 : decode cX5_begin 12 = .ok (.putfield 31, 3) := by decide +kernel
theorem dX5_begin_15 : decode cX5_begin 15 = .ok (.aload_n 1, 1) := by decide +kernel
theorem dX5_begin_16 : decode cX5_begin 16 = .ok (.getfield 34, 3) := by decide +kernel
theorem dX5_begin_19 : decode cX5_begin 19 = .ok (.iconst 0, 1) := by decide +kernel
theorem dX5_begin_20 : decode cX5_begin 20 = .ok (.aload_n 0, 1) := by decide +kernel
theorem dX5_begin_21 : decode cX5_begin 21 = .ok (.getfield 9, 3) := by decide +kernel
theorem dX5_begin_24 : decode cX5_begin 24 = .ok (.iconst 0, 1) := by decide +kernel
theorem dX5_begin_25 : decode cX5_begin 25 = .ok (.bipush 6, 2) := by decide +kernel
theorem dX5_begin_27 : decode cX5_begin 27 = .ok (.invokestatic 37, 3) := by decide +kernel
theorem dX5_begin_30 : decode cX5_begin 30 = .ok (.aload_n 0, 1) := by decide +kernel
theorem dX5_begin_31 : decode cX5_begin 31 = .ok (.getfield 15, 3) := by decide +kernel
theorem dX5_begin_34 : decode cX5_begin 34 = .ok (.iconst (-1), 1) := by decide +kernel
theorem dX5_begin_35 : decode cX5_begin 35 = .ok (.invokestatic 18, 3) := by decide +kernel
theorem dX5_begin_38 : decode cX5_begin 38 = .ok (.return_, 1) := by decide +kernel
theorem dX5_copyFrom_0 : decode cX5_copyFrom 0 = .ok (.aload_n 0, 1) := by decide +kernel
theorem dX5_copyFrom_1 : decode cX5_copyFrom 1 = .ok (.aload_n 1, 1) := by decide +kernel
theorem dX5_copyFrom_2 : decode cX5_copyFrom 2 = .ok (.getfield 24, 3) := by decide +kernel
theorem dX5_copyFrom_5 : decode cX5_copyFrom 5 = .ok (.putfield 24, 3) := by decide +kernel
theorem dX5_copyFrom_8 : decode cX5_copyFrom 8 = .ok (.aload_n 0, 1) := by decide +kernel
theorem dX5_copyFrom_9 : decode cX5_copyFrom 9 = .ok (.aload_n 1, 1) := by decide +kernel
theorem dX5_copyFrom_10 : decode cX5_copyFrom 10 = .ok (.getfield 28, 3) := by decide +kernel
theorem dX5_copyFrom_13 : decode cX5_copyFrom 13 = .ok (.putfield 28, 3) := by decide +kernel
theorem dX5_copyFrom_16 : decode cX5_copyFrom 16 = .ok (.aload_n 0, 1) := by decide +kernel
theorem dX5_copyFrom_17 : decode cX5_copyFrom 17 = .ok (.aload_n 1, 1) := by decide +kernel
theorem dX5_copyFrom_18 : decode cX5_copyFrom 18 = .ok (.getfield 31, 3) := by decide +kernel
theorem dX5_copyFrom_21 : decode cX5_copyFrom 21 = .ok (.putfield 31, 3) := by decide +kernel
theorem dX5_copyFrom_24 : decode cX5_copyFrom 24 = .ok (.aload_n 0, 1) := by decide +kernel
theorem dX5_copyFrom_25 : decode cX5_copyFrom 25 = .ok (.aload_n 1, 1) := by decide +kernel
theorem dX5_copyFrom_26 : decode cX5_copyFrom 26 = .ok (.getfield 43, 3) := by decide +kernel
theorem dX5_copyFrom_29 : decode cX5_copyFrom 29 = .ok (.putfield 43, 3) := by decide +kernel
theorem dX5_copyFrom_32 : decode cX5_copyFrom 32 = .ok (.aload_n 1, 1) := by decide +kernel
theorem dX5_copyFrom_33 : decode cX5_copyFrom 33 = .ok (.getfield 9, 3) := by decide +kernel
theorem dX5_copyFrom_36 : decode cX5_copyFrom 36 = .ok (.iconst 0, 1) := by decide +kernel
theorem dX5_copyFrom_37 : decode cX5_copyFrom 37 = .ok (.aload_n 0, 1) := by decide +kernel
theorem dX5_copyFrom_38 : decode cX5_copyFrom 38 = .ok (.getfield 9, 3) := by decide +kernel
theorem dX5_copyFrom_41 : decode cX5_copyFrom 41 = .ok (.iconst 0, 1) := by decide +kernel
theorem dX5_copyFrom_42 : decode cX5_copyFrom 42 = .ok (.bipush 6, 2) := by decide +kernel
theorem dX5_copyFrom_44 : decode cX5_copyFrom 44 = .ok (.invokestatic 37, 3) := by decide +kernel
theorem dX5_copyFrom_47 : decode cX5_copyFrom 47 = .ok (.aload_n 1, 1) := by decide +kernel
theorem dX5_copyFrom_48 : decode cX5_copyFrom 48 = .ok (.getfield 15, 3) := by decide +kernel
theorem dX5_copyFrom_51 : decode cX5_copyFrom 51 = .ok (.iconst 0, 1) := by decide +kernel
theorem dX5_copyFrom_52 : decode cX5_copyFrom 52 = .ok (.aload_n 0, 1) := by decide +kernel
theorem dX5_copyFrom_53 : decode cX5_copyFrom 53 = .ok (.getfield 15, 3) := by decide +kernel
theorem dX5_copyFrom_56 : decode cX5_copyFrom 56 = .ok (.iconst 0, 1) := by decide +kernel
theorem dX5_copyFrom_57 : decode cX5_copyFrom 57 = .ok (.iconst 3, 1) := by decide +kernel
theorem dX5_copyFrom_58 : decode cX5_copyFrom 58 = .ok (.invokestatic 37, 3) := by decide +kernel
theorem dX5_copyFrom_61 : decode cX5_copyFrom 61 = .ok (.return_, 1) := by decide +kernel
theorem dX5_isEmpty_0 : decode cX5_isEmpty 0 = .ok (.aload_n 0, 1) := by decide +kernel
theorem dX5_isEmpty_1 : decode cX5_isEmpty 1 = .ok (.getfield 15, 3) := by decide +kernel
theorem dX5_isEmpty_4 : decode cX5_isEmpty 4 = .ok (.iconst 0, 1) := by decide +kernel
theorem dX5_isEmpty_5 : decode cX5_isEmpty 5 = .ok (.iaload, 1) := by decide +kernel
theorem dX5_isEmpty_6 : decode cX5_isEmpty 6 = .ok (.iconst (-1), 1) := by decide +kernel
theorem dX5_isEmpty_7 : decode cX5_isEmpty 7 = .ok (.if_icmp .ne 27, 3) := by decide +kernel
theorem dX5_isEmpty_10 : decode cX5_isEmpty 10 = .ok (.aload_n 0, 1) := by decide +kernel
theorem dX5_isEmpty_11 : decode cX5_isEmpty 11 = .ok (.getfield 15, 3) := by decide +kernel
theorem dX5_isEmpty_14 : decode cX5_isEmpty 14 = .ok (.iconst 1, 1) := by decide +kernel
theorem dX5_isEmpty_15 : decode cX5_isEmpty 15 = .ok (.iaload, 1) := by decide +kernel
theorem dX5_isEmpty_16 : decode cX5_isEmpty 16 = .ok (.iconst (-1), 1) := by decide +kernel
theorem dX5_isEmpty_17 : decode cX5_isEmpty 17 = .ok (.if_icmp .ne 17, 3) := by decide +kernel
theorem dX5_isEmpty_20 : decode cX5_isEmpty 20 = .ok (.aload_n 0, 1) := by decide +kernel
theorem dX5_isEmpty_21 : decode cX5_isEmpty 21 = .ok (.getfield 15, 3) := by decide +kernel
theorem dX5_isEmpty_24 : decode cX5_isEmpty 24 = .ok (.iconst 2, 1) := by decide +kernel
theorem dX5_isEmpty_25 : decode cX5_isEmpty 25 = .ok (.iaload, 1) := by decide +kernel
theorem dX5_isEmpty_26 : decode cX5_isEmpty 26 = .ok (.iconst (-1), 1) := by decide +kernel
theorem dX5_isEmpty_27 : decode cX5_isEmpty 27 = .ok (.if_icmp .ne 7, 3) := by decide +kernel
theorem dX5_isEmpty_30 : decode cX5_isEmpty 30 = .ok (.iconst 1, 1) := by decide +kernel
theorem dX5_isEmpty_31 : decode cX5_isEmpty 31 = .ok (.goto 4, 3) := by decide +kernel
theorem dX5_isEmpty_34 : decode cX5_isEmpty 34 = .ok (.iconst 0, 1) := by decide +kernel
theorem dX5_isEmpty_35 : decode cX5_isEmpty 35 = .ok (.ireturn, 1) := by decide +kernel
theorem dX5_placeOf_0 : decode cX5_placeOf 0 = .ok (.iconst 0, 1) := by decide +kernel
theorem dX5_placeOf_1 : decode cX5_placeOf 1 = .ok (.istore_n 2, 1) := by decide +kernel
theorem dX5_placeOf_2 : decode cX5_placeOf 2 = .ok (.iload_n 2, 1) := by decide +kernel
theorem dX5_placeOf_3 : decode cX5_placeOf 3 = .ok (.iconst 3, 1) := by decide +kernel
theorem dX5_placeOf_4 : decode cX5_placeOf 4 = .ok (.if_icmp .ge 21, 3) := by decide +kernel
theorem dX5_placeOf_7 : decode cX5_placeOf 7 = .ok (.aload_n 0, 1) := by decide +kernel
theorem dX5_placeOf_8 : decode cX5_placeOf 8 = .ok (.getfield 15, 3) := by decide +kernel
theorem dX5_placeOf_11 : decode cX5_placeOf 11 = .ok (.iload_n 2, 1) := by decide +kernel
theorem dX5_placeOf_12 : decode cX5_placeOf 12 = .ok (.iaload, 1) := by decide +kernel
theorem dX5_placeOf_13 : decode cX5_placeOf 13 = .ok (.iload_n 1, 1) := by decide +kernel
theorem dX5_placeOf_14 : decode cX5_placeOf 14 = .ok (.if_icmp .ne 5, 3) := by decide +kernel
theorem dX5_placeOf_17 : decode cX5_placeOf 17 = .ok (.iload_n 2, 1) := by decide +kernel
theorem dX5_placeOf_18 : decode cX5_placeOf 18 = .ok (.ireturn, 1) := by decide +kernel
theorem dX5_placeOf_19 : decode cX5_placeOf 19 = .ok (.iinc 2 1, 3) := by decide +kernel
theorem dX5_placeOf_22 : decode cX5_placeOf 22 = .ok (.goto (-20), 3) := by decide +kernel
theorem dX5_placeOf_25 : decode cX5_placeOf 25 = .ok (.iconst (-1), 1) := by decide +kernel
theorem dX5_placeOf_26 : decode cX5_placeOf 26 = .ok (.ireturn, 1) := by decide +kernel
theorem dX5_draw_0 : decode cX5_draw 0 = .ok (.aload_n 0, 1) := by decide +kernel
theorem dX5_draw_1 : decode cX5_draw 1 = .ok (.aload_n 0, 1) := by decide +kernel
theorem dX5_draw_2 : decode cX5_draw 2 = .ok (.getfield 43, 3) := by decide +kernel
theorem dX5_draw_5 : decode cX5_draw 5 = .ok (.i2l, 1) := by decide +kernel
theorem dX5_draw_6 : decode cX5_draw 6 = .ok (.ldc2_w 46, 3) := by decide +kernel
theorem dX5_draw_9 : decode cX5_draw 9 = .ok (.lmul, 1) := by decide +kernel
theorem dX5_draw_10 : decode cX5_draw 10 = .ok (.ldc2_w 48, 3) := by decide +kernel
theorem dX5_draw_13 : decode cX5_draw 13 = .ok (.ladd, 1) := by decide +kernel
theorem dX5_draw_14 : decode cX5_draw 14 = .ok (.ldc2_w 50, 3) := by decide +kernel
theorem dX5_draw_17 : decode cX5_draw 17 = .ok (.land, 1) := by decide +kernel
theorem dX5_draw_18 : decode cX5_draw 18 = .ok (.l2i, 1) := by decide +kernel
theorem dX5_draw_19 : decode cX5_draw 19 = .ok (.putfield 43, 3) := by decide +kernel
theorem dX5_draw_22 : decode cX5_draw 22 = .ok (.iload_n 1, 1) := by decide +kernel
theorem dX5_draw_23 : decode cX5_draw 23 = .ok (.ifCond .gt 7, 3) := by decide +kernel
theorem dX5_draw_26 : decode cX5_draw 26 = .ok (.iconst 0, 1) := by decide +kernel
theorem dX5_draw_27 : decode cX5_draw 27 = .ok (.goto 12, 3) := by decide +kernel
theorem dX5_draw_30 : decode cX5_draw 30 = .ok (.aload_n 0, 1) := by decide +kernel
theorem dX5_draw_31 : decode cX5_draw 31 = .ok (.getfield 43, 3) := by decide +kernel
theorem dX5_draw_34 : decode cX5_draw 34 = .ok (.ldc 52, 2) := by decide +kernel
theorem dX5_draw_36 : decode cX5_draw 36 = .ok (.idiv, 1) := by decide +kernel
theorem dX5_draw_37 : decode cX5_draw 37 = .ok (.iload_n 1, 1) := by decide +kernel
theorem dX5_draw_38 : decode cX5_draw 38 = .ok (.irem, 1) := by decide +kernel
theorem dX5_draw_39 : decode cX5_draw 39 = .ok (.ireturn, 1) := by decide +kernel
theorem dX6_init_0 : decode cX6_init 0 = .ok (.aload_n 0, 1) := by decide +kernel
theorem dX6_init_1 : decode cX6_init 1 = .ok (.invokespecial 3, 3) := by decide +kernel
theorem dX6_init_4 : decode cX6_init 4 = .ok (.aload_n 0, 1) := by decide +kernel
theorem dX6_init_5 : decode cX6_init 5 = .ok (.bipush 30, 2) := by decide +kernel
theorem dX6_init_7 : decode cX6_init 7 = .ok (.newarray .int, 2) := by decide +kernel
theorem dX6_init_9 : decode cX6_init 9 = .ok (.putfield 9, 3) := by decide +kernel
theorem dX6_init_12 : decode cX6_init 12 = .ok (.aload_n 0, 1) := by decide +kernel
theorem dX6_init_13 : decode cX6_init 13 = .ok (.bipush 10, 2) := by decide +kernel
theorem dX6_init_15 : decode cX6_init 15 = .ok (.newarray .int, 2) := by decide +kernel
theorem dX6_init_17 : decode cX6_init 17 = .ok (.putfield 15, 3) := by decide +kernel
theorem dX6_init_20 : decode cX6_init 20 = .ok (.aload_n 0, 1) := by decide +kernel
theorem dX6_init_21 : decode cX6_init 21 = .ok (.bipush 10, 2) := by decide +kernel
theorem dX6_init_23 : decode cX6_init 23 = .ok (.newarray .int, 2) := by decide +kernel
theorem dX6_init_25 : decode cX6_init 25 = .ok (.putfield 18, 3) := by decide +kernel
theorem dX6_init_28 : decode cX6_init 28 = .ok (.aload_n 0, 1) := by decide +kernel
theorem dX6_init_29 : decode cX6_init 29 = .ok (.aload_n 1, 1) := by decide +kernel
theorem dX6_init_30 : decode cX6_init 30 = .ok (.putfield 21, 3) := by decide +kernel
theorem dX6_init_33 : decode cX6_init 33 = .ok (.aload_n 0, 1) := by decide +kernel
theorem dX6_init_34 : decode cX6_init 34 = .ok (.aload_n 2, 1) := by decide +kernel
theorem dX6_init_35 : decode cX6_init 35 = .ok (.putfield 25, 3) := by decide +kernel
theorem dX6_init_38 : decode cX6_init 38 = .ok (.return_, 1) := by decide +kernel
theorem dX6_note_0 : decode cX6_note 0 = .ok (.aload_n 0, 1) := by decide +kernel
theorem dX6_note_1 : decode cX6_note 1 = .ok (.getfield 29, 3) := by decide +kernel
theorem dX6_note_4 : decode cX6_note 4 = .ok (.ifCond .lt 12, 3) := by decide +kernel
theorem dX6_note_7 : decode cX6_note 7 = .ok (.aload_n 0, 1) := by decide +kernel
theorem dX6_note_8 : decode cX6_note 8 = .ok (.getfield 29, 3) := by decide +kernel
theorem dX6_note_11 : decode cX6_note 11 = .ok (.bipush 10, 2) := by decide +kernel
theorem dX6_note_13 : decode cX6_note 13 = .ok (.if_icmp .lt 4, 3) := by decide +kernel
theorem dX6_note_16 : decode cX6_note 16 = .ok (.return_, 1) := by decide +kernel
theorem dX6_note_17 : decode cX6_note 17 = .ok (.aload_n 0, 1) := by decide +kernel
theorem dX6_note_18 : decode cX6_note 18 = .ok (.getfield 29, 3) := by decide +kernel
theorem dX6_note_21 : decode cX6_note 21 = .ok (.iconst 3, 1) := by decide +kernel
theorem dX6_note_22 : decode cX6_note 22 = .ok (.imul, 1) := by decide +kernel
theorem dX6_note_23 : decode cX6_note 23 = .ok (.istore 6, 2) := by decide +kernel
theorem dX6_note_25 : decode cX6_note 25 = .ok (.aload_n 0, 1) := by decide +kernel
theorem dX6_note_26 : decode cX6_note 26 = .ok (.getfield 9, 3) := by decide +kernel
theorem dX6_note_29 : decode cX6_note 29 = .ok (.iload 6, 2) := by decide +kernel
theorem dX6_note_31 : decode cX6_note 31 = .ok (.iload_n 1, 1) := by decide +kernel
theorem dX6_note_32 : decode cX6_note 32 = .ok (.iastore, 1) := by decide +kernel
theorem dX6_note_33 : decode cX6_note 33 = .ok (.aload_n 0, 1) := by decide +kernel
theorem dX6_note_34 : decode cX6_note 34 = .ok (.getfield 9, 3) := by decide +kernel
theorem dX6_note_37 : decode cX6_note 37 = .ok (.iload 6, 2) := by decide +kernel
theorem dX6_note_39 : decode cX6_note 39 = .ok (.iconst 1, 1) := by decide +kernel
theorem dX6_note_40 : decode cX6_note 40 = .ok (.iadd, 1) := by decide +kernel
theorem dX6_note_41 : decode cX6_note 41 = .ok (.iload_n 2, 1) := by decide +kernel
theorem dX6_note_42 : decode cX6_note 42 = .ok (.iastore, 1) := by decide +kernel
theorem dX6_note_43 : decode cX6_note 43 = .ok (.aload_n 0, 1) := by decide +kernel
theorem dX6_note_44 : decode cX6_note 44 = .ok (.getfield 9, 3) := by decide +kernel
theorem dX6_note_47 : decode cX6_note 47 = .ok (.iload 6, 2) := by decide +kernel
theorem dX6_note_49 : decode cX6_note 49 = .ok (.iconst 2, 1) := by decide +kernel
theorem dX6_note_50 : decode cX6_note 50 = .ok (.iadd, 1) := by decide +kernel
theorem dX6_note_51 : decode cX6_note 51 = .ok (.iload_n 3, 1) := by decide +kernel
theorem dX6_note_52 : decode cX6_note 52 = .ok (.iastore, 1) := by decide +kernel
theorem dX6_note_53 : decode cX6_note 53 = .ok (.aload_n 0, 1) := by decide +kernel
theorem dX6_note_54 : decode cX6_note 54 = .ok (.getfield 15, 3) := by decide +kernel
theorem dX6_note_57 : decode cX6_note 57 = .ok (.aload_n 0, 1) := by decide +kernel
theorem dX6_note_58 : decode cX6_note 58 = .ok (.getfield 29, 3) := by decide +kernel
theorem dX6_note_61 : decode cX6_note 61 = .ok (.iload 4, 2) := by decide +kernel
theorem dX6_note_63 : decode cX6_note 63 = .ok (.iastore, 1) := by decide +kernel
theorem dX6_note_64 : decode cX6_note 64 = .ok (.aload_n 0, 1) := by decide +kernel
theorem dX6_note_65 : decode cX6_note 65 = .ok (.getfield 18, 3) := by decide +kernel
theorem dX6_note_68 : decode cX6_note 68 = .ok (.aload_n 0, 1) := by decide +kernel
theorem dX6_note_69 : decode cX6_note 69 = .ok (.getfield 29, 3) := by decide +kernel
theorem dX6_note_72 : decode cX6_note 72 = .ok (.iload 5, 2) := by decide +kernel
theorem dX6_note_74 : decode cX6_note 74 = .ok (.iastore, 1) := by decide +kernel
theorem dX6_note_75 : decode cX6_note 75 = .ok (.aload_n 0, 1) := by decide +kernel
theorem dX6_note_76 : decode cX6_note 76 = .ok (.dup, 1) := by decide +kernel
theorem dX6_note_77 : decode cX6_note 77 = .ok (.getfield 29, 3) := by decide +kernel
theorem dX6_note_80 : decode cX6_note 80 = .ok (.iconst 1, 1) := by decide +kernel
theorem dX6_note_81 : decode cX6_note 81 = .ok (.iadd, 1) := by decide +kernel
theorem dX6_note_82 : decode cX6_note 82 = .ok (.putfield 29, 3) := by decide +kernel
theorem dX6_note_85 : decode cX6_note 85 = .ok (.return_, 1) := by decide +kernel
theorem dX6_firstWrong_0 : decode cX6_firstWrong 0 = .ok (.iconst 0, 1) := by decide +kernel
theorem dX6_firstWrong_1 : decode cX6_firstWrong 1 = .ok (.istore_n 3, 1) := by decide +kernel
theorem dX6_firstWrong_2 : decode cX6_firstWrong 2 = .ok (.iload_n 3, 1) := by decide +kernel
theorem dX6_firstWrong_3 : decode cX6_firstWrong 3 = .ok (.aload_n 0, 1) := by decide +kernel
theorem dX6_firstWrong_4 : decode cX6_firstWrong 4 = .ok (.getfield 29, 3) := by decide +kernel
theorem dX6_firstWrong_7 : decode cX6_firstWrong 7 = .ok (.if_icmp .ge 139, 3) := by decide +kernel
theorem dX6_firstWrong_10 : decode cX6_firstWrong 10 = .ok (.iload_n 3, 1) := by decide +kernel
theorem dX6_firstWrong_11 : decode cX6_firstWrong 11 = .ok (.bipush 10, 2) := by decide +kernel
theorem dX6_firstWrong_13 : decode cX6_firstWrong 13 = .ok (.if_icmp .ge 133, 3) := by decide +kernel
theorem dX6_firstWrong_16 : decode cX6_firstWrong 16 = .ok (.iload_n 3, 1) := by decide +kernel
theorem dX6_firstWrong_17 : decode cX6_firstWrong 17 = .ok (.iconst 3, 1) := by decide +kernel
theorem dX6_firstWrong_18 : decode cX6_firstWrong 18 = .ok (.imul, 1) := by decide +kernel
theorem dX6_firstWrong_19 : decode cX6_firstWrong 19 = .ok (.istore 4, 2) := by decide +kernel
theorem dX6_firstWrong_21 : decode cX6_firstWrong 21 = .ok (.aload_n 0, 1) := by decide +kernel
theorem dX6_firstWrong_22 : decode cX6_firstWrong 22 = .ok (.getfield 25, 3) := by decide +kernel
theorem dX6_firstWrong_25 : decode cX6_firstWrong 25 = .ok (.iconst 0, 1) := by decide +kernel
theorem dX6_firstWrong_26 : decode cX6_firstWrong 26 = .ok (.aload_n 0, 1) := by decide +kernel
theorem dX6_firstWrong_27 : decode cX6_firstWrong 27 = .ok (.getfield 9, 3) := by decide +kernel
theorem dX6_firstWrong_30 : decode cX6_firstWrong 30 = .ok (.iload 4, 2) := by decide +kernel
theorem dX6_firstWrong_32 : decode cX6_firstWrong 32 = .ok (.iaload, 1) := by decide +kernel
theorem dX6_firstWrong_33 : decode cX6_firstWrong 33 = .ok (.aload_n 0, 1) := by decide +kernel
theorem dX6_firstWrong_34 : decode cX6_firstWrong 34 = .ok (.getfield 9, 3) := by decide +kernel
theorem dX6_firstWrong_37 : decode cX6_firstWrong 37 = .ok (.iload 4, 2) := by decide +kernel
theorem dX6_firstWrong_39 : decode cX6_firstWrong 39 = .ok (.iconst 1, 1) := by decide +kernel
theorem dX6_firstWrong_40 : decode cX6_firstWrong 40 = .ok (.iadd, 1) := by decide +kernel
theorem dX6_firstWrong_41 : decode cX6_firstWrong 41 = .ok (.iaload, 1) := by decide +kernel
theorem dX6_firstWrong_42 : decode cX6_firstWrong 42 = .ok (.aload_n 0, 1) := by decide +kernel
theorem dX6_firstWrong_43 : decode cX6_firstWrong 43 = .ok (.getfield 9, 3) := by decide +kernel
theorem dX6_firstWrong_46 : decode cX6_firstWrong 46 = .ok (.iload 4, 2) := by decide +kernel
theorem dX6_firstWrong_48 : decode cX6_firstWrong 48 = .ok (.iconst 2, 1) := by decide +kernel
theorem dX6_firstWrong_49 : decode cX6_firstWrong 49 = .ok (.iadd, 1) := by decide +kernel
theorem dX6_firstWrong_50 : decode cX6_firstWrong 50 = .ok (.iaload, 1) := by decide +kernel
theorem dX6_firstWrong_51 : decode cX6_firstWrong 51 = .ok (.invokevirtual 35, 3) := by decide +kernel
theorem dX6_firstWrong_54 : decode cX6_firstWrong 54 = .ok (.iload_n 2, 1) := by decide +kernel
theorem dX6_firstWrong_55 : decode cX6_firstWrong 55 = .ok (.ifCond .ne 14, 3) := by decide +kernel
theorem dX6_firstWrong_58 : decode cX6_firstWrong 58 = .ok (.aload_n 0, 1) := by decide +kernel
theorem dX6_firstWrong_59 : decode cX6_firstWrong 59 = .ok (.getfield 25, 3) := by decide +kernel
theorem dX6_firstWrong_62 : decode cX6_firstWrong 62 = .ok (.iload_n 1, 1) := by decide +kernel
theorem dX6_firstWrong_63 : decode cX6_firstWrong 63 = .ok (.invokevirtual 39, 3) := by decide +kernel
theorem dX6_firstWrong_66 : decode cX6_firstWrong 66 = .ok (.goto 12, 3) := by decide +kernel
theorem dX6_firstWrong_69 : decode cX6_firstWrong 69 = .ok (.aload_n 0, 1) := by decide +kernel
theorem dX6_firstWrong_70 : decode cX6_firstWrong 70 = .ok (.getfield 25, 3) := by decide +kernel
theorem dX6_firstWrong_73 : decode cX6_firstWrong 73 = .ok (.iload_n 1, 1) := by decide +kernel
theorem dX6_firstWrong_74 : decode cX6_firstWrong 74 = .ok (.iload_n 2, 1) := by decide +kernel
theorem dX6_firstWrong_75 : decode cX6_firstWrong 75 = .ok (.invokevirtual 43, 3) := by decide +kernel
theorem dX6_firstWrong_78 : decode cX6_firstWrong 78 = .ok (.aload_n 0, 1) := by decide +kernel
theorem dX6_firstWrong_79 : decode cX6_firstWrong 79 = .ok (.getfield 18, 3) := by decide +kernel
theorem dX6_firstWrong_82 : decode cX6_firstWrong 82 = .ok (.iload_n 3, 1) := by decide +kernel
theorem dX6_firstWrong_83 : decode cX6_firstWrong 83 = .ok (.iaload, 1) := by decide +kernel
theorem dX6_firstWrong_84 : decode cX6_firstWrong 84 = .ok (.ifCond .ne 7, 3) := by decide +kernel
theorem dX6_firstWrong_87 : decode cX6_firstWrong 87 = .ok (.iconst (-1), 1) := by decide +kernel
theorem dX6_firstWrong_88 : decode cX6_firstWrong 88 = .ok (.goto 9, 3) := by decide +kernel
theorem dX6_firstWrong_91 : decode cX6_firstWrong 91 = .ok (.aload_n 0, 1) := by decide +kernel
theorem dX6_firstWrong_92 : decode cX6_firstWrong 92 = .ok (.getfield 18, 3) := by decide +kernel
theorem dX6_firstWrong_95 : decode cX6_firstWrong 95 = .ok (.iload_n 3, 1) := by decide +kernel
theorem dX6_firstWrong_96 : decode cX6_firstWrong 96 = .ok (.iaload, 1) := by decide +kernel
theorem dX6_firstWrong_97 : decode cX6_firstWrong 97 = .ok (.istore 5, 2) := by decide +kernel
theorem dX6_firstWrong_99 : decode cX6_firstWrong 99 = .ok (.aload_n 0, 1) := by decide +kernel
theorem dX6_firstWrong_100 : decode cX6_firstWrong 100 = .ok (.getfield 21, 3) := by decide +kernel
theorem dX6_firstWrong_103 : decode cX6_firstWrong 103 = .ok (.aload_n 0, 1) := by decide +kernel
theorem dX6_firstWrong_104 : decode cX6_firstWrong 104 = .ok (.getfield 15, 3) := by decide +kernel
theorem dX6_firstWrong_107 : decode cX6_firstWrong 107 = .ok (.iload_n 3, 1) := by decide +kernel
theorem dX6_firstWrong_108 : decode cX6_firstWrong 108 = .ok (.iaload, 1) := by decide +kernel
theorem dX6_firstWrong_109 : decode cX6_firstWrong 109 = .ok (.invokevirtual 47, 3) := by decide +kernel
theorem dX6_firstWrong_112 : decode cX6_firstWrong 112 = .ok (.istore 6, 2) := by decide +kernel
theorem dX6_firstWrong_114 : decode cX6_firstWrong 114 = .ok (.aload_n 0, 1) := by decide +kernel
theorem dX6_firstWrong_115 : decode cX6_firstWrong 115 = .ok (.getfield 25, 3) := by decide +kernel
theorem dX6_firstWrong_118 : decode cX6_firstWrong 118 = .ok (.iconst 0, 1) := by decide +kernel
theorem dX6_firstWrong_119 : decode cX6_firstWrong 119 = .ok (.aload_n 0, 1) := by decide +kernel
theorem dX6_firstWrong_120 : decode cX6_firstWrong 120 = .ok (.getfield 21, 3) := by decide +kernel
theorem dX6_firstWrong_123 : decode cX6_firstWrong 123 = .ok (.getfield 53, 3) := by decide +kernel
theorem dX6_firstWrong_126 : decode cX6_firstWrong 126 = .ok (.iload 6, 2) := by decide +kernel
theorem dX6_firstWrong_128 : decode cX6_firstWrong 128 = .ok (.bipush 120, 2) := by decide +kernel
theorem dX6_firstWrong_130 : decode cX6_firstWrong 130 = .ok (.invokevirtual 56, 3) := by decide +kernel
theorem dX6_firstWrong_133 : decode cX6_firstWrong 133 = .ok (.iload 5, 2) := by decide +kernel
theorem dX6_firstWrong_135 : decode cX6_firstWrong 135 = .ok (.if_icmp .eq 5, 3) := by decide +kernel
theorem dX6_firstWrong_138 : decode cX6_firstWrong 138 = .ok (.iload_n 3, 1) := by decide +kernel
theorem dX6_firstWrong_139 : decode cX6_firstWrong 139 = .ok (.ireturn, 1) := by decide +kernel
theorem dX6_firstWrong_140 : decode cX6_firstWrong 140 = .ok (.iinc 3 1, 3) := by decide +kernel
theorem dX6_firstWrong_143 : decode cX6_firstWrong 143 = .ok (.goto (-141), 3) := by decide +kernel
theorem dX6_firstWrong_146 : decode cX6_firstWrong 146 = .ok (.iconst (-1), 1) := by decide +kernel
theorem dX6_firstWrong_147 : decode cX6_firstWrong 147 = .ok (.ireturn, 1) := by decide +kernel
theorem dX7_init_0 : decode cX7_init 0 = .ok (.aload_n 0, 1) := by decide +kernel
theorem dX7_init_1 : decode cX7_init 1 = .ok (.invokespecial 3, 3) := by decide +kernel
theorem dX7_init_4 : decode cX7_init 4 = .ok (.aload_n 0, 1) := by decide +kernel
theorem dX7_init_5 : decode cX7_init 5 = .ok (.bipush 6, 2) := by decide +kernel
theorem dX7_init_7 : decode cX7_init 7 = .ok (.newarray .int, 2) := by decide +kernel
theorem dX7_init_9 : decode cX7_init 9 = .ok (.putfield 9, 3) := by decide +kernel
theorem dX7_init_12 : decode cX7_init 12 = .ok (.aload_n 0, 1) := by decide +kernel
theorem dX7_init_13 : decode cX7_init 13 = .ok (.aload_n 1, 1) := by decide +kernel
theorem dX7_init_14 : decode cX7_init 14 = .ok (.putfield 15, 3) := by decide +kernel
theorem dX7_init_17 : decode cX7_init 17 = .ok (.aload_n 0, 1) := by decide +kernel
theorem dX7_init_18 : decode cX7_init 18 = .ok (.aload_n 2, 1) := by decide +kernel
theorem dX7_init_19 : decode cX7_init 19 = .ok (.putfield 19, 3) := by decide +kernel
theorem dX7_init_22 : decode cX7_init 22 = .ok (.return_, 1) := by decide +kernel
theorem dX7_findSoonest_0 : decode cX7_findSoonest 0 = .ok (.aload_n 0, 1) := by decide +kernel
theorem dX7_findSoonest_1 : decode cX7_findSoonest 1 = .ok (.iconst (-1), 1) := by decide +kernel
theorem dX7_findSoonest_2 : decode cX7_findSoonest 2 = .ok (.putfield 23, 3) := by decide +kernel
theorem dX7_findSoonest_5 : decode cX7_findSoonest 5 = .ok (.iconst 1, 1) := by decide +kernel
theorem dX7_findSoonest_6 : decode cX7_findSoonest 6 = .ok (.istore 4, 2) := by decide +kernel
theorem dX7_findSoonest_8 : decode cX7_findSoonest 8 = .ok (.iload 4, 2) := by decide +kernel
theorem dX7_findSoonest_10 : decode cX7_findSoonest 10 = .ok (.aload_n 0, 1) := by decide +kernel
theorem dX7_findSoonest_11 : decode cX7_findSoonest 11 = .ok (.getfield 19, 3) := by decide +kernel
theorem dX7_findSoonest_14 : decode cX7_findSoonest 14 = .ok (.getfield 29, 3) := by decide +kernel
theorem dX7_findSoonest_17 : decode cX7_findSoonest 17 = .ok (.if_icmp .gt 116, 3) := by decide +kernel
theorem dX7_findSoonest_20 : decode cX7_findSoonest 20 = .ok (.aload_n 0, 1) := by decide +kernel
theorem dX7_findSoonest_21 : decode cX7_findSoonest 21 = .ok (.getfield 23, 3) := by decide +kernel
theorem dX7_findSoonest_24 : decode cX7_findSoonest 24 = .ok (.iconst (-1), 1) := by decide +kernel
theorem dX7_findSoonest_25 : decode cX7_findSoonest 25 = .ok (.if_icmp .ne 8, 3) := by decide +kernel
theorem dX7_findSoonest_28 : decode cX7_findSoonest 28 = .ok (.bipush 120, 2) := by decide +kernel
theorem dX7_findSoonest_30 : decode cX7_findSoonest 30 = .ok (.goto 7, 3) := by decide +kernel
theorem dX7_findSoonest_33 : decode cX7_findSoonest 33 = .ok (.aload_n 0, 1) := by decide +kernel
theorem dX7_findSoonest_34 : decode cX7_findSoonest 34 = .ok (.getfield 32, 3) := by decide +kernel
theorem dX7_findSoonest_37 : decode cX7_findSoonest 37 = .ok (.istore 5, 2) := by decide +kernel
theorem dX7_findSoonest_39 : decode cX7_findSoonest 39 = .ok (.aload_n 0, 1) := by decide +kernel
theorem dX7_findSoonest_40 : decode cX7_findSoonest 40 = .ok (.getfield 19, 3) := by decide +kernel
theorem dX7_findSoonest_43 : decode cX7_findSoonest 43 = .ok (.iload 4, 2) := by decide +kernel
theorem dX7_findSoonest_45 : decode cX7_findSoonest 45 = .ok (.iload_n 3, 1) := by decide +kernel
theorem dX7_findSoonest_46 : decode cX7_findSoonest 46 = .ok (.invokevirtual 35, 3) := by decide +kernel
theorem dX7_findSoonest_49 : decode cX7_findSoonest 49 = .ok (.ifCond .eq 7, 3) := by decide +kernel
theorem dX7_findSoonest_52 : decode cX7_findSoonest 52 = .ok (.iconst (-1), 1) := by decide +kernel
theorem dX7_findSoonest_53 : decode cX7_findSoonest 53 = .ok (.goto 16, 3) := by decide +kernel
theorem dX7_findSoonest_56 : decode cX7_findSoonest 56 = .ok (.aload_n 0, 1) := by decide +kernel
theorem dX7_findSoonest_57 : decode cX7_findSoonest 57 = .ok (.getfield 19, 3) := by decide +kernel
theorem dX7_findSoonest_60 : decode cX7_findSoonest 60 = .ok (.iload 4, 2) := by decide +kernel
theorem dX7_findSoonest_62 : decode cX7_findSoonest 62 = .ok (.aload_n 1, 1) := by decide +kernel
theorem dX7_findSoonest_63 : decode cX7_findSoonest 63 = .ok (.iload_n 2, 1) := by decide +kernel
theorem dX7_findSoonest_64 : decode cX7_findSoonest 64 = .ok (.iload 5, 2) := by decide +kernel
theorem dX7_findSoonest_66 : decode cX7_findSoonest 66 = .ok (.invokevirtual 39, 3) := by decide +kernel
theorem dX7_findSoonest_69 : decode cX7_findSoonest 69 = .ok (.istore 6, 2) := by decide +kernel
theorem dX7_findSoonest_71 : decode cX7_findSoonest 71 = .ok (.iload 6, 2) := by decide +kernel
theorem dX7_findSoonest_73 : decode cX7_findSoonest 73 = .ok (.iconst (-1), 1) := by decide +kernel
theorem dX7_findSoonest_74 : decode cX7_findSoonest 74 = .ok (.if_icmp .eq 53, 3) := by decide +kernel
theorem dX7_findSoonest_77 : decode cX7_findSoonest 77 = .ok (.aload_n 0, 1) := by decide +kernel
theorem dX7_findSoonest_78 : decode cX7_findSoonest 78 = .ok (.getfield 19, 3) := by decide +kernel
theorem dX7_findSoonest_81 : decode cX7_findSoonest 81 = .ok (.iload 4, 2) := by decide +kernel
theorem dX7_findSoonest_83 : decode cX7_findSoonest 83 = .ok (.aload_n 1, 1) := by decide +kernel
theorem dX7_findSoonest_84 : decode cX7_findSoonest 84 = .ok (.iload 6, 2) := by decide +kernel
theorem dX7_findSoonest_86 : decode cX7_findSoonest 86 = .ok (.invokevirtual 42, 3) := by decide +kernel
theorem dX7_findSoonest_89 : decode cX7_findSoonest 89 = .ok (.istore 7, 2) := by decide +kernel
theorem dX7_findSoonest_91 : decode cX7_findSoonest 91 = .ok (.aload_n 0, 1) := by decide +kernel
theorem dX7_findSoonest_92 : decode cX7_findSoonest 92 = .ok (.getfield 23, 3) := by decide +kernel
theorem dX7_findSoonest_95 : decode cX7_findSoonest 95 = .ok (.iconst (-1), 1) := by decide +kernel
theorem dX7_findSoonest_96 : decode cX7_findSoonest 96 = .ok (.if_icmp .eq 21, 3) := by decide +kernel
theorem dX7_findSoonest_99 : decode cX7_findSoonest 99 = .ok (.iload 6, 2) := by decide +kernel
theorem dX7_findSoonest_101 : decode cX7_findSoonest 101 = .ok (.aload_n 0, 1) := by decide +kernel
theorem dX7_findSoonest_102 : decode cX7_findSoonest 102 = .ok (.getfield 32, 3) := by decide +kernel
theorem dX7_findSoonest_105 : decode cX7_findSoonest 105 = .ok (.if_icmp .lt 12, 3) := by decide +kernel
theorem dX7_findSoonest_108 : decode cX7_findSoonest 108 = .ok (.iload 7, 2) := by decide +kernel
theorem dX7_findSoonest_110 : decode cX7_findSoonest 110 = .ok (.aload_n 0, 1) := by decide +kernel
theorem dX7_findSoonest_111 : decode cX7_findSoonest 111 = .ok (.getfield 46, 3) := by decide +kernel
theorem dX7_findSoonest_114 : decode cX7_findSoonest 114 = .ok (.if_icmp .ge 13, 3) := by decide +kernel
theorem dX7_findSoonest_117 : decode cX7_findSoonest 117 = .ok (.aload_n 0, 1) := by decide +kernel
theorem dX7_findSoonest_118 : decode cX7_findSoonest 118 = .ok (.iload 4, 2) := by decide +kernel
theorem dX7_findSoonest_120 : decode cX7_findSoonest 120 = .ok (.iload 6, 2) := by decide +kernel
theorem dX7_findSoonest_122 : decode cX7_findSoonest 122 = .ok (.iload 7, 2) := by decide +kernel
theorem dX7_findSoonest_124 : decode cX7_findSoonest 124 = .ok (.invokevirtual 48, 3) := by decide +kernel
theorem dX7_findSoonest_127 : decode cX7_findSoonest 127 = .ok (.iinc 4 1, 3) := by decide +kernel
theorem dX7_findSoonest_130 : decode cX7_findSoonest 130 = .ok (.goto (-122), 3) := by decide +kernel
theorem dX7_findSoonest_133 : decode cX7_findSoonest 133 = .ok (.aload_n 0, 1) := by decide +kernel
theorem dX7_findSoonest_134 : decode cX7_findSoonest 134 = .ok (.getfield 23, 3) := by decide +kernel
theorem dX7_findSoonest_137 : decode cX7_findSoonest 137 = .ok (.iconst (-1), 1) := by decide +kernel
theorem dX7_findSoonest_138 : decode cX7_findSoonest 138 = .ok (.if_icmp .eq 7, 3) := by decide +kernel
theorem dX7_findSoonest_141 : decode cX7_findSoonest 141 = .ok (.iconst 1, 1) := by decide +kernel
theorem dX7_findSoonest_142 : decode cX7_findSoonest 142 = .ok (.goto 4, 3) := by decide +kernel
theorem dX7_findSoonest_145 : decode cX7_findSoonest 145 = .ok (.iconst 0, 1) := by decide +kernel
theorem dX7_findSoonest_146 : decode cX7_findSoonest 146 = .ok (.ireturn, 1) := by decide +kernel
theorem dX7_findCheapest_0 : decode cX7_findCheapest 0 = .ok (.aload_n 0, 1) := by decide +kernel
theorem dX7_findCheapest_1 : decode cX7_findCheapest 1 = .ok (.iconst (-1), 1) := by decide +kernel
theorem dX7_findCheapest_2 : decode cX7_findCheapest 2 = .ok (.putfield 23, 3) := by decide +kernel
theorem dX7_findCheapest_5 : decode cX7_findCheapest 5 = .ok (.iconst 1, 1) := by decide +kernel
theorem dX7_findCheapest_6 : decode cX7_findCheapest 6 = .ok (.istore_n 3, 1) := by decide +kernel
theorem dX7_findCheapest_7 : decode cX7_findCheapest 7 = .ok (.iload_n 3, 1) := by decide +kernel
theorem dX7_findCheapest_8 : decode cX7_findCheapest 8 = .ok (.aload_n 0, 1) := by decide +kernel
theorem dX7_findCheapest_9 : decode cX7_findCheapest 9 = .ok (.getfield 19, 3) := by decide +kernel
theorem dX7_findCheapest_12 : decode cX7_findCheapest 12 = .ok (.getfield 29, 3) := by decide +kernel
theorem dX7_findCheapest_15 : decode cX7_findCheapest 15 = .ok (.if_icmp .gt 91, 3) := by decide +kernel
theorem dX7_findCheapest_18 : decode cX7_findCheapest 18 = .ok (.aload_n 0, 1) := by decide +kernel
theorem dX7_findCheapest_19 : decode cX7_findCheapest 19 = .ok (.getfield 19, 3) := by decide +kernel
theorem dX7_findCheapest_22 : decode cX7_findCheapest 22 = .ok (.iload_n 3, 1) := by decide +kernel
theorem dX7_findCheapest_23 : decode cX7_findCheapest 23 = .ok (.aload_n 1, 1) := by decide +kernel
theorem dX7_findCheapest_24 : decode cX7_findCheapest 24 = .ok (.iload_n 2, 1) := by decide +kernel
theorem dX7_findCheapest_25 : decode cX7_findCheapest 25 = .ok (.aload_n 0, 1) := by decide +kernel
theorem dX7_findCheapest_26 : decode cX7_findCheapest 26 = .ok (.getfield 15, 3) := by decide +kernel
theorem dX7_findCheapest_29 : decode cX7_findCheapest 29 = .ok (.invokevirtual 52, 3) := by decide +kernel
theorem dX7_findCheapest_32 : decode cX7_findCheapest 32 = .ok (.invokevirtual 39, 3) := by decide +kernel
theorem dX7_findCheapest_35 : decode cX7_findCheapest 35 = .ok (.istore 4, 2) := by decide +kernel
theorem dX7_findCheapest_37 : decode cX7_findCheapest 37 = .ok (.iload 4, 2) := by decide +kernel
theorem dX7_findCheapest_39 : decode cX7_findCheapest 39 = .ok (.iconst (-1), 1) := by decide +kernel
theorem dX7_findCheapest_40 : decode cX7_findCheapest 40 = .ok (.if_icmp .eq 60, 3) := by decide +kernel
theorem dX7_findCheapest_43 : decode cX7_findCheapest 43 = .ok (.aload_n 0, 1) := by decide +kernel
theorem dX7_findCheapest_44 : decode cX7_findCheapest 44 = .ok (.getfield 19, 3) := by decide +kernel
theorem dX7_findCheapest_47 : decode cX7_findCheapest 47 = .ok (.iload_n 3, 1) := by decide +kernel
theorem dX7_findCheapest_48 : decode cX7_findCheapest 48 = .ok (.aload_n 1, 1) := by decide +kernel
theorem dX7_findCheapest_49 : decode cX7_findCheapest 49 = .ok (.iload 4, 2) := by decide +kernel
theorem dX7_findCheapest_51 : decode cX7_findCheapest 51 = .ok (.invokevirtual 42, 3) := by decide +kernel
theorem dX7_findCheapest_54 : decode cX7_findCheapest 54 = .ok (.istore 5, 2) := by decide +kernel
theorem dX7_findCheapest_56 : decode cX7_findCheapest 56 = .ok (.aload_n 0, 1) := by decide +kernel
theorem dX7_findCheapest_57 : decode cX7_findCheapest 57 = .ok (.getfield 23, 3) := by decide +kernel
theorem dX7_findCheapest_60 : decode cX7_findCheapest 60 = .ok (.iconst (-1), 1) := by decide +kernel
theorem dX7_findCheapest_61 : decode cX7_findCheapest 61 = .ok (.if_icmp .eq 30, 3) := by decide +kernel
theorem dX7_findCheapest_64 : decode cX7_findCheapest 64 = .ok (.iload 5, 2) := by decide +kernel
theorem dX7_findCheapest_66 : decode cX7_findCheapest 66 = .ok (.aload_n 0, 1) := by decide +kernel
theorem dX7_findCheapest_67 : decode cX7_findCheapest 67 = .ok (.getfield 46, 3) := by decide +kernel
theorem dX7_findCheapest_70 : decode cX7_findCheapest 70 = .ok (.if_icmp .lt 21, 3) := by decide +kernel
theorem dX7_findCheapest_73 : decode cX7_findCheapest 73 = .ok (.iload 5, 2) := by decide +kernel
theorem dX7_findCheapest_75 : decode cX7_findCheapest 75 = .ok (.aload_n 0, 1) := by decide +kernel
theorem dX7_findCheapest_76 : decode cX7_findCheapest 76 = .ok (.getfield 46, 3) := by decide +kernel
theorem dX7_findCheapest_79 : decode cX7_findCheapest 79 = .ok (.if_icmp .ne 21, 3) := by decide +kernel
theorem dX7_findCheapest_82 : decode cX7_findCheapest 82 = .ok (.iload 4, 2) := by decide +kernel
theorem dX7_findCheapest_84 : decode cX7_findCheapest 84 = .ok (.aload_n 0, 1) := by decide +kernel
theorem dX7_findCheapest_85 : decode cX7_findCheapest 85 = .ok (.getfield 32, 3) := by decide +kernel
theorem dX7_findCheapest_88 : decode cX7_findCheapest 88 = .ok (.if_icmp .ge 12, 3) := by decide +kernel
theorem dX7_findCheapest_91 : decode cX7_findCheapest 91 = .ok (.aload_n 0, 1) := by decide +kernel
theorem dX7_findCheapest_92 : decode cX7_findCheapest 92 = .ok (.iload_n 3, 1) := by decide +kernel
theorem dX7_findCheapest_93 : decode cX7_findCheapest 93 = .ok (.iload 4, 2) := by decide +kernel
theorem dX7_findCheapest_95 : decode cX7_findCheapest 95 = .ok (.iload 5, 2) := by decide +kernel
theorem dX7_findCheapest_97 : decode cX7_findCheapest 97 = .ok (.invokevirtual 48, 3) := by decide +kernel
theorem dX7_findCheapest_100 : decode cX7_findCheapest 100 = .ok (.iinc 3 1, 3) := by decide +kernel
theorem dX7_findCheapest_103 : decode cX7_findCheapest 103 = .ok (.goto (-96), 3) := by decide +kernel
theorem dX7_findCheapest_106 : decode cX7_findCheapest 106 = .ok (.aload_n 0, 1) := by decide +kernel
theorem dX7_findCheapest_107 : decode cX7_findCheapest 107 = .ok (.getfield 23, 3) := by decide +kernel
theorem dX7_findCheapest_110 : decode cX7_findCheapest 110 = .ok (.iconst (-1), 1) := by decide +kernel
theorem dX7_findCheapest_111 : decode cX7_findCheapest 111 = .ok (.if_icmp .eq 7, 3) := by decide +kernel
theorem dX7_findCheapest_114 : decode cX7_findCheapest 114 = .ok (.iconst 1, 1) := by decide +kernel
theorem dX7_findCheapest_115 : decode cX7_findCheapest 115 = .ok (.goto 4, 3) := by decide +kernel
theorem dX7_findCheapest_118 : decode cX7_findCheapest 118 = .ok (.iconst 0, 1) := by decide +kernel
theorem dX7_findCheapest_119 : decode cX7_findCheapest 119 = .ok (.ireturn, 1) := by decide +kernel
theorem dX7_take_0 : decode cX7_take 0 = .ok (.aload_n 0, 1) := by decide +kernel
theorem dX7_take_1 : decode cX7_take 1 = .ok (.iload_n 1, 1) := by decide +kernel
theorem dX7_take_2 : decode cX7_take 2 = .ok (.putfield 23, 3) := by decide +kernel
theorem dX7_take_5 : decode cX7_take 5 = .ok (.aload_n 0, 1) := by decide +kernel
theorem dX7_take_6 : decode cX7_take 6 = .ok (.iload_n 2, 1) := by decide +kernel
theorem dX7_take_7 : decode cX7_take 7 = .ok (.putfield 32, 3) := by decide +kernel
theorem dX7_take_10 : decode cX7_take 10 = .ok (.aload_n 0, 1) := by decide +kernel
theorem dX7_take_11 : decode cX7_take 11 = .ok (.iload_n 3, 1) := by decide +kernel
theorem dX7_take_12 : decode cX7_take 12 = .ok (.putfield 46, 3) := by decide +kernel
theorem dX7_take_15 : decode cX7_take 15 = .ok (.return_, 1) := by decide +kernel
theorem dX7_findWait_0 : decode cX7_findWait 0 = .ok (.aload_n 0, 1) := by decide +kernel
theorem dX7_findWait_1 : decode cX7_findWait 1 = .ok (.iconst (-1), 1) := by decide +kernel
theorem dX7_findWait_2 : decode cX7_findWait 2 = .ok (.putfield 58, 3) := by decide +kernel
theorem dX7_findWait_5 : decode cX7_findWait 5 = .ok (.iconst 0, 1) := by decide +kernel
theorem dX7_findWait_6 : decode cX7_findWait 6 = .ok (.istore 4, 2) := by decide +kernel
theorem dX7_findWait_8 : decode cX7_findWait 8 = .ok (.iload 4, 2) := by decide +kernel
theorem dX7_findWait_10 : decode cX7_findWait 10 = .ok (.bipush 11, 2) := by decide +kernel
theorem dX7_findWait_12 : decode cX7_findWait 12 = .ok (.if_icmp .gt 85, 3) := by decide +kernel
theorem dX7_findWait_15 : decode cX7_findWait 15 = .ok (.aload_n 0, 1) := by decide +kernel
theorem dX7_findWait_16 : decode cX7_findWait 16 = .ok (.getfield 15, 3) := by decide +kernel
theorem dX7_findWait_19 : decode cX7_findWait 19 = .ok (.aload_n 1, 1) := by decide +kernel
theorem dX7_findWait_20 : decode cX7_findWait 20 = .ok (.iload 4, 2) := by decide +kernel
theorem dX7_findWait_22 : decode cX7_findWait 22 = .ok (.aload_n 0, 1) := by decide +kernel
theorem dX7_findWait_23 : decode cX7_findWait 23 = .ok (.getfield 9, 3) := by decide +kernel
theorem dX7_findWait_26 : decode cX7_findWait 26 = .ok (.invokevirtual 61, 3) := by decide +kernel
theorem dX7_findWait_29 : decode cX7_findWait 29 = .ok (.aload_n 0, 1) := by decide +kernel
theorem dX7_findWait_30 : decode cX7_findWait 30 = .ok (.aload_n 0, 1) := by decide +kernel
theorem dX7_findWait_31 : decode cX7_findWait 31 = .ok (.getfield 9, 3) := by decide +kernel
theorem dX7_findWait_34 : decode cX7_findWait 34 = .ok (.aload_n 0, 1) := by decide +kernel
theorem dX7_findWait_35 : decode cX7_findWait 35 = .ok (.getfield 15, 3) := by decide +kernel
theorem dX7_findWait_38 : decode cX7_findWait 38 = .ok (.iload_n 2, 1) := by decide +kernel
theorem dX7_findWait_39 : decode cX7_findWait 39 = .ok (.iload 4, 2) := by decide +kernel
theorem dX7_findWait_41 : decode cX7_findWait 41 = .ok (.iadd, 1) := by decide +kernel
theorem dX7_findWait_42 : decode cX7_findWait 42 = .ok (.invokevirtual 65, 3) := by decide +kernel
theorem dX7_findWait_45 : decode cX7_findWait 45 = .ok (.iload_n 3, 1) := by decide +kernel
theorem dX7_findWait_46 : decode cX7_findWait 46 = .ok (.isub, 1) := by decide +kernel
theorem dX7_findWait_47 : decode cX7_findWait 47 = .ok (.iconst (-1), 1) := by decide +kernel
theorem dX7_findWait_48 : decode cX7_findWait 48 = .ok (.invokevirtual 69, 3) := by decide +kernel
theorem dX7_findWait_51 : decode cX7_findWait 51 = .ok (.istore 5, 2) := by decide +kernel
theorem dX7_findWait_53 : decode cX7_findWait 53 = .ok (.iload 5, 2) := by decide +kernel
theorem dX7_findWait_55 : decode cX7_findWait 55 = .ok (.ifCond .eq 36, 3) := by decide +kernel
theorem dX7_findWait_58 : decode cX7_findWait 58 = .ok (.aload_n 0, 1) := by decide +kernel
theorem dX7_findWait_59 : decode cX7_findWait 59 = .ok (.getfield 58, 3) := by decide +kernel
theorem dX7_findWait_62 : decode cX7_findWait 62 = .ok (.iconst (-1), 1) := by decide +kernel
theorem dX7_findWait_63 : decode cX7_findWait 63 = .ok (.if_icmp .eq 14, 3) := by decide +kernel
theorem dX7_findWait_66 : decode cX7_findWait 66 = .ok (.aload_n 0, 1) := by decide +kernel
theorem dX7_findWait_67 : decode cX7_findWait 67 = .ok (.getfield 32, 3) := by decide +kernel
theorem dX7_findWait_70 : decode cX7_findWait 70 = .ok (.aload_n 0, 1) := by decide +kernel
theorem dX7_findWait_71 : decode cX7_findWait 71 = .ok (.getfield 73, 3) := by decide +kernel
theorem dX7_findWait_74 : decode cX7_findWait 74 = .ok (.if_icmp .ge 17, 3) := by decide +kernel
theorem dX7_findWait_77 : decode cX7_findWait 77 = .ok (.aload_n 0, 1) := by decide +kernel
theorem dX7_findWait_78 : decode cX7_findWait 78 = .ok (.iload 4, 2) := by decide +kernel
theorem dX7_findWait_80 : decode cX7_findWait 80 = .ok (.putfield 58, 3) := by decide +kernel
theorem dX7_findWait_83 : decode cX7_findWait 83 = .ok (.aload_n 0, 1) := by decide +kernel
theorem dX7_findWait_84 : decode cX7_findWait 84 = .ok (.aload_n 0, 1) := by decide +kernel
theorem dX7_findWait_85 : decode cX7_findWait 85 = .ok (.getfield 32, 3) := by decide +kernel
theorem dX7_findWait_88 : decode cX7_findWait 88 = .ok (.putfield 73, 3) := by decide +kernel
theorem dX7_findWait_91 : decode cX7_findWait 91 = .ok (.iinc 4 1, 3) := by decide +kernel
theorem dX7_findWait_94 : decode cX7_findWait 94 = .ok (.goto (-86), 3) := by decide +kernel
theorem dX7_findWait_97 : decode cX7_findWait 97 = .ok (.aload_n 0, 1) := by decide +kernel
theorem dX7_findWait_98 : decode cX7_findWait 98 = .ok (.getfield 58, 3) := by decide +kernel
theorem dX7_findWait_101 : decode cX7_findWait 101 = .ok (.iconst (-1), 1) := by decide +kernel
theorem dX7_findWait_102 : decode cX7_findWait 102 = .ok (.if_icmp .eq 7, 3) := by decide +kernel
theorem dX7_findWait_105 : decode cX7_findWait 105 = .ok (.iconst 1, 1) := by decide +kernel
theorem dX7_findWait_106 : decode cX7_findWait 106 = .ok (.goto 4, 3) := by decide +kernel
theorem dX7_findWait_109 : decode cX7_findWait 109 = .ok (.iconst 0, 1) := by decide +kernel
theorem dX7_findWait_110 : decode cX7_findWait 110 = .ok (.ireturn, 1) := by decide +kernel
theorem dX8_init_0 : decode cX8_init 0 = .ok (.aload_n 0, 1) := by decide +kernel
theorem dX8_init_1 : decode cX8_init 1 = .ok (.invokespecial 3, 3) := by decide +kernel
theorem dX8_init_4 : decode cX8_init 4 = .ok (.aload_n 0, 1) := by decide +kernel
theorem dX8_init_5 : decode cX8_init 5 = .ok (.new 9, 3) := by decide +kernel
theorem dX8_init_8 : decode cX8_init 8 = .ok (.dup, 1) := by decide +kernel
theorem dX8_init_9 : decode cX8_init 9 = .ok (.invokespecial 11, 3) := by decide +kernel
theorem dX8_init_12 : decode cX8_init 12 = .ok (.putfield 12, 3) := by decide +kernel
theorem dX8_init_15 : decode cX8_init 15 = .ok (.aload_n 0, 1) := by decide +kernel
theorem dX8_init_16 : decode cX8_init 16 = .ok (.new 9, 3) := by decide +kernel
theorem dX8_init_19 : decode cX8_init 19 = .ok (.dup, 1) := by decide +kernel
theorem dX8_init_20 : decode cX8_init 20 = .ok (.invokespecial 11, 3) := by decide +kernel
theorem dX8_init_23 : decode cX8_init 23 = .ok (.putfield 16, 3) := by decide +kernel
theorem dX8_init_26 : decode cX8_init 26 = .ok (.aload_n 0, 1) := by decide +kernel
theorem dX8_init_27 : decode cX8_init 27 = .ok (.new 19, 3) := by decide +kernel
theorem dX8_init_30 : decode cX8_init 30 = .ok (.dup, 1) := by decide +kernel
theorem dX8_init_31 : decode cX8_init 31 = .ok (.invokespecial 21, 3) := by decide +kernel
theorem dX8_init_34 : decode cX8_init 34 = .ok (.putfield 22, 3) := by decide +kernel
theorem dX8_init_37 : decode cX8_init 37 = .ok (.aload_n 0, 1) := by decide +kernel
theorem dX8_init_38 : decode cX8_init 38 = .ok (.new 26, 3) := by decide +kernel
theorem dX8_init_41 : decode cX8_init 41 = .ok (.dup, 1) := by decide +kernel
theorem dX8_init_42 : decode cX8_init 42 = .ok (.aload_n 0, 1) := by decide +kernel
theorem dX8_init_43 : decode cX8_init 43 = .ok (.getfield 12, 3) := by decide +kernel
theorem dX8_init_46 : decode cX8_init 46 = .ok (.invokespecial 28, 3) := by decide +kernel
theorem dX8_init_49 : decode cX8_init 49 = .ok (.putfield 31, 3) := by decide +kernel
theorem dX8_init_52 : decode cX8_init 52 = .ok (.aload_n 0, 1) := by decide +kernel
theorem dX8_init_53 : decode cX8_init 53 = .ok (.new 35, 3) := by decide +kernel
theorem dX8_init_56 : decode cX8_init 56 = .ok (.dup, 1) := by decide +kernel
theorem dX8_init_57 : decode cX8_init 57 = .ok (.invokespecial 37, 3) := by decide +kernel
theorem dX8_init_60 : decode cX8_init 60 = .ok (.putfield 38, 3) := by decide +kernel
theorem dX8_init_63 : decode cX8_init 63 = .ok (.aload_n 0, 1) := by decide +kernel
theorem dX8_init_64 : decode cX8_init 64 = .ok (.new 35, 3) := by decide +kernel
theorem dX8_init_67 : decode cX8_init 67 = .ok (.dup, 1) := by decide +kernel
theorem dX8_init_68 : decode cX8_init 68 = .ok (.invokespecial 37, 3) := by decide +kernel
theorem dX8_init_71 : decode cX8_init 71 = .ok (.putfield 42, 3) := by decide +kernel
theorem dX8_init_74 : decode cX8_init 74 = .ok (.aload_n 0, 1) := by decide +kernel
theorem dX8_init_75 : decode cX8_init 75 = .ok (.new 35, 3) := by decide +kernel
theorem dX8_init_78 : decode cX8_init 78 = .ok (.dup, 1) := by decide +kernel
theorem dX8_init_79 : decode cX8_init 79 = .ok (.invokespecial 37, 3) := by decide +kernel
theorem dX8_init_82 : decode cX8_init 82 = .ok (.putfield 45, 3) := by decide +kernel
theorem dX8_init_85 : decode cX8_init 85 = .ok (.aload_n 0, 1) := by decide +kernel
theorem dX8_init_86 : decode cX8_init 86 = .ok (.new 48, 3) := by decide +kernel
theorem dX8_init_89 : decode cX8_init 89 = .ok (.dup, 1) := by decide +kernel
theorem dX8_init_90 : decode cX8_init 90 = .ok (.aload_n 0, 1) := by decide +kernel
theorem dX8_init_91 : decode cX8_init 91 = .ok (.getfield 12, 3) := by decide +kernel
theorem dX8_init_94 : decode cX8_init 94 = .ok (.aload_n 0, 1) := by decide +kernel
theorem dX8_init_95 : decode cX8_init 95 = .ok (.getfield 31, 3) := by decide +kernel
theorem dX8_init_98 : decode cX8_init 98 = .ok (.invokespecial 50, 3) := by decide +kernel
theorem dX8_init_101 : decode cX8_init 101 = .ok (.putfield 53, 3) := by decide +kernel
theorem dX8_init_104 : decode cX8_init 104 = .ok (.aload_n 0, 1) := by decide +kernel
theorem dX8_init_105 : decode cX8_init 105 = .ok (.new 57, 3) := by decide +kernel
theorem dX8_init_108 : decode cX8_init 108 = .ok (.dup, 1) := by decide +kernel
theorem dX8_init_109 : decode cX8_init 109 = .ok (.aload_n 0, 1) := by decide +kernel
theorem dX8_init_110 : decode cX8_init 110 = .ok (.getfield 12, 3) := by decide +kernel
theorem dX8_init_113 : decode cX8_init 113 = .ok (.aload_n 0, 1) := by decide +kernel
theorem dX8_init_114 : decode cX8_init 114 = .ok (.getfield 31, 3) := by decide +kernel
theorem dX8_init_117 : decode cX8_init 117 = .ok (.invokespecial 59, 3) := by decide +kernel
theorem dX8_init_120 : decode cX8_init 120 = .ok (.putfield 60, 3) := by decide +kernel
theorem dX8_init_123 : decode cX8_init 123 = .ok (.aload_n 0, 1) := by decide +kernel
theorem dX8_init_124 : decode cX8_init 124 = .ok (.new 64, 3) := by decide +kernel
theorem dX8_init_127 : decode cX8_init 127 = .ok (.dup, 1) := by decide +kernel
theorem dX8_init_128 : decode cX8_init 128 = .ok (.aload_n 0, 1) := by decide +kernel
theorem dX8_init_129 : decode cX8_init 129 = .ok (.getfield 12, 3) := by decide +kernel
theorem dX8_init_132 : decode cX8_init 132 = .ok (.aload_n 0, 1) := by decide +kernel
theorem dX8_init_133 : decode cX8_init 133 = .ok (.getfield 31, 3) := by decide +kernel
theorem dX8_init_136 : decode cX8_init 136 = .ok (.aload_n 0, 1) := by decide +kernel
theorem dX8_init_137 : decode cX8_init 137 = .ok (.getfield 53, 3) := by decide +kernel
theorem dX8_init_140 : decode cX8_init 140 = .ok (.invokespecial 66, 3) := by decide +kernel
theorem dX8_init_143 : decode cX8_init 143 = .ok (.putfield 69, 3) := by decide +kernel
theorem dX8_init_146 : decode cX8_init 146 = .ok (.aload_n 0, 1) := by decide +kernel
theorem dX8_init_147 : decode cX8_init 147 = .ok (.new 73, 3) := by decide +kernel
theorem dX8_init_150 : decode cX8_init 150 = .ok (.dup, 1) := by decide +kernel
theorem dX8_init_151 : decode cX8_init 151 = .ok (.aload_n 0, 1) := by decide +kernel
theorem dX8_init_152 : decode cX8_init 152 = .ok (.getfield 12, 3) := by decide +kernel
theorem dX8_init_155 : decode cX8_init 155 = .ok (.aload_n 0, 1) := by decide +kernel
theorem dX8_init_156 : decode cX8_init 156 = .ok (.getfield 31, 3) := by decide +kernel
theorem dX8_init_159 : decode cX8_init 159 = .ok (.invokespecial 75, 3) := by decide +kernel
theorem dX8_init_162 : decode cX8_init 162 = .ok (.putfield 76, 3) := by decide +kernel
theorem dX8_init_165 : decode cX8_init 165 = .ok (.return_, 1) := by decide +kernel
theorem dX8_feed_0 : decode cX8_feed 0 = .ok (.iload_n 1, 1) := by decide +kernel
theorem dX8_feed_1 : decode cX8_feed 1 = .ok (.iconst 1, 1) := by decide +kernel
theorem dX8_feed_2 : decode cX8_feed 2 = .ok (.if_icmp .lt 9, 3) := by decide +kernel
theorem dX8_feed_5 : decode cX8_feed 5 = .ok (.iload_n 1, 1) := by decide +kernel
theorem dX8_feed_6 : decode cX8_feed 6 = .ok (.bipush 8, 2) := by decide +kernel
theorem dX8_feed_8 : decode cX8_feed 8 = .ok (.if_icmp .le 6, 3) := by decide +kernel
theorem dX8_feed_11 : decode cX8_feed 11 = .ok (.ldc 80, 2) := by decide +kernel
theorem dX8_feed_13 : decode cX8_feed 13 = .ok (.ireturn, 1) := by decide +kernel
theorem dX8_feed_14 : decode cX8_feed 14 = .ok (.aload_n 0, 1) := by decide +kernel
theorem dX8_feed_15 : decode cX8_feed 15 = .ok (.getfield 22, 3) := by decide +kernel
theorem dX8_feed_18 : decode cX8_feed 18 = .ok (.getfield 81, 3) := by decide +kernel
theorem dX8_feed_21 : decode cX8_feed 21 = .ok (.iload_n 1, 1) := by decide +kernel
theorem dX8_feed_22 : decode cX8_feed 22 = .ok (.iadd, 1) := by decide +kernel
theorem dX8_feed_23 : decode cX8_feed 23 = .ok (.sipush 500, 3) := by decide +kernel
theorem dX8_feed_26 : decode cX8_feed 26 = .ok (.if_icmp .le 6, 3) := by decide +kernel
theorem dX8_feed_29 : decode cX8_feed 29 = .ok (.ldc 85, 2) := by decide +kernel
theorem dX8_feed_31 : decode cX8_feed 31 = .ok (.ireturn, 1) := by decide +kernel
theorem dX8_feed_32 : decode cX8_feed 32 = .ok (.iload_n 1, 1) := by decide +kernel
theorem dX8_feed_33 : decode cX8_feed 33 = .ok (.iconst 1, 1) := by decide +kernel
theorem dX8_feed_34 : decode cX8_feed 34 = .ok (.isub, 1) := by decide +kernel
theorem dX8_feed_35 : decode cX8_feed 35 = .ok (.istore 4, 2) := by decide +kernel
theorem dX8_feed_37 : decode cX8_feed 37 = .ok (.iload 4, 2) := by decide +kernel
theorem dX8_feed_39 : decode cX8_feed 39 = .ok (.ifCond .lt 28, 3) := by decide +kernel
theorem dX8_feed_42 : decode cX8_feed 42 = .ok (.aload_n 0, 1) := by decide +kernel
theorem dX8_feed_43 : decode cX8_feed 43 = .ok (.getfield 22, 3) := by decide +kernel
theorem dX8_feed_46 : decode cX8_feed 46 = .ok (.lload_n 2, 1) := by decide +kernel
theorem dX8_feed_47 : decode cX8_feed 47 = .ok (.bipush 8, 2) := by decide +kernel
theorem dX8_feed_49 : decode cX8_feed 49 = .ok (.iload 4, 2) := by decide +kernel
theorem dX8_feed_51 : decode cX8_feed 51 = .ok (.imul, 1) := by decide +kernel
theorem dX8_feed_52 : decode cX8_feed 52 = .ok (.lushr, 1) := by decide +kernel
theorem dX8_feed_53 : decode cX8_feed 53 = .ok (.l2i, 1) := by decide +kernel
theorem dX8_feed_54 : decode cX8_feed 54 = .ok (.sipush 255, 3) := by decide +kernel
theorem dX8_feed_57 : decode cX8_feed 57 = .ok (.iand, 1) := by decide +kernel
theorem dX8_feed_58 : decode cX8_feed 58 = .ok (.invokevirtual 86, 3) := by decide +kernel
theorem dX8_feed_61 : decode cX8_feed 61 = .ok (.iinc 4 (-1), 3) := by decide +kernel
theorem dX8_feed_64 : decode cX8_feed 64 = .ok (.goto (-27), 3) := by decide +kernel
theorem dX8_feed_67 : decode cX8_feed 67 = .ok (.aload_n 0, 1) := by decide +kernel
theorem dX8_feed_68 : decode cX8_feed 68 = .ok (.getfield 22, 3) := by decide +kernel
theorem dX8_feed_71 : decode cX8_feed 71 = .ok (.getfield 81, 3) := by decide +kernel
theorem dX8_feed_74 : decode cX8_feed 74 = .ok (.ireturn, 1) := by decide +kernel
theorem dX8_ferry_0 : decode cX8_ferry 0 = .ok (.aload_n 0, 1) := by decide +kernel
theorem dX8_ferry_1 : decode cX8_ferry 1 = .ok (.getfield 22, 3) := by decide +kernel
theorem dX8_ferry_4 : decode cX8_ferry 4 = .ok (.aload_n 0, 1) := by decide +kernel
theorem dX8_ferry_5 : decode cX8_ferry 5 = .ok (.getfield 16, 3) := by decide +kernel
theorem dX8_ferry_8 : decode cX8_ferry 8 = .ok (.invokevirtual 90, 3) := by decide +kernel
theorem dX8_ferry_11 : decode cX8_ferry 11 = .ok (.istore_n 1, 1) := by decide +kernel
theorem dX8_ferry_12 : decode cX8_ferry 12 = .ok (.iload_n 1, 1) := by decide +kernel
theorem dX8_ferry_13 : decode cX8_ferry 13 = .ok (.ifCond .eq 19, 3) := by decide +kernel
theorem dX8_ferry_16 : decode cX8_ferry 16 = .ok (.aload_n 0, 1) := by decide +kernel
theorem dX8_ferry_17 : decode cX8_ferry 17 = .ok (.getfield 22, 3) := by decide +kernel
theorem dX8_ferry_20 : decode cX8_ferry 20 = .ok (.aload_n 0, 1) := by decide +kernel
theorem dX8_ferry_21 : decode cX8_ferry 21 = .ok (.getfield 12, 3) := by decide +kernel
theorem dX8_ferry_24 : decode cX8_ferry 24 = .ok (.invokevirtual 90, 3) := by decide +kernel
theorem dX8_ferry_27 : decode cX8_ferry 27 = .ok (.pop, 1) := by decide +kernel
theorem dX8_ferry_28 : decode cX8_ferry 28 = .ok (.aload_n 0, 1) := by decide +kernel
theorem dX8_ferry_29 : decode cX8_ferry 29 = .ok (.invokevirtual 94, 3) := by decide +kernel
theorem dX8_ferry_32 : decode cX8_ferry 32 = .ok (.aload_n 0, 1) := by decide +kernel
theorem dX8_ferry_33 : decode cX8_ferry 33 = .ok (.getfield 22, 3) := by decide +kernel
theorem dX8_ferry_36 : decode cX8_ferry 36 = .ok (.iconst 0, 1) := by decide +kernel
theorem dX8_ferry_37 : decode cX8_ferry 37 = .ok (.putfield 81, 3) := by decide +kernel
theorem dX8_ferry_40 : decode cX8_ferry 40 = .ok (.iload_n 1, 1) := by decide +kernel
theorem dX8_ferry_41 : decode cX8_ferry 41 = .ok (.ifCond .eq 13, 3) := by decide +kernel
theorem dX8_ferry_44 : decode cX8_ferry 44 = .ok (.aload_n 0, 1) := by decide +kernel
theorem dX8_ferry_45 : decode cX8_ferry 45 = .ok (.getfield 12, 3) := by decide +kernel
theorem dX8_ferry_48 : decode cX8_ferry 48 = .ok (.getfield 97, 3) := by decide +kernel
theorem dX8_ferry_51 : decode cX8_ferry 51 = .ok (.goto 13, 3) := by decide +kernel
theorem dX8_ferry_54 : decode cX8_ferry 54 = .ok (.bipush (-10), 2) := by decide +kernel
theorem dX8_ferry_56 : decode cX8_ferry 56 = .ok (.aload_n 0, 1) := by decide +kernel
theorem dX8_ferry_57 : decode cX8_ferry 57 = .ok (.getfield 22, 3) := by decide +kernel
theorem dX8_ferry_60 : decode cX8_ferry 60 = .ok (.getfield 100, 3) := by decide +kernel
theorem dX8_ferry_63 : decode cX8_ferry 63 = .ok (.isub, 1) := by decide +kernel
theorem dX8_ferry_64 : decode cX8_ferry 64 = .ok (.ireturn, 1) := by decide +kernel
theorem dX8_begin_0 : decode cX8_begin 0 = .ok (.aload_n 0, 1) := by decide +kernel
theorem dX8_begin_1 : decode cX8_begin 1 = .ok (.getfield 31, 3) := by decide +kernel
theorem dX8_begin_4 : decode cX8_begin 4 = .ok (.invokevirtual 103, 3) := by decide +kernel
theorem dX8_begin_7 : decode cX8_begin 7 = .ok (.aload_n 0, 1) := by decide +kernel
theorem dX8_begin_8 : decode cX8_begin 8 = .ok (.getfield 38, 3) := by decide +kernel
theorem dX8_begin_11 : decode cX8_begin 11 = .ok (.aload_n 0, 1) := by decide +kernel
theorem dX8_begin_12 : decode cX8_begin 12 = .ok (.getfield 12, 3) := by decide +kernel
theorem dX8_begin_15 : decode cX8_begin 15 = .ok (.invokevirtual 106, 3) := by decide +kernel
theorem dX8_begin_18 : decode cX8_begin 18 = .ok (.aload_n 0, 1) := by decide +kernel
theorem dX8_begin_19 : decode cX8_begin 19 = .ok (.getfield 42, 3) := by decide +kernel
theorem dX8_begin_22 : decode cX8_begin 22 = .ok (.iconst 0, 1) := by decide +kernel
theorem dX8_begin_23 : decode cX8_begin 23 = .ok (.putfield 108, 3) := by decide +kernel
theorem dX8_begin_26 : decode cX8_begin 26 = .ok (.aload_n 0, 1) := by decide +kernel
theorem dX8_begin_27 : decode cX8_begin 27 = .ok (.getfield 45, 3) := by decide +kernel
theorem dX8_begin_30 : decode cX8_begin 30 = .ok (.iconst 0, 1) := by decide +kernel
theorem dX8_begin_31 : decode cX8_begin 31 = .ok (.putfield 108, 3) := by decide +kernel
theorem dX8_begin_34 : decode cX8_begin 34 = .ok (.aload_n 0, 1) := by decide +kernel
theorem dX8_begin_35 : decode cX8_begin 35 = .ok (.getfield 76, 3) := by decide +kernel
theorem dX8_begin_38 : decode cX8_begin 38 = .ok (.iconst 0, 1) := by decide +kernel
theorem dX8_begin_39 : decode cX8_begin 39 = .ok (.putfield 112, 3) := by decide +kernel
theorem dX8_begin_42 : decode cX8_begin 42 = .ok (.aload_n 0, 1) := by decide +kernel
theorem dX8_begin_43 : decode cX8_begin 43 = .ok (.invokevirtual 115, 3) := by decide +kernel
theorem dX8_begin_46 : decode cX8_begin 46 = .ok (.return_, 1) := by decide +kernel
theorem dX8_forgetTried_0 : decode cX8_forgetTried 0 = .ok (.aload_n 0, 1) := by decide +kernel
theorem dX8_forgetTried_1 : decode cX8_forgetTried 1 = .ok (.getfield 60, 3) := by decide +kernel
theorem dX8_forgetTried_4 : decode cX8_forgetTried 4 = .ok (.iconst 0, 1) := by decide +kernel
theorem dX8_forgetTried_5 : decode cX8_forgetTried 5 = .ok (.putfield 118, 3) := by decide +kernel
theorem dX8_forgetTried_8 : decode cX8_forgetTried 8 = .ok (.aload_n 0, 1) := by decide +kernel
theorem dX8_forgetTried_9 : decode cX8_forgetTried 9 = .ok (.getfield 69, 3) := by decide +kernel
theorem dX8_forgetTried_12 : decode cX8_forgetTried 12 = .ok (.iconst 0, 1) := by decide +kernel
theorem dX8_forgetTried_13 : decode cX8_forgetTried 13 = .ok (.putfield 121, 3) := by decide +kernel
theorem dX8_forgetTried_16 : decode cX8_forgetTried 16 = .ok (.return_, 1) := by decide +kernel
theorem dX8_fault_0 : decode cX8_fault 0 = .ok (.aload_n 0, 1) := by decide +kernel
theorem dX8_fault_1 : decode cX8_fault 1 = .ok (.getfield 22, 3) := by decide +kernel
theorem dX8_fault_4 : decode cX8_fault 4 = .ok (.getfield 122, 3) := by decide +kernel
theorem dX8_fault_7 : decode cX8_fault 7 = .ok (.ireturn, 1) := by decide +kernel
theorem dX8_told_0 : decode cX8_told 0 = .ok (.iload_n 1, 1) := by decide +kernel
theorem dX8_told_1 : decode cX8_told 1 = .ok (.tableswitch 189 0 12 #[67, 75, 97, 105, 113, 121, 129, 137, 145, 153, 161, 169, 184], 67) := by decide +kernel
theorem dX8_told_68 : decode cX8_told 68 = .ok (.aload_n 0, 1) := by decide +kernel
theorem dX8_told_69 : decode cX8_told 69 = .ok (.getfield 12, 3) := by decide +kernel
theorem dX8_told_72 : decode cX8_told 72 = .ok (.getfield 97, 3) := by decide +kernel
theorem dX8_told_75 : decode cX8_told 75 = .ok (.ireturn, 1) := by decide +kernel
theorem dX8_told_76 : decode cX8_told 76 = .ok (.aload_n 0, 1) := by decide +kernel
theorem dX8_told_77 : decode cX8_told 77 = .ok (.getfield 12, 3) := by decide +kernel
theorem dX8_told_80 : decode cX8_told 80 = .ok (.getfield 97, 3) := by decide +kernel
theorem dX8_told_83 : decode cX8_told 83 = .ok (.ifCond .ne 7, 3) := by decide +kernel
theorem dX8_told_86 : decode cX8_told 86 = .ok (.iconst (-1), 1) := by decide +kernel
theorem dX8_told_87 : decode cX8_told 87 = .ok (.goto 10, 3) := by decide +kernel
theorem dX8_told_90 : decode cX8_told 90 = .ok (.aload_n 0, 1) := by decide +kernel
theorem dX8_told_91 : decode cX8_told 91 = .ok (.getfield 12, 3) := by decide +kernel
theorem dX8_told_94 : decode cX8_told 94 = .ok (.getfield 125, 3) := by decide +kernel
theorem dX8_told_97 : decode cX8_told 97 = .ok (.ireturn, 1) := by decide +kernel
theorem dX8_told_98 : decode cX8_told 98 = .ok (.aload_n 0, 1) := by decide +kernel
theorem dX8_told_99 : decode cX8_told 99 = .ok (.getfield 12, 3) := by decide +kernel
theorem dX8_told_102 : decode cX8_told 102 = .ok (.getfield 128, 3) := by decide +kernel
theorem dX8_told_105 : decode cX8_told 105 = .ok (.ireturn, 1) := by decide +kernel
theorem dX8_told_106 : decode cX8_told 106 = .ok (.aload_n 0, 1) := by decide +kernel
theorem dX8_told_107 : decode cX8_told 107 = .ok (.getfield 12, 3) := by decide +kernel
theorem dX8_told_110 : decode cX8_told 110 = .ok (.getfield 131, 3) := by decide +kernel
theorem dX8_told_113 : decode cX8_told 113 = .ok (.ireturn, 1) := by decide +kernel
theorem dX8_told_114 : decode cX8_told 114 = .ok (.aload_n 0, 1) := by decide +kernel
theorem dX8_told_115 : decode cX8_told 115 = .ok (.getfield 12, 3) := by decide +kernel
theorem dX8_told_118 : decode cX8_told 118 = .ok (.getfield 134, 3) := by decide +kernel
theorem dX8_told_121 : decode cX8_told 121 = .ok (.ireturn, 1) := by decide +kernel
theorem dX8_told_122 : decode cX8_told 122 = .ok (.aload_n 0, 1) := by decide +kernel
theorem dX8_told_123 : decode cX8_told 123 = .ok (.getfield 12, 3) := by decide +kernel
theorem dX8_told_126 : decode cX8_told 126 = .ok (.invokevirtual 137, 3) := by decide +kernel
theorem dX8_told_129 : decode cX8_told 129 = .ok (.ireturn, 1) := by decide +kernel
theorem dX8_told_130 : decode cX8_told 130 = .ok (.aload_n 0, 1) := by decide +kernel
theorem dX8_told_131 : decode cX8_told 131 = .ok (.getfield 22, 3) := by decide +kernel
theorem dX8_told_134 : decode cX8_told 134 = .ok (.getfield 81, 3) := by decide +kernel
theorem dX8_told_137 : decode cX8_told 137 = .ok (.ireturn, 1) := by decide +kernel
theorem dX8_told_138 : decode cX8_told 138 = .ok (.aload_n 0, 1) := by decide +kernel
theorem dX8_told_139 : decode cX8_told 139 = .ok (.getfield 38, 3) := by decide +kernel
theorem dX8_told_142 : decode cX8_told 142 = .ok (.getfield 141, 3) := by decide +kernel
theorem dX8_told_145 : decode cX8_told 145 = .ok (.ireturn, 1) := by decide +kernel
theorem dX8_told_146 : decode cX8_told 146 = .ok (.aload_n 0, 1) := by decide +kernel
theorem dX8_told_147 : decode cX8_told 147 = .ok (.getfield 38, 3) := by decide +kernel
theorem dX8_told_150 : decode cX8_told 150 = .ok (.getfield 144, 3) := by decide +kernel
theorem dX8_told_153 : decode cX8_told 153 = .ok (.ireturn, 1) := by decide +kernel
theorem dX8_told_154 : decode cX8_told 154 = .ok (.aload_n 0, 1) := by decide +kernel
theorem dX8_told_155 : decode cX8_told 155 = .ok (.getfield 38, 3) := by decide +kernel
theorem dX8_told_158 : decode cX8_told 158 = .ok (.getfield 147, 3) := by decide +kernel
theorem dX8_told_161 : decode cX8_told 161 = .ok (.ireturn, 1) := by decide +kernel
theorem dX8_told_162 : decode cX8_told 162 = .ok (.aload_n 0, 1) := by decide +kernel
theorem dX8_told_163 : decode cX8_told 163 = .ok (.getfield 76, 3) := by decide +kernel
theorem dX8_told_166 : decode cX8_told 166 = .ok (.getfield 112, 3) := by decide +kernel
theorem dX8_told_169 : decode cX8_told 169 = .ok (.ireturn, 1) := by decide +kernel
theorem dX8_told_170 : decode cX8_told 170 = .ok (.aload_n 0, 1) := by decide +kernel
