theorem dX0_init_0 : decode cX0_init 0 = .ok (.aload_n 0, 1) := by decide +kernel
theorem dX0_init_1 : decode cX0_init 1 = .ok (.invokespecial 3, 3) := by decide +kernel
theorem dX0_init_4 : decode cX0_init 4 = .ok (.aload_n 0, 1) := by decide +kernel
theorem dX0_init_5 : decode cX0_init 5 = .ok (.bipush 6, 2) := by decide +kernel
theorem dX0_init_7 : decode cX0_init 7 = .ok (.newarray .int, 2) := by decide +kernel
theorem dX0_init_9 : decode cX0_init 9 = .ok (.putfield 9, 3) := by decide +kernel
theorem dX0_init_12 : decode cX0_init 12 = .ok (.aload_n 0, 1) := by decide +kernel
theorem dX0_init_13 : decode cX0_init 13 = .ok (.bipush 6, 2) := by decide +kernel
theorem dX0_init_15 : decode cX0_init 15 = .ok (.newarray .int, 2) := by decide +kernel
theorem dX0_init_17 : decode cX0_init 17 = .ok (.putfield 15, 3) := by decide +kernel
theorem dX0_init_20 : decode cX0_init 20 = .ok (.aload_n 0, 1) := by decide +kernel
theorem dX0_init_21 : decode cX0_init 21 = .ok (.bipush 6, 2) := by decide +kernel
theorem dX0_init_23 : decode cX0_init 23 = .ok (.newarray .int, 2) := by decide +kernel
theorem dX0_init_25 : decode cX0_init 25 = .ok (.putfield 18, 3) := by decide +kernel
theorem dX0_init_28 : decode cX0_init 28 = .ok (.aload_n 0, 1) := by decide +kernel
theorem dX0_init_29 : decode cX0_init 29 = .ok (.bipush 36, 2) := by decide +kernel
theorem dX0_init_31 : decode cX0_init 31 = .ok (.newarray .int, 2) := by decide +kernel
theorem dX0_init_33 : decode cX0_init 33 = .ok (.putfield 21, 3) := by decide +kernel
theorem dX0_init_36 : decode cX0_init 36 = .ok (.aload_n 0, 1) := by decide +kernel
theorem dX0_init_37 : decode cX0_init 37 = .ok (.bipush 12, 2) := by decide +kernel
theorem dX0_init_39 : decode cX0_init 39 = .ok (.newarray .int, 2) := by decide +kernel
theorem dX0_init_41 : decode cX0_init 41 = .ok (.putfield 24, 3) := by decide +kernel
theorem dX0_init_44 : decode cX0_init 44 = .ok (.aload_n 0, 1) := by decide +kernel
theorem dX0_init_45 : decode cX0_init 45 = .ok (.iconst 4, 1) := by decide +kernel
theorem dX0_init_46 : decode cX0_init 46 = .ok (.newarray .int, 2) := by decide +kernel
theorem dX0_init_48 : decode cX0_init 48 = .ok (.putfield 27, 3) := by decide +kernel
theorem dX0_init_51 : decode cX0_init 51 = .ok (.return_, 1) := by decide +kernel
theorem dX0_clear_0 : decode cX0_clear 0 = .ok (.aload_n 0, 1) := by decide +kernel
theorem dX0_clear_1 : decode cX0_clear 1 = .ok (.iconst 0, 1) := by decide +kernel
theorem dX0_clear_2 : decode cX0_clear 2 = .ok (.putfield 30, 3) := by decide +kernel
theorem dX0_clear_5 : decode cX0_clear 5 = .ok (.aload_n 0, 1) := by decide +kernel
theorem dX0_clear_6 : decode cX0_clear 6 = .ok (.iconst 0, 1) := by decide +kernel
theorem dX0_clear_7 : decode cX0_clear 7 = .ok (.putfield 34, 3) := by decide +kernel
theorem dX0_clear_10 : decode cX0_clear 10 = .ok (.aload_n 0, 1) := by decide +kernel
theorem dX0_clear_11 : decode cX0_clear 11 = .ok (.iconst 0, 1) := by decide +kernel
theorem dX0_clear_12 : decode cX0_clear 12 = .ok (.putfield 37, 3) := by decide +kernel
theorem dX0_clear_15 : decode cX0_clear 15 = .ok (.aload_n 0, 1) := by decide +kernel
theorem dX0_clear_16 : decode cX0_clear 16 = .ok (.iconst 0, 1) := by decide +kernel
theorem dX0_clear_17 : decode cX0_clear 17 = .ok (.putfield 40, 3) := by decide +kernel
theorem dX0_clear_20 : decode cX0_clear 20 = .ok (.aload_n 0, 1) := by decide +kernel
theorem dX0_clear_21 : decode cX0_clear 21 = .ok (.iconst 0, 1) := by decide +kernel
theorem dX0_clear_22 : decode cX0_clear 22 = .ok (.putfield 43, 3) := by decide +kernel
theorem dX0_clear_25 : decode cX0_clear 25 = .ok (.aload_n 0, 1) := by decide +kernel
theorem dX0_clear_26 : decode cX0_clear 26 = .ok (.iconst 0, 1) := by decide +kernel
theorem dX0_clear_27 : decode cX0_clear 27 = .ok (.putfield 46, 3) := by decide +kernel
theorem dX0_clear_30 : decode cX0_clear 30 = .ok (.aload_n 0, 1) := by decide +kernel
theorem dX0_clear_31 : decode cX0_clear 31 = .ok (.iconst 0, 1) := by decide +kernel
theorem dX0_clear_32 : decode cX0_clear 32 = .ok (.putfield 49, 3) := by decide +kernel
theorem dX0_clear_35 : decode cX0_clear 35 = .ok (.aload_n 0, 1) := by decide +kernel
theorem dX0_clear_36 : decode cX0_clear 36 = .ok (.iconst 0, 1) := by decide +kernel
theorem dX0_clear_37 : decode cX0_clear 37 = .ok (.putfield 52, 3) := by decide +kernel
theorem dX0_clear_40 : decode cX0_clear 40 = .ok (.aload_n 0, 1) := by decide +kernel
theorem dX0_clear_41 : decode cX0_clear 41 = .ok (.iconst 0, 1) := by decide +kernel
theorem dX0_clear_42 : decode cX0_clear 42 = .ok (.putfield 55, 3) := by decide +kernel
theorem dX0_clear_45 : decode cX0_clear 45 = .ok (.aload_n 0, 1) := by decide +kernel
theorem dX0_clear_46 : decode cX0_clear 46 = .ok (.lconst 0, 1) := by decide +kernel
theorem dX0_clear_47 : decode cX0_clear 47 = .ok (.putfield 58, 3) := by decide +kernel
theorem dX0_clear_50 : decode cX0_clear 50 = .ok (.aload_n 0, 1) := by decide +kernel
theorem dX0_clear_51 : decode cX0_clear 51 = .ok (.getfield 21, 3) := by decide +kernel
theorem dX0_clear_54 : decode cX0_clear 54 = .ok (.iconst 0, 1) := by decide +kernel
theorem dX0_clear_55 : decode cX0_clear 55 = .ok (.invokestatic 62, 3) := by decide +kernel
theorem dX0_clear_58 : decode cX0_clear 58 = .ok (.return_, 1) := by decide +kernel
theorem dX0_hasPlace_0 : decode cX0_hasPlace 0 = .ok (.iload_n 1, 1) := by decide +kernel
theorem dX0_hasPlace_1 : decode cX0_hasPlace 1 = .ok (.ifCond .lt 20, 3) := by decide +kernel
theorem dX0_hasPlace_4 : decode cX0_hasPlace 4 = .ok (.iload_n 1, 1) := by decide +kernel
theorem dX0_hasPlace_5 : decode cX0_hasPlace 5 = .ok (.aload_n 0, 1) := by decide +kernel
theorem dX0_hasPlace_6 : decode cX0_hasPlace 6 = .ok (.getfield 34, 3) := by decide +kernel
theorem dX0_hasPlace_9 : decode cX0_hasPlace 9 = .ok (.if_icmp .ge 12, 3) := by decide +kernel
theorem dX0_hasPlace_12 : decode cX0_hasPlace 12 = .ok (.iload_n 1, 1) := by decide +kernel
theorem dX0_hasPlace_13 : decode cX0_hasPlace 13 = .ok (.iconst 3, 1) := by decide +kernel
theorem dX0_hasPlace_14 : decode cX0_hasPlace 14 = .ok (.if_icmp .ge 7, 3) := by decide +kernel
theorem dX0_hasPlace_17 : decode cX0_hasPlace 17 = .ok (.iconst 1, 1) := by decide +kernel
theorem dX0_hasPlace_18 : decode cX0_hasPlace 18 = .ok (.goto 4, 3) := by decide +kernel
theorem dX0_hasPlace_21 : decode cX0_hasPlace 21 = .ok (.iconst 0, 1) := by decide +kernel
theorem dX0_hasPlace_22 : decode cX0_hasPlace 22 = .ok (.ireturn, 1) := by decide +kernel
theorem dX0_hasHorse_0 : decode cX0_hasHorse 0 = .ok (.iload_n 1, 1) := by decide +kernel
theorem dX0_hasHorse_1 : decode cX0_hasHorse 1 = .ok (.ifCond .lt 21, 3) := by decide +kernel
theorem dX0_hasHorse_4 : decode cX0_hasHorse 4 = .ok (.iload_n 1, 1) := by decide +kernel
theorem dX0_hasHorse_5 : decode cX0_hasHorse 5 = .ok (.aload_n 0, 1) := by decide +kernel
theorem dX0_hasHorse_6 : decode cX0_hasHorse 6 = .ok (.getfield 40, 3) := by decide +kernel
theorem dX0_hasHorse_9 : decode cX0_hasHorse 9 = .ok (.if_icmp .ge 13, 3) := by decide +kernel
theorem dX0_hasHorse_12 : decode cX0_hasHorse 12 = .ok (.iload_n 1, 1) := by decide +kernel
theorem dX0_hasHorse_13 : decode cX0_hasHorse 13 = .ok (.bipush 6, 2) := by decide +kernel
theorem dX0_hasHorse_15 : decode cX0_hasHorse 15 = .ok (.if_icmp .ge 7, 3) := by decide +kernel
theorem dX0_hasHorse_18 : decode cX0_hasHorse 18 = .ok (.iconst 1, 1) := by decide +kernel
theorem dX0_hasHorse_19 : decode cX0_hasHorse 19 = .ok (.goto 4, 3) := by decide +kernel
theorem dX0_hasHorse_22 : decode cX0_hasHorse 22 = .ok (.iconst 0, 1) := by decide +kernel
theorem dX0_hasHorse_23 : decode cX0_hasHorse 23 = .ok (.ireturn, 1) := by decide +kernel
theorem dX0_isBlind_0 : decode cX0_isBlind 0 = .ok (.iload_n 1, 1) := by decide +kernel
theorem dX0_isBlind_1 : decode cX0_isBlind 1 = .ok (.ifCond .lt 24, 3) := by decide +kernel
theorem dX0_isBlind_4 : decode cX0_isBlind 4 = .ok (.iload_n 1, 1) := by decide +kernel
theorem dX0_isBlind_5 : decode cX0_isBlind 5 = .ok (.bipush 6, 2) := by decide +kernel
theorem dX0_isBlind_7 : decode cX0_isBlind 7 = .ok (.if_icmp .ge 18, 3) := by decide +kernel
theorem dX0_isBlind_10 : decode cX0_isBlind 10 = .ok (.aload_n 0, 1) := by decide +kernel
theorem dX0_isBlind_11 : decode cX0_isBlind 11 = .ok (.getfield 43, 3) := by decide +kernel
theorem dX0_isBlind_14 : decode cX0_isBlind 14 = .ok (.iload_n 1, 1) := by decide +kernel
theorem dX0_isBlind_15 : decode cX0_isBlind 15 = .ok (.ishr, 1) := by decide +kernel
theorem dX0_isBlind_16 : decode cX0_isBlind 16 = .ok (.iconst 1, 1) := by decide +kernel
theorem dX0_isBlind_17 : decode cX0_isBlind 17 = .ok (.iand, 1) := by decide +kernel
theorem dX0_isBlind_18 : decode cX0_isBlind 18 = .ok (.ifCond .eq 7, 3) := by decide +kernel
theorem dX0_isBlind_21 : decode cX0_isBlind 21 = .ok (.iconst 1, 1) := by decide +kernel
theorem dX0_isBlind_22 : decode cX0_isBlind 22 = .ok (.goto 4, 3) := by decide +kernel
theorem dX0_isBlind_25 : decode cX0_isBlind 25 = .ok (.iconst 0, 1) := by decide +kernel
theorem dX0_isBlind_26 : decode cX0_isBlind 26 = .ok (.ireturn, 1) := by decide +kernel
theorem dX0_dueMinutes_0 : decode cX0_dueMinutes 0 = .ok (.aload_n 0, 1) := by decide +kernel
theorem dX0_dueMinutes_1 : decode cX0_dueMinutes 1 = .ok (.getfield 55, 3) := by decide +kernel
theorem dX0_dueMinutes_4 : decode cX0_dueMinutes 4 = .ok (.ifCond .ne 8, 3) := by decide +kernel
theorem dX0_dueMinutes_7 : decode cX0_dueMinutes 7 = .ok (.bipush 60, 2) := by decide +kernel
theorem dX0_dueMinutes_9 : decode cX0_dueMinutes 9 = .ok (.goto 7, 3) := by decide +kernel
theorem dX0_dueMinutes_12 : decode cX0_dueMinutes 12 = .ok (.aload_n 0, 1) := by decide +kernel
theorem dX0_dueMinutes_13 : decode cX0_dueMinutes 13 = .ok (.getfield 55, 3) := by decide +kernel
theorem dX0_dueMinutes_16 : decode cX0_dueMinutes 16 = .ok (.ireturn, 1) := by decide +kernel
theorem dX0_tideOf_0 : decode cX0_tideOf 0 = .ok (.aload_n 0, 1) := by decide +kernel
theorem dX0_tideOf_1 : decode cX0_tideOf 1 = .ok (.getfield 49, 3) := by decide +kernel
theorem dX0_tideOf_4 : decode cX0_tideOf 4 = .ok (.ifCond .le 16, 3) := by decide +kernel
theorem dX0_tideOf_7 : decode cX0_tideOf 7 = .ok (.aload_n 0, 1) := by decide +kernel
theorem dX0_tideOf_8 : decode cX0_tideOf 8 = .ok (.getfield 49, 3) := by decide +kernel
theorem dX0_tideOf_11 : decode cX0_tideOf 11 = .ok (.bipush 12, 2) := by decide +kernel
theorem dX0_tideOf_13 : decode cX0_tideOf 13 = .ok (.if_icmp .gt 7, 3) := by decide +kernel
theorem dX0_tideOf_16 : decode cX0_tideOf 16 = .ok (.iload_n 1, 1) := by decide +kernel
theorem dX0_tideOf_17 : decode cX0_tideOf 17 = .ok (.ifCond .ge 5, 3) := by decide +kernel
theorem dX0_tideOf_20 : decode cX0_tideOf 20 = .ok (.iconst 0, 1) := by decide +kernel
theorem dX0_tideOf_21 : decode cX0_tideOf 21 = .ok (.ireturn, 1) := by decide +kernel
theorem dX0_tideOf_22 : decode cX0_tideOf 22 = .ok (.aload_n 0, 1) := by decide +kernel
theorem dX0_tideOf_23 : decode cX0_tideOf 23 = .ok (.getfield 24, 3) := by decide +kernel
theorem dX0_tideOf_26 : decode cX0_tideOf 26 = .ok (.iload_n 1, 1) := by decide +kernel
theorem dX0_tideOf_27 : decode cX0_tideOf 27 = .ok (.aload_n 0, 1) := by decide +kernel
theorem dX0_tideOf_28 : decode cX0_tideOf 28 = .ok (.getfield 49, 3) := by decide +kernel
theorem dX0_tideOf_31 : decode cX0_tideOf 31 = .ok (.irem, 1) := by decide +kernel
theorem dX0_tideOf_32 : decode cX0_tideOf 32 = .ok (.iaload, 1) := by decide +kernel
theorem dX0_tideOf_33 : decode cX0_tideOf 33 = .ok (.bipush 20, 2) := by decide +kernel
theorem dX0_tideOf_35 : decode cX0_tideOf 35 = .ok (.isub, 1) := by decide +kernel
theorem dX0_tideOf_36 : decode cX0_tideOf 36 = .ok (.ireturn, 1) := by decide +kernel
theorem dX0_mood_0 : decode cX0_mood 0 = .ok (.iload_n 1, 1) := by decide +kernel
theorem dX0_mood_1 : decode cX0_mood 1 = .ok (.ifCond .lt 23, 3) := by decide +kernel
theorem dX0_mood_4 : decode cX0_mood 4 = .ok (.iload_n 1, 1) := by decide +kernel
theorem dX0_mood_5 : decode cX0_mood 5 = .ok (.bipush 6, 2) := by decide +kernel
theorem dX0_mood_7 : decode cX0_mood 7 = .ok (.if_icmp .ge 17, 3) := by decide +kernel
theorem dX0_mood_10 : decode cX0_mood 10 = .ok (.iload_n 2, 1) := by decide +kernel
theorem dX0_mood_11 : decode cX0_mood 11 = .ok (.ifCond .lt 13, 3) := by decide +kernel
theorem dX0_mood_14 : decode cX0_mood 14 = .ok (.iload_n 2, 1) := by decide +kernel
theorem dX0_mood_15 : decode cX0_mood 15 = .ok (.bipush 6, 2) := by decide +kernel
theorem dX0_mood_17 : decode cX0_mood 17 = .ok (.if_icmp .ge 7, 3) := by decide +kernel
theorem dX0_mood_20 : decode cX0_mood 20 = .ok (.iconst 1, 1) := by decide +kernel
theorem dX0_mood_21 : decode cX0_mood 21 = .ok (.goto 4, 3) := by decide +kernel
theorem dX0_mood_24 : decode cX0_mood 24 = .ok (.iconst 0, 1) := by decide +kernel
theorem dX0_mood_25 : decode cX0_mood 25 = .ok (.istore_n 3, 1) := by decide +kernel
theorem dX0_mood_26 : decode cX0_mood 26 = .ok (.iload_n 3, 1) := by decide +kernel
theorem dX0_mood_27 : decode cX0_mood 27 = .ok (.ifCond .eq 17, 3) := by decide +kernel
theorem dX0_mood_30 : decode cX0_mood 30 = .ok (.aload_n 0, 1) := by decide +kernel
theorem dX0_mood_31 : decode cX0_mood 31 = .ok (.getfield 21, 3) := by decide +kernel
theorem dX0_mood_34 : decode cX0_mood 34 = .ok (.iload_n 1, 1) := by decide +kernel
theorem dX0_mood_35 : decode cX0_mood 35 = .ok (.bipush 6, 2) := by decide +kernel
theorem dX0_mood_37 : decode cX0_mood 37 = .ok (.imul, 1) := by decide +kernel
theorem dX0_mood_38 : decode cX0_mood 38 = .ok (.iload_n 2, 1) := by decide +kernel
theorem dX0_mood_39 : decode cX0_mood 39 = .ok (.iadd, 1) := by decide +kernel
theorem dX0_mood_40 : decode cX0_mood 40 = .ok (.iaload, 1) := by decide +kernel
theorem dX0_mood_41 : decode cX0_mood 41 = .ok (.goto 4, 3) := by decide +kernel
theorem dX0_mood_44 : decode cX0_mood 44 = .ok (.iconst 0, 1) := by decide +kernel
theorem dX0_mood_45 : decode cX0_mood 45 = .ok (.ireturn, 1) := by decide +kernel
theorem dX0_hasPair_0 : decode cX0_hasPair 0 = .ok (.aload_n 0, 1) := by decide +kernel
theorem dX0_hasPair_1 : decode cX0_hasPair 1 = .ok (.iload_n 1, 1) := by decide +kernel
theorem dX0_hasPair_2 : decode cX0_hasPair 2 = .ok (.invokevirtual 68, 3) := by decide +kernel
theorem dX0_hasPair_5 : decode cX0_hasPair 5 = .ok (.ifCond .eq 33, 3) := by decide +kernel
theorem dX0_hasPair_8 : decode cX0_hasPair 8 = .ok (.aload_n 0, 1) := by decide +kernel
theorem dX0_hasPair_9 : decode cX0_hasPair 9 = .ok (.iload_n 2, 1) := by decide +kernel
theorem dX0_hasPair_10 : decode cX0_hasPair 10 = .ok (.invokevirtual 68, 3) := by decide +kernel
theorem dX0_hasPair_13 : decode cX0_hasPair 13 = .ok (.ifCond .eq 25, 3) := by decide +kernel
theorem dX0_hasPair_16 : decode cX0_hasPair 16 = .ok (.aload_n 0, 1) := by decide +kernel
theorem dX0_hasPair_17 : decode cX0_hasPair 17 = .ok (.getfield 58, 3) := by decide +kernel
theorem dX0_hasPair_20 : decode cX0_hasPair 20 = .ok (.iload_n 1, 1) := by decide +kernel
theorem dX0_hasPair_21 : decode cX0_hasPair 21 = .ok (.bipush 6, 2) := by decide +kernel
theorem dX0_hasPair_23 : decode cX0_hasPair 23 = .ok (.imul, 1) := by decide +kernel
theorem dX0_hasPair_24 : decode cX0_hasPair 24 = .ok (.iload_n 2, 1) := by decide +kernel
theorem dX0_hasPair_25 : decode cX0_hasPair 25 = .ok (.iadd, 1) := by decide +kernel
theorem dX0_hasPair_26 : decode cX0_hasPair 26 = .ok (.lshr, 1) := by decide +kernel
theorem dX0_hasPair_27 : decode cX0_hasPair 27 = .ok (.lconst 1, 1) := by decide +kernel
theorem dX0_hasPair_28 : decode cX0_hasPair 28 = .ok (.land, 1) := by decide +kernel
theorem dX0_hasPair_29 : decode cX0_hasPair 29 = .ok (.lconst 0, 1) := by decide +kernel
theorem dX0_hasPair_30 : decode cX0_hasPair 30 = .ok (.lcmp, 1) := by decide +kernel
theorem dX0_hasPair_31 : decode cX0_hasPair 31 = .ok (.ifCond .eq 7, 3) := by decide +kernel
theorem dX0_hasPair_34 : decode cX0_hasPair 34 = .ok (.iconst 1, 1) := by decide +kernel
theorem dX0_hasPair_35 : decode cX0_hasPair 35 = .ok (.goto 4, 3) := by decide +kernel
theorem dX0_hasPair_38 : decode cX0_hasPair 38 = .ok (.iconst 0, 1) := by decide +kernel
theorem dX0_hasPair_39 : decode cX0_hasPair 39 = .ok (.ireturn, 1) := by decide +kernel
theorem dX0_pullBetween_0 : decode cX0_pullBetween 0 = .ok (.aload_n 0, 1) := by decide +kernel
theorem dX0_pullBetween_1 : decode cX0_pullBetween 1 = .ok (.iload_n 1, 1) := by decide +kernel
theorem dX0_pullBetween_2 : decode cX0_pullBetween 2 = .ok (.invokevirtual 68, 3) := by decide +kernel
theorem dX0_pullBetween_5 : decode cX0_pullBetween 5 = .ok (.ifCond .ne 5, 3) := by decide +kernel
theorem dX0_pullBetween_8 : decode cX0_pullBetween 8 = .ok (.iconst 0, 1) := by decide +kernel
theorem dX0_pullBetween_9 : decode cX0_pullBetween 9 = .ok (.ireturn, 1) := by decide +kernel
theorem dX0_pullBetween_10 : decode cX0_pullBetween 10 = .ok (.iload_n 2, 1) := by decide +kernel
theorem dX0_pullBetween_11 : decode cX0_pullBetween 11 = .ok (.ifCond .ne 12, 3) := by decide +kernel
theorem dX0_pullBetween_14 : decode cX0_pullBetween 14 = .ok (.aload_n 0, 1) := by decide +kernel
theorem dX0_pullBetween_15 : decode cX0_pullBetween 15 = .ok (.getfield 9, 3) := by decide +kernel
theorem dX0_pullBetween_18 : decode cX0_pullBetween 18 = .ok (.iload_n 1, 1) := by decide +kernel
theorem dX0_pullBetween_19 : decode cX0_pullBetween 19 = .ok (.iaload, 1) := by decide +kernel
theorem dX0_pullBetween_20 : decode cX0_pullBetween 20 = .ok (.goto 4, 3) := by decide +kernel
theorem dX0_pullBetween_23 : decode cX0_pullBetween 23 = .ok (.iload_n 2, 1) := by decide +kernel
theorem dX0_pullBetween_24 : decode cX0_pullBetween 24 = .ok (.istore 5, 2) := by decide +kernel
theorem dX0_pullBetween_26 : decode cX0_pullBetween 26 = .ok (.aload_n 0, 1) := by decide +kernel
theorem dX0_pullBetween_27 : decode cX0_pullBetween 27 = .ok (.iload_n 1, 1) := by decide +kernel
theorem dX0_pullBetween_28 : decode cX0_pullBetween 28 = .ok (.invokevirtual 72, 3) := by decide +kernel
theorem dX0_pullBetween_31 : decode cX0_pullBetween 31 = .ok (.ifCond .eq 8, 3) := by decide +kernel
theorem dX0_pullBetween_34 : decode cX0_pullBetween 34 = .ok (.iload 5, 2) := by decide +kernel
theorem dX0_pullBetween_36 : decode cX0_pullBetween 36 = .ok (.goto 24, 3) := by decide +kernel
theorem dX0_pullBetween_39 : decode cX0_pullBetween 39 = .ok (.iconst 0, 1) := by decide +kernel
theorem dX0_pullBetween_40 : decode cX0_pullBetween 40 = .ok (.iload 5, 2) := by decide +kernel
theorem dX0_pullBetween_42 : decode cX0_pullBetween 42 = .ok (.aload_n 0, 1) := by decide +kernel
theorem dX0_pullBetween_43 : decode cX0_pullBetween 43 = .ok (.iload_n 1, 1) := by decide +kernel
theorem dX0_pullBetween_44 : decode cX0_pullBetween 44 = .ok (.iload_n 3, 1) := by decide +kernel
theorem dX0_pullBetween_45 : decode cX0_pullBetween 45 = .ok (.invokevirtual 75, 3) := by decide +kernel
theorem dX0_pullBetween_48 : decode cX0_pullBetween 48 = .ok (.iadd, 1) := by decide +kernel
theorem dX0_pullBetween_49 : decode cX0_pullBetween 49 = .ok (.aload_n 0, 1) := by decide +kernel
theorem dX0_pullBetween_50 : decode cX0_pullBetween 50 = .ok (.iload_n 1, 1) := by decide +kernel
theorem dX0_pullBetween_51 : decode cX0_pullBetween 51 = .ok (.iload 4, 2) := by decide +kernel
theorem dX0_pullBetween_53 : decode cX0_pullBetween 53 = .ok (.invokevirtual 75, 3) := by decide +kernel
theorem dX0_pullBetween_56 : decode cX0_pullBetween 56 = .ok (.iadd, 1) := by decide +kernel
theorem dX0_pullBetween_57 : decode cX0_pullBetween 57 = .ok (.invokestatic 79, 3) := by decide +kernel
theorem dX0_pullBetween_60 : decode cX0_pullBetween 60 = .ok (.ireturn, 1) := by decide +kernel
theorem dX0_refresh_0 : decode cX0_refresh 0 = .ok (.iconst 0, 1) := by decide +kernel
theorem dX0_refresh_1 : decode cX0_refresh 1 = .ok (.istore 4, 2) := by decide +kernel
theorem dX0_refresh_3 : decode cX0_refresh 3 = .ok (.iload 4, 2) := by decide +kernel
theorem dX0_refresh_5 : decode cX0_refresh 5 = .ok (.aload_n 0, 1) := by decide +kernel
theorem dX0_refresh_6 : decode cX0_refresh 6 = .ok (.getfield 40, 3) := by decide +kernel
theorem dX0_refresh_9 : decode cX0_refresh 9 = .ok (.if_icmp .ge 44, 3) := by decide +kernel
theorem dX0_refresh_12 : decode cX0_refresh 12 = .ok (.iload 4, 2) := by decide +kernel
theorem dX0_refresh_14 : decode cX0_refresh 14 = .ok (.bipush 6, 2) := by decide +kernel
theorem dX0_refresh_16 : decode cX0_refresh 16 = .ok (.if_icmp .ge 37, 3) := by decide +kernel
theorem dX0_refresh_19 : decode cX0_refresh 19 = .ok (.aload_n 3, 1) := by decide +kernel
theorem dX0_refresh_20 : decode cX0_refresh 20 = .ok (.iload 4, 2) := by decide +kernel
theorem dX0_refresh_22 : decode cX0_refresh 22 = .ok (.aload_n 0, 1) := by decide +kernel
theorem dX0_refresh_23 : decode cX0_refresh 23 = .ok (.getfield 15, 3) := by decide +kernel
theorem dX0_refresh_26 : decode cX0_refresh 26 = .ok (.iload 4, 2) := by decide +kernel
theorem dX0_refresh_28 : decode cX0_refresh 28 = .ok (.iaload, 1) := by decide +kernel
theorem dX0_refresh_29 : decode cX0_refresh 29 = .ok (.aload_n 1, 1) := by decide +kernel
theorem dX0_refresh_30 : decode cX0_refresh 30 = .ok (.iload 4, 2) := by decide +kernel
theorem dX0_refresh_32 : decode cX0_refresh 32 = .ok (.iaload, 1) := by decide +kernel
theorem dX0_refresh_33 : decode cX0_refresh 33 = .ok (.aload_n 0, 1) := by decide +kernel
theorem dX0_refresh_34 : decode cX0_refresh 34 = .ok (.getfield 18, 3) := by decide +kernel
theorem dX0_refresh_37 : decode cX0_refresh 37 = .ok (.iload 4, 2) := by decide +kernel
theorem dX0_refresh_39 : decode cX0_refresh 39 = .ok (.iaload, 1) := by decide +kernel
theorem dX0_refresh_40 : decode cX0_refresh 40 = .ok (.iload_n 2, 1) := by decide +kernel
theorem dX0_refresh_41 : decode cX0_refresh 41 = .ok (.imul, 1) := by decide +kernel
theorem dX0_refresh_42 : decode cX0_refresh 42 = .ok (.iadd, 1) := by decide +kernel
theorem dX0_refresh_43 : decode cX0_refresh 43 = .ok (.invokestatic 84, 3) := by decide +kernel
theorem dX0_refresh_46 : decode cX0_refresh 46 = .ok (.iastore, 1) := by decide +kernel
theorem dX0_refresh_47 : decode cX0_refresh 47 = .ok (.iinc 4 1, 3) := by decide +kernel
theorem dX0_refresh_50 : decode cX0_refresh 50 = .ok (.goto (-47), 3) := by decide +kernel
theorem dX0_refresh_53 : decode cX0_refresh 53 = .ok (.return_, 1) := by decide +kernel
theorem dX0_addHorse_0 : decode cX0_addHorse 0 = .ok (.aload_n 0, 1) := by decide +kernel
theorem dX0_addHorse_1 : decode cX0_addHorse 1 = .ok (.getfield 40, 3) := by decide +kernel
theorem dX0_addHorse_4 : decode cX0_addHorse 4 = .ok (.bipush 6, 2) := by decide +kernel
theorem dX0_addHorse_6 : decode cX0_addHorse 6 = .ok (.if_icmp .ge 43, 3) := by decide +kernel
theorem dX0_addHorse_9 : decode cX0_addHorse 9 = .ok (.aload_n 0, 1) := by decide +kernel
theorem dX0_addHorse_10 : decode cX0_addHorse 10 = .ok (.getfield 9, 3) := by decide +kernel
theorem dX0_addHorse_13 : decode cX0_addHorse 13 = .ok (.aload_n 0, 1) := by decide +kernel
theorem dX0_addHorse_14 : decode cX0_addHorse 14 = .ok (.getfield 40, 3) := by decide +kernel
theorem dX0_addHorse_17 : decode cX0_addHorse 17 = .ok (.iload_n 1, 1) := by decide +kernel
theorem dX0_addHorse_18 : decode cX0_addHorse 18 = .ok (.iastore, 1) := by decide +kernel
theorem dX0_addHorse_19 : decode cX0_addHorse 19 = .ok (.aload_n 0, 1) := by decide +kernel
theorem dX0_addHorse_20 : decode cX0_addHorse 20 = .ok (.getfield 15, 3) := by decide +kernel
theorem dX0_addHorse_23 : decode cX0_addHorse 23 = .ok (.aload_n 0, 1) := by decide +kernel
theorem dX0_addHorse_24 : decode cX0_addHorse 24 = .ok (.getfield 40, 3) := by decide +kernel
theorem dX0_addHorse_27 : decode cX0_addHorse 27 = .ok (.iload_n 2, 1) := by decide +kernel
theorem dX0_addHorse_28 : decode cX0_addHorse 28 = .ok (.iastore, 1) := by decide +kernel
theorem dX0_addHorse_29 : decode cX0_addHorse 29 = .ok (.aload_n 0, 1) := by decide +kernel
theorem dX0_addHorse_30 : decode cX0_addHorse 30 = .ok (.getfield 18, 3) := by decide +kernel
theorem dX0_addHorse_33 : decode cX0_addHorse 33 = .ok (.aload_n 0, 1) := by decide +kernel
theorem dX0_addHorse_34 : decode cX0_addHorse 34 = .ok (.getfield 40, 3) := by decide +kernel
theorem dX0_addHorse_37 : decode cX0_addHorse 37 = .ok (.iload_n 3, 1) := by decide +kernel
theorem dX0_addHorse_38 : decode cX0_addHorse 38 = .ok (.iastore, 1) := by decide +kernel
theorem dX0_addHorse_39 : decode cX0_addHorse 39 = .ok (.aload_n 0, 1) := by decide +kernel
theorem dX0_addHorse_40 : decode cX0_addHorse 40 = .ok (.dup, 1) := by decide +kernel
theorem dX0_addHorse_41 : decode cX0_addHorse 41 = .ok (.getfield 40, 3) := by decide +kernel
theorem dX0_addHorse_44 : decode cX0_addHorse 44 = .ok (.iconst 1, 1) := by decide +kernel
theorem dX0_addHorse_45 : decode cX0_addHorse 45 = .ok (.iadd, 1) := by decide +kernel
theorem dX0_addHorse_46 : decode cX0_addHorse 46 = .ok (.putfield 40, 3) := by decide +kernel
theorem dX0_addHorse_49 : decode cX0_addHorse 49 = .ok (.return_, 1) := by decide +kernel
theorem dX0_addBeside_0 : decode cX0_addBeside 0 = .ok (.aload_n 0, 1) := by decide +kernel
theorem dX0_addBeside_1 : decode cX0_addBeside 1 = .ok (.iload_n 1, 1) := by decide +kernel
theorem dX0_addBeside_2 : decode cX0_addBeside 2 = .ok (.invokevirtual 68, 3) := by decide +kernel
theorem dX0_addBeside_5 : decode cX0_addBeside 5 = .ok (.ifCond .eq 50, 3) := by decide +kernel
theorem dX0_addBeside_8 : decode cX0_addBeside 8 = .ok (.aload_n 0, 1) := by decide +kernel
theorem dX0_addBeside_9 : decode cX0_addBeside 9 = .ok (.iload_n 2, 1) := by decide +kernel
theorem dX0_addBeside_10 : decode cX0_addBeside 10 = .ok (.invokevirtual 68, 3) := by decide +kernel
theorem dX0_addBeside_13 : decode cX0_addBeside 13 = .ok (.ifCond .eq 42, 3) := by decide +kernel
theorem dX0_addBeside_16 : decode cX0_addBeside 16 = .ok (.aload_n 0, 1) := by decide +kernel
theorem dX0_addBeside_17 : decode cX0_addBeside 17 = .ok (.getfield 21, 3) := by decide +kernel
theorem dX0_addBeside_20 : decode cX0_addBeside 20 = .ok (.iload_n 1, 1) := by decide +kernel
theorem dX0_addBeside_21 : decode cX0_addBeside 21 = .ok (.bipush 6, 2) := by decide +kernel
theorem dX0_addBeside_23 : decode cX0_addBeside 23 = .ok (.imul, 1) := by decide +kernel
theorem dX0_addBeside_24 : decode cX0_addBeside 24 = .ok (.iload_n 2, 1) := by decide +kernel
theorem dX0_addBeside_25 : decode cX0_addBeside 25 = .ok (.iadd, 1) := by decide +kernel
theorem dX0_addBeside_26 : decode cX0_addBeside 26 = .ok (.iload_n 3, 1) := by decide +kernel
theorem dX0_addBeside_27 : decode cX0_addBeside 27 = .ok (.iastore, 1) := by decide +kernel
theorem dX0_addBeside_28 : decode cX0_addBeside 28 = .ok (.aload_n 0, 1) := by decide +kernel
theorem dX0_addBeside_29 : decode cX0_addBeside 29 = .ok (.dup, 1) := by decide +kernel
theorem dX0_addBeside_30 : decode cX0_addBeside 30 = .ok (.getfield 58, 3) := by decide +kernel
theorem dX0_addBeside_33 : decode cX0_addBeside 33 = .ok (.lconst 1, 1) := by decide +kernel
theorem dX0_addBeside_34 : decode cX0_addBeside 34 = .ok (.iload_n 1, 1) := by decide +kernel
theorem dX0_addBeside_35 : decode cX0_addBeside 35 = .ok (.bipush 6, 2) := by decide +kernel
theorem dX0_addBeside_37 : decode cX0_addBeside 37 = .ok (.imul, 1) := by decide +kernel
theorem dX0_addBeside_38 : decode cX0_addBeside 38 = .ok (.iload_n 2, 1) := by decide +kernel
theorem dX0_addBeside_39 : decode cX0_addBeside 39 = .ok (.iadd, 1) := by decide +kernel
theorem dX0_addBeside_40 : decode cX0_addBeside 40 = .ok (.lshl, 1) := by decide +kernel
theorem dX0_addBeside_41 : decode cX0_addBeside 41 = .ok (.lor, 1) := by decide +kernel
theorem dX0_addBeside_42 : decode cX0_addBeside 42 = .ok (.putfield 58, 3) := by decide +kernel
theorem dX0_addBeside_45 : decode cX0_addBeside 45 = .ok (.aload_n 0, 1) := by decide +kernel
theorem dX0_addBeside_46 : decode cX0_addBeside 46 = .ok (.dup, 1) := by decide +kernel
theorem dX0_addBeside_47 : decode cX0_addBeside 47 = .ok (.getfield 46, 3) := by decide +kernel
theorem dX0_addBeside_50 : decode cX0_addBeside 50 = .ok (.iconst 1, 1) := by decide +kernel
theorem dX0_addBeside_51 : decode cX0_addBeside 51 = .ok (.iadd, 1) := by decide +kernel
theorem dX0_addBeside_52 : decode cX0_addBeside 52 = .ok (.putfield 46, 3) := by decide +kernel
theorem dX0_addBeside_55 : decode cX0_addBeside 55 = .ok (.return_, 1) := by decide +kernel
theorem dX0_addTide_0 : decode cX0_addTide 0 = .ok (.aload_n 0, 1) := by decide +kernel
theorem dX0_addTide_1 : decode cX0_addTide 1 = .ok (.getfield 49, 3) := by decide +kernel
theorem dX0_addTide_4 : decode cX0_addTide 4 = .ok (.bipush 12, 2) := by decide +kernel
theorem dX0_addTide_6 : decode cX0_addTide 6 = .ok (.if_icmp .ge 23, 3) := by decide +kernel
theorem dX0_addTide_9 : decode cX0_addTide 9 = .ok (.aload_n 0, 1) := by decide +kernel
theorem dX0_addTide_10 : decode cX0_addTide 10 = .ok (.getfield 24, 3) := by decide +kernel
theorem dX0_addTide_13 : decode cX0_addTide 13 = .ok (.aload_n 0, 1) := by decide +kernel
theorem dX0_addTide_14 : decode cX0_addTide 14 = .ok (.getfield 49, 3) := by decide +kernel
theorem dX0_addTide_17 : decode cX0_addTide 17 = .ok (.iload_n 1, 1) := by decide +kernel
theorem dX0_addTide_18 : decode cX0_addTide 18 = .ok (.iastore, 1) := by decide +kernel
theorem dX0_addTide_19 : decode cX0_addTide 19 = .ok (.aload_n 0, 1) := by decide +kernel
theorem dX0_addTide_20 : decode cX0_addTide 20 = .ok (.dup, 1) := by decide +kernel
theorem dX0_addTide_21 : decode cX0_addTide 21 = .ok (.getfield 49, 3) := by decide +kernel
theorem dX0_addTide_24 : decode cX0_addTide 24 = .ok (.iconst 1, 1) := by decide +kernel
theorem dX0_addTide_25 : decode cX0_addTide 25 = .ok (.iadd, 1) := by decide +kernel
theorem dX0_addTide_26 : decode cX0_addTide 26 = .ok (.putfield 49, 3) := by decide +kernel
theorem dX0_addTide_29 : decode cX0_addTide 29 = .ok (.return_, 1) := by decide +kernel
theorem dX0_addCart_0 : decode cX0_addCart 0 = .ok (.aload_n 0, 1) := by decide +kernel
theorem dX0_addCart_1 : decode cX0_addCart 1 = .ok (.getfield 52, 3) := by decide +kernel
theorem dX0_addCart_4 : decode cX0_addCart 4 = .ok (.iconst 4, 1) := by decide +kernel
theorem dX0_addCart_5 : decode cX0_addCart 5 = .ok (.if_icmp .ge 23, 3) := by decide +kernel
theorem dX0_addCart_8 : decode cX0_addCart 8 = .ok (.aload_n 0, 1) := by decide +kernel
theorem dX0_addCart_9 : decode cX0_addCart 9 = .ok (.getfield 27, 3) := by decide +kernel
theorem dX0_addCart_12 : decode cX0_addCart 12 = .ok (.aload_n 0, 1) := by decide +kernel
theorem dX0_addCart_13 : decode cX0_addCart 13 = .ok (.getfield 52, 3) := by decide +kernel
theorem dX0_addCart_16 : decode cX0_addCart 16 = .ok (.iload_n 1, 1) := by decide +kernel
theorem dX0_addCart_17 : decode cX0_addCart 17 = .ok (.iastore, 1) := by decide +kernel
theorem dX0_addCart_18 : decode cX0_addCart 18 = .ok (.aload_n 0, 1) := by decide +kernel
theorem dX0_addCart_19 : decode cX0_addCart 19 = .ok (.dup, 1) := by decide +kernel
theorem dX0_addCart_20 : decode cX0_addCart 20 = .ok (.getfield 52, 3) := by decide +kernel
theorem dX0_addCart_23 : decode cX0_addCart 23 = .ok (.iconst 1, 1) := by decide +kernel
theorem dX0_addCart_24 : decode cX0_addCart 24 = .ok (.iadd, 1) := by decide +kernel
theorem dX0_addCart_25 : decode cX0_addCart 25 = .ok (.putfield 52, 3) := by decide +kernel
theorem dX0_addCart_28 : decode cX0_addCart 28 = .ok (.return_, 1) := by decide +kernel
theorem dX1_init_0 : decode cX1_init 0 = .ok (.aload_n 0, 1) := by decide +kernel
theorem dX1_init_1 : decode cX1_init 1 = .ok (.invokespecial 3, 3) := by decide +kernel
theorem dX1_init_4 : decode cX1_init 4 = .ok (.aload_n 0, 1) := by decide +kernel
theorem dX1_init_5 : decode cX1_init 5 = .ok (.iconst 4, 1) := by decide +kernel
theorem dX1_init_6 : decode cX1_init 6 = .ok (.newarray .int, 2) := by decide +kernel
theorem dX1_init_8 : decode cX1_init 8 = .ok (.putfield 9, 3) := by decide +kernel
theorem dX1_init_11 : decode cX1_init 11 = .ok (.aload_n 0, 1) := by decide +kernel
theorem dX1_init_12 : decode cX1_init 12 = .ok (.iconst 4, 1) := by decide +kernel
theorem dX1_init_13 : decode cX1_init 13 = .ok (.newarray .int, 2) := by decide +kernel
theorem dX1_init_15 : decode cX1_init 15 = .ok (.putfield 15, 3) := by decide +kernel
theorem dX1_init_18 : decode cX1_init 18 = .ok (.aload_n 0, 1) := by decide +kernel
theorem dX1_init_19 : decode cX1_init 19 = .ok (.iconst 5, 1) := by decide +kernel
theorem dX1_init_20 : decode cX1_init 20 = .ok (.bipush 6, 2) := by decide +kernel
theorem dX1_init_22 : decode cX1_init 22 = .ok (.multianewarray 18 2, 4) := by decide +kernel
theorem dX1_init_26 : decode cX1_init 26 = .ok (.putfield 20, 3) := by decide +kernel
theorem dX1_init_29 : decode cX1_init 29 = .ok (.aload_n 0, 1) := by decide +kernel
theorem dX1_init_30 : decode cX1_init 30 = .ok (.aload_n 1, 1) := by decide +kernel
theorem dX1_init_31 : decode cX1_init 31 = .ok (.putfield 23, 3) := by decide +kernel
theorem dX1_init_34 : decode cX1_init 34 = .ok (.aload_n 0, 1) := by decide +kernel
theorem dX1_init_35 : decode cX1_init 35 = .ok (.aload_n 2, 1) := by decide +kernel
theorem dX1_init_36 : decode cX1_init 36 = .ok (.putfield 27, 3) := by decide +kernel
theorem dX1_init_39 : decode cX1_init 39 = .ok (.aload_n 0, 1) := by decide +kernel
theorem dX1_init_40 : decode cX1_init 40 = .ok (.aload_n 3, 1) := by decide +kernel
theorem dX1_init_41 : decode cX1_init 41 = .ok (.putfield 31, 3) := by decide +kernel
theorem dX1_init_44 : decode cX1_init 44 = .ok (.return_, 1) := by decide +kernel
theorem dX1_find_0 : decode cX1_find 0 = .ok (.aload_n 0, 1) := by decide +kernel
theorem dX1_find_1 : decode cX1_find 1 = .ok (.getfield 35, 3) := by decide +kernel
theorem dX1_find_4 : decode cX1_find 4 = .ok (.ifCond .ne 44, 3) := by decide +kernel
theorem dX1_find_7 : decode cX1_find 7 = .ok (.aload_n 0, 1) := by decide +kernel
theorem dX1_find_8 : decode cX1_find 8 = .ok (.iconst (-1), 1) := by decide +kernel
theorem dX1_find_9 : decode cX1_find 9 = .ok (.putfield 39, 3) := by decide +kernel
theorem dX1_find_12 : decode cX1_find 12 = .ok (.aload_n 1, 1) := by decide +kernel
theorem dX1_find_13 : decode cX1_find 13 = .ok (.iconst 0, 1) := by decide +kernel
theorem dX1_find_14 : decode cX1_find 14 = .ok (.aload_n 0, 1) := by decide +kernel
theorem dX1_find_15 : decode cX1_find 15 = .ok (.getfield 20, 3) := by decide +kernel
theorem dX1_find_18 : decode cX1_find 18 = .ok (.iconst 0, 1) := by decide +kernel
theorem dX1_find_19 : decode cX1_find 19 = .ok (.aaload, 1) := by decide +kernel
theorem dX1_find_20 : decode cX1_find 20 = .ok (.iconst 0, 1) := by decide +kernel
theorem dX1_find_21 : decode cX1_find 21 = .ok (.bipush 6, 2) := by decide +kernel
theorem dX1_find_23 : decode cX1_find 23 = .ok (.invokestatic 43, 3) := by decide +kernel
theorem dX1_find_26 : decode cX1_find 26 = .ok (.aload_n 0, 1) := by decide +kernel
theorem dX1_find_27 : decode cX1_find 27 = .ok (.iconst 0, 1) := by decide +kernel
theorem dX1_find_28 : decode cX1_find 28 = .ok (.iconst 1, 1) := by decide +kernel
theorem dX1_find_29 : decode cX1_find 29 = .ok (.aload_n 0, 1) := by decide +kernel
theorem dX1_find_30 : decode cX1_find 30 = .ok (.getfield 23, 3) := by decide +kernel
theorem dX1_find_33 : decode cX1_find 33 = .ok (.getfield 49, 3) := by decide +kernel
theorem dX1_find_36 : decode cX1_find 36 = .ok (.ishl, 1) := by decide +kernel
theorem dX1_find_37 : decode cX1_find 37 = .ok (.iconst 1, 1) := by decide +kernel
theorem dX1_find_38 : decode cX1_find 38 = .ok (.isub, 1) := by decide +kernel
theorem dX1_find_39 : decode cX1_find 39 = .ok (.iload_n 2, 1) := by decide +kernel
theorem dX1_find_40 : decode cX1_find 40 = .ok (.invokevirtual 54, 3) := by decide +kernel
theorem dX1_find_43 : decode cX1_find 43 = .ok (.aload_n 0, 1) := by decide +kernel
theorem dX1_find_44 : decode cX1_find 44 = .ok (.iconst 1, 1) := by decide +kernel
theorem dX1_find_45 : decode cX1_find 45 = .ok (.putfield 35, 3) := by decide +kernel
theorem dX1_find_48 : decode cX1_find 48 = .ok (.return_, 1) := by decide +kernel
theorem dX1_takeOver_0 : decode cX1_takeOver 0 = .ok (.iload_n 2, 1) := by decide +kernel
theorem dX1_takeOver_1 : decode cX1_takeOver 1 = .ok (.ifCond .ne 23, 3) := by decide +kernel
theorem dX1_takeOver_4 : decode cX1_takeOver 4 = .ok (.aload_n 0, 1) := by decide +kernel
theorem dX1_takeOver_5 : decode cX1_takeOver 5 = .ok (.iload_n 1, 1) := by decide +kernel
theorem dX1_takeOver_6 : decode cX1_takeOver 6 = .ok (.putfield 39, 3) := by decide +kernel
theorem dX1_takeOver_9 : decode cX1_takeOver 9 = .ok (.aload_n 0, 1) := by decide +kernel
theorem dX1_takeOver_10 : decode cX1_takeOver 10 = .ok (.getfield 15, 3) := by decide +kernel
theorem dX1_takeOver_13 : decode cX1_takeOver 13 = .ok (.iconst 0, 1) := by decide +kernel
theorem dX1_takeOver_14 : decode cX1_takeOver 14 = .ok (.aload_n 0, 1) := by decide +kernel
theorem dX1_takeOver_15 : decode cX1_takeOver 15 = .ok (.getfield 9, 3) := by decide +kernel
theorem dX1_takeOver_18 : decode cX1_takeOver 18 = .ok (.iconst 0, 1) := by decide +kernel
theorem dX1_takeOver_19 : decode cX1_takeOver 19 = .ok (.iconst 4, 1) := by decide +kernel
theorem dX1_takeOver_20 : decode cX1_takeOver 20 = .ok (.invokestatic 43, 3) := by decide +kernel
theorem dX1_takeOver_23 : decode cX1_takeOver 23 = .ok (.return_, 1) := by decide +kernel
theorem dX1_takeOver_24 : decode cX1_takeOver 24 = .ok (.iconst 1, 1) := by decide +kernel
theorem dX1_takeOver_25 : decode cX1_takeOver 25 = .ok (.istore 4, 2) := by decide +kernel
theorem dX1_takeOver_27 : decode cX1_takeOver 27 = .ok (.iload 4, 2) := by decide +kernel
theorem dX1_takeOver_29 : decode cX1_takeOver 29 = .ok (.iload_n 2, 1) := by decide +kernel
theorem dX1_takeOver_30 : decode cX1_takeOver 30 = .ok (.if_icmp .gt 57, 3) := by decide +kernel
theorem dX1_takeOver_33 : decode cX1_takeOver 33 = .ok (.aload_n 0, 1) := by decide +kernel
theorem dX1_takeOver_34 : decode cX1_takeOver 34 = .ok (.getfield 39, 3) := by decide +kernel
theorem dX1_takeOver_37 : decode cX1_takeOver 37 = .ok (.iconst (-1), 1) := by decide +kernel
theorem dX1_takeOver_38 : decode cX1_takeOver 38 = .ok (.if_icmp .eq 13, 3) := by decide +kernel
theorem dX1_takeOver_41 : decode cX1_takeOver 41 = .ok (.iload_n 1, 1) := by decide +kernel
theorem dX1_takeOver_42 : decode cX1_takeOver 42 = .ok (.iconst 1, 1) := by decide +kernel
theorem dX1_takeOver_43 : decode cX1_takeOver 43 = .ok (.iadd, 1) := by decide +kernel
theorem dX1_takeOver_44 : decode cX1_takeOver 44 = .ok (.aload_n 0, 1) := by decide +kernel
theorem dX1_takeOver_45 : decode cX1_takeOver 45 = .ok (.getfield 39, 3) := by decide +kernel
theorem dX1_takeOver_48 : decode cX1_takeOver 48 = .ok (.if_icmp .ge 7, 3) := by decide +kernel
theorem dX1_takeOver_51 : decode cX1_takeOver 51 = .ok (.iconst 1, 1) := by decide +kernel
theorem dX1_takeOver_52 : decode cX1_takeOver 52 = .ok (.goto 4, 3) := by decide +kernel
theorem dX1_takeOver_55 : decode cX1_takeOver 55 = .ok (.iconst 0, 1) := by decide +kernel
theorem dX1_takeOver_56 : decode cX1_takeOver 56 = .ok (.istore 5, 2) := by decide +kernel
theorem dX1_takeOver_58 : decode cX1_takeOver 58 = .ok (.iload 5, 2) := by decide +kernel
theorem dX1_takeOver_60 : decode cX1_takeOver 60 = .ok (.ifCond .eq 21, 3) := by decide +kernel
theorem dX1_takeOver_63 : decode cX1_takeOver 63 = .ok (.iload 4, 2) := by decide +kernel
theorem dX1_takeOver_65 : decode cX1_takeOver 65 = .ok (.iload_n 2, 1) := by decide +kernel
theorem dX1_takeOver_66 : decode cX1_takeOver 66 = .ok (.iand, 1) := by decide +kernel
theorem dX1_takeOver_67 : decode cX1_takeOver 67 = .ok (.iload 4, 2) := by decide +kernel
theorem dX1_takeOver_69 : decode cX1_takeOver 69 = .ok (.if_icmp .ne 12, 3) := by decide +kernel
theorem dX1_takeOver_72 : decode cX1_takeOver 72 = .ok (.aload_n 0, 1) := by decide +kernel
theorem dX1_takeOver_73 : decode cX1_takeOver 73 = .ok (.iload_n 1, 1) := by decide +kernel
theorem dX1_takeOver_74 : decode cX1_takeOver 74 = .ok (.iload 4, 2) := by decide +kernel
theorem dX1_takeOver_76 : decode cX1_takeOver 76 = .ok (.iload_n 2, 1) := by decide +kernel
theorem dX1_takeOver_77 : decode cX1_takeOver 77 = .ok (.iload_n 3, 1) := by decide +kernel
theorem dX1_takeOver_78 : decode cX1_takeOver 78 = .ok (.invokevirtual 58, 3) := by decide +kernel
theorem dX1_takeOver_81 : decode cX1_takeOver 81 = .ok (.iinc 4 1, 3) := by decide +kernel
theorem dX1_takeOver_84 : decode cX1_takeOver 84 = .ok (.goto (-57), 3) := by decide +kernel
theorem dX1_takeOver_87 : decode cX1_takeOver 87 = .ok (.return_, 1) := by decide +kernel
theorem dX1_takeSet_0 : decode cX1_takeSet 0 = .ok (.iload_n 1, 1) := by decide +kernel
theorem dX1_takeSet_1 : decode cX1_takeSet 1 = .ok (.ifCond .lt 8, 3) := by decide +kernel
theorem dX1_takeSet_4 : decode cX1_takeSet 4 = .ok (.iload_n 1, 1) := by decide +kernel
theorem dX1_takeSet_5 : decode cX1_takeSet 5 = .ok (.iconst 4, 1) := by decide +kernel
theorem dX1_takeSet_6 : decode cX1_takeSet 6 = .ok (.if_icmp .lt 4, 3) := by decide +kernel
theorem dX1_takeSet_9 : decode cX1_takeSet 9 = .ok (.return_, 1) := by decide +kernel
theorem dX1_takeSet_10 : decode cX1_takeSet 10 = .ok (.aload_n 0, 1) := by decide +kernel
theorem dX1_takeSet_11 : decode cX1_takeSet 11 = .ok (.getfield 23, 3) := by decide +kernel
theorem dX1_takeSet_14 : decode cX1_takeSet 14 = .ok (.iload 4, 2) := by decide +kernel
theorem dX1_takeSet_16 : decode cX1_takeSet 16 = .ok (.invokevirtual 62, 3) := by decide +kernel
theorem dX1_takeSet_19 : decode cX1_takeSet 19 = .ok (.aload_n 0, 1) := by decide +kernel
theorem dX1_takeSet_20 : decode cX1_takeSet 20 = .ok (.iload_n 2, 1) := by decide +kernel
theorem dX1_takeSet_21 : decode cX1_takeSet 21 = .ok (.invokevirtual 66, 3) := by decide +kernel
theorem dX1_takeSet_24 : decode cX1_takeSet 24 = .ok (.isub, 1) := by decide +kernel
theorem dX1_takeSet_25 : decode cX1_takeSet 25 = .ok (.istore 5, 2) := by decide +kernel
theorem dX1_takeSet_27 : decode cX1_takeSet 27 = .ok (.aload_n 0, 1) := by decide +kernel
theorem dX1_takeSet_28 : decode cX1_takeSet 28 = .ok (.getfield 31, 3) := by decide +kernel
theorem dX1_takeSet_31 : decode cX1_takeSet 31 = .ok (.aload_n 0, 1) := by decide +kernel
theorem dX1_takeSet_32 : decode cX1_takeSet 32 = .ok (.getfield 20, 3) := by decide +kernel
theorem dX1_takeSet_35 : decode cX1_takeSet 35 = .ok (.iload_n 1, 1) := by decide +kernel
theorem dX1_takeSet_36 : decode cX1_takeSet 36 = .ok (.aaload, 1) := by decide +kernel
theorem dX1_takeSet_37 : decode cX1_takeSet 37 = .ok (.iload 5, 2) := by decide +kernel
theorem dX1_takeSet_39 : decode cX1_takeSet 39 = .ok (.iconst (-1), 1) := by decide +kernel
theorem dX1_takeSet_40 : decode cX1_takeSet 40 = .ok (.invokevirtual 69, 3) := by decide +kernel
theorem dX1_takeSet_43 : decode cX1_takeSet 43 = .ok (.ifCond .eq 59, 3) := by decide +kernel
theorem dX1_takeSet_46 : decode cX1_takeSet 46 = .ok (.aload_n 0, 1) := by decide +kernel
theorem dX1_takeSet_47 : decode cX1_takeSet 47 = .ok (.getfield 27, 3) := by decide +kernel
theorem dX1_takeSet_50 : decode cX1_takeSet 50 = .ok (.aload_n 0, 1) := by decide +kernel
theorem dX1_takeSet_51 : decode cX1_takeSet 51 = .ok (.getfield 31, 3) := by decide +kernel
theorem dX1_takeSet_54 : decode cX1_takeSet 54 = .ok (.getfield 75, 3) := by decide +kernel
theorem dX1_takeSet_57 : decode cX1_takeSet 57 = .ok (.aload_n 0, 1) := by decide +kernel
theorem dX1_takeSet_58 : decode cX1_takeSet 58 = .ok (.getfield 31, 3) := by decide +kernel
theorem dX1_takeSet_61 : decode cX1_takeSet 61 = .ok (.getfield 78, 3) := by decide +kernel
theorem dX1_takeSet_64 : decode cX1_takeSet 64 = .ok (.aload_n 0, 1) := by decide +kernel
theorem dX1_takeSet_65 : decode cX1_takeSet 65 = .ok (.getfield 20, 3) := by decide +kernel
theorem dX1_takeSet_68 : decode cX1_takeSet 68 = .ok (.iload_n 1, 1) := by decide +kernel
theorem dX1_takeSet_69 : decode cX1_takeSet 69 = .ok (.aaload, 1) := by decide +kernel
theorem dX1_takeSet_70 : decode cX1_takeSet 70 = .ok (.aload_n 0, 1) := by decide +kernel
theorem dX1_takeSet_71 : decode cX1_takeSet 71 = .ok (.getfield 20, 3) := by decide +kernel
theorem dX1_takeSet_74 : decode cX1_takeSet 74 = .ok (.iload_n 1, 1) := by decide +kernel
theorem dX1_takeSet_75 : decode cX1_takeSet 75 = .ok (.iconst 1, 1) := by decide +kernel
theorem dX1_takeSet_76 : decode cX1_takeSet 76 = .ok (.iadd, 1) := by decide +kernel
theorem dX1_takeSet_77 : decode cX1_takeSet 77 = .ok (.aaload, 1) := by decide +kernel
theorem dX1_takeSet_78 : decode cX1_takeSet 78 = .ok (.invokevirtual 81, 3) := by decide +kernel
theorem dX1_takeSet_81 : decode cX1_takeSet 81 = .ok (.aload_n 0, 1) := by decide +kernel
theorem dX1_takeSet_82 : decode cX1_takeSet 82 = .ok (.getfield 15, 3) := by decide +kernel
theorem dX1_takeSet_85 : decode cX1_takeSet 85 = .ok (.iload_n 1, 1) := by decide +kernel
theorem dX1_takeSet_86 : decode cX1_takeSet 86 = .ok (.iload_n 2, 1) := by decide +kernel
theorem dX1_takeSet_87 : decode cX1_takeSet 87 = .ok (.iastore, 1) := by decide +kernel
theorem dX1_takeSet_88 : decode cX1_takeSet 88 = .ok (.aload_n 0, 1) := by decide +kernel
theorem dX1_takeSet_89 : decode cX1_takeSet 89 = .ok (.iload_n 1, 1) := by decide +kernel
theorem dX1_takeSet_90 : decode cX1_takeSet 90 = .ok (.iconst 1, 1) := by decide +kernel
theorem dX1_takeSet_91 : decode cX1_takeSet 91 = .ok (.iadd, 1) := by decide +kernel
theorem dX1_takeSet_92 : decode cX1_takeSet 92 = .ok (.iload_n 3, 1) := by decide +kernel
theorem dX1_takeSet_93 : decode cX1_takeSet 93 = .ok (.iload_n 2, 1) := by decide +kernel
theorem dX1_takeSet_94 : decode cX1_takeSet 94 = .ok (.isub, 1) := by decide +kernel
theorem dX1_takeSet_95 : decode cX1_takeSet 95 = .ok (.iload 4, 2) := by decide +kernel
theorem dX1_takeSet_97 : decode cX1_takeSet 97 = .ok (.iconst 1, 1) := by decide +kernel
theorem dX1_takeSet_98 : decode cX1_takeSet 98 = .ok (.iadd, 1) := by decide +kernel
theorem dX1_takeSet_99 : decode cX1_takeSet 99 = .ok (.invokevirtual 54, 3) := by decide +kernel
theorem dX1_takeSet_102 : decode cX1_takeSet 102 = .ok (.return_, 1) := by decide +kernel
theorem dX1_weight_0 : decode cX1_weight 0 = .ok (.iconst 0, 1) := by decide +kernel
theorem dX1_weight_1 : decode cX1_weight 1 = .ok (.istore_n 2, 1) := by decide +kernel
theorem dX1_weight_2 : decode cX1_weight 2 = .ok (.iconst 0, 1) := by decide +kernel
theorem dX1_weight_3 : decode cX1_weight 3 = .ok (.istore_n 3, 1) := by decide +kernel
theorem dX1_weight_4 : decode cX1_weight 4 = .ok (.iload_n 3, 1) := by decide +kernel
theorem dX1_weight_5 : decode cX1_weight 5 = .ok (.aload_n 0, 1) := by decide +kernel
theorem dX1_weight_6 : decode cX1_weight 6 = .ok (.getfield 23, 3) := by decide +kernel
theorem dX1_weight_9 : decode cX1_weight 9 = .ok (.getfield 49, 3) := by decide +kernel
theorem dX1_weight_12 : decode cX1_weight 12 = .ok (.if_icmp .ge 34, 3) := by decide +kernel
theorem dX1_weight_15 : decode cX1_weight 15 = .ok (.iload_n 3, 1) := by decide +kernel
theorem dX1_weight_16 : decode cX1_weight 16 = .ok (.iconst 4, 1) := by decide +kernel
theorem dX1_weight_17 : decode cX1_weight 17 = .ok (.if_icmp .ge 29, 3) := by decide +kernel
theorem dX1_weight_20 : decode cX1_weight 20 = .ok (.iload_n 1, 1) := by decide +kernel
theorem dX1_weight_21 : decode cX1_weight 21 = .ok (.iload_n 3, 1) := by decide +kernel
theorem dX1_weight_22 : decode cX1_weight 22 = .ok (.ishr, 1) := by decide +kernel
theorem dX1_weight_23 : decode cX1_weight 23 = .ok (.iconst 1, 1) := by decide +kernel
theorem dX1_weight_24 : decode cX1_weight 24 = .ok (.iand, 1) := by decide +kernel
theorem dX1_weight_25 : decode cX1_weight 25 = .ok (.ifCond .eq 15, 3) := by decide +kernel
theorem dX1_weight_28 : decode cX1_weight 28 = .ok (.iload_n 2, 1) := by decide +kernel
theorem dX1_weight_29 : decode cX1_weight 29 = .ok (.aload_n 0, 1) := by decide +kernel
theorem dX1_weight_30 : decode cX1_weight 30 = .ok (.getfield 23, 3) := by decide +kernel
theorem dX1_weight_33 : decode cX1_weight 33 = .ok (.getfield 87, 3) := by decide +kernel
theorem dX1_weight_36 : decode cX1_weight 36 = .ok (.iload_n 3, 1) := by decide +kernel
theorem dX1_weight_37 : decode cX1_weight 37 = .ok (.iaload, 1) := by decide +kernel
theorem dX1_weight_38 : decode cX1_weight 38 = .ok (.iadd, 1) := by decide +kernel
theorem dX1_weight_39 : decode cX1_weight 39 = .ok (.istore_n 2, 1) := by decide +kernel
theorem dX1_weight_40 : decode cX1_weight 40 = .ok (.iinc 3 1, 3) := by decide +kernel
theorem dX1_weight_43 : decode cX1_weight 43 = .ok (.goto (-39), 3) := by decide +kernel
theorem dX1_weight_46 : decode cX1_weight 46 = .ok (.iload_n 2, 1) := by decide +kernel
theorem dX1_weight_47 : decode cX1_weight 47 = .ok (.ireturn, 1) := by decide +kernel
theorem dX2_init_0 : decode cX2_init 0 = .ok (.aload_n 0, 1) := by decide +kernel
theorem dX2_init_1 : decode cX2_init 1 = .ok (.invokespecial 3, 3) := by decide +kernel
theorem dX2_init_4 : decode cX2_init 4 = .ok (.aload_n 0, 1) := by decide +kernel
theorem dX2_init_5 : decode cX2_init 5 = .ok (.sipush 687, 3) := by decide +kernel
theorem dX2_init_8 : decode cX2_init 8 = .ok (.newarray .int, 2) := by decide +kernel
theorem dX2_init_10 : decode cX2_init 10 = .ok (.putfield 11, 3) := by decide +kernel
theorem dX2_init_13 : decode cX2_init 13 = .ok (.aload_n 0, 1) := by decide +kernel
theorem dX2_init_14 : decode cX2_init 14 = .ok (.sipush 687, 3) := by decide +kernel
theorem dX2_init_17 : decode cX2_init 17 = .ok (.newarray .int, 2) := by decide +kernel
theorem dX2_init_19 : decode cX2_init 19 = .ok (.putfield 15, 3) := by decide +kernel
theorem dX2_init_22 : decode cX2_init 22 = .ok (.aload_n 0, 1) := by decide +kernel
theorem dX2_init_23 : decode cX2_init 23 = .ok (.aload_n 1, 1) := by decide +kernel
theorem dX2_init_24 : decode cX2_init 24 = .ok (.putfield 18, 3) := by decide +kernel
theorem dX2_init_27 : decode cX2_init 27 = .ok (.aload_n 0, 1) := by decide +kernel
theorem dX2_init_28 : decode cX2_init 28 = .ok (.getfield 11, 3) := by decide +kernel
theorem dX2_init_31 : decode cX2_init 31 = .ok (.iconst (-1), 1) := by decide +kernel
theorem dX2_init_32 : decode cX2_init 32 = .ok (.invokestatic 22, 3) := by decide +kernel
theorem dX2_init_35 : decode cX2_init 35 = .ok (.return_, 1) := by decide +kernel
theorem dX2_fill_0 : decode cX2_fill 0 = .ok (.aload_n 0, 1) := by decide +kernel
theorem dX2_fill_1 : decode cX2_fill 1 = .ok (.iconst 0, 1) := by decide +kernel
theorem dX2_fill_2 : decode cX2_fill 2 = .ok (.putfield 28, 3) := by decide +kernel
theorem dX2_fill_5 : decode cX2_fill 5 = .ok (.iconst (-1), 1) := by decide +kernel
theorem dX2_fill_6 : decode cX2_fill 6 = .ok (.istore_n 1, 1) := by decide +kernel
theorem dX2_fill_7 : decode cX2_fill 7 = .ok (.iload_n 1, 1) := by decide +kernel
theorem dX2_fill_8 : decode cX2_fill 8 = .ok (.aload_n 0, 1) := by decide +kernel
theorem dX2_fill_9 : decode cX2_fill 9 = .ok (.iconst 0, 1) := by decide +kernel
theorem dX2_fill_10 : decode cX2_fill 10 = .ok (.invokevirtual 32, 3) := by decide +kernel
theorem dX2_fill_13 : decode cX2_fill 13 = .ok (.if_icmp .ge 110, 3) := by decide +kernel
theorem dX2_fill_16 : decode cX2_fill 16 = .ok (.iconst (-1), 1) := by decide +kernel
theorem dX2_fill_17 : decode cX2_fill 17 = .ok (.istore_n 2, 1) := by decide +kernel
theorem dX2_fill_18 : decode cX2_fill 18 = .ok (.iload_n 2, 1) := by decide +kernel
theorem dX2_fill_19 : decode cX2_fill 19 = .ok (.aload_n 0, 1) := by decide +kernel
theorem dX2_fill_20 : decode cX2_fill 20 = .ok (.iconst 1, 1) := by decide +kernel
theorem dX2_fill_21 : decode cX2_fill 21 = .ok (.invokevirtual 32, 3) := by decide +kernel
theorem dX2_fill_24 : decode cX2_fill 24 = .ok (.if_icmp .ge 93, 3) := by decide +kernel
theorem dX2_fill_27 : decode cX2_fill 27 = .ok (.iconst (-1), 1) := by decide +kernel
theorem dX2_fill_28 : decode cX2_fill 28 = .ok (.istore_n 3, 1) := by decide +kernel
theorem dX2_fill_29 : decode cX2_fill 29 = .ok (.iload_n 3, 1) := by decide +kernel
theorem dX2_fill_30 : decode cX2_fill 30 = .ok (.aload_n 0, 1) := by decide +kernel
theorem dX2_fill_31 : decode cX2_fill 31 = .ok (.iconst 2, 1) := by decide +kernel
theorem dX2_fill_32 : decode cX2_fill 32 = .ok (.invokevirtual 32, 3) := by decide +kernel
theorem dX2_fill_35 : decode cX2_fill 35 = .ok (.if_icmp .ge 76, 3) := by decide +kernel
theorem dX2_fill_38 : decode cX2_fill 38 = .ok (.iload_n 1, 1) := by decide +kernel
theorem dX2_fill_39 : decode cX2_fill 39 = .ok (.iconst (-1), 1) := by decide +kernel
theorem dX2_fill_40 : decode cX2_fill 40 = .ok (.if_icmp .ne 17, 3) := by decide +kernel
theorem dX2_fill_43 : decode cX2_fill 43 = .ok (.iload_n 2, 1) := by decide +kernel
theorem dX2_fill_44 : decode cX2_fill 44 = .ok (.iconst (-1), 1) := by decide +kernel
theorem dX2_fill_45 : decode cX2_fill 45 = .ok (.if_icmp .ne 12, 3) := by decide +kernel
theorem dX2_fill_48 : decode cX2_fill 48 = .ok (.iload_n 3, 1) := by decide +kernel
theorem dX2_fill_49 : decode cX2_fill 49 = .ok (.iconst (-1), 1) := by decide +kernel
theorem dX2_fill_50 : decode cX2_fill 50 = .ok (.if_icmp .ne 7, 3) := by decide +kernel
theorem dX2_fill_53 : decode cX2_fill 53 = .ok (.iconst 1, 1) := by decide +kernel
theorem dX2_fill_54 : decode cX2_fill 54 = .ok (.goto 4, 3) := by decide +kernel
theorem dX2_fill_57 : decode cX2_fill 57 = .ok (.iconst 0, 1) := by decide +kernel
theorem dX2_fill_58 : decode cX2_fill 58 = .ok (.istore 4, 2) := by decide +kernel
theorem dX2_fill_60 : decode cX2_fill 60 = .ok (.iload 4, 2) := by decide +kernel
theorem dX2_fill_62 : decode cX2_fill 62 = .ok (.ifCond .ne 43, 3) := by decide +kernel
theorem dX2_fill_65 : decode cX2_fill 65 = .ok (.iload_n 1, 1) := by decide +kernel
theorem dX2_fill_66 : decode cX2_fill 66 = .ok (.iload_n 2, 1) := by decide +kernel
theorem dX2_fill_67 : decode cX2_fill 67 = .ok (.iload_n 3, 1) := by decide +kernel
theorem dX2_fill_68 : decode cX2_fill 68 = .ok (.invokestatic 36, 3) := by decide +kernel
theorem dX2_fill_71 : decode cX2_fill 71 = .ok (.ifCond .ne 34, 3) := by decide +kernel
theorem dX2_fill_74 : decode cX2_fill 74 = .ok (.aload_n 0, 1) := by decide +kernel
theorem dX2_fill_75 : decode cX2_fill 75 = .ok (.getfield 28, 3) := by decide +kernel
theorem dX2_fill_78 : decode cX2_fill 78 = .ok (.sipush 228, 3) := by decide +kernel
theorem dX2_fill_81 : decode cX2_fill 81 = .ok (.if_icmp .ge 24, 3) := by decide +kernel
theorem dX2_fill_84 : decode cX2_fill 84 = .ok (.aload_n 0, 1) := by decide +kernel
theorem dX2_fill_85 : decode cX2_fill 85 = .ok (.dup, 1) := by decide +kernel
theorem dX2_fill_86 : decode cX2_fill 86 = .ok (.getfield 28, 3) := by decide +kernel
theorem dX2_fill_89 : decode cX2_fill 89 = .ok (.iconst 1, 1) := by decide +kernel
theorem dX2_fill_90 : decode cX2_fill 90 = .ok (.iadd, 1) := by decide +kernel
theorem dX2_fill_91 : decode cX2_fill 91 = .ok (.putfield 28, 3) := by decide +kernel
theorem dX2_fill_94 : decode cX2_fill 94 = .ok (.aload_n 0, 1) := by decide +kernel
theorem dX2_fill_95 : decode cX2_fill 95 = .ok (.aload_n 0, 1) := by decide +kernel
theorem dX2_fill_96 : decode cX2_fill 96 = .ok (.getfield 28, 3) := by decide +kernel
theorem dX2_fill_99 : decode cX2_fill 99 = .ok (.iload_n 1, 1) := by decide +kernel
theorem dX2_fill_100 : decode cX2_fill 100 = .ok (.iload_n 2, 1) := by decide +kernel
theorem dX2_fill_101 : decode cX2_fill 101 = .ok (.iload_n 3, 1) := by decide +kernel
theorem dX2_fill_102 : decode cX2_fill 102 = .ok (.invokevirtual 40, 3) := by decide +kernel
theorem dX2_fill_105 : decode cX2_fill 105 = .ok (.iinc 3 1, 3) := by decide +kernel
theorem dX2_fill_108 : decode cX2_fill 108 = .ok (.goto (-79), 3) := by decide +kernel
theorem dX2_fill_111 : decode cX2_fill 111 = .ok (.iinc 2 1, 3) := by decide +kernel
theorem dX2_fill_114 : decode cX2_fill 114 = .ok (.goto (-96), 3) := by decide +kernel
theorem dX2_fill_117 : decode cX2_fill 117 = .ok (.iinc 1 1, 3) := by decide +kernel
theorem dX2_fill_120 : decode cX2_fill 120 = .ok (.goto (-113), 3) := by decide +kernel
theorem dX2_fill_123 : decode cX2_fill 123 = .ok (.return_, 1) := by decide +kernel
theorem dX2_choices_0 : decode cX2_choices 0 = .ok (.aload_n 0, 1) := by decide +kernel
theorem dX2_choices_1 : decode cX2_choices 1 = .ok (.getfield 18, 3) := by decide +kernel
theorem dX2_choices_4 : decode cX2_choices 4 = .ok (.iload_n 1, 1) := by decide +kernel
theorem dX2_choices_5 : decode cX2_choices 5 = .ok (.invokevirtual 44, 3) := by decide +kernel
theorem dX2_choices_8 : decode cX2_choices 8 = .ok (.ifCond .eq 13, 3) := by decide +kernel
theorem dX2_choices_11 : decode cX2_choices 11 = .ok (.aload_n 0, 1) := by decide +kernel
theorem dX2_choices_12 : decode cX2_choices 12 = .ok (.getfield 18, 3) := by decide +kernel
theorem dX2_choices_15 : decode cX2_choices 15 = .ok (.getfield 50, 3) := by decide +kernel
theorem dX2_choices_18 : decode cX2_choices 18 = .ok (.goto 4, 3) := by decide +kernel
theorem dX2_choices_21 : decode cX2_choices 21 = .ok (.iconst 0, 1) := by decide +kernel
theorem dX2_choices_22 : decode cX2_choices 22 = .ok (.ireturn, 1) := by decide +kernel
theorem dX2_isOneTwice_0 : decode cX2_isOneTwice 0 = .ok (.iload_n 0, 1) := by decide +kernel
theorem dX2_isOneTwice_1 : decode cX2_isOneTwice 1 = .ok (.iconst (-1), 1) := by decide +kernel
theorem dX2_isOneTwice_2 : decode cX2_isOneTwice 2 = .ok (.if_icmp .eq 13, 3) := by decide +kernel
theorem dX2_isOneTwice_5 : decode cX2_isOneTwice 5 = .ok (.iload_n 0, 1) := by decide +kernel
theorem dX2_isOneTwice_6 : decode cX2_isOneTwice 6 = .ok (.iload_n 1, 1) := by decide +kernel
theorem dX2_isOneTwice_7 : decode cX2_isOneTwice 7 = .ok (.if_icmp .eq 18, 3) := by decide +kernel
theorem dX2_isOneTwice_10 : decode cX2_isOneTwice 10 = .ok (.iload_n 0, 1) := by decide +kernel
theorem dX2_isOneTwice_11 : decode cX2_isOneTwice 11 = .ok (.iload_n 2, 1) := by decide +kernel
theorem dX2_isOneTwice_12 : decode cX2_isOneTwice 12 = .ok (.if_icmp .eq 13, 3) := by decide +kernel
theorem dX2_isOneTwice_15 : decode cX2_isOneTwice 15 = .ok (.iload_n 1, 1) := by decide +kernel
theorem dX2_isOneTwice_16 : decode cX2_isOneTwice 16 = .ok (.iconst (-1), 1) := by decide +kernel
theorem dX2_isOneTwice_17 : decode cX2_isOneTwice 17 = .ok (.if_icmp .eq 12, 3) := by decide +kernel
theorem dX2_isOneTwice_20 : decode cX2_isOneTwice 20 = .ok (.iload_n 1, 1) := by decide +kernel
theorem dX2_isOneTwice_21 : decode cX2_isOneTwice 21 = .ok (.iload_n 2, 1) := by decide +kernel
theorem dX2_isOneTwice_22 : decode cX2_isOneTwice 22 = .ok (.if_icmp .ne 7, 3) := by decide +kernel
theorem dX2_isOneTwice_25 : decode cX2_isOneTwice 25 = .ok (.iconst 1, 1) := by decide +kernel
theorem dX2_isOneTwice_26 : decode cX2_isOneTwice 26 = .ok (.goto 4, 3) := by decide +kernel
theorem dX2_isOneTwice_29 : decode cX2_isOneTwice 29 = .ok (.iconst 0, 1) := by decide +kernel
theorem dX2_isOneTwice_30 : decode cX2_isOneTwice 30 = .ok (.ireturn, 1) := by decide +kernel
theorem dX2_isCrew_0 : decode cX2_isCrew 0 = .ok (.iload_n 0, 1) := by decide +kernel
theorem dX2_isCrew_1 : decode cX2_isCrew 1 = .ok (.ifCond .lt 14, 3) := by decide +kernel
theorem dX2_isCrew_4 : decode cX2_isCrew 4 = .ok (.iload_n 0, 1) := by decide +kernel
theorem dX2_isCrew_5 : decode cX2_isCrew 5 = .ok (.sipush 229, 3) := by decide +kernel
theorem dX2_isCrew_8 : decode cX2_isCrew 8 = .ok (.if_icmp .ge 7, 3) := by decide +kernel
theorem dX2_isCrew_11 : decode cX2_isCrew 11 = .ok (.iconst 1, 1) := by decide +kernel
theorem dX2_isCrew_12 : decode cX2_isCrew 12 = .ok (.goto 4, 3) := by decide +kernel
theorem dX2_isCrew_15 : decode cX2_isCrew 15 = .ok (.iconst 0, 1) := by decide +kernel
theorem dX2_isCrew_16 : decode cX2_isCrew 16 = .ok (.ireturn, 1) := by decide +kernel
theorem dX2_seat_0 : decode cX2_seat 0 = .ok (.iload_n 1, 1) := by decide +kernel
theorem dX2_seat_1 : decode cX2_seat 1 = .ok (.invokestatic 53, 3) := by decide +kernel
theorem dX2_seat_4 : decode cX2_seat 4 = .ok (.ifCond .ne 4, 3) := by decide +kernel
theorem dX2_seat_7 : decode cX2_seat 7 = .ok (.return_, 1) := by decide +kernel
theorem dX2_seat_8 : decode cX2_seat 8 = .ok (.iload_n 1, 1) := by decide +kernel
theorem dX2_seat_9 : decode cX2_seat 9 = .ok (.iconst 3, 1) := by decide +kernel
theorem dX2_seat_10 : decode cX2_seat 10 = .ok (.imul, 1) := by decide +kernel
theorem dX2_seat_11 : decode cX2_seat 11 = .ok (.istore 5, 2) := by decide +kernel
theorem dX2_seat_13 : decode cX2_seat 13 = .ok (.aload_n 0, 1) := by decide +kernel
theorem dX2_seat_14 : decode cX2_seat 14 = .ok (.getfield 11, 3) := by decide +kernel
theorem dX2_seat_17 : decode cX2_seat 17 = .ok (.iload 5, 2) := by decide +kernel
theorem dX2_seat_19 : decode cX2_seat 19 = .ok (.iload_n 2, 1) := by decide +kernel
theorem dX2_seat_20 : decode cX2_seat 20 = .ok (.iastore, 1) := by decide +kernel
theorem dX2_seat_21 : decode cX2_seat 21 = .ok (.aload_n 0, 1) := by decide +kernel
theorem dX2_seat_22 : decode cX2_seat 22 = .ok (.getfield 11, 3) := by decide +kernel
theorem dX2_seat_25 : decode cX2_seat 25 = .ok (.iload 5, 2) := by decide +kernel
theorem dX2_seat_27 : decode cX2_seat 27 = .ok (.iconst 1, 1) := by decide +kernel
theorem dX2_seat_28 : decode cX2_seat 28 = .ok (.iadd, 1) := by decide +kernel
theorem dX2_seat_29 : decode cX2_seat 29 = .ok (.iload_n 3, 1) := by decide +kernel
theorem dX2_seat_30 : decode cX2_seat 30 = .ok (.iastore, 1) := by decide +kernel
theorem dX2_seat_31 : decode cX2_seat 31 = .ok (.aload_n 0, 1) := by decide +kernel
theorem dX2_seat_32 : decode cX2_seat 32 = .ok (.getfield 11, 3) := by decide +kernel
theorem dX2_seat_35 : decode cX2_seat 35 = .ok (.iload 5, 2) := by decide +kernel
theorem dX2_seat_37 : decode cX2_seat 37 = .ok (.iconst 2, 1) := by decide +kernel
theorem dX2_seat_38 : decode cX2_seat 38 = .ok (.iadd, 1) := by decide +kernel
theorem dX2_seat_39 : decode cX2_seat 39 = .ok (.iload 4, 2) := by decide +kernel
theorem dX2_seat_41 : decode cX2_seat 41 = .ok (.iastore, 1) := by decide +kernel
theorem dX2_seat_42 : decode cX2_seat 42 = .ok (.aload_n 0, 1) := by decide +kernel
theorem dX2_seat_43 : decode cX2_seat 43 = .ok (.getfield 15, 3) := by decide +kernel
theorem dX2_seat_46 : decode cX2_seat 46 = .ok (.iload 5, 2) := by decide +kernel
theorem dX2_seat_48 : decode cX2_seat 48 = .ok (.aload_n 0, 1) := by decide +kernel
theorem dX2_seat_49 : decode cX2_seat 49 = .ok (.getfield 18, 3) := by decide +kernel
theorem dX2_seat_52 : decode cX2_seat 52 = .ok (.iload_n 2, 1) := by decide +kernel
theorem dX2_seat_53 : decode cX2_seat 53 = .ok (.iconst 0, 1) := by decide +kernel
theorem dX2_seat_54 : decode cX2_seat 54 = .ok (.iconst (-1), 1) := by decide +kernel
theorem dX2_seat_55 : decode cX2_seat 55 = .ok (.iload_n 3, 1) := by decide +kernel
theorem dX2_seat_56 : decode cX2_seat 56 = .ok (.invokevirtual 56, 3) := by decide +kernel
theorem dX2_seat_59 : decode cX2_seat 59 = .ok (.iastore, 1) := by decide +kernel
theorem dX2_seat_60 : decode cX2_seat 60 = .ok (.aload_n 0, 1) := by decide +kernel
theorem dX2_seat_61 : decode cX2_seat 61 = .ok (.getfield 15, 3) := by decide +kernel
theorem dX2_seat_64 : decode cX2_seat 64 = .ok (.iload 5, 2) := by decide +kernel
theorem dX2_seat_66 : decode cX2_seat 66 = .ok (.iconst 1, 1) := by decide +kernel
theorem dX2_seat_67 : decode cX2_seat 67 = .ok (.iadd, 1) := by decide +kernel
theorem dX2_seat_68 : decode cX2_seat 68 = .ok (.aload_n 0, 1) := by decide +kernel
theorem dX2_seat_69 : decode cX2_seat 69 = .ok (.getfield 18, 3) := by decide +kernel
theorem dX2_seat_72 : decode cX2_seat 72 = .ok (.iload_n 3, 1) := by decide +kernel
theorem dX2_seat_73 : decode cX2_seat 73 = .ok (.iconst 0, 1) := by decide +kernel
theorem dX2_seat_74 : decode cX2_seat 74 = .ok (.iload_n 2, 1) := by decide +kernel
theorem dX2_seat_75 : decode cX2_seat 75 = .ok (.iload 4, 2) := by decide +kernel
theorem dX2_seat_77 : decode cX2_seat 77 = .ok (.invokevirtual 56, 3) := by decide +kernel
theorem dX2_seat_80 : decode cX2_seat 80 = .ok (.iastore, 1) := by decide +kernel
theorem dX2_seat_81 : decode cX2_seat 81 = .ok (.aload_n 0, 1) := by decide +kernel
theorem dX2_seat_82 : decode cX2_seat 82 = .ok (.getfield 15, 3) := by decide +kernel
theorem dX2_seat_85 : decode cX2_seat 85 = .ok (.iload 5, 2) := by decide +kernel
theorem dX2_seat_87 : decode cX2_seat 87 = .ok (.iconst 2, 1) := by decide +kernel
theorem dX2_seat_88 : decode cX2_seat 88 = .ok (.iadd, 1) := by decide +kernel
theorem dX2_seat_89 : decode cX2_seat 89 = .ok (.aload_n 0, 1) := by decide +kernel
theorem dX2_seat_90 : decode cX2_seat 90 = .ok (.getfield 18, 3) := by decide +kernel
theorem dX2_seat_93 : decode cX2_seat 93 = .ok (.iload 4, 2) := by decide +kernel
theorem dX2_seat_95 : decode cX2_seat 95 = .ok (.iconst 0, 1) := by decide +kernel
theorem dX2_seat_96 : decode cX2_seat 96 = .ok (.iload_n 3, 1) := by decide +kernel
theorem dX2_seat_97 : decode cX2_seat 97 = .ok (.iconst (-1), 1) := by decide +kernel
theorem dX2_seat_98 : decode cX2_seat 98 = .ok (.invokevirtual 56, 3) := by decide +kernel
theorem dX2_seat_101 : decode cX2_seat 101 = .ok (.iastore, 1) := by decide +kernel
theorem dX2_seat_102 : decode cX2_seat 102 = .ok (.return_, 1) := by decide +kernel
theorem dX2_pullOtherwise_0 : decode cX2_pullOtherwise 0 = .ok (.aload_n 0, 1) := by decide +kernel
theorem dX2_pullOtherwise_1 : decode cX2_pullOtherwise 1 = .ok (.iload_n 1, 1) := by decide +kernel
theorem dX2_pullOtherwise_2 : decode cX2_pullOtherwise 2 = .ok (.invokevirtual 60, 3) := by decide +kernel
theorem dX2_pullOtherwise_5 : decode cX2_pullOtherwise 5 = .ok (.istore_n 3, 1) := by decide +kernel
theorem dX2_pullOtherwise_6 : decode cX2_pullOtherwise 6 = .ok (.iload_n 3, 1) := by decide +kernel
theorem dX2_pullOtherwise_7 : decode cX2_pullOtherwise 7 = .ok (.iconst (-1), 1) := by decide +kernel
theorem dX2_pullOtherwise_8 : decode cX2_pullOtherwise 8 = .ok (.if_icmp .eq 34, 3) := by decide +kernel
theorem dX2_pullOtherwise_11 : decode cX2_pullOtherwise 11 = .ok (.aload_n 0, 1) := by decide +kernel
theorem dX2_pullOtherwise_12 : decode cX2_pullOtherwise 12 = .ok (.getfield 15, 3) := by decide +kernel
theorem dX2_pullOtherwise_15 : decode cX2_pullOtherwise 15 = .ok (.iload_n 3, 1) := by decide +kernel
theorem dX2_pullOtherwise_16 : decode cX2_pullOtherwise 16 = .ok (.aload_n 0, 1) := by decide +kernel
theorem dX2_pullOtherwise_17 : decode cX2_pullOtherwise 17 = .ok (.getfield 18, 3) := by decide +kernel
theorem dX2_pullOtherwise_20 : decode cX2_pullOtherwise 20 = .ok (.iload_n 1, 1) := by decide +kernel
theorem dX2_pullOtherwise_21 : decode cX2_pullOtherwise 21 = .ok (.iload_n 2, 1) := by decide +kernel
theorem dX2_pullOtherwise_22 : decode cX2_pullOtherwise 22 = .ok (.aload_n 0, 1) := by decide +kernel
theorem dX2_pullOtherwise_23 : decode cX2_pullOtherwise 23 = .ok (.iconst 0, 1) := by decide +kernel
theorem dX2_pullOtherwise_24 : decode cX2_pullOtherwise 24 = .ok (.iload_n 3, 1) := by decide +kernel
theorem dX2_pullOtherwise_25 : decode cX2_pullOtherwise 25 = .ok (.iconst 1, 1) := by decide +kernel
theorem dX2_pullOtherwise_26 : decode cX2_pullOtherwise 26 = .ok (.isub, 1) := by decide +kernel
theorem dX2_pullOtherwise_27 : decode cX2_pullOtherwise 27 = .ok (.invokevirtual 63, 3) := by decide +kernel
theorem dX2_pullOtherwise_30 : decode cX2_pullOtherwise 30 = .ok (.aload_n 0, 1) := by decide +kernel
theorem dX2_pullOtherwise_31 : decode cX2_pullOtherwise 31 = .ok (.iconst 0, 1) := by decide +kernel
theorem dX2_pullOtherwise_32 : decode cX2_pullOtherwise 32 = .ok (.iload_n 3, 1) := by decide +kernel
theorem dX2_pullOtherwise_33 : decode cX2_pullOtherwise 33 = .ok (.iconst 1, 1) := by decide +kernel
theorem dX2_pullOtherwise_34 : decode cX2_pullOtherwise 34 = .ok (.iadd, 1) := by decide +kernel
theorem dX2_pullOtherwise_35 : decode cX2_pullOtherwise 35 = .ok (.invokevirtual 63, 3) := by decide +kernel
theorem dX2_pullOtherwise_38 : decode cX2_pullOtherwise 38 = .ok (.invokevirtual 56, 3) := by decide +kernel
theorem dX2_pullOtherwise_41 : decode cX2_pullOtherwise 41 = .ok (.iastore, 1) := by decide +kernel
theorem dX2_pullOtherwise_42 : decode cX2_pullOtherwise 42 = .ok (.return_, 1) := by decide +kernel
theorem dX2_pullHalf_0 : decode cX2_pullHalf 0 = .ok (.aload_n 0, 1) := by decide +kernel
theorem dX2_pullHalf_1 : decode cX2_pullHalf 1 = .ok (.iload_n 1, 1) := by decide +kernel
theorem dX2_pullHalf_2 : decode cX2_pullHalf 2 = .ok (.invokevirtual 60, 3) := by decide +kernel
theorem dX2_pullHalf_5 : decode cX2_pullHalf 5 = .ok (.istore_n 2, 1) := by decide +kernel
theorem dX2_pullHalf_6 : decode cX2_pullHalf 6 = .ok (.iload_n 2, 1) := by decide +kernel
theorem dX2_pullHalf_7 : decode cX2_pullHalf 7 = .ok (.iconst (-1), 1) := by decide +kernel
theorem dX2_pullHalf_8 : decode cX2_pullHalf 8 = .ok (.if_icmp .eq 13, 3) := by decide +kernel
theorem dX2_pullHalf_11 : decode cX2_pullHalf 11 = .ok (.aload_n 0, 1) := by decide +kernel
theorem dX2_pullHalf_12 : decode cX2_pullHalf 12 = .ok (.getfield 15, 3) := by decide +kernel
theorem dX2_pullHalf_15 : decode cX2_pullHalf 15 = .ok (.iload_n 2, 1) := by decide +kernel
theorem dX2_pullHalf_16 : decode cX2_pullHalf 16 = .ok (.dup2, 1) := by decide +kernel
theorem dX2_pullHalf_17 : decode cX2_pullHalf 17 = .ok (.iaload, 1) := by decide +kernel
theorem dX2_pullHalf_18 : decode cX2_pullHalf 18 = .ok (.iconst 2, 1) := by decide +kernel
theorem dX2_pullHalf_19 : decode cX2_pullHalf 19 = .ok (.idiv, 1) := by decide +kernel
theorem dX2_pullHalf_20 : decode cX2_pullHalf 20 = .ok (.iastore, 1) := by decide +kernel
theorem dX2_pullHalf_21 : decode cX2_pullHalf 21 = .ok (.return_, 1) := by decide +kernel
theorem dX2_placeOf_0 : decode cX2_placeOf 0 = .ok (.iconst 0, 1) := by decide +kernel
theorem dX2_placeOf_1 : decode cX2_placeOf 1 = .ok (.istore_n 2, 1) := by decide +kernel
theorem dX2_placeOf_2 : decode cX2_placeOf 2 = .ok (.iload_n 2, 1) := by decide +kernel
theorem dX2_placeOf_3 : decode cX2_placeOf 3 = .ok (.iconst 3, 1) := by decide +kernel
theorem dX2_placeOf_4 : decode cX2_placeOf 4 = .ok (.if_icmp .ge 26, 3) := by decide +kernel
theorem dX2_placeOf_7 : decode cX2_placeOf 7 = .ok (.iload_n 1, 1) := by decide +kernel
theorem dX2_placeOf_8 : decode cX2_placeOf 8 = .ok (.iconst (-1), 1) := by decide +kernel
theorem dX2_placeOf_9 : decode cX2_placeOf 9 = .ok (.if_icmp .eq 15, 3) := by decide +kernel
theorem dX2_placeOf_12 : decode cX2_placeOf 12 = .ok (.aload_n 0, 1) := by decide +kernel
theorem dX2_placeOf_13 : decode cX2_placeOf 13 = .ok (.getfield 11, 3) := by decide +kernel
theorem dX2_placeOf_16 : decode cX2_placeOf 16 = .ok (.iload_n 2, 1) := by decide +kernel
theorem dX2_placeOf_17 : decode cX2_placeOf 17 = .ok (.iaload, 1) := by decide +kernel
theorem dX2_placeOf_18 : decode cX2_placeOf 18 = .ok (.iload_n 1, 1) := by decide +kernel
theorem dX2_placeOf_19 : decode cX2_placeOf 19 = .ok (.if_icmp .ne 5, 3) := by decide +kernel
theorem dX2_placeOf_22 : decode cX2_placeOf 22 = .ok (.iload_n 2, 1) := by decide +kernel
theorem dX2_placeOf_23 : decode cX2_placeOf 23 = .ok (.ireturn, 1) := by decide +kernel
theorem dX2_placeOf_24 : decode cX2_placeOf 24 = .ok (.iinc 2 1, 3) := by decide +kernel
theorem dX2_placeOf_27 : decode cX2_placeOf 27 = .ok (.goto (-25), 3) := by decide +kernel
theorem dX2_placeOf_30 : decode cX2_placeOf 30 = .ok (.iconst (-1), 1) := by decide +kernel
theorem dX2_placeOf_31 : decode cX2_placeOf 31 = .ok (.ireturn, 1) := by decide +kernel
theorem dX2_horseAt_0 : decode cX2_horseAt 0 = .ok (.iload_n 1, 1) := by decide +kernel
theorem dX2_horseAt_1 : decode cX2_horseAt 1 = .ok (.invokestatic 53, 3) := by decide +kernel
theorem dX2_horseAt_4 : decode cX2_horseAt 4 = .ok (.ifCond .eq 25, 3) := by decide +kernel
theorem dX2_horseAt_7 : decode cX2_horseAt 7 = .ok (.iload_n 2, 1) := by decide +kernel
theorem dX2_horseAt_8 : decode cX2_horseAt 8 = .ok (.ifCond .lt 21, 3) := by decide +kernel
theorem dX2_horseAt_11 : decode cX2_horseAt 11 = .ok (.iload_n 2, 1) := by decide +kernel
theorem dX2_horseAt_12 : decode cX2_horseAt 12 = .ok (.iconst 3, 1) := by decide +kernel
theorem dX2_horseAt_13 : decode cX2_horseAt 13 = .ok (.if_icmp .ge 16, 3) := by decide +kernel
theorem dX2_horseAt_16 : decode cX2_horseAt 16 = .ok (.aload_n 0, 1) := by decide +kernel
theorem dX2_horseAt_17 : decode cX2_horseAt 17 = .ok (.getfield 11, 3) := by decide +kernel
theorem dX2_horseAt_20 : decode cX2_horseAt 20 = .ok (.iload_n 1, 1) := by decide +kernel
theorem dX2_horseAt_21 : decode cX2_horseAt 21 = .ok (.iconst 3, 1) := by decide +kernel
theorem dX2_horseAt_22 : decode cX2_horseAt 22 = .ok (.imul, 1) := by decide +kernel
theorem dX2_horseAt_23 : decode cX2_horseAt 23 = .ok (.iload_n 2, 1) := by decide +kernel
theorem dX2_horseAt_24 : decode cX2_horseAt 24 = .ok (.iadd, 1) := by decide +kernel
theorem dX2_horseAt_25 : decode cX2_horseAt 25 = .ok (.iaload, 1) := by decide +kernel
theorem dX2_horseAt_26 : decode cX2_horseAt 26 = .ok (.goto 4, 3) := by decide +kernel
theorem dX2_horseAt_29 : decode cX2_horseAt 29 = .ok (.iconst (-1), 1) := by decide +kernel
theorem dX2_horseAt_30 : decode cX2_horseAt 30 = .ok (.ireturn, 1) := by decide +kernel
theorem dX2_pullAt_0 : decode cX2_pullAt 0 = .ok (.iload_n 1, 1) := by decide +kernel
theorem dX2_pullAt_1 : decode cX2_pullAt 1 = .ok (.invokestatic 53, 3) := by decide +kernel
theorem dX2_pullAt_4 : decode cX2_pullAt 4 = .ok (.ifCond .eq 25, 3) := by decide +kernel
theorem dX2_pullAt_7 : decode cX2_pullAt 7 = .ok (.iload_n 2, 1) := by decide +kernel
theorem dX2_pullAt_8 : decode cX2_pullAt 8 = .ok (.ifCond .lt 21, 3) := by decide +kernel
theorem dX2_pullAt_11 : decode cX2_pullAt 11 = .ok (.iload_n 2, 1) := by decide +kernel
theorem dX2_pullAt_12 : decode cX2_pullAt 12 = .ok (.iconst 3, 1) := by decide +kernel
theorem dX2_pullAt_13 : decode cX2_pullAt 13 = .ok (.if_icmp .ge 16, 3) := by decide +kernel
theorem dX2_pullAt_16 : decode cX2_pullAt 16 = .ok (.aload_n 0, 1) := by decide +kernel
theorem dX2_pullAt_17 : decode cX2_pullAt 17 = .ok (.getfield 15, 3) := by decide +kernel
theorem dX2_pullAt_20 : decode cX2_pullAt 20 = .ok (.iload_n 1, 1) := by decide +kernel
theorem dX2_pullAt_21 : decode cX2_pullAt 21 = .ok (.iconst 3, 1) := by decide +kernel
theorem dX2_pullAt_22 : decode cX2_pullAt 22 = .ok (.imul, 1) := by decide +kernel
theorem dX2_pullAt_23 : decode cX2_pullAt 23 = .ok (.iload_n 2, 1) := by decide +kernel
theorem dX2_pullAt_24 : decode cX2_pullAt 24 = .ok (.iadd, 1) := by decide +kernel
theorem dX2_pullAt_25 : decode cX2_pullAt 25 = .ok (.iaload, 1) := by decide +kernel
theorem dX2_pullAt_26 : decode cX2_pullAt 26 = .ok (.goto 4, 3) := by decide +kernel
theorem dX2_pullAt_29 : decode cX2_pullAt 29 = .ok (.iconst 0, 1) := by decide +kernel
theorem dX2_pullAt_30 : decode cX2_pullAt 30 = .ok (.ireturn, 1) := by decide +kernel
theorem dX2_takes_0 : decode cX2_takes 0 = .ok (.iload_n 2, 1) := by decide +kernel
theorem dX2_takes_1 : decode cX2_takes 1 = .ok (.iconst (-1), 1) := by decide +kernel
theorem dX2_takes_2 : decode cX2_takes 2 = .ok (.if_icmp .eq 37, 3) := by decide +kernel
theorem dX2_takes_5 : decode cX2_takes 5 = .ok (.aload_n 0, 1) := by decide +kernel
theorem dX2_takes_6 : decode cX2_takes 6 = .ok (.iload_n 1, 1) := by decide +kernel
theorem dX2_takes_7 : decode cX2_takes 7 = .ok (.iconst 0, 1) := by decide +kernel
theorem dX2_takes_8 : decode cX2_takes 8 = .ok (.invokevirtual 63, 3) := by decide +kernel
theorem dX2_takes_11 : decode cX2_takes 11 = .ok (.iload_n 2, 1) := by decide +kernel
theorem dX2_takes_12 : decode cX2_takes 12 = .ok (.if_icmp .eq 23, 3) := by decide +kernel
theorem dX2_takes_15 : decode cX2_takes 15 = .ok (.aload_n 0, 1) := by decide +kernel
theorem dX2_takes_16 : decode cX2_takes 16 = .ok (.iload_n 1, 1) := by decide +kernel
theorem dX2_takes_17 : decode cX2_takes 17 = .ok (.iconst 1, 1) := by decide +kernel
theorem dX2_takes_18 : decode cX2_takes 18 = .ok (.invokevirtual 63, 3) := by decide +kernel
theorem dX2_takes_21 : decode cX2_takes 21 = .ok (.iload_n 2, 1) := by decide +kernel
theorem dX2_takes_22 : decode cX2_takes 22 = .ok (.if_icmp .eq 13, 3) := by decide +kernel
theorem dX2_takes_25 : decode cX2_takes 25 = .ok (.aload_n 0, 1) := by decide +kernel
theorem dX2_takes_26 : decode cX2_takes 26 = .ok (.iload_n 1, 1) := by decide +kernel
theorem dX2_takes_27 : decode cX2_takes 27 = .ok (.iconst 2, 1) := by decide +kernel
theorem dX2_takes_28 : decode cX2_takes 28 = .ok (.invokevirtual 63, 3) := by decide +kernel
theorem dX2_takes_31 : decode cX2_takes 31 = .ok (.iload_n 2, 1) := by decide +kernel
theorem dX2_takes_32 : decode cX2_takes 32 = .ok (.if_icmp .ne 7, 3) := by decide +kernel
theorem dX2_takes_35 : decode cX2_takes 35 = .ok (.iconst 1, 1) := by decide +kernel
theorem dX2_takes_36 : decode cX2_takes 36 = .ok (.goto 4, 3) := by decide +kernel
theorem dX2_takes_39 : decode cX2_takes 39 = .ok (.iconst 0, 1) := by decide +kernel
theorem dX2_takes_40 : decode cX2_takes 40 = .ok (.ireturn, 1) := by decide +kernel
theorem dX2_minutes_0 : decode cX2_minutes 0 = .ok (.iload_n 1, 1) := by decide +kernel
theorem dX2_minutes_1 : decode cX2_minutes 1 = .ok (.invokestatic 53, 3) := by decide +kernel
theorem dX2_minutes_4 : decode cX2_minutes 4 = .ok (.ifCond .ne 5, 3) := by decide +kernel
theorem dX2_minutes_7 : decode cX2_minutes 7 = .ok (.iconst (-1), 1) := by decide +kernel
theorem dX2_minutes_8 : decode cX2_minutes 8 = .ok (.ireturn, 1) := by decide +kernel
theorem dX2_minutes_9 : decode cX2_minutes 9 = .ok (.iload_n 1, 1) := by decide +kernel
theorem dX2_minutes_10 : decode cX2_minutes 10 = .ok (.iconst 3, 1) := by decide +kernel
theorem dX2_minutes_11 : decode cX2_minutes 11 = .ok (.imul, 1) := by decide +kernel
theorem dX2_minutes_12 : decode cX2_minutes 12 = .ok (.istore 5, 2) := by decide +kernel
theorem dX2_minutes_14 : decode cX2_minutes 14 = .ok (.iconst 0, 1) := by decide +kernel
theorem dX2_minutes_15 : decode cX2_minutes 15 = .ok (.istore 6, 2) := by decide +kernel
theorem dX2_minutes_17 : decode cX2_minutes 17 = .ok (.iconst 0, 1) := by decide +kernel
theorem dX2_minutes_18 : decode cX2_minutes 18 = .ok (.istore 7, 2) := by decide +kernel
theorem dX2_minutes_20 : decode cX2_minutes 20 = .ok (.iconst 0, 1) := by decide +kernel
theorem dX2_minutes_21 : decode cX2_minutes 21 = .ok (.istore 8, 2) := by decide +kernel
theorem dX2_minutes_23 : decode cX2_minutes 23 = .ok (.iload 8, 2) := by decide +kernel
theorem dX2_minutes_25 : decode cX2_minutes 25 = .ok (.iconst 3, 1) := by decide +kernel
theorem dX2_minutes_26 : decode cX2_minutes 26 = .ok (.if_icmp .gt 99, 3) := by decide +kernel
theorem dX2_minutes_29 : decode cX2_minutes 29 = .ok (.aload_n 0, 1) := by decide +kernel
theorem dX2_minutes_30 : decode cX2_minutes 30 = .ok (.iload 5, 2) := by decide +kernel
theorem dX2_minutes_32 : decode cX2_minutes 32 = .ok (.aload_n 2, 1) := by decide +kernel
theorem dX2_minutes_33 : decode cX2_minutes 33 = .ok (.iload 6, 2) := by decide +kernel
theorem dX2_minutes_35 : decode cX2_minutes 35 = .ok (.invokevirtual 67, 3) := by decide +kernel
theorem dX2_minutes_38 : decode cX2_minutes 38 = .ok (.iload_n 3, 1) := by decide +kernel
theorem dX2_minutes_39 : decode cX2_minutes 39 = .ok (.iadd, 1) := by decide +kernel
theorem dX2_minutes_40 : decode cX2_minutes 40 = .ok (.istore 9, 2) := by decide +kernel
theorem dX2_minutes_42 : decode cX2_minutes 42 = .ok (.iload 9, 2) := by decide +kernel
theorem dX2_minutes_44 : decode cX2_minutes 44 = .ok (.ifCond .gt 5, 3) := by decide +kernel
theorem dX2_minutes_47 : decode cX2_minutes 47 = .ok (.iconst (-1), 1) := by decide +kernel
theorem dX2_minutes_48 : decode cX2_minutes 48 = .ok (.ireturn, 1) := by decide +kernel
theorem dX2_minutes_49 : decode cX2_minutes 49 = .ok (.iload 6, 2) := by decide +kernel
theorem dX2_minutes_51 : decode cX2_minutes 51 = .ok (.aload_n 0, 1) := by decide +kernel
theorem dX2_minutes_52 : decode cX2_minutes 52 = .ok (.getfield 18, 3) := by decide +kernel
theorem dX2_minutes_55 : decode cX2_minutes 55 = .ok (.getfield 71, 3) := by decide +kernel
theorem dX2_minutes_58 : decode cX2_minutes 58 = .ok (.iload 7, 2) := by decide +kernel
theorem dX2_minutes_60 : decode cX2_minutes 60 = .ok (.isub, 1) := by decide +kernel
theorem dX2_minutes_61 : decode cX2_minutes 61 = .ok (.iload 9, 2) := by decide +kernel
theorem dX2_minutes_63 : decode cX2_minutes 63 = .ok (.iadd, 1) := by decide +kernel
theorem dX2_minutes_64 : decode cX2_minutes 64 = .ok (.iconst 1, 1) := by decide +kernel
theorem dX2_minutes_65 : decode cX2_minutes 65 = .ok (.isub, 1) := by decide +kernel
theorem dX2_minutes_66 : decode cX2_minutes 66 = .ok (.iload 9, 2) := by decide +kernel
theorem dX2_minutes_68 : decode cX2_minutes 68 = .ok (.idiv, 1) := by decide +kernel
theorem dX2_minutes_69 : decode cX2_minutes 69 = .ok (.iadd, 1) := by decide +kernel
theorem dX2_minutes_70 : decode cX2_minutes 70 = .ok (.istore 10, 2) := by decide +kernel
theorem dX2_minutes_72 : decode cX2_minutes 72 = .ok (.iload 10, 2) := by decide +kernel
theorem dX2_minutes_74 : decode cX2_minutes 74 = .ok (.iload 4, 2) := by decide +kernel
theorem dX2_minutes_76 : decode cX2_minutes 76 = .ok (.if_icmp .le 5, 3) := by decide +kernel
theorem dX2_minutes_79 : decode cX2_minutes 79 = .ok (.iconst (-1), 1) := by decide +kernel
theorem dX2_minutes_80 : decode cX2_minutes 80 = .ok (.ireturn, 1) := by decide +kernel
theorem dX2_minutes_81 : decode cX2_minutes 81 = .ok (.aload_n 0, 1) := by decide +kernel
theorem dX2_minutes_82 : decode cX2_minutes 82 = .ok (.iload 5, 2) := by decide +kernel
theorem dX2_minutes_84 : decode cX2_minutes 84 = .ok (.aload_n 2, 1) := by decide +kernel
theorem dX2_minutes_85 : decode cX2_minutes 85 = .ok (.iload 6, 2) := by decide +kernel
theorem dX2_minutes_87 : decode cX2_minutes 87 = .ok (.invokevirtual 74, 3) := by decide +kernel
theorem dX2_minutes_90 : decode cX2_minutes 90 = .ok (.istore 11, 2) := by decide +kernel
theorem dX2_minutes_92 : decode cX2_minutes 92 = .ok (.iload 10, 2) := by decide +kernel
theorem dX2_minutes_94 : decode cX2_minutes 94 = .ok (.iload 11, 2) := by decide +kernel
theorem dX2_minutes_96 : decode cX2_minutes 96 = .ok (.if_icmp .gt 6, 3) := by decide +kernel
theorem dX2_minutes_99 : decode cX2_minutes 99 = .ok (.iload 10, 2) := by decide +kernel
theorem dX2_minutes_101 : decode cX2_minutes 101 = .ok (.ireturn, 1) := by decide +kernel
theorem dX2_minutes_102 : decode cX2_minutes 102 = .ok (.iload 7, 2) := by decide +kernel
theorem dX2_minutes_104 : decode cX2_minutes 104 = .ok (.iload 9, 2) := by decide +kernel
theorem dX2_minutes_106 : decode cX2_minutes 106 = .ok (.iload 11, 2) := by decide +kernel
theorem dX2_minutes_108 : decode cX2_minutes 108 = .ok (.iload 6, 2) := by decide +kernel
theorem dX2_minutes_110 : decode cX2_minutes 110 = .ok (.isub, 1) := by decide +kernel
theorem dX2_minutes_111 : decode cX2_minutes 111 = .ok (.imul, 1) := by decide +kernel
theorem dX2_minutes_112 : decode cX2_minutes 112 = .ok (.iadd, 1) := by decide +kernel
theorem dX2_minutes_113 : decode cX2_minutes 113 = .ok (.istore 7, 2) := by decide +kernel
theorem dX2_minutes_115 : decode cX2_minutes 115 = .ok (.iload 11, 2) := by decide +kernel
theorem dX2_minutes_117 : decode cX2_minutes 117 = .ok (.istore 6, 2) := by decide +kernel
theorem dX2_minutes_119 : decode cX2_minutes 119 = .ok (.iinc 8 1, 3) := by decide +kernel
theorem dX2_minutes_122 : decode cX2_minutes 122 = .ok (.goto (-99), 3) := by decide +kernel
theorem dX2_minutes_125 : decode cX2_minutes 125 = .ok (.iconst (-1), 1) := by decide +kernel
theorem dX2_minutes_126 : decode cX2_minutes 126 = .ok (.ireturn, 1) := by decide +kernel
theorem dX2_pace_0 : decode cX2_pace 0 = .ok (.iconst 0, 1) := by decide +kernel
theorem dX2_pace_1 : decode cX2_pace 1 = .ok (.istore 4, 2) := by decide +kernel
theorem dX2_pace_3 : decode cX2_pace 3 = .ok (.iconst 0, 1) := by decide +kernel
theorem dX2_pace_4 : decode cX2_pace 4 = .ok (.istore 5, 2) := by decide +kernel
theorem dX2_pace_6 : decode cX2_pace 6 = .ok (.iconst 0, 1) := by decide +kernel
theorem dX2_pace_7 : decode cX2_pace 7 = .ok (.istore 6, 2) := by decide +kernel
theorem dX2_pace_9 : decode cX2_pace 9 = .ok (.iload_n 1, 1) := by decide +kernel
theorem dX2_pace_10 : decode cX2_pace 10 = .ok (.istore 7, 2) := by decide +kernel
theorem dX2_pace_12 : decode cX2_pace 12 = .ok (.iload 7, 2) := by decide +kernel
theorem dX2_pace_14 : decode cX2_pace 14 = .ok (.iload_n 1, 1) := by decide +kernel
theorem dX2_pace_15 : decode cX2_pace 15 = .ok (.iconst 3, 1) := by decide +kernel
theorem dX2_pace_16 : decode cX2_pace 16 = .ok (.iadd, 1) := by decide +kernel
theorem dX2_pace_17 : decode cX2_pace 17 = .ok (.if_icmp .ge 80, 3) := by decide +kernel
theorem dX2_pace_20 : decode cX2_pace 20 = .ok (.aload_n 0, 1) := by decide +kernel
theorem dX2_pace_21 : decode cX2_pace 21 = .ok (.getfield 11, 3) := by decide +kernel
theorem dX2_pace_24 : decode cX2_pace 24 = .ok (.iload 7, 2) := by decide +kernel
theorem dX2_pace_26 : decode cX2_pace 26 = .ok (.iaload, 1) := by decide +kernel
theorem dX2_pace_27 : decode cX2_pace 27 = .ok (.istore 8, 2) := by decide +kernel
theorem dX2_pace_29 : decode cX2_pace 29 = .ok (.iload 8, 2) := by decide +kernel
theorem dX2_pace_31 : decode cX2_pace 31 = .ok (.ifCond .lt 60, 3) := by decide +kernel
theorem dX2_pace_34 : decode cX2_pace 34 = .ok (.iload 8, 2) := by decide +kernel
theorem dX2_pace_36 : decode cX2_pace 36 = .ok (.bipush 6, 2) := by decide +kernel
theorem dX2_pace_38 : decode cX2_pace 38 = .ok (.if_icmp .ge 53, 3) := by decide +kernel
theorem dX2_pace_41 : decode cX2_pace 41 = .ok (.aload_n 2, 1) := by decide +kernel
theorem dX2_pace_42 : decode cX2_pace 42 = .ok (.iload 8, 2) := by decide +kernel
theorem dX2_pace_44 : decode cX2_pace 44 = .ok (.iaload, 1) := by decide +kernel
theorem dX2_pace_45 : decode cX2_pace 45 = .ok (.iload_n 3, 1) := by decide +kernel
theorem dX2_pace_46 : decode cX2_pace 46 = .ok (.if_icmp .le 13, 3) := by decide +kernel
theorem dX2_pace_49 : decode cX2_pace 49 = .ok (.aload_n 0, 1) := by decide +kernel
theorem dX2_pace_50 : decode cX2_pace 50 = .ok (.getfield 15, 3) := by decide +kernel
theorem dX2_pace_53 : decode cX2_pace 53 = .ok (.iload 7, 2) := by decide +kernel
theorem dX2_pace_55 : decode cX2_pace 55 = .ok (.iaload, 1) := by decide +kernel
theorem dX2_pace_56 : decode cX2_pace 56 = .ok (.goto 4, 3) := by decide +kernel
theorem dX2_pace_59 : decode cX2_pace 59 = .ok (.iconst 0, 1) := by decide +kernel
theorem dX2_pace_60 : decode cX2_pace 60 = .ok (.istore 9, 2) := by decide +kernel
theorem dX2_pace_62 : decode cX2_pace 62 = .ok (.iload 5, 2) := by decide +kernel
theorem dX2_pace_64 : decode cX2_pace 64 = .ok (.iload 9, 2) := by decide +kernel
theorem dX2_pace_66 : decode cX2_pace 66 = .ok (.iadd, 1) := by decide +kernel
theorem dX2_pace_67 : decode cX2_pace 67 = .ok (.istore 5, 2) := by decide +kernel
theorem dX2_pace_69 : decode cX2_pace 69 = .ok (.iload 4, 2) := by decide +kernel
theorem dX2_pace_71 : decode cX2_pace 71 = .ok (.ifCond .ne 8, 3) := by decide +kernel
theorem dX2_pace_74 : decode cX2_pace 74 = .ok (.iload 9, 2) := by decide +kernel
theorem dX2_pace_76 : decode cX2_pace 76 = .ok (.goto 10, 3) := by decide +kernel
theorem dX2_pace_79 : decode cX2_pace 79 = .ok (.iload 6, 2) := by decide +kernel
theorem dX2_pace_81 : decode cX2_pace 81 = .ok (.iload 9, 2) := by decide +kernel
theorem dX2_pace_83 : decode cX2_pace 83 = .ok (.invokestatic 77, 3) := by decide +kernel
theorem dX2_pace_86 : decode cX2_pace 86 = .ok (.istore 6, 2) := by decide +kernel
theorem dX2_pace_88 : decode cX2_pace 88 = .ok (.iinc 4 1, 3) := by decide +kernel
theorem dX2_pace_91 : decode cX2_pace 91 = .ok (.iinc 7 1, 3) := by decide +kernel
theorem dX2_pace_94 : decode cX2_pace 94 = .ok (.goto (-82), 3) := by decide +kernel
theorem dX2_pace_97 : decode cX2_pace 97 = .ok (.aload_n 0, 1) := by decide +kernel
theorem dX2_pace_98 : decode cX2_pace 98 = .ok (.getfield 18, 3) := by decide +kernel
theorem dX2_pace_101 : decode cX2_pace 101 = .ok (.getfield 82, 3) := by decide +kernel
theorem dX2_pace_104 : decode cX2_pace 104 = .ok (.iconst 1, 1) := by decide +kernel
theorem dX2_pace_105 : decode cX2_pace 105 = .ok (.if_icmp .ne 11, 3) := by decide +kernel
theorem dX2_pace_108 : decode cX2_pace 108 = .ok (.iload 6, 2) := by decide +kernel
theorem dX2_pace_110 : decode cX2_pace 110 = .ok (.iload 4, 2) := by decide +kernel
theorem dX2_pace_112 : decode cX2_pace 112 = .ok (.imul, 1) := by decide +kernel
theorem dX2_pace_113 : decode cX2_pace 113 = .ok (.goto 5, 3) := by decide +kernel
theorem dX2_pace_116 : decode cX2_pace 116 = .ok (.iload 5, 2) := by decide +kernel
theorem dX2_pace_118 : decode cX2_pace 118 = .ok (.ireturn, 1) := by decide +kernel
theorem dX2_nextLame_0 : decode cX2_nextLame 0 = .ok (.bipush 120, 2) := by decide +kernel
theorem dX2_nextLame_2 : decode cX2_nextLame 2 = .ok (.istore 4, 2) := by decide +kernel
theorem dX2_nextLame_4 : decode cX2_nextLame 4 = .ok (.iload_n 1, 1) := by decide +kernel
theorem dX2_nextLame_5 : decode cX2_nextLame 5 = .ok (.istore 5, 2) := by decide +kernel
theorem dX2_nextLame_7 : decode cX2_nextLame 7 = .ok (.iload 5, 2) := by decide +kernel
theorem dX2_nextLame_9 : decode cX2_nextLame 9 = .ok (.iload_n 1, 1) := by decide +kernel
theorem dX2_nextLame_10 : decode cX2_nextLame 10 = .ok (.iconst 3, 1) := by decide +kernel
theorem dX2_nextLame_11 : decode cX2_nextLame 11 = .ok (.iadd, 1) := by decide +kernel
theorem dX2_nextLame_12 : decode cX2_nextLame 12 = .ok (.if_icmp .ge 49, 3) := by decide +kernel
theorem dX2_nextLame_15 : decode cX2_nextLame 15 = .ok (.aload_n 0, 1) := by decide +kernel
theorem dX2_nextLame_16 : decode cX2_nextLame 16 = .ok (.getfield 11, 3) := by decide +kernel
theorem dX2_nextLame_19 : decode cX2_nextLame 19 = .ok (.iload 5, 2) := by decide +kernel
theorem dX2_nextLame_21 : decode cX2_nextLame 21 = .ok (.iaload, 1) := by decide +kernel
theorem dX2_nextLame_22 : decode cX2_nextLame 22 = .ok (.istore 6, 2) := by decide +kernel
theorem dX2_nextLame_24 : decode cX2_nextLame 24 = .ok (.iload 6, 2) := by decide +kernel
theorem dX2_nextLame_26 : decode cX2_nextLame 26 = .ok (.ifCond .lt 29, 3) := by decide +kernel
theorem dX2_nextLame_29 : decode cX2_nextLame 29 = .ok (.iload 6, 2) := by decide +kernel
theorem dX2_nextLame_31 : decode cX2_nextLame 31 = .ok (.bipush 6, 2) := by decide +kernel
theorem dX2_nextLame_33 : decode cX2_nextLame 33 = .ok (.if_icmp .ge 22, 3) := by decide +kernel
theorem dX2_nextLame_36 : decode cX2_nextLame 36 = .ok (.aload_n 2, 1) := by decide +kernel
theorem dX2_nextLame_37 : decode cX2_nextLame 37 = .ok (.iload 6, 2) := by decide +kernel
theorem dX2_nextLame_39 : decode cX2_nextLame 39 = .ok (.iaload, 1) := by decide +kernel
theorem dX2_nextLame_40 : decode cX2_nextLame 40 = .ok (.iload_n 3, 1) := by decide +kernel
theorem dX2_nextLame_41 : decode cX2_nextLame 41 = .ok (.if_icmp .le 14, 3) := by decide +kernel
theorem dX2_nextLame_44 : decode cX2_nextLame 44 = .ok (.iload 4, 2) := by decide +kernel
theorem dX2_nextLame_46 : decode cX2_nextLame 46 = .ok (.aload_n 2, 1) := by decide +kernel
theorem dX2_nextLame_47 : decode cX2_nextLame 47 = .ok (.iload 6, 2) := by decide +kernel
theorem dX2_nextLame_49 : decode cX2_nextLame 49 = .ok (.iaload, 1) := by decide +kernel
theorem dX2_nextLame_50 : decode cX2_nextLame 50 = .ok (.invokestatic 77, 3) := by decide +kernel
theorem dX2_nextLame_53 : decode cX2_nextLame 53 = .ok (.istore 4, 2) := by decide +kernel
theorem dX2_nextLame_55 : decode cX2_nextLame 55 = .ok (.iinc 5 1, 3) := by decide +kernel
theorem dX2_nextLame_58 : decode cX2_nextLame 58 = .ok (.goto (-51), 3) := by decide +kernel
theorem dX2_nextLame_61 : decode cX2_nextLame 61 = .ok (.iload 4, 2) := by decide +kernel
theorem dX2_nextLame_63 : decode cX2_nextLame 63 = .ok (.ireturn, 1) := by decide +kernel
theorem dX2_oats_0 : decode cX2_oats 0 = .ok (.iload_n 1, 1) := by decide +kernel
theorem dX2_oats_1 : decode cX2_oats 1 = .ok (.invokestatic 53, 3) := by decide +kernel
theorem dX2_oats_4 : decode cX2_oats 4 = .ok (.ifCond .ne 5, 3) := by decide +kernel
theorem dX2_oats_7 : decode cX2_oats 7 = .ok (.iconst 0, 1) := by decide +kernel
theorem dX2_oats_8 : decode cX2_oats 8 = .ok (.ireturn, 1) := by decide +kernel
theorem dX2_oats_9 : decode cX2_oats 9 = .ok (.iload_n 1, 1) := by decide +kernel
theorem dX2_oats_10 : decode cX2_oats 10 = .ok (.iconst 3, 1) := by decide +kernel
theorem dX2_oats_11 : decode cX2_oats 11 = .ok (.imul, 1) := by decide +kernel
theorem dX2_oats_12 : decode cX2_oats 12 = .ok (.istore 4, 2) := by decide +kernel
theorem dX2_oats_14 : decode cX2_oats 14 = .ok (.iconst 0, 1) := by decide +kernel
theorem dX2_oats_15 : decode cX2_oats 15 = .ok (.istore 5, 2) := by decide +kernel
theorem dX2_oats_17 : decode cX2_oats 17 = .ok (.iload 4, 2) := by decide +kernel
theorem dX2_oats_19 : decode cX2_oats 19 = .ok (.istore 6, 2) := by decide +kernel
theorem dX2_oats_21 : decode cX2_oats 21 = .ok (.iload 6, 2) := by decide +kernel
theorem dX2_oats_23 : decode cX2_oats 23 = .ok (.iload 4, 2) := by decide +kernel
theorem dX2_oats_25 : decode cX2_oats 25 = .ok (.iconst 3, 1) := by decide +kernel
theorem dX2_oats_26 : decode cX2_oats 26 = .ok (.iadd, 1) := by decide +kernel
theorem dX2_oats_27 : decode cX2_oats 27 = .ok (.if_icmp .ge 51, 3) := by decide +kernel
theorem dX2_oats_30 : decode cX2_oats 30 = .ok (.aload_n 0, 1) := by decide +kernel
theorem dX2_oats_31 : decode cX2_oats 31 = .ok (.getfield 11, 3) := by decide +kernel
theorem dX2_oats_34 : decode cX2_oats 34 = .ok (.iload 6, 2) := by decide +kernel
theorem dX2_oats_36 : decode cX2_oats 36 = .ok (.iaload, 1) := by decide +kernel
theorem dX2_oats_37 : decode cX2_oats 37 = .ok (.istore 7, 2) := by decide +kernel
theorem dX2_oats_39 : decode cX2_oats 39 = .ok (.iload 7, 2) := by decide +kernel
theorem dX2_oats_41 : decode cX2_oats 41 = .ok (.ifCond .lt 31, 3) := by decide +kernel
theorem dX2_oats_44 : decode cX2_oats 44 = .ok (.iload 7, 2) := by decide +kernel
theorem dX2_oats_46 : decode cX2_oats 46 = .ok (.bipush 6, 2) := by decide +kernel
theorem dX2_oats_48 : decode cX2_oats 48 = .ok (.if_icmp .ge 24, 3) := by decide +kernel
theorem dX2_oats_51 : decode cX2_oats 51 = .ok (.iload 5, 2) := by decide +kernel
theorem dX2_oats_53 : decode cX2_oats 53 = .ok (.aload_n 0, 1) := by decide +kernel
theorem dX2_oats_54 : decode cX2_oats 54 = .ok (.getfield 15, 3) := by decide +kernel
theorem dX2_oats_57 : decode cX2_oats 57 = .ok (.iload 6, 2) := by decide +kernel
theorem dX2_oats_59 : decode cX2_oats 59 = .ok (.iaload, 1) := by decide +kernel
theorem dX2_oats_60 : decode cX2_oats 60 = .ok (.aload_n 2, 1) := by decide +kernel
theorem dX2_oats_61 : decode cX2_oats 61 = .ok (.iload 7, 2) := by decide +kernel
theorem dX2_oats_63 : decode cX2_oats 63 = .ok (.iaload, 1) := by decide +kernel
theorem dX2_oats_64 : decode cX2_oats 64 = .ok (.iload_n 3, 1) := by decide +kernel
theorem dX2_oats_65 : decode cX2_oats 65 = .ok (.invokestatic 77, 3) := by decide +kernel
theorem dX2_oats_68 : decode cX2_oats 68 = .ok (.imul, 1) := by decide +kernel
theorem dX2_oats_69 : decode cX2_oats 69 = .ok (.iadd, 1) := by decide +kernel
theorem dX2_oats_70 : decode cX2_oats 70 = .ok (.istore 5, 2) := by decide +kernel
theorem dX2_oats_72 : decode cX2_oats 72 = .ok (.iinc 6 1, 3) := by decide +kernel
theorem dX2_oats_75 : decode cX2_oats 75 = .ok (.goto (-54), 3) := by decide +kernel
theorem dX2_oats_78 : decode cX2_oats 78 = .ok (.iload 5, 2) := by decide +kernel
theorem dX2_oats_80 : decode cX2_oats 80 = .ok (.ireturn, 1) := by decide +kernel
theorem dX2_tire_0 : decode cX2_tire 0 = .ok (.iconst 0, 1) := by decide +kernel
theorem dX2_tire_1 : decode cX2_tire 1 = .ok (.istore 5, 2) := by decide +kernel
theorem dX2_tire_3 : decode cX2_tire 3 = .ok (.iload 5, 2) := by decide +kernel
theorem dX2_tire_5 : decode cX2_tire 5 = .ok (.aload_n 0, 1) := by decide +kernel
theorem dX2_tire_6 : decode cX2_tire 6 = .ok (.getfield 18, 3) := by decide +kernel
theorem dX2_tire_9 : decode cX2_tire 9 = .ok (.getfield 50, 3) := by decide +kernel
theorem dX2_tire_12 : decode cX2_tire 12 = .ok (.if_icmp .ge 72, 3) := by decide +kernel
theorem dX2_tire_15 : decode cX2_tire 15 = .ok (.iload 5, 2) := by decide +kernel
theorem dX2_tire_17 : decode cX2_tire 17 = .ok (.bipush 6, 2) := by decide +kernel
theorem dX2_tire_19 : decode cX2_tire 19 = .ok (.if_icmp .ge 65, 3) := by decide +kernel
theorem dX2_tire_22 : decode cX2_tire 22 = .ok (.aload 4, 2) := by decide +kernel
theorem dX2_tire_24 : decode cX2_tire 24 = .ok (.iload 5, 2) := by decide +kernel
theorem dX2_tire_26 : decode cX2_tire 26 = .ok (.aload_n 0, 1) := by decide +kernel
theorem dX2_tire_27 : decode cX2_tire 27 = .ok (.iload_n 1, 1) := by decide +kernel
theorem dX2_tire_28 : decode cX2_tire 28 = .ok (.iload 5, 2) := by decide +kernel
theorem dX2_tire_30 : decode cX2_tire 30 = .ok (.invokevirtual 85, 3) := by decide +kernel
theorem dX2_tire_33 : decode cX2_tire 33 = .ok (.ifCond .eq 16, 3) := by decide +kernel
theorem dX2_tire_36 : decode cX2_tire 36 = .ok (.iconst 0, 1) := by decide +kernel
theorem dX2_tire_37 : decode cX2_tire 37 = .ok (.aload_n 3, 1) := by decide +kernel
theorem dX2_tire_38 : decode cX2_tire 38 = .ok (.iload 5, 2) := by decide +kernel
theorem dX2_tire_40 : decode cX2_tire 40 = .ok (.iaload, 1) := by decide +kernel
theorem dX2_tire_41 : decode cX2_tire 41 = .ok (.iload_n 2, 1) := by decide +kernel
theorem dX2_tire_42 : decode cX2_tire 42 = .ok (.isub, 1) := by decide +kernel
theorem dX2_tire_43 : decode cX2_tire 43 = .ok (.invokestatic 89, 3) := by decide +kernel
theorem dX2_tire_46 : decode cX2_tire 46 = .ok (.goto 31, 3) := by decide +kernel
theorem dX2_tire_49 : decode cX2_tire 49 = .ok (.aload_n 0, 1) := by decide +kernel
theorem dX2_tire_50 : decode cX2_tire 50 = .ok (.getfield 18, 3) := by decide +kernel
theorem dX2_tire_53 : decode cX2_tire 53 = .ok (.getfield 92, 3) := by decide +kernel
theorem dX2_tire_56 : decode cX2_tire 56 = .ok (.iload 5, 2) := by decide +kernel
theorem dX2_tire_58 : decode cX2_tire 58 = .ok (.iaload, 1) := by decide +kernel
theorem dX2_tire_59 : decode cX2_tire 59 = .ok (.aload_n 3, 1) := by decide +kernel
theorem dX2_tire_60 : decode cX2_tire 60 = .ok (.iload 5, 2) := by decide +kernel
theorem dX2_tire_62 : decode cX2_tire 62 = .ok (.iaload, 1) := by decide +kernel
theorem dX2_tire_63 : decode cX2_tire 63 = .ok (.aload_n 0, 1) := by decide +kernel
theorem dX2_tire_64 : decode cX2_tire 64 = .ok (.getfield 18, 3) := by decide +kernel
theorem dX2_tire_67 : decode cX2_tire 67 = .ok (.getfield 95, 3) := by decide +kernel
theorem dX2_tire_70 : decode cX2_tire 70 = .ok (.iload 5, 2) := by decide +kernel
theorem dX2_tire_72 : decode cX2_tire 72 = .ok (.iaload, 1) := by decide +kernel
theorem dX2_tire_73 : decode cX2_tire 73 = .ok (.iadd, 1) := by decide +kernel
theorem dX2_tire_74 : decode cX2_tire 74 = .ok (.invokestatic 77, 3) := by decide +kernel
theorem dX2_tire_77 : decode cX2_tire 77 = .ok (.iastore, 1) := by decide +kernel
theorem dX2_tire_78 : decode cX2_tire 78 = .ok (.iinc 5 1, 3) := by decide +kernel
theorem dX2_tire_81 : decode cX2_tire 81 = .ok (.goto (-78), 3) := by decide +kernel
theorem dX2_tire_84 : decode cX2_tire 84 = .ok (.return_, 1) := by decide +kernel
theorem dX3_init_0 : decode cX3_init 0 = .ok (.aload_n 0, 1) := by decide +kernel
theorem dX3_init_1 : decode cX3_init 1 = .ok (.invokespecial 3, 3) := by decide +kernel
theorem dX3_init_4 : decode cX3_init 4 = .ok (.aload_n 0, 1) := by decide +kernel
theorem dX3_init_5 : decode cX3_init 5 = .ok (.bipush 6, 2) := by decide +kernel
theorem dX3_init_7 : decode cX3_init 7 = .ok (.newarray .int, 2) := by decide +kernel
theorem dX3_init_9 : decode cX3_init 9 = .ok (.putfield 9, 3) := by decide +kernel
theorem dX3_init_12 : decode cX3_init 12 = .ok (.aload_n 0, 1) := by decide +kernel
theorem dX3_init_13 : decode cX3_init 13 = .ok (.aload_n 1, 1) := by decide +kernel
theorem dX3_init_14 : decode cX3_init 14 = .ok (.putfield 15, 3) := by decide +kernel
theorem dX3_init_17 : decode cX3_init 17 = .ok (.aload_n 0, 1) := by decide +kernel
theorem dX3_init_18 : decode cX3_init 18 = .ok (.aload_n 2, 1) := by decide +kernel
theorem dX3_init_19 : decode cX3_init 19 = .ok (.putfield 19, 3) := by decide +kernel
theorem dX3_init_22 : decode cX3_init 22 = .ok (.return_, 1) := by decide +kernel
theorem dX3_find_0 : decode cX3_find 0 = .ok (.aload_n 0, 1) := by decide +kernel
theorem dX3_find_1 : decode cX3_find 1 = .ok (.getfield 23, 3) := by decide +kernel
theorem dX3_find_4 : decode cX3_find 4 = .ok (.ifCond .eq 11, 3) := by decide +kernel
theorem dX3_find_7 : decode cX3_find 7 = .ok (.aload_n 0, 1) := by decide +kernel
theorem dX3_find_8 : decode cX3_find 8 = .ok (.getfield 27, 3) := by decide +kernel
theorem dX3_find_11 : decode cX3_find 11 = .ok (.iload_n 3, 1) := by decide +kernel
theorem dX3_find_12 : decode cX3_find 12 = .ok (.if_icmp .eq 20, 3) := by decide +kernel
theorem dX3_find_15 : decode cX3_find 15 = .ok (.aload_n 0, 1) := by decide +kernel
theorem dX3_find_16 : decode cX3_find 16 = .ok (.aload_n 1, 1) := by decide +kernel
theorem dX3_find_17 : decode cX3_find 17 = .ok (.iload_n 2, 1) := by decide +kernel
theorem dX3_find_18 : decode cX3_find 18 = .ok (.iload_n 3, 1) := by decide +kernel
theorem dX3_find_19 : decode cX3_find 19 = .ok (.invokevirtual 31, 3) := by decide +kernel
theorem dX3_find_22 : decode cX3_find 22 = .ok (.aload_n 0, 1) := by decide +kernel
theorem dX3_find_23 : decode cX3_find 23 = .ok (.iload_n 3, 1) := by decide +kernel
theorem dX3_find_24 : decode cX3_find 24 = .ok (.putfield 27, 3) := by decide +kernel
theorem dX3_find_27 : decode cX3_find 27 = .ok (.aload_n 0, 1) := by decide +kernel
theorem dX3_find_28 : decode cX3_find 28 = .ok (.iconst 1, 1) := by decide +kernel
theorem dX3_find_29 : decode cX3_find 29 = .ok (.putfield 23, 3) := by decide +kernel
theorem dX3_find_32 : decode cX3_find 32 = .ok (.aload_n 0, 1) := by decide +kernel
theorem dX3_find_33 : decode cX3_find 33 = .ok (.getfield 35, 3) := by decide +kernel
theorem dX3_find_36 : decode cX3_find 36 = .ok (.iconst (-1), 1) := by decide +kernel
theorem dX3_find_37 : decode cX3_find 37 = .ok (.if_icmp .eq 7, 3) := by decide +kernel
theorem dX3_find_40 : decode cX3_find 40 = .ok (.iconst 1, 1) := by decide +kernel
theorem dX3_find_41 : decode cX3_find 41 = .ok (.goto 4, 3) := by decide +kernel
theorem dX3_find_44 : decode cX3_find 44 = .ok (.iconst 0, 1) := by decide +kernel
theorem dX3_find_45 : decode cX3_find 45 = .ok (.ireturn, 1) := by decide +kernel
theorem dX3_search_0 : decode cX3_search 0 = .ok (.aload_n 0, 1) := by decide +kernel
theorem dX3_search_1 : decode cX3_search 1 = .ok (.getfield 15, 3) := by decide +kernel
theorem dX3_search_4 : decode cX3_search 4 = .ok (.iload_n 2, 1) := by decide +kernel
theorem dX3_search_5 : decode cX3_search 5 = .ok (.invokevirtual 38, 3) := by decide +kernel
theorem dX3_search_8 : decode cX3_search 8 = .ok (.iload_n 3, 1) := by decide +kernel
theorem dX3_search_9 : decode cX3_search 9 = .ok (.isub, 1) := by decide +kernel
theorem dX3_search_10 : decode cX3_search 10 = .ok (.istore 4, 2) := by decide +kernel
theorem dX3_search_12 : decode cX3_search 12 = .ok (.aload_n 0, 1) := by decide +kernel
theorem dX3_search_13 : decode cX3_search 13 = .ok (.getfield 15, 3) := by decide +kernel
theorem dX3_search_16 : decode cX3_search 16 = .ok (.iload_n 2, 1) := by decide +kernel
theorem dX3_search_17 : decode cX3_search 17 = .ok (.iconst 1, 1) := by decide +kernel
theorem dX3_search_18 : decode cX3_search 18 = .ok (.iadd, 1) := by decide +kernel
theorem dX3_search_19 : decode cX3_search 19 = .ok (.invokevirtual 38, 3) := by decide +kernel
theorem dX3_search_22 : decode cX3_search 22 = .ok (.iload_n 3, 1) := by decide +kernel
theorem dX3_search_23 : decode cX3_search 23 = .ok (.isub, 1) := by decide +kernel
theorem dX3_search_24 : decode cX3_search 24 = .ok (.istore 5, 2) := by decide +kernel
theorem dX3_search_26 : decode cX3_search 26 = .ok (.aload_n 0, 1) := by decide +kernel
theorem dX3_search_27 : decode cX3_search 27 = .ok (.iconst (-1), 1) := by decide +kernel
theorem dX3_search_28 : decode cX3_search 28 = .ok (.putfield 35, 3) := by decide +kernel
theorem dX3_search_31 : decode cX3_search 31 = .ok (.iconst 1, 1) := by decide +kernel
theorem dX3_search_32 : decode cX3_search 32 = .ok (.istore 6, 2) := by decide +kernel
theorem dX3_search_34 : decode cX3_search 34 = .ok (.iload 6, 2) := by decide +kernel
theorem dX3_search_36 : decode cX3_search 36 = .ok (.aload_n 0, 1) := by decide +kernel
theorem dX3_search_37 : decode cX3_search 37 = .ok (.getfield 19, 3) := by decide +kernel
theorem dX3_search_40 : decode cX3_search 40 = .ok (.getfield 46, 3) := by decide +kernel
theorem dX3_search_43 : decode cX3_search 43 = .ok (.if_icmp .gt 93, 3) := by decide +kernel
theorem dX3_search_46 : decode cX3_search 46 = .ok (.aload_n 0, 1) := by decide +kernel
theorem dX3_search_47 : decode cX3_search 47 = .ok (.getfield 19, 3) := by decide +kernel
theorem dX3_search_50 : decode cX3_search 50 = .ok (.iload 6, 2) := by decide +kernel
theorem dX3_search_52 : decode cX3_search 52 = .ok (.aload_n 1, 1) := by decide +kernel
theorem dX3_search_53 : decode cX3_search 53 = .ok (.iload 4, 2) := by decide +kernel
theorem dX3_search_55 : decode cX3_search 55 = .ok (.aload_n 0, 1) := by decide +kernel
theorem dX3_search_56 : decode cX3_search 56 = .ok (.getfield 15, 3) := by decide +kernel
theorem dX3_search_59 : decode cX3_search 59 = .ok (.invokevirtual 49, 3) := by decide +kernel
theorem dX3_search_62 : decode cX3_search 62 = .ok (.invokevirtual 53, 3) := by decide +kernel
theorem dX3_search_65 : decode cX3_search 65 = .ok (.istore 7, 2) := by decide +kernel
theorem dX3_search_67 : decode cX3_search 67 = .ok (.iload 7, 2) := by decide +kernel
theorem dX3_search_69 : decode cX3_search 69 = .ok (.iconst (-1), 1) := by decide +kernel
theorem dX3_search_70 : decode cX3_search 70 = .ok (.if_icmp .eq 60, 3) := by decide +kernel
theorem dX3_search_73 : decode cX3_search 73 = .ok (.aload_n 0, 1) := by decide +kernel
theorem dX3_search_74 : decode cX3_search 74 = .ok (.getfield 19, 3) := by decide +kernel
theorem dX3_search_77 : decode cX3_search 77 = .ok (.iload 6, 2) := by decide +kernel
theorem dX3_search_79 : decode cX3_search 79 = .ok (.aload_n 1, 1) := by decide +kernel
theorem dX3_search_80 : decode cX3_search 80 = .ok (.iload 7, 2) := by decide +kernel
theorem dX3_search_82 : decode cX3_search 82 = .ok (.invokevirtual 57, 3) := by decide +kernel
theorem dX3_search_85 : decode cX3_search 85 = .ok (.istore 8, 2) := by decide +kernel
theorem dX3_search_87 : decode cX3_search 87 = .ok (.aload_n 0, 1) := by decide +kernel
theorem dX3_search_88 : decode cX3_search 88 = .ok (.getfield 35, 3) := by decide +kernel
theorem dX3_search_91 : decode cX3_search 91 = .ok (.iconst (-1), 1) := by decide +kernel
theorem dX3_search_92 : decode cX3_search 92 = .ok (.if_icmp .eq 12, 3) := by decide +kernel
theorem dX3_search_95 : decode cX3_search 95 = .ok (.iload 8, 2) := by decide +kernel
theorem dX3_search_97 : decode cX3_search 97 = .ok (.aload_n 0, 1) := by decide +kernel
theorem dX3_search_98 : decode cX3_search 98 = .ok (.getfield 61, 3) := by decide +kernel
theorem dX3_search_101 : decode cX3_search 101 = .ok (.if_icmp .ge 29, 3) := by decide +kernel
theorem dX3_search_104 : decode cX3_search 104 = .ok (.aload_n 0, 1) := by decide +kernel
theorem dX3_search_105 : decode cX3_search 105 = .ok (.getfield 19, 3) := by decide +kernel
theorem dX3_search_108 : decode cX3_search 108 = .ok (.iload 6, 2) := by decide +kernel
theorem dX3_search_110 : decode cX3_search 110 = .ok (.iload 7, 2) := by decide +kernel
theorem dX3_search_112 : decode cX3_search 112 = .ok (.aload_n 1, 1) := by decide +kernel
theorem dX3_search_113 : decode cX3_search 113 = .ok (.aload_n 0, 1) := by decide +kernel
theorem dX3_search_114 : decode cX3_search 114 = .ok (.getfield 9, 3) := by decide +kernel
theorem dX3_search_117 : decode cX3_search 117 = .ok (.invokevirtual 63, 3) := by decide +kernel
theorem dX3_search_120 : decode cX3_search 120 = .ok (.aload_n 0, 1) := by decide +kernel
theorem dX3_search_121 : decode cX3_search 121 = .ok (.iload 6, 2) := by decide +kernel
theorem dX3_search_123 : decode cX3_search 123 = .ok (.iload 8, 2) := by decide +kernel
theorem dX3_search_125 : decode cX3_search 125 = .ok (.iload 5, 2) := by decide +kernel
theorem dX3_search_127 : decode cX3_search 127 = .ok (.invokevirtual 67, 3) := by decide +kernel
theorem dX3_search_130 : decode cX3_search 130 = .ok (.iinc 6 1, 3) := by decide +kernel
theorem dX3_search_133 : decode cX3_search 133 = .ok (.goto (-99), 3) := by decide +kernel
theorem dX3_search_136 : decode cX3_search 136 = .ok (.return_, 1) := by decide +kernel
theorem dX3_searchSecond_0 : decode cX3_searchSecond 0 = .ok (.iconst 1, 1) := by decide +kernel
theorem dX3_searchSecond_1 : decode cX3_searchSecond 1 = .ok (.istore 4, 2) := by decide +kernel
theorem dX3_searchSecond_3 : decode cX3_searchSecond 3 = .ok (.iload 4, 2) := by decide +kernel
theorem dX3_searchSecond_5 : decode cX3_searchSecond 5 = .ok (.aload_n 0, 1) := by decide +kernel
theorem dX3_searchSecond_6 : decode cX3_searchSecond 6 = .ok (.getfield 19, 3) := by decide +kernel
theorem dX3_searchSecond_9 : decode cX3_searchSecond 9 = .ok (.getfield 46, 3) := by decide +kernel
theorem dX3_searchSecond_12 : decode cX3_searchSecond 12 = .ok (.if_icmp .gt 91, 3) := by decide +kernel
theorem dX3_searchSecond_15 : decode cX3_searchSecond 15 = .ok (.aload_n 0, 1) := by decide +kernel
theorem dX3_searchSecond_16 : decode cX3_searchSecond 16 = .ok (.getfield 19, 3) := by decide +kernel
theorem dX3_searchSecond_19 : decode cX3_searchSecond 19 = .ok (.iload 4, 2) := by decide +kernel
theorem dX3_searchSecond_21 : decode cX3_searchSecond 21 = .ok (.aload_n 0, 1) := by decide +kernel
theorem dX3_searchSecond_22 : decode cX3_searchSecond 22 = .ok (.getfield 9, 3) := by decide +kernel
theorem dX3_searchSecond_25 : decode cX3_searchSecond 25 = .ok (.iload_n 3, 1) := by decide +kernel
theorem dX3_searchSecond_26 : decode cX3_searchSecond 26 = .ok (.aload_n 0, 1) := by decide +kernel
theorem dX3_searchSecond_27 : decode cX3_searchSecond 27 = .ok (.getfield 15, 3) := by decide +kernel
theorem dX3_searchSecond_30 : decode cX3_searchSecond 30 = .ok (.invokevirtual 49, 3) := by decide +kernel
theorem dX3_searchSecond_33 : decode cX3_searchSecond 33 = .ok (.invokevirtual 53, 3) := by decide +kernel
theorem dX3_searchSecond_36 : decode cX3_searchSecond 36 = .ok (.istore 5, 2) := by decide +kernel
theorem dX3_searchSecond_38 : decode cX3_searchSecond 38 = .ok (.iload 5, 2) := by decide +kernel
theorem dX3_searchSecond_40 : decode cX3_searchSecond 40 = .ok (.iconst (-1), 1) := by decide +kernel
theorem dX3_searchSecond_41 : decode cX3_searchSecond 41 = .ok (.if_icmp .eq 56, 3) := by decide +kernel
theorem dX3_searchSecond_44 : decode cX3_searchSecond 44 = .ok (.iload_n 2, 1) := by decide +kernel
theorem dX3_searchSecond_45 : decode cX3_searchSecond 45 = .ok (.aload_n 0, 1) := by decide +kernel
theorem dX3_searchSecond_46 : decode cX3_searchSecond 46 = .ok (.getfield 19, 3) := by decide +kernel
theorem dX3_searchSecond_49 : decode cX3_searchSecond 49 = .ok (.iload 4, 2) := by decide +kernel
theorem dX3_searchSecond_51 : decode cX3_searchSecond 51 = .ok (.aload_n 0, 1) := by decide +kernel
theorem dX3_searchSecond_52 : decode cX3_searchSecond 52 = .ok (.getfield 9, 3) := by decide +kernel
theorem dX3_searchSecond_55 : decode cX3_searchSecond 55 = .ok (.iload 5, 2) := by decide +kernel
theorem dX3_searchSecond_57 : decode cX3_searchSecond 57 = .ok (.invokevirtual 57, 3) := by decide +kernel
theorem dX3_searchSecond_60 : decode cX3_searchSecond 60 = .ok (.iadd, 1) := by decide +kernel
theorem dX3_searchSecond_61 : decode cX3_searchSecond 61 = .ok (.istore 6, 2) := by decide +kernel
theorem dX3_searchSecond_63 : decode cX3_searchSecond 63 = .ok (.aload_n 0, 1) := by decide +kernel
theorem dX3_searchSecond_64 : decode cX3_searchSecond 64 = .ok (.getfield 35, 3) := by decide +kernel
theorem dX3_searchSecond_67 : decode cX3_searchSecond 67 = .ok (.iconst (-1), 1) := by decide +kernel
theorem dX3_searchSecond_68 : decode cX3_searchSecond 68 = .ok (.if_icmp .eq 12, 3) := by decide +kernel
theorem dX3_searchSecond_71 : decode cX3_searchSecond 71 = .ok (.iload 6, 2) := by decide +kernel
theorem dX3_searchSecond_73 : decode cX3_searchSecond 73 = .ok (.aload_n 0, 1) := by decide +kernel
theorem dX3_searchSecond_74 : decode cX3_searchSecond 74 = .ok (.getfield 61, 3) := by decide +kernel
theorem dX3_searchSecond_77 : decode cX3_searchSecond 77 = .ok (.if_icmp .ge 20, 3) := by decide +kernel
theorem dX3_searchSecond_80 : decode cX3_searchSecond 80 = .ok (.aload_n 0, 1) := by decide +kernel
theorem dX3_searchSecond_81 : decode cX3_searchSecond 81 = .ok (.iload_n 1, 1) := by decide +kernel
theorem dX3_searchSecond_82 : decode cX3_searchSecond 82 = .ok (.putfield 35, 3) := by decide +kernel
theorem dX3_searchSecond_85 : decode cX3_searchSecond 85 = .ok (.aload_n 0, 1) := by decide +kernel
theorem dX3_searchSecond_86 : decode cX3_searchSecond 86 = .ok (.iload 4, 2) := by decide +kernel
theorem dX3_searchSecond_88 : decode cX3_searchSecond 88 = .ok (.putfield 71, 3) := by decide +kernel
theorem dX3_searchSecond_91 : decode cX3_searchSecond 91 = .ok (.aload_n 0, 1) := by decide +kernel
theorem dX3_searchSecond_92 : decode cX3_searchSecond 92 = .ok (.iload 6, 2) := by decide +kernel
theorem dX3_searchSecond_94 : decode cX3_searchSecond 94 = .ok (.putfield 61, 3) := by decide +kernel
theorem dX3_searchSecond_97 : decode cX3_searchSecond 97 = .ok (.iinc 4 1, 3) := by decide +kernel
theorem dX3_searchSecond_100 : decode cX3_searchSecond 100 = .ok (.goto (-97), 3) := by decide +kernel
theorem dX3_searchSecond_103 : decode cX3_searchSecond 103 = .ok (.return_, 1) := by decide +kernel
theorem dX4_init_0 : decode cX4_init 0 = .ok (.aload_n 0, 1) := by decide +kernel
theorem dX4_init_1 : decode cX4_init 1 = .ok (.invokespecial 3, 3) := by decide +kernel
theorem dX4_init_4 : decode cX4_init 4 = .ok (.aload_n 0, 1) := by decide +kernel
theorem dX4_init_5 : decode cX4_init 5 = .ok (.sipush 500, 3) := by decide +kernel
theorem dX4_init_8 : decode cX4_init 8 = .ok (.newarray .int, 2) := by decide +kernel
theorem dX4_init_10 : decode cX4_init 10 = .ok (.putfield 9, 3) := by decide +kernel
theorem dX4_init_13 : decode cX4_init 13 = .ok (.aload_n 0, 1) := by decide +kernel
theorem dX4_init_14 : decode cX4_init 14 = .ok (.iconst (-1), 1) := by decide +kernel
theorem dX4_init_15 : decode cX4_init 15 = .ok (.putfield 15, 3) := by decide +kernel
theorem dX4_init_18 : decode cX4_init 18 = .ok (.return_, 1) := by decide +kernel
theorem dX4_append_0 : decode cX4_append 0 = .ok (.aload_n 0, 1) := by decide +kernel
theorem dX4_append_1 : decode cX4_append 1 = .ok (.getfield 19, 3) := by decide +kernel
theorem dX4_append_4 : decode cX4_append 4 = .ok (.sipush 500, 3) := by decide +kernel
theorem dX4_append_7 : decode cX4_append 7 = .ok (.if_icmp .ge 23, 3) := by decide +kernel
theorem dX4_append_10 : decode cX4_append 10 = .ok (.aload_n 0, 1) := by decide +kernel
theorem dX4_append_11 : decode cX4_append 11 = .ok (.getfield 9, 3) := by decide +kernel
theorem dX4_append_14 : decode cX4_append 14 = .ok (.aload_n 0, 1) := by decide +kernel
theorem dX4_append_15 : decode cX4_append 15 = .ok (.getfield 19, 3) := by decide +kernel
theorem dX4_append_18 : decode cX4_append 18 = .ok (.iload_n 1, 1) := by decide +kernel
theorem dX4_append_19 : decode cX4_append 19 = .ok (.iastore, 1) := by decide +kernel
theorem dX4_append_20 : decode cX4_append 20 = .ok (.aload_n 0, 1) := by decide +kernel
theorem dX4_append_21 : decode cX4_append 21 = .ok (.dup, 1) := by decide +kernel
theorem dX4_append_22 : decode cX4_append 22 = .ok (.getfield 19, 3) := by decide +kernel
theorem dX4_append_25 : decode cX4_append 25 = .ok (.iconst 1, 1) := by decide +kernel
theorem dX4_append_26 : decode cX4_append 26 = .ok (.iadd, 1) := by decide +kernel
theorem dX4_append_27 : decode cX4_append 27 = .ok (.putfield 19, 3) := by decide +kernel
theorem dX4_append_30 : decode cX4_append 30 = .ok (.return_, 1) := by decide +kernel
theorem dX4_read_0 : decode cX4_read 0 = .ok (.aload_n 1, 1) := by decide +kernel
theorem dX4_read_1 : decode cX4_read 1 = .ok (.invokevirtual 22, 3) := by decide +kernel
theorem dX4_read_4 : decode cX4_read 4 = .ok (.aload_n 0, 1) := by decide +kernel
theorem dX4_read_5 : decode cX4_read 5 = .ok (.iconst 0, 1) := by decide +kernel
theorem dX4_read_6 : decode cX4_read 6 = .ok (.putfield 27, 3) := by decide +kernel
theorem dX4_read_9 : decode cX4_read 9 = .ok (.aload_n 0, 1) := by decide +kernel
theorem dX4_read_10 : decode cX4_read 10 = .ok (.iconst (-1), 1) := by decide +kernel
theorem dX4_read_11 : decode cX4_read 11 = .ok (.putfield 15, 3) := by decide +kernel
theorem dX4_read_14 : decode cX4_read 14 = .ok (.aload_n 0, 1) := by decide +kernel
theorem dX4_read_15 : decode cX4_read 15 = .ok (.iconst 0, 1) := by decide +kernel
theorem dX4_read_16 : decode cX4_read 16 = .ok (.putfield 30, 3) := by decide +kernel
theorem dX4_read_19 : decode cX4_read 19 = .ok (.iconst 0, 1) := by decide +kernel
theorem dX4_read_20 : decode cX4_read 20 = .ok (.istore_n 2, 1) := by decide +kernel
theorem dX4_read_21 : decode cX4_read 21 = .ok (.iload_n 2, 1) := by decide +kernel
theorem dX4_read_22 : decode cX4_read 22 = .ok (.sipush 500, 3) := by decide +kernel
theorem dX4_read_25 : decode cX4_read 25 = .ok (.if_icmp .ge 39, 3) := by decide +kernel
theorem dX4_read_28 : decode cX4_read 28 = .ok (.aload_n 0, 1) := by decide +kernel
theorem dX4_read_29 : decode cX4_read 29 = .ok (.getfield 27, 3) := by decide +kernel
theorem dX4_read_32 : decode cX4_read 32 = .ok (.ifCond .ne 32, 3) := by decide +kernel
theorem dX4_read_35 : decode cX4_read 35 = .ok (.aload_n 0, 1) := by decide +kernel
theorem dX4_read_36 : decode cX4_read 36 = .ok (.invokevirtual 33, 3) := by decide +kernel
theorem dX4_read_39 : decode cX4_read 39 = .ok (.aload_n 0, 1) := by decide +kernel
theorem dX4_read_40 : decode cX4_read 40 = .ok (.getfield 30, 3) := by decide +kernel
theorem dX4_read_43 : decode cX4_read 43 = .ok (.aload_n 0, 1) := by decide +kernel
theorem dX4_read_44 : decode cX4_read 44 = .ok (.getfield 19, 3) := by decide +kernel
theorem dX4_read_47 : decode cX4_read 47 = .ok (.if_icmp .lt 6, 3) := by decide +kernel
theorem dX4_read_50 : decode cX4_read 50 = .ok (.goto 14, 3) := by decide +kernel
theorem dX4_read_53 : decode cX4_read 53 = .ok (.aload_n 0, 1) := by decide +kernel
theorem dX4_read_54 : decode cX4_read 54 = .ok (.aload_n 1, 1) := by decide +kernel
theorem dX4_read_55 : decode cX4_read 55 = .ok (.invokevirtual 36, 3) := by decide +kernel
theorem dX4_read_58 : decode cX4_read 58 = .ok (.iinc 2 1, 3) := by decide +kernel
theorem dX4_read_61 : decode cX4_read 61 = .ok (.goto (-40), 3) := by decide +kernel
theorem dX4_read_64 : decode cX4_read 64 = .ok (.aload_n 0, 1) := by decide +kernel
theorem dX4_read_65 : decode cX4_read 65 = .ok (.getfield 27, 3) := by decide +kernel
theorem dX4_read_68 : decode cX4_read 68 = .ok (.ifCond .ne 7, 3) := by decide +kernel
theorem dX4_read_71 : decode cX4_read 71 = .ok (.iconst 1, 1) := by decide +kernel
theorem dX4_read_72 : decode cX4_read 72 = .ok (.goto 4, 3) := by decide +kernel
theorem dX4_read_75 : decode cX4_read 75 = .ok (.iconst 0, 1) := by decide +kernel
theorem dX4_read_76 : decode cX4_read 76 = .ok (.ireturn, 1) := by decide +kernel
theorem dX4_readClause_0 : decode cX4_readClause 0 = .ok (.aload_n 0, 1) := by decide +kernel
theorem dX4_readClause_1 : decode cX4_readClause 1 = .ok (.getfield 30, 3) := by decide +kernel
theorem dX4_readClause_4 : decode cX4_readClause 4 = .ok (.istore_n 2, 1) := by decide +kernel
theorem dX4_readClause_5 : decode cX4_readClause 5 = .ok (.aload_n 0, 1) := by decide +kernel
theorem dX4_readClause_6 : decode cX4_readClause 6 = .ok (.iload_n 2, 1) := by decide +kernel
theorem dX4_readClause_7 : decode cX4_readClause 7 = .ok (.aload_n 0, 1) := by decide +kernel
theorem dX4_readClause_8 : decode cX4_readClause 8 = .ok (.iload_n 2, 1) := by decide +kernel
theorem dX4_readClause_9 : decode cX4_readClause 9 = .ok (.invokevirtual 40, 3) := by decide +kernel
theorem dX4_readClause_12 : decode cX4_readClause 12 = .ok (.invokevirtual 44, 3) := by decide +kernel
theorem dX4_readClause_15 : decode cX4_readClause 15 = .ok (.istore_n 3, 1) := by decide +kernel
theorem dX4_readClause_16 : decode cX4_readClause 16 = .ok (.iload_n 3, 1) := by decide +kernel
theorem dX4_readClause_17 : decode cX4_readClause 17 = .ok (.iconst (-1), 1) := by decide +kernel
theorem dX4_readClause_18 : decode cX4_readClause 18 = .ok (.if_icmp .eq 14, 3) := by decide +kernel
theorem dX4_readClause_21 : decode cX4_readClause 21 = .ok (.iload_n 3, 1) := by decide +kernel
theorem dX4_readClause_22 : decode cX4_readClause 22 = .ok (.ifCond .eq 19, 3) := by decide +kernel
theorem dX4_readClause_25 : decode cX4_readClause 25 = .ok (.aload_n 1, 1) := by decide +kernel
theorem dX4_readClause_26 : decode cX4_readClause 26 = .ok (.getfield 48, 3) := by decide +kernel
theorem dX4_readClause_29 : decode cX4_readClause 29 = .ok (.ifCond .ne 12, 3) := by decide +kernel
theorem dX4_readClause_32 : decode cX4_readClause 32 = .ok (.aload_n 0, 1) := by decide +kernel
theorem dX4_readClause_33 : decode cX4_readClause 33 = .ok (.iconst 1, 1) := by decide +kernel
theorem dX4_readClause_34 : decode cX4_readClause 34 = .ok (.iload_n 2, 1) := by decide +kernel
theorem dX4_readClause_35 : decode cX4_readClause 35 = .ok (.invokevirtual 51, 3) := by decide +kernel
theorem dX4_readClause_38 : decode cX4_readClause 38 = .ok (.goto 36, 3) := by decide +kernel
theorem dX4_readClause_41 : decode cX4_readClause 41 = .ok (.aload_n 0, 1) := by decide +kernel
theorem dX4_readClause_42 : decode cX4_readClause 42 = .ok (.iload_n 3, 1) := by decide +kernel
theorem dX4_readClause_43 : decode cX4_readClause 43 = .ok (.aload_n 1, 1) := by decide +kernel
theorem dX4_readClause_44 : decode cX4_readClause 44 = .ok (.invokevirtual 55, 3) := by decide +kernel
theorem dX4_readClause_47 : decode cX4_readClause 47 = .ok (.ifCond .eq 12, 3) := by decide +kernel
theorem dX4_readClause_50 : decode cX4_readClause 50 = .ok (.aload_n 0, 1) := by decide +kernel
theorem dX4_readClause_51 : decode cX4_readClause 51 = .ok (.iconst 3, 1) := by decide +kernel
theorem dX4_readClause_52 : decode cX4_readClause 52 = .ok (.iload_n 2, 1) := by decide +kernel
theorem dX4_readClause_53 : decode cX4_readClause 53 = .ok (.invokevirtual 51, 3) := by decide +kernel
theorem dX4_readClause_56 : decode cX4_readClause 56 = .ok (.goto 18, 3) := by decide +kernel
theorem dX4_readClause_59 : decode cX4_readClause 59 = .ok (.aload_n 0, 1) := by decide +kernel
theorem dX4_readClause_60 : decode cX4_readClause 60 = .ok (.aload_n 0, 1) := by decide +kernel
theorem dX4_readClause_61 : decode cX4_readClause 61 = .ok (.iload_n 2, 1) := by decide +kernel
