theorem dX0_init_0 : decode cX0_init 0 = .ok (.aload_n 0, 1) := by decide +kernel
theorem dX0_init_1 : decode cX0_init 1 = .ok (.invokespecial 3, 3) := by decide +kernel
theorem dX0_init_4 : decode cX0_init 4 = .ok (.aload_n 0, 1) := by decide +kernel
theorem dX0_init_5 : decode cX0_init 5 = .ok (.sipush 3601, 3) := by decide +kernel
theorem dX0_init_8 : decode cX0_init 8 = .ok (.newarray .int, 2) := by decide +kernel
theorem dX0_init_10 : decode cX0_init 10 = .ok (.putfield 9, 3) := by decide +kernel
theorem dX0_init_13 : decode cX0_init 13 = .ok (.iconst 0, 1) := by decide +kernel
theorem dX0_init_14 : decode cX0_init 14 = .ok (.istore_n 1, 1) := by decide +kernel
theorem dX0_init_15 : decode cX0_init 15 = .ok (.iload_n 1, 1) := by decide +kernel
theorem dX0_init_16 : decode cX0_init 16 = .ok (.sipush 3600, 3) := by decide +kernel
theorem dX0_init_19 : decode cX0_init 19 = .ok (.if_icmp .ge 28, 3) := by decide +kernel
theorem dX0_init_22 : decode cX0_init 22 = .ok (.aload_n 0, 1) := by decide +kernel
theorem dX0_init_23 : decode cX0_init 23 = .ok (.getfield 9, 3) := by decide +kernel
theorem dX0_init_26 : decode cX0_init 26 = .ok (.iload_n 1, 1) := by decide +kernel
theorem dX0_init_27 : decode cX0_init 27 = .ok (.iconst 1, 1) := by decide +kernel
theorem dX0_init_28 : decode cX0_init 28 = .ok (.iadd, 1) := by decide +kernel
theorem dX0_init_29 : decode cX0_init 29 = .ok (.aload_n 0, 1) := by decide +kernel
theorem dX0_init_30 : decode cX0_init 30 = .ok (.getfield 9, 3) := by decide +kernel
theorem dX0_init_33 : decode cX0_init 33 = .ok (.iload_n 1, 1) := by decide +kernel
theorem dX0_init_34 : decode cX0_init 34 = .ok (.iaload, 1) := by decide +kernel
theorem dX0_init_35 : decode cX0_init 35 = .ok (.iload_n 1, 1) := by decide +kernel
theorem dX0_init_36 : decode cX0_init 36 = .ok (.invokestatic 15, 3) := by decide +kernel
theorem dX0_init_39 : decode cX0_init 39 = .ok (.iadd, 1) := by decide +kernel
theorem dX0_init_40 : decode cX0_init 40 = .ok (.iastore, 1) := by decide +kernel
theorem dX0_init_41 : decode cX0_init 41 = .ok (.iinc 1 1, 3) := by decide +kernel
theorem dX0_init_44 : decode cX0_init 44 = .ok (.goto (-29), 3) := by decide +kernel
theorem dX0_init_47 : decode cX0_init 47 = .ok (.return_, 1) := by decide +kernel
theorem dX0_isDate_0 : decode cX0_isDate 0 = .ok (.iload_n 0, 1) := by decide +kernel
theorem dX0_isDate_1 : decode cX0_isDate 1 = .ok (.ldc 19, 2) := by decide +kernel
theorem dX0_isDate_3 : decode cX0_isDate 3 = .ok (.if_icmp .lt 9, 3) := by decide +kernel
theorem dX0_isDate_6 : decode cX0_isDate 6 = .ok (.iload_n 0, 1) := by decide +kernel
theorem dX0_isDate_7 : decode cX0_isDate 7 = .ok (.ldc 20, 2) := by decide +kernel
theorem dX0_isDate_9 : decode cX0_isDate 9 = .ok (.if_icmp .le 5, 3) := by decide +kernel
theorem dX0_isDate_12 : decode cX0_isDate 12 = .ok (.iconst 0, 1) := by decide +kernel
theorem dX0_isDate_13 : decode cX0_isDate 13 = .ok (.ireturn, 1) := by decide +kernel
theorem dX0_isDate_14 : decode cX0_isDate 14 = .ok (.iload_n 0, 1) := by decide +kernel
theorem dX0_isDate_15 : decode cX0_isDate 15 = .ok (.bipush 100, 2) := by decide +kernel
theorem dX0_isDate_17 : decode cX0_isDate 17 = .ok (.idiv, 1) := by decide +kernel
theorem dX0_isDate_18 : decode cX0_isDate 18 = .ok (.bipush 100, 2) := by decide +kernel
theorem dX0_isDate_20 : decode cX0_isDate 20 = .ok (.irem, 1) := by decide +kernel
theorem dX0_isDate_21 : decode cX0_isDate 21 = .ok (.istore_n 1, 1) := by decide +kernel
theorem dX0_isDate_22 : decode cX0_isDate 22 = .ok (.iload_n 0, 1) := by decide +kernel
theorem dX0_isDate_23 : decode cX0_isDate 23 = .ok (.bipush 100, 2) := by decide +kernel
theorem dX0_isDate_25 : decode cX0_isDate 25 = .ok (.irem, 1) := by decide +kernel
theorem dX0_isDate_26 : decode cX0_isDate 26 = .ok (.istore_n 2, 1) := by decide +kernel
theorem dX0_isDate_27 : decode cX0_isDate 27 = .ok (.iload_n 1, 1) := by decide +kernel
theorem dX0_isDate_28 : decode cX0_isDate 28 = .ok (.iconst 1, 1) := by decide +kernel
theorem dX0_isDate_29 : decode cX0_isDate 29 = .ok (.if_icmp .lt 29, 3) := by decide +kernel
theorem dX0_isDate_32 : decode cX0_isDate 32 = .ok (.iload_n 1, 1) := by decide +kernel
theorem dX0_isDate_33 : decode cX0_isDate 33 = .ok (.bipush 12, 2) := by decide +kernel
theorem dX0_isDate_35 : decode cX0_isDate 35 = .ok (.if_icmp .gt 23, 3) := by decide +kernel
theorem dX0_isDate_38 : decode cX0_isDate 38 = .ok (.iload_n 2, 1) := by decide +kernel
theorem dX0_isDate_39 : decode cX0_isDate 39 = .ok (.iconst 1, 1) := by decide +kernel
theorem dX0_isDate_40 : decode cX0_isDate 40 = .ok (.if_icmp .lt 18, 3) := by decide +kernel
theorem dX0_isDate_43 : decode cX0_isDate 43 = .ok (.iload_n 2, 1) := by decide +kernel
theorem dX0_isDate_44 : decode cX0_isDate 44 = .ok (.iload_n 0, 1) := by decide +kernel
theorem dX0_isDate_45 : decode cX0_isDate 45 = .ok (.invokestatic 21, 3) := by decide +kernel
theorem dX0_isDate_48 : decode cX0_isDate 48 = .ok (.invokestatic 15, 3) := by decide +kernel
theorem dX0_isDate_51 : decode cX0_isDate 51 = .ok (.if_icmp .gt 7, 3) := by decide +kernel
theorem dX0_isDate_54 : decode cX0_isDate 54 = .ok (.iconst 1, 1) := by decide +kernel
theorem dX0_isDate_55 : decode cX0_isDate 55 = .ok (.goto 4, 3) := by decide +kernel
theorem dX0_isDate_58 : decode cX0_isDate 58 = .ok (.iconst 0, 1) := by decide +kernel
theorem dX0_isDate_59 : decode cX0_isDate 59 = .ok (.ireturn, 1) := by decide +kernel
theorem dX0_monthOf_0 : decode cX0_monthOf 0 = .ok (.iload_n 0, 1) := by decide +kernel
theorem dX0_monthOf_1 : decode cX0_monthOf 1 = .ok (.sipush 10000, 3) := by decide +kernel
theorem dX0_monthOf_4 : decode cX0_monthOf 4 = .ok (.idiv, 1) := by decide +kernel
theorem dX0_monthOf_5 : decode cX0_monthOf 5 = .ok (.sipush 1900, 3) := by decide +kernel
theorem dX0_monthOf_8 : decode cX0_monthOf 8 = .ok (.isub, 1) := by decide +kernel
theorem dX0_monthOf_9 : decode cX0_monthOf 9 = .ok (.bipush 12, 2) := by decide +kernel
theorem dX0_monthOf_11 : decode cX0_monthOf 11 = .ok (.imul, 1) := by decide +kernel
theorem dX0_monthOf_12 : decode cX0_monthOf 12 = .ok (.iload_n 0, 1) := by decide +kernel
theorem dX0_monthOf_13 : decode cX0_monthOf 13 = .ok (.bipush 100, 2) := by decide +kernel
theorem dX0_monthOf_15 : decode cX0_monthOf 15 = .ok (.idiv, 1) := by decide +kernel
theorem dX0_monthOf_16 : decode cX0_monthOf 16 = .ok (.bipush 100, 2) := by decide +kernel
theorem dX0_monthOf_18 : decode cX0_monthOf 18 = .ok (.irem, 1) := by decide +kernel
theorem dX0_monthOf_19 : decode cX0_monthOf 19 = .ok (.iadd, 1) := by decide +kernel
theorem dX0_monthOf_20 : decode cX0_monthOf 20 = .ok (.iconst 1, 1) := by decide +kernel
theorem dX0_monthOf_21 : decode cX0_monthOf 21 = .ok (.isub, 1) := by decide +kernel
theorem dX0_monthOf_22 : decode cX0_monthOf 22 = .ok (.ireturn, 1) := by decide +kernel
theorem dX0_dayOf_0 : decode cX0_dayOf 0 = .ok (.iload_n 0, 1) := by decide +kernel
theorem dX0_dayOf_1 : decode cX0_dayOf 1 = .ok (.bipush 100, 2) := by decide +kernel
theorem dX0_dayOf_3 : decode cX0_dayOf 3 = .ok (.irem, 1) := by decide +kernel
theorem dX0_dayOf_4 : decode cX0_dayOf 4 = .ok (.iconst 1, 1) := by decide +kernel
theorem dX0_dayOf_5 : decode cX0_dayOf 5 = .ok (.isub, 1) := by decide +kernel
theorem dX0_dayOf_6 : decode cX0_dayOf 6 = .ok (.ireturn, 1) := by decide +kernel
theorem dX0_dateAt_0 : decode cX0_dateAt 0 = .ok (.sipush 1900, 3) := by decide +kernel
theorem dX0_dateAt_3 : decode cX0_dateAt 3 = .ok (.iload_n 0, 1) := by decide +kernel
theorem dX0_dateAt_4 : decode cX0_dateAt 4 = .ok (.bipush 12, 2) := by decide +kernel
theorem dX0_dateAt_6 : decode cX0_dateAt 6 = .ok (.idiv, 1) := by decide +kernel
theorem dX0_dateAt_7 : decode cX0_dateAt 7 = .ok (.iadd, 1) := by decide +kernel
theorem dX0_dateAt_8 : decode cX0_dateAt 8 = .ok (.sipush 10000, 3) := by decide +kernel
theorem dX0_dateAt_11 : decode cX0_dateAt 11 = .ok (.imul, 1) := by decide +kernel
theorem dX0_dateAt_12 : decode cX0_dateAt 12 = .ok (.iload_n 0, 1) := by decide +kernel
theorem dX0_dateAt_13 : decode cX0_dateAt 13 = .ok (.bipush 12, 2) := by decide +kernel
theorem dX0_dateAt_15 : decode cX0_dateAt 15 = .ok (.irem, 1) := by decide +kernel
theorem dX0_dateAt_16 : decode cX0_dateAt 16 = .ok (.iconst 1, 1) := by decide +kernel
theorem dX0_dateAt_17 : decode cX0_dateAt 17 = .ok (.iadd, 1) := by decide +kernel
theorem dX0_dateAt_18 : decode cX0_dateAt 18 = .ok (.bipush 100, 2) := by decide +kernel
theorem dX0_dateAt_20 : decode cX0_dateAt 20 = .ok (.imul, 1) := by decide +kernel
theorem dX0_dateAt_21 : decode cX0_dateAt 21 = .ok (.iadd, 1) := by decide +kernel
theorem dX0_dateAt_22 : decode cX0_dateAt 22 = .ok (.iload_n 1, 1) := by decide +kernel
theorem dX0_dateAt_23 : decode cX0_dateAt 23 = .ok (.iadd, 1) := by decide +kernel
theorem dX0_dateAt_24 : decode cX0_dateAt 24 = .ok (.iconst 1, 1) := by decide +kernel
theorem dX0_dateAt_25 : decode cX0_dateAt 25 = .ok (.iadd, 1) := by decide +kernel
theorem dX0_dateAt_26 : decode cX0_dateAt 26 = .ok (.ireturn, 1) := by decide +kernel
theorem dX0_lengthOf_0 : decode cX0_lengthOf 0 = .ok (.iload_n 0, 1) := by decide +kernel
theorem dX0_lengthOf_1 : decode cX0_lengthOf 1 = .ok (.bipush 12, 2) := by decide +kernel
theorem dX0_lengthOf_3 : decode cX0_lengthOf 3 = .ok (.irem, 1) := by decide +kernel
theorem dX0_lengthOf_4 : decode cX0_lengthOf 4 = .ok (.istore_n 1, 1) := by decide +kernel
theorem dX0_lengthOf_5 : decode cX0_lengthOf 5 = .ok (.iload_n 1, 1) := by decide +kernel
theorem dX0_lengthOf_6 : decode cX0_lengthOf 6 = .ok (.iconst 1, 1) := by decide +kernel
theorem dX0_lengthOf_7 : decode cX0_lengthOf 7 = .ok (.if_icmp .ne 22, 3) := by decide +kernel
theorem dX0_lengthOf_10 : decode cX0_lengthOf 10 = .ok (.sipush 1900, 3) := by decide +kernel
theorem dX0_lengthOf_13 : decode cX0_lengthOf 13 = .ok (.iload_n 0, 1) := by decide +kernel
theorem dX0_lengthOf_14 : decode cX0_lengthOf 14 = .ok (.bipush 12, 2) := by decide +kernel
theorem dX0_lengthOf_16 : decode cX0_lengthOf 16 = .ok (.idiv, 1) := by decide +kernel
theorem dX0_lengthOf_17 : decode cX0_lengthOf 17 = .ok (.iadd, 1) := by decide +kernel
theorem dX0_lengthOf_18 : decode cX0_lengthOf 18 = .ok (.invokestatic 24, 3) := by decide +kernel
theorem dX0_lengthOf_21 : decode cX0_lengthOf 21 = .ok (.ifCond .eq 8, 3) := by decide +kernel
theorem dX0_lengthOf_24 : decode cX0_lengthOf 24 = .ok (.bipush 29, 2) := by decide +kernel
theorem dX0_lengthOf_26 : decode cX0_lengthOf 26 = .ok (.goto 8, 3) := by decide +kernel
theorem dX0_lengthOf_29 : decode cX0_lengthOf 29 = .ok (.getstatic 28, 3) := by decide +kernel
theorem dX0_lengthOf_32 : decode cX0_lengthOf 32 = .ok (.iload_n 1, 1) := by decide +kernel
theorem dX0_lengthOf_33 : decode cX0_lengthOf 33 = .ok (.iaload, 1) := by decide +kernel
theorem dX0_lengthOf_34 : decode cX0_lengthOf 34 = .ok (.ireturn, 1) := by decide +kernel
theorem dX0_isLeap_0 : decode cX0_isLeap 0 = .ok (.iload_n 0, 1) := by decide +kernel
theorem dX0_isLeap_1 : decode cX0_isLeap 1 = .ok (.iconst 4, 1) := by decide +kernel
theorem dX0_isLeap_2 : decode cX0_isLeap 2 = .ok (.irem, 1) := by decide +kernel
theorem dX0_isLeap_3 : decode cX0_isLeap 3 = .ok (.ifCond .ne 10, 3) := by decide +kernel
theorem dX0_isLeap_6 : decode cX0_isLeap 6 = .ok (.iload_n 0, 1) := by decide +kernel
theorem dX0_isLeap_7 : decode cX0_isLeap 7 = .ok (.bipush 100, 2) := by decide +kernel
theorem dX0_isLeap_9 : decode cX0_isLeap 9 = .ok (.irem, 1) := by decide +kernel
theorem dX0_isLeap_10 : decode cX0_isLeap 10 = .ok (.ifCond .ne 11, 3) := by decide +kernel
theorem dX0_isLeap_13 : decode cX0_isLeap 13 = .ok (.iload_n 0, 1) := by decide +kernel
theorem dX0_isLeap_14 : decode cX0_isLeap 14 = .ok (.sipush 400, 3) := by decide +kernel
theorem dX0_isLeap_17 : decode cX0_isLeap 17 = .ok (.irem, 1) := by decide +kernel
theorem dX0_isLeap_18 : decode cX0_isLeap 18 = .ok (.ifCond .ne 7, 3) := by decide +kernel
theorem dX0_isLeap_21 : decode cX0_isLeap 21 = .ok (.iconst 1, 1) := by decide +kernel
theorem dX0_isLeap_22 : decode cX0_isLeap 22 = .ok (.goto 4, 3) := by decide +kernel
theorem dX0_isLeap_25 : decode cX0_isLeap 25 = .ok (.iconst 0, 1) := by decide +kernel
theorem dX0_isLeap_26 : decode cX0_isLeap 26 = .ok (.ireturn, 1) := by decide +kernel
theorem dX0_januaryOf_0 : decode cX0_januaryOf 0 = .ok (.iload_n 0, 1) := by decide +kernel
theorem dX0_januaryOf_1 : decode cX0_januaryOf 1 = .ok (.iload_n 0, 1) := by decide +kernel
theorem dX0_januaryOf_2 : decode cX0_januaryOf 2 = .ok (.bipush 12, 2) := by decide +kernel
theorem dX0_januaryOf_4 : decode cX0_januaryOf 4 = .ok (.irem, 1) := by decide +kernel
theorem dX0_januaryOf_5 : decode cX0_januaryOf 5 = .ok (.isub, 1) := by decide +kernel
theorem dX0_januaryOf_6 : decode cX0_januaryOf 6 = .ok (.ireturn, 1) := by decide +kernel
theorem dX0_between_0 : decode cX0_between 0 = .ok (.ldc 31, 2) := by decide +kernel
theorem dX0_between_2 : decode cX0_between 2 = .ok (.istore_n 3, 1) := by decide +kernel
theorem dX0_between_3 : decode cX0_between 3 = .ok (.iload_n 0, 1) := by decide +kernel
theorem dX0_between_4 : decode cX0_between 4 = .ok (.iload_n 1, 1) := by decide +kernel
theorem dX0_between_5 : decode cX0_between 5 = .ok (.invokestatic 21, 3) := by decide +kernel
theorem dX0_between_8 : decode cX0_between 8 = .ok (.if_icmp .ne 12, 3) := by decide +kernel
theorem dX0_between_11 : decode cX0_between 11 = .ok (.iload_n 3, 1) := by decide +kernel
theorem dX0_between_12 : decode cX0_between 12 = .ok (.iconst (-1), 1) := by decide +kernel
theorem dX0_between_13 : decode cX0_between 13 = .ok (.iload_n 1, 1) := by decide +kernel
theorem dX0_between_14 : decode cX0_between 14 = .ok (.invokestatic 32, 3) := by decide +kernel
theorem dX0_between_17 : decode cX0_between 17 = .ok (.ishl, 1) := by decide +kernel
theorem dX0_between_18 : decode cX0_between 18 = .ok (.iand, 1) := by decide +kernel
theorem dX0_between_19 : decode cX0_between 19 = .ok (.istore_n 3, 1) := by decide +kernel
theorem dX0_between_20 : decode cX0_between 20 = .ok (.iload_n 0, 1) := by decide +kernel
theorem dX0_between_21 : decode cX0_between 21 = .ok (.iload_n 2, 1) := by decide +kernel
theorem dX0_between_22 : decode cX0_between 22 = .ok (.invokestatic 21, 3) := by decide +kernel
theorem dX0_between_25 : decode cX0_between 25 = .ok (.if_icmp .ne 14, 3) := by decide +kernel
theorem dX0_between_28 : decode cX0_between 28 = .ok (.iload_n 3, 1) := by decide +kernel
theorem dX0_between_29 : decode cX0_between 29 = .ok (.iconst 2, 1) := by decide +kernel
theorem dX0_between_30 : decode cX0_between 30 = .ok (.iload_n 2, 1) := by decide +kernel
theorem dX0_between_31 : decode cX0_between 31 = .ok (.invokestatic 32, 3) := by decide +kernel
theorem dX0_between_34 : decode cX0_between 34 = .ok (.ishl, 1) := by decide +kernel
theorem dX0_between_35 : decode cX0_between 35 = .ok (.iconst 1, 1) := by decide +kernel
theorem dX0_between_36 : decode cX0_between 36 = .ok (.isub, 1) := by decide +kernel
theorem dX0_between_37 : decode cX0_between 37 = .ok (.iand, 1) := by decide +kernel
theorem dX0_between_38 : decode cX0_between 38 = .ok (.istore_n 3, 1) := by decide +kernel
theorem dX0_between_39 : decode cX0_between 39 = .ok (.iload_n 3, 1) := by decide +kernel
theorem dX0_between_40 : decode cX0_between 40 = .ok (.ireturn, 1) := by decide +kernel
theorem dX0_lowest_0 : decode cX0_lowest 0 = .ok (.iload_n 0, 1) := by decide +kernel
theorem dX0_lowest_1 : decode cX0_lowest 1 = .ok (.istore_n 2, 1) := by decide +kernel
theorem dX0_lowest_2 : decode cX0_lowest 2 = .ok (.iconst 0, 1) := by decide +kernel
theorem dX0_lowest_3 : decode cX0_lowest 3 = .ok (.istore_n 3, 1) := by decide +kernel
theorem dX0_lowest_4 : decode cX0_lowest 4 = .ok (.iload_n 3, 1) := by decide +kernel
theorem dX0_lowest_5 : decode cX0_lowest 5 = .ok (.iload_n 1, 1) := by decide +kernel
theorem dX0_lowest_6 : decode cX0_lowest 6 = .ok (.if_icmp .ge 19, 3) := by decide +kernel
theorem dX0_lowest_9 : decode cX0_lowest 9 = .ok (.iload_n 2, 1) := by decide +kernel
theorem dX0_lowest_10 : decode cX0_lowest 10 = .ok (.ifCond .eq 15, 3) := by decide +kernel
theorem dX0_lowest_13 : decode cX0_lowest 13 = .ok (.iload_n 2, 1) := by decide +kernel
theorem dX0_lowest_14 : decode cX0_lowest 14 = .ok (.iload_n 2, 1) := by decide +kernel
theorem dX0_lowest_15 : decode cX0_lowest 15 = .ok (.iconst 1, 1) := by decide +kernel
theorem dX0_lowest_16 : decode cX0_lowest 16 = .ok (.isub, 1) := by decide +kernel
theorem dX0_lowest_17 : decode cX0_lowest 17 = .ok (.iand, 1) := by decide +kernel
theorem dX0_lowest_18 : decode cX0_lowest 18 = .ok (.istore_n 2, 1) := by decide +kernel
theorem dX0_lowest_19 : decode cX0_lowest 19 = .ok (.iinc 3 1, 3) := by decide +kernel
theorem dX0_lowest_22 : decode cX0_lowest 22 = .ok (.goto (-18), 3) := by decide +kernel
theorem dX0_lowest_25 : decode cX0_lowest 25 = .ok (.iload_n 0, 1) := by decide +kernel
theorem dX0_lowest_26 : decode cX0_lowest 26 = .ok (.iload_n 2, 1) := by decide +kernel
theorem dX0_lowest_27 : decode cX0_lowest 27 = .ok (.iconst (-1), 1) := by decide +kernel
theorem dX0_lowest_28 : decode cX0_lowest 28 = .ok (.ixor, 1) := by decide +kernel
theorem dX0_lowest_29 : decode cX0_lowest 29 = .ok (.iand, 1) := by decide +kernel
theorem dX0_lowest_30 : decode cX0_lowest 30 = .ok (.ireturn, 1) := by decide +kernel
theorem dX0_numberOf_0 : decode cX0_numberOf 0 = .ok (.aload_n 0, 1) := by decide +kernel
theorem dX0_numberOf_1 : decode cX0_numberOf 1 = .ok (.getfield 9, 3) := by decide +kernel
theorem dX0_numberOf_4 : decode cX0_numberOf 4 = .ok (.iload_n 1, 1) := by decide +kernel
theorem dX0_numberOf_5 : decode cX0_numberOf 5 = .ok (.invokestatic 21, 3) := by decide +kernel
theorem dX0_numberOf_8 : decode cX0_numberOf 8 = .ok (.iaload, 1) := by decide +kernel
theorem dX0_numberOf_9 : decode cX0_numberOf 9 = .ok (.iload_n 1, 1) := by decide +kernel
theorem dX0_numberOf_10 : decode cX0_numberOf 10 = .ok (.invokestatic 32, 3) := by decide +kernel
theorem dX0_numberOf_13 : decode cX0_numberOf 13 = .ok (.iadd, 1) := by decide +kernel
theorem dX0_numberOf_14 : decode cX0_numberOf 14 = .ok (.ireturn, 1) := by decide +kernel
theorem dX0_dateOf_0 : decode cX0_dateOf 0 = .ok (.iconst 0, 1) := by decide +kernel
theorem dX0_dateOf_1 : decode cX0_dateOf 1 = .ok (.istore_n 2, 1) := by decide +kernel
theorem dX0_dateOf_2 : decode cX0_dateOf 2 = .ok (.sipush 2048, 3) := by decide +kernel
theorem dX0_dateOf_5 : decode cX0_dateOf 5 = .ok (.istore_n 3, 1) := by decide +kernel
theorem dX0_dateOf_6 : decode cX0_dateOf 6 = .ok (.iload_n 3, 1) := by decide +kernel
theorem dX0_dateOf_7 : decode cX0_dateOf 7 = .ok (.ifCond .le 35, 3) := by decide +kernel
theorem dX0_dateOf_10 : decode cX0_dateOf 10 = .ok (.iload_n 2, 1) := by decide +kernel
theorem dX0_dateOf_11 : decode cX0_dateOf 11 = .ok (.iload_n 3, 1) := by decide +kernel
theorem dX0_dateOf_12 : decode cX0_dateOf 12 = .ok (.iadd, 1) := by decide +kernel
theorem dX0_dateOf_13 : decode cX0_dateOf 13 = .ok (.sipush 3600, 3) := by decide +kernel
theorem dX0_dateOf_16 : decode cX0_dateOf 16 = .ok (.if_icmp .ge 19, 3) := by decide +kernel
theorem dX0_dateOf_19 : decode cX0_dateOf 19 = .ok (.aload_n 0, 1) := by decide +kernel
theorem dX0_dateOf_20 : decode cX0_dateOf 20 = .ok (.getfield 9, 3) := by decide +kernel
theorem dX0_dateOf_23 : decode cX0_dateOf 23 = .ok (.iload_n 2, 1) := by decide +kernel
theorem dX0_dateOf_24 : decode cX0_dateOf 24 = .ok (.iload_n 3, 1) := by decide +kernel
theorem dX0_dateOf_25 : decode cX0_dateOf 25 = .ok (.iadd, 1) := by decide +kernel
theorem dX0_dateOf_26 : decode cX0_dateOf 26 = .ok (.iaload, 1) := by decide +kernel
theorem dX0_dateOf_27 : decode cX0_dateOf 27 = .ok (.iload_n 1, 1) := by decide +kernel
theorem dX0_dateOf_28 : decode cX0_dateOf 28 = .ok (.if_icmp .gt 7, 3) := by decide +kernel
theorem dX0_dateOf_31 : decode cX0_dateOf 31 = .ok (.iload_n 2, 1) := by decide +kernel
theorem dX0_dateOf_32 : decode cX0_dateOf 32 = .ok (.iload_n 3, 1) := by decide +kernel
theorem dX0_dateOf_33 : decode cX0_dateOf 33 = .ok (.iadd, 1) := by decide +kernel
theorem dX0_dateOf_34 : decode cX0_dateOf 34 = .ok (.istore_n 2, 1) := by decide +kernel
theorem dX0_dateOf_35 : decode cX0_dateOf 35 = .ok (.iload_n 3, 1) := by decide +kernel
theorem dX0_dateOf_36 : decode cX0_dateOf 36 = .ok (.iconst 2, 1) := by decide +kernel
theorem dX0_dateOf_37 : decode cX0_dateOf 37 = .ok (.idiv, 1) := by decide +kernel
theorem dX0_dateOf_38 : decode cX0_dateOf 38 = .ok (.istore_n 3, 1) := by decide +kernel
theorem dX0_dateOf_39 : decode cX0_dateOf 39 = .ok (.goto (-33), 3) := by decide +kernel
theorem dX0_dateOf_42 : decode cX0_dateOf 42 = .ok (.iload_n 2, 1) := by decide +kernel
theorem dX0_dateOf_43 : decode cX0_dateOf 43 = .ok (.iload_n 1, 1) := by decide +kernel
theorem dX0_dateOf_44 : decode cX0_dateOf 44 = .ok (.aload_n 0, 1) := by decide +kernel
theorem dX0_dateOf_45 : decode cX0_dateOf 45 = .ok (.getfield 9, 3) := by decide +kernel
theorem dX0_dateOf_48 : decode cX0_dateOf 48 = .ok (.iload_n 2, 1) := by decide +kernel
theorem dX0_dateOf_49 : decode cX0_dateOf 49 = .ok (.iaload, 1) := by decide +kernel
theorem dX0_dateOf_50 : decode cX0_dateOf 50 = .ok (.isub, 1) := by decide +kernel
theorem dX0_dateOf_51 : decode cX0_dateOf 51 = .ok (.invokestatic 35, 3) := by decide +kernel
theorem dX0_dateOf_54 : decode cX0_dateOf 54 = .ok (.ireturn, 1) := by decide +kernel
theorem dX1_init_0 : decode cX1_init 0 = .ok (.aload_n 0, 1) := by decide +kernel
theorem dX1_init_1 : decode cX1_init 1 = .ok (.invokespecial 3, 3) := by decide +kernel
theorem dX1_init_4 : decode cX1_init 4 = .ok (.aload_n 0, 1) := by decide +kernel
theorem dX1_init_5 : decode cX1_init 5 = .ok (.aload_n 1, 1) := by decide +kernel
theorem dX1_init_6 : decode cX1_init 6 = .ok (.putfield 9, 3) := by decide +kernel
theorem dX1_init_9 : decode cX1_init 9 = .ok (.aload_n 0, 1) := by decide +kernel
theorem dX1_init_10 : decode cX1_init 10 = .ok (.aload_n 2, 1) := by decide +kernel
theorem dX1_init_11 : decode cX1_init 11 = .ok (.putfield 15, 3) := by decide +kernel
theorem dX1_init_14 : decode cX1_init 14 = .ok (.aload_n 0, 1) := by decide +kernel
theorem dX1_init_15 : decode cX1_init 15 = .ok (.iconst 0, 1) := by decide +kernel
theorem dX1_init_16 : decode cX1_init 16 = .ok (.newarray .int, 2) := by decide +kernel
theorem dX1_init_18 : decode cX1_init 18 = .ok (.putfield 19, 3) := by decide +kernel
theorem dX1_init_21 : decode cX1_init 21 = .ok (.aload_n 0, 1) := by decide +kernel
theorem dX1_init_22 : decode cX1_init 22 = .ok (.sipush 366, 3) := by decide +kernel
theorem dX1_init_25 : decode cX1_init 25 = .ok (.newarray .int, 2) := by decide +kernel
theorem dX1_init_27 : decode cX1_init 27 = .ok (.putfield 23, 3) := by decide +kernel
theorem dX1_init_30 : decode cX1_init 30 = .ok (.return_, 1) := by decide +kernel
theorem dX1_fillRow_0 : decode cX1_fillRow 0 = .ok (.aload_n 0, 1) := by decide +kernel
theorem dX1_fillRow_1 : decode cX1_fillRow 1 = .ok (.aload_n 1, 1) := by decide +kernel
theorem dX1_fillRow_2 : decode cX1_fillRow 2 = .ok (.putfield 19, 3) := by decide +kernel
theorem dX1_fillRow_5 : decode cX1_fillRow 5 = .ok (.aload_n 0, 1) := by decide +kernel
theorem dX1_fillRow_6 : decode cX1_fillRow 6 = .ok (.iload_n 2, 1) := by decide +kernel
theorem dX1_fillRow_7 : decode cX1_fillRow 7 = .ok (.putfield 26, 3) := by decide +kernel
theorem dX1_fillRow_10 : decode cX1_fillRow 10 = .ok (.aload_n 0, 1) := by decide +kernel
theorem dX1_fillRow_11 : decode cX1_fillRow 11 = .ok (.iconst 1, 1) := by decide +kernel
theorem dX1_fillRow_12 : decode cX1_fillRow 12 = .ok (.aload_n 0, 1) := by decide +kernel
theorem dX1_fillRow_13 : decode cX1_fillRow 13 = .ok (.getfield 15, 3) := by decide +kernel
theorem dX1_fillRow_16 : decode cX1_fillRow 16 = .ok (.getfield 30, 3) := by decide +kernel
theorem dX1_fillRow_19 : decode cX1_fillRow 19 = .ok (.invokestatic 35, 3) := by decide +kernel
theorem dX1_fillRow_22 : decode cX1_fillRow 22 = .ok (.putfield 41, 3) := by decide +kernel
theorem dX1_fillRow_25 : decode cX1_fillRow 25 = .ok (.aload_n 0, 1) := by decide +kernel
theorem dX1_fillRow_26 : decode cX1_fillRow 26 = .ok (.aload_n 0, 1) := by decide +kernel
theorem dX1_fillRow_27 : decode cX1_fillRow 27 = .ok (.getfield 15, 3) := by decide +kernel
theorem dX1_fillRow_30 : decode cX1_fillRow 30 = .ok (.getfield 42, 3) := by decide +kernel
theorem dX1_fillRow_33 : decode cX1_fillRow 33 = .ok (.iload_n 2, 1) := by decide +kernel
theorem dX1_fillRow_34 : decode cX1_fillRow 34 = .ok (.invokestatic 46, 3) := by decide +kernel
theorem dX1_fillRow_37 : decode cX1_fillRow 37 = .ok (.aload_n 0, 1) := by decide +kernel
theorem dX1_fillRow_38 : decode cX1_fillRow 38 = .ok (.getfield 9, 3) := by decide +kernel
theorem dX1_fillRow_41 : decode cX1_fillRow 41 = .ok (.iload_n 2, 1) := by decide +kernel
theorem dX1_fillRow_42 : decode cX1_fillRow 42 = .ok (.invokevirtual 52, 3) := by decide +kernel
theorem dX1_fillRow_45 : decode cX1_fillRow 45 = .ok (.invokevirtual 55, 3) := by decide +kernel
theorem dX1_fillRow_48 : decode cX1_fillRow 48 = .ok (.putfield 60, 3) := by decide +kernel
theorem dX1_fillRow_51 : decode cX1_fillRow 51 = .ok (.iconst 0, 1) := by decide +kernel
theorem dX1_fillRow_52 : decode cX1_fillRow 52 = .ok (.iload_n 2, 1) := by decide +kernel
theorem dX1_fillRow_53 : decode cX1_fillRow 53 = .ok (.invokestatic 46, 3) := by decide +kernel
theorem dX1_fillRow_56 : decode cX1_fillRow 56 = .ok (.invokestatic 63, 3) := by decide +kernel
theorem dX1_fillRow_59 : decode cX1_fillRow 59 = .ok (.iconst 1, 1) := by decide +kernel
theorem dX1_fillRow_60 : decode cX1_fillRow 60 = .ok (.isub, 1) := by decide +kernel
theorem dX1_fillRow_61 : decode cX1_fillRow 61 = .ok (.invokestatic 35, 3) := by decide +kernel
theorem dX1_fillRow_64 : decode cX1_fillRow 64 = .ok (.istore_n 3, 1) := by decide +kernel
theorem dX1_fillRow_65 : decode cX1_fillRow 65 = .ok (.aload_n 1, 1) := by decide +kernel
theorem dX1_fillRow_66 : decode cX1_fillRow 66 = .ok (.arraylength, 1) := by decide +kernel
theorem dX1_fillRow_67 : decode cX1_fillRow 67 = .ok (.iconst 1, 1) := by decide +kernel
theorem dX1_fillRow_68 : decode cX1_fillRow 68 = .ok (.isub, 1) := by decide +kernel
theorem dX1_fillRow_69 : decode cX1_fillRow 69 = .ok (.aload_n 0, 1) := by decide +kernel
theorem dX1_fillRow_70 : decode cX1_fillRow 70 = .ok (.getfield 15, 3) := by decide +kernel
theorem dX1_fillRow_73 : decode cX1_fillRow 73 = .ok (.getfield 66, 3) := by decide +kernel
theorem dX1_fillRow_76 : decode cX1_fillRow 76 = .ok (.invokestatic 46, 3) := by decide +kernel
theorem dX1_fillRow_79 : decode cX1_fillRow 79 = .ok (.invokestatic 63, 3) := by decide +kernel
theorem dX1_fillRow_82 : decode cX1_fillRow 82 = .ok (.bipush 12, 2) := by decide +kernel
theorem dX1_fillRow_84 : decode cX1_fillRow 84 = .ok (.iadd, 1) := by decide +kernel
theorem dX1_fillRow_85 : decode cX1_fillRow 85 = .ok (.invokestatic 69, 3) := by decide +kernel
theorem dX1_fillRow_88 : decode cX1_fillRow 88 = .ok (.istore 4, 2) := by decide +kernel
theorem dX1_fillRow_90 : decode cX1_fillRow 90 = .ok (.iload_n 3, 1) := by decide +kernel
theorem dX1_fillRow_91 : decode cX1_fillRow 91 = .ok (.istore 5, 2) := by decide +kernel
theorem dX1_fillRow_93 : decode cX1_fillRow 93 = .ok (.iload 5, 2) := by decide +kernel
theorem dX1_fillRow_95 : decode cX1_fillRow 95 = .ok (.iload 4, 2) := by decide +kernel
theorem dX1_fillRow_97 : decode cX1_fillRow 97 = .ok (.if_icmp .gt 19, 3) := by decide +kernel
theorem dX1_fillRow_100 : decode cX1_fillRow 100 = .ok (.aload_n 1, 1) := by decide +kernel
theorem dX1_fillRow_101 : decode cX1_fillRow 101 = .ok (.iload 5, 2) := by decide +kernel
theorem dX1_fillRow_103 : decode cX1_fillRow 103 = .ok (.aload_n 0, 1) := by decide +kernel
theorem dX1_fillRow_104 : decode cX1_fillRow 104 = .ok (.iload 5, 2) := by decide +kernel
theorem dX1_fillRow_106 : decode cX1_fillRow 106 = .ok (.invokevirtual 72, 3) := by decide +kernel
theorem dX1_fillRow_109 : decode cX1_fillRow 109 = .ok (.iastore, 1) := by decide +kernel
theorem dX1_fillRow_110 : decode cX1_fillRow 110 = .ok (.iinc 5 1, 3) := by decide +kernel
theorem dX1_fillRow_113 : decode cX1_fillRow 113 = .ok (.goto (-20), 3) := by decide +kernel
theorem dX1_fillRow_116 : decode cX1_fillRow 116 = .ok (.aload_n 0, 1) := by decide +kernel
theorem dX1_fillRow_117 : decode cX1_fillRow 117 = .ok (.getfield 15, 3) := by decide +kernel
theorem dX1_fillRow_120 : decode cX1_fillRow 120 = .ok (.getstatic 75, 3) := by decide +kernel
theorem dX1_fillRow_123 : decode cX1_fillRow 123 = .ok (.invokevirtual 81, 3) := by decide +kernel
theorem dX1_fillRow_126 : decode cX1_fillRow 126 = .ok (.ifCond .eq 10, 3) := by decide +kernel
theorem dX1_fillRow_129 : decode cX1_fillRow 129 = .ok (.aload_n 0, 1) := by decide +kernel
theorem dX1_fillRow_130 : decode cX1_fillRow 130 = .ok (.iload_n 3, 1) := by decide +kernel
theorem dX1_fillRow_131 : decode cX1_fillRow 131 = .ok (.iload 4, 2) := by decide +kernel
theorem dX1_fillRow_133 : decode cX1_fillRow 133 = .ok (.invokevirtual 85, 3) := by decide +kernel
theorem dX1_fillRow_136 : decode cX1_fillRow 136 = .ok (.aload_n 0, 1) := by decide +kernel
theorem dX1_fillRow_137 : decode cX1_fillRow 137 = .ok (.iload_n 3, 1) := by decide +kernel
theorem dX1_fillRow_138 : decode cX1_fillRow 138 = .ok (.iload 4, 2) := by decide +kernel
theorem dX1_fillRow_140 : decode cX1_fillRow 140 = .ok (.invokevirtual 89, 3) := by decide +kernel
theorem dX1_fillRow_143 : decode cX1_fillRow 143 = .ok (.return_, 1) := by decide +kernel
theorem dX1_counts_0 : decode cX1_counts 0 = .ok (.aload_n 0, 1) := by decide +kernel
theorem dX1_counts_1 : decode cX1_counts 1 = .ok (.getfield 15, 3) := by decide +kernel
theorem dX1_counts_4 : decode cX1_counts 4 = .ok (.getfield 42, 3) := by decide +kernel
theorem dX1_counts_7 : decode cX1_counts 7 = .ok (.iload_n 1, 1) := by decide +kernel
theorem dX1_counts_8 : decode cX1_counts 8 = .ok (.iload_n 2, 1) := by decide +kernel
theorem dX1_counts_9 : decode cX1_counts 9 = .ok (.invokevirtual 55, 3) := by decide +kernel
theorem dX1_counts_12 : decode cX1_counts 12 = .ok (.aload_n 0, 1) := by decide +kernel
theorem dX1_counts_13 : decode cX1_counts 13 = .ok (.getfield 60, 3) := by decide +kernel
theorem dX1_counts_16 : decode cX1_counts 16 = .ok (.isub, 1) := by decide +kernel
theorem dX1_counts_17 : decode cX1_counts 17 = .ok (.aload_n 0, 1) := by decide +kernel
theorem dX1_counts_18 : decode cX1_counts 18 = .ok (.getfield 41, 3) := by decide +kernel
theorem dX1_counts_21 : decode cX1_counts 21 = .ok (.irem, 1) := by decide +kernel
theorem dX1_counts_22 : decode cX1_counts 22 = .ok (.ifCond .ne 7, 3) := by decide +kernel
theorem dX1_counts_25 : decode cX1_counts 25 = .ok (.iconst 1, 1) := by decide +kernel
theorem dX1_counts_26 : decode cX1_counts 26 = .ok (.goto 4, 3) := by decide +kernel
theorem dX1_counts_29 : decode cX1_counts 29 = .ok (.iconst 0, 1) := by decide +kernel
theorem dX1_counts_30 : decode cX1_counts 30 = .ok (.ireturn, 1) := by decide +kernel
theorem dX1_countedDays_0 : decode cX1_countedDays 0 = .ok (.aload_n 0, 1) := by decide +kernel
theorem dX1_countedDays_1 : decode cX1_countedDays 1 = .ok (.getfield 9, 3) := by decide +kernel
theorem dX1_countedDays_4 : decode cX1_countedDays 4 = .ok (.getfield 92, 3) := by decide +kernel
theorem dX1_countedDays_7 : decode cX1_countedDays 7 = .ok (.iload_n 1, 1) := by decide +kernel
theorem dX1_countedDays_8 : decode cX1_countedDays 8 = .ok (.iaload, 1) := by decide +kernel
theorem dX1_countedDays_9 : decode cX1_countedDays 9 = .ok (.istore_n 2, 1) := by decide +kernel
theorem dX1_countedDays_10 : decode cX1_countedDays 10 = .ok (.aload_n 0, 1) := by decide +kernel
theorem dX1_countedDays_11 : decode cX1_countedDays 11 = .ok (.getfield 15, 3) := by decide +kernel
theorem dX1_countedDays_14 : decode cX1_countedDays 14 = .ok (.getfield 42, 3) := by decide +kernel
theorem dX1_countedDays_17 : decode cX1_countedDays 17 = .ok (.getfield 95, 3) := by decide +kernel
theorem dX1_countedDays_20 : decode cX1_countedDays 20 = .ok (.ifCond .eq 22, 3) := by decide +kernel
theorem dX1_countedDays_23 : decode cX1_countedDays 23 = .ok (.aload_n 0, 1) := by decide +kernel
theorem dX1_countedDays_24 : decode cX1_countedDays 24 = .ok (.iload_n 1, 1) := by decide +kernel
theorem dX1_countedDays_25 : decode cX1_countedDays 25 = .ok (.iload_n 2, 1) := by decide +kernel
theorem dX1_countedDays_26 : decode cX1_countedDays 26 = .ok (.invokevirtual 99, 3) := by decide +kernel
theorem dX1_countedDays_29 : decode cX1_countedDays 29 = .ok (.ifCond .eq 11, 3) := by decide +kernel
theorem dX1_countedDays_32 : decode cX1_countedDays 32 = .ok (.aload_n 0, 1) := by decide +kernel
theorem dX1_countedDays_33 : decode cX1_countedDays 33 = .ok (.iload_n 1, 1) := by decide +kernel
theorem dX1_countedDays_34 : decode cX1_countedDays 34 = .ok (.invokevirtual 103, 3) := by decide +kernel
theorem dX1_countedDays_37 : decode cX1_countedDays 37 = .ok (.goto 4, 3) := by decide +kernel
theorem dX1_countedDays_40 : decode cX1_countedDays 40 = .ok (.iconst 0, 1) := by decide +kernel
theorem dX1_countedDays_41 : decode cX1_countedDays 41 = .ok (.ireturn, 1) := by decide +kernel
theorem dX1_countedDays_42 : decode cX1_countedDays 42 = .ok (.aload_n 0, 1) := by decide +kernel
theorem dX1_countedDays_43 : decode cX1_countedDays 43 = .ok (.iload_n 1, 1) := by decide +kernel
theorem dX1_countedDays_44 : decode cX1_countedDays 44 = .ok (.invokevirtual 103, 3) := by decide +kernel
theorem dX1_countedDays_47 : decode cX1_countedDays 47 = .ok (.istore_n 3, 1) := by decide +kernel
theorem dX1_countedDays_48 : decode cX1_countedDays 48 = .ok (.aload_n 0, 1) := by decide +kernel
theorem dX1_countedDays_49 : decode cX1_countedDays 49 = .ok (.getfield 41, 3) := by decide +kernel
theorem dX1_countedDays_52 : decode cX1_countedDays 52 = .ok (.iconst 1, 1) := by decide +kernel
theorem dX1_countedDays_53 : decode cX1_countedDays 53 = .ok (.if_icmp .ne 5, 3) := by decide +kernel
theorem dX1_countedDays_56 : decode cX1_countedDays 56 = .ok (.iload_n 3, 1) := by decide +kernel
theorem dX1_countedDays_57 : decode cX1_countedDays 57 = .ok (.ireturn, 1) := by decide +kernel
theorem dX1_countedDays_58 : decode cX1_countedDays 58 = .ok (.iconst 0, 1) := by decide +kernel
theorem dX1_countedDays_59 : decode cX1_countedDays 59 = .ok (.istore 4, 2) := by decide +kernel
theorem dX1_countedDays_61 : decode cX1_countedDays 61 = .ok (.iconst 0, 1) := by decide +kernel
theorem dX1_countedDays_62 : decode cX1_countedDays 62 = .ok (.istore 5, 2) := by decide +kernel
theorem dX1_countedDays_64 : decode cX1_countedDays 64 = .ok (.iload 5, 2) := by decide +kernel
theorem dX1_countedDays_66 : decode cX1_countedDays 66 = .ok (.bipush 31, 2) := by decide +kernel
theorem dX1_countedDays_68 : decode cX1_countedDays 68 = .ok (.if_icmp .ge 39, 3) := by decide +kernel
theorem dX1_countedDays_71 : decode cX1_countedDays 71 = .ok (.iload_n 3, 1) := by decide +kernel
theorem dX1_countedDays_72 : decode cX1_countedDays 72 = .ok (.iconst 1, 1) := by decide +kernel
theorem dX1_countedDays_73 : decode cX1_countedDays 73 = .ok (.iload 5, 2) := by decide +kernel
theorem dX1_countedDays_75 : decode cX1_countedDays 75 = .ok (.ishl, 1) := by decide +kernel
theorem dX1_countedDays_76 : decode cX1_countedDays 76 = .ok (.iand, 1) := by decide +kernel
theorem dX1_countedDays_77 : decode cX1_countedDays 77 = .ok (.ifCond .eq 24, 3) := by decide +kernel
theorem dX1_countedDays_80 : decode cX1_countedDays 80 = .ok (.aload_n 0, 1) := by decide +kernel
theorem dX1_countedDays_81 : decode cX1_countedDays 81 = .ok (.iload_n 1, 1) := by decide +kernel
theorem dX1_countedDays_82 : decode cX1_countedDays 82 = .ok (.iload_n 2, 1) := by decide +kernel
theorem dX1_countedDays_83 : decode cX1_countedDays 83 = .ok (.iload 5, 2) := by decide +kernel
theorem dX1_countedDays_85 : decode cX1_countedDays 85 = .ok (.iadd, 1) := by decide +kernel
theorem dX1_countedDays_86 : decode cX1_countedDays 86 = .ok (.invokevirtual 99, 3) := by decide +kernel
theorem dX1_countedDays_89 : decode cX1_countedDays 89 = .ok (.ifCond .eq 12, 3) := by decide +kernel
theorem dX1_countedDays_92 : decode cX1_countedDays 92 = .ok (.iload 4, 2) := by decide +kernel
theorem dX1_countedDays_94 : decode cX1_countedDays 94 = .ok (.iconst 1, 1) := by decide +kernel
theorem dX1_countedDays_95 : decode cX1_countedDays 95 = .ok (.iload 5, 2) := by decide +kernel
theorem dX1_countedDays_97 : decode cX1_countedDays 97 = .ok (.ishl, 1) := by decide +kernel
theorem dX1_countedDays_98 : decode cX1_countedDays 98 = .ok (.ior, 1) := by decide +kernel
theorem dX1_countedDays_99 : decode cX1_countedDays 99 = .ok (.istore 4, 2) := by decide +kernel
theorem dX1_countedDays_101 : decode cX1_countedDays 101 = .ok (.iinc 5 1, 3) := by decide +kernel
theorem dX1_countedDays_104 : decode cX1_countedDays 104 = .ok (.goto (-40), 3) := by decide +kernel
theorem dX1_countedDays_107 : decode cX1_countedDays 107 = .ok (.iload 4, 2) := by decide +kernel
theorem dX1_countedDays_109 : decode cX1_countedDays 109 = .ok (.ireturn, 1) := by decide +kernel
theorem dX1_suitingDays_0 : decode cX1_suitingDays 0 = .ok (.aload_n 0, 1) := by decide +kernel
theorem dX1_suitingDays_1 : decode cX1_suitingDays 1 = .ok (.iload_n 1, 1) := by decide +kernel
theorem dX1_suitingDays_2 : decode cX1_suitingDays 2 = .ok (.invokevirtual 106, 3) := by decide +kernel
theorem dX1_suitingDays_5 : decode cX1_suitingDays 5 = .ok (.ifCond .ne 5, 3) := by decide +kernel
theorem dX1_suitingDays_8 : decode cX1_suitingDays 8 = .ok (.iconst 0, 1) := by decide +kernel
theorem dX1_suitingDays_9 : decode cX1_suitingDays 9 = .ok (.ireturn, 1) := by decide +kernel
theorem dX1_suitingDays_10 : decode cX1_suitingDays 10 = .ok (.ldc 110, 2) := by decide +kernel
theorem dX1_suitingDays_12 : decode cX1_suitingDays 12 = .ok (.bipush 31, 2) := by decide +kernel
theorem dX1_suitingDays_14 : decode cX1_suitingDays 14 = .ok (.iload_n 1, 1) := by decide +kernel
theorem dX1_suitingDays_15 : decode cX1_suitingDays 15 = .ok (.invokestatic 111, 3) := by decide +kernel
theorem dX1_suitingDays_18 : decode cX1_suitingDays 18 = .ok (.isub, 1) := by decide +kernel
theorem dX1_suitingDays_19 : decode cX1_suitingDays 19 = .ok (.iushr, 1) := by decide +kernel
theorem dX1_suitingDays_20 : decode cX1_suitingDays 20 = .ok (.istore_n 2, 1) := by decide +kernel
theorem dX1_suitingDays_21 : decode cX1_suitingDays 21 = .ok (.iload_n 2, 1) := by decide +kernel
theorem dX1_suitingDays_22 : decode cX1_suitingDays 22 = .ok (.aload_n 0, 1) := by decide +kernel
theorem dX1_suitingDays_23 : decode cX1_suitingDays 23 = .ok (.iload_n 1, 1) := by decide +kernel
theorem dX1_suitingDays_24 : decode cX1_suitingDays 24 = .ok (.invokevirtual 114, 3) := by decide +kernel
theorem dX1_suitingDays_27 : decode cX1_suitingDays 27 = .ok (.iand, 1) := by decide +kernel
theorem dX1_suitingDays_28 : decode cX1_suitingDays 28 = .ok (.aload_n 0, 1) := by decide +kernel
theorem dX1_suitingDays_29 : decode cX1_suitingDays 29 = .ok (.iload_n 1, 1) := by decide +kernel
theorem dX1_suitingDays_30 : decode cX1_suitingDays 30 = .ok (.invokevirtual 117, 3) := by decide +kernel
theorem dX1_suitingDays_33 : decode cX1_suitingDays 33 = .ok (.iand, 1) := by decide +kernel
theorem dX1_suitingDays_34 : decode cX1_suitingDays 34 = .ok (.ireturn, 1) := by decide +kernel
theorem dX1_monthSuits_0 : decode cX1_monthSuits 0 = .ok (.aload_n 0, 1) := by decide +kernel
theorem dX1_monthSuits_1 : decode cX1_monthSuits 1 = .ok (.getfield 15, 3) := by decide +kernel
theorem dX1_monthSuits_4 : decode cX1_monthSuits 4 = .ok (.getstatic 120, 3) := by decide +kernel
theorem dX1_monthSuits_7 : decode cX1_monthSuits 7 = .ok (.invokevirtual 81, 3) := by decide +kernel
theorem dX1_monthSuits_10 : decode cX1_monthSuits 10 = .ok (.ifCond .eq 28, 3) := by decide +kernel
theorem dX1_monthSuits_13 : decode cX1_monthSuits 13 = .ok (.aload_n 0, 1) := by decide +kernel
theorem dX1_monthSuits_14 : decode cX1_monthSuits 14 = .ok (.getfield 15, 3) := by decide +kernel
theorem dX1_monthSuits_17 : decode cX1_monthSuits 17 = .ok (.getfield 123, 3) := by decide +kernel
theorem dX1_monthSuits_20 : decode cX1_monthSuits 20 = .ok (.iconst 1, 1) := by decide +kernel
theorem dX1_monthSuits_21 : decode cX1_monthSuits 21 = .ok (.iload_n 1, 1) := by decide +kernel
theorem dX1_monthSuits_22 : decode cX1_monthSuits 22 = .ok (.bipush 12, 2) := by decide +kernel
theorem dX1_monthSuits_24 : decode cX1_monthSuits 24 = .ok (.irem, 1) := by decide +kernel
theorem dX1_monthSuits_25 : decode cX1_monthSuits 25 = .ok (.iconst 1, 1) := by decide +kernel
theorem dX1_monthSuits_26 : decode cX1_monthSuits 26 = .ok (.iadd, 1) := by decide +kernel
theorem dX1_monthSuits_27 : decode cX1_monthSuits 27 = .ok (.ishl, 1) := by decide +kernel
theorem dX1_monthSuits_28 : decode cX1_monthSuits 28 = .ok (.iand, 1) := by decide +kernel
theorem dX1_monthSuits_29 : decode cX1_monthSuits 29 = .ok (.ifCond .eq 7, 3) := by decide +kernel
theorem dX1_monthSuits_32 : decode cX1_monthSuits 32 = .ok (.iconst 1, 1) := by decide +kernel
theorem dX1_monthSuits_33 : decode cX1_monthSuits 33 = .ok (.goto 4, 3) := by decide +kernel
theorem dX1_monthSuits_36 : decode cX1_monthSuits 36 = .ok (.iconst 0, 1) := by decide +kernel
theorem dX1_monthSuits_37 : decode cX1_monthSuits 37 = .ok (.ireturn, 1) := by decide +kernel
theorem dX1_monthSuits_38 : decode cX1_monthSuits 38 = .ok (.aload_n 0, 1) := by decide +kernel
theorem dX1_monthSuits_39 : decode cX1_monthSuits 39 = .ok (.getfield 15, 3) := by decide +kernel
theorem dX1_monthSuits_42 : decode cX1_monthSuits 42 = .ok (.getfield 42, 3) := by decide +kernel
theorem dX1_monthSuits_45 : decode cX1_monthSuits 45 = .ok (.getstatic 126, 3) := by decide +kernel
theorem dX1_monthSuits_48 : decode cX1_monthSuits 48 = .ok (.if_acmp .ne 33, 3) := by decide +kernel
theorem dX1_monthSuits_51 : decode cX1_monthSuits 51 = .ok (.aload_n 0, 1) := by decide +kernel
theorem dX1_monthSuits_52 : decode cX1_monthSuits 52 = .ok (.getfield 15, 3) := by decide +kernel
theorem dX1_monthSuits_55 : decode cX1_monthSuits 55 = .ok (.getstatic 129, 3) := by decide +kernel
theorem dX1_monthSuits_58 : decode cX1_monthSuits 58 = .ok (.invokevirtual 81, 3) := by decide +kernel
theorem dX1_monthSuits_61 : decode cX1_monthSuits 61 = .ok (.ifCond .ne 20, 3) := by decide +kernel
theorem dX1_monthSuits_64 : decode cX1_monthSuits 64 = .ok (.aload_n 0, 1) := by decide +kernel
theorem dX1_monthSuits_65 : decode cX1_monthSuits 65 = .ok (.getfield 15, 3) := by decide +kernel
theorem dX1_monthSuits_68 : decode cX1_monthSuits 68 = .ok (.getstatic 132, 3) := by decide +kernel
theorem dX1_monthSuits_71 : decode cX1_monthSuits 71 = .ok (.invokevirtual 81, 3) := by decide +kernel
theorem dX1_monthSuits_74 : decode cX1_monthSuits 74 = .ok (.ifCond .ne 7, 3) := by decide +kernel
theorem dX1_monthSuits_77 : decode cX1_monthSuits 77 = .ok (.iconst 1, 1) := by decide +kernel
theorem dX1_monthSuits_78 : decode cX1_monthSuits 78 = .ok (.goto 4, 3) := by decide +kernel
theorem dX1_monthSuits_81 : decode cX1_monthSuits 81 = .ok (.iconst 0, 1) := by decide +kernel
theorem dX1_monthSuits_82 : decode cX1_monthSuits 82 = .ok (.istore_n 2, 1) := by decide +kernel
theorem dX1_monthSuits_83 : decode cX1_monthSuits 83 = .ok (.iload_n 2, 1) := by decide +kernel
theorem dX1_monthSuits_84 : decode cX1_monthSuits 84 = .ok (.ifCond .eq 20, 3) := by decide +kernel
theorem dX1_monthSuits_87 : decode cX1_monthSuits 87 = .ok (.iload_n 1, 1) := by decide +kernel
theorem dX1_monthSuits_88 : decode cX1_monthSuits 88 = .ok (.bipush 12, 2) := by decide +kernel
theorem dX1_monthSuits_90 : decode cX1_monthSuits 90 = .ok (.irem, 1) := by decide +kernel
theorem dX1_monthSuits_91 : decode cX1_monthSuits 91 = .ok (.aload_n 0, 1) := by decide +kernel
theorem dX1_monthSuits_92 : decode cX1_monthSuits 92 = .ok (.getfield 26, 3) := by decide +kernel
theorem dX1_monthSuits_95 : decode cX1_monthSuits 95 = .ok (.invokestatic 46, 3) := by decide +kernel
theorem dX1_monthSuits_98 : decode cX1_monthSuits 98 = .ok (.bipush 12, 2) := by decide +kernel
theorem dX1_monthSuits_100 : decode cX1_monthSuits 100 = .ok (.irem, 1) := by decide +kernel
theorem dX1_monthSuits_101 : decode cX1_monthSuits 101 = .ok (.if_icmp .ne 7, 3) := by decide +kernel
theorem dX1_monthSuits_104 : decode cX1_monthSuits 104 = .ok (.iconst 1, 1) := by decide +kernel
theorem dX1_monthSuits_105 : decode cX1_monthSuits 105 = .ok (.goto 4, 3) := by decide +kernel
theorem dX1_monthSuits_108 : decode cX1_monthSuits 108 = .ok (.iconst 0, 1) := by decide +kernel
theorem dX1_monthSuits_109 : decode cX1_monthSuits 109 = .ok (.ireturn, 1) := by decide +kernel
theorem dX1_byMonthDay_0 : decode cX1_byMonthDay 0 = .ok (.aload_n 0, 1) := by decide +kernel
theorem dX1_byMonthDay_1 : decode cX1_byMonthDay 1 = .ok (.getfield 15, 3) := by decide +kernel
theorem dX1_byMonthDay_4 : decode cX1_byMonthDay 4 = .ok (.getstatic 129, 3) := by decide +kernel
theorem dX1_byMonthDay_7 : decode cX1_byMonthDay 7 = .ok (.invokevirtual 81, 3) := by decide +kernel
theorem dX1_byMonthDay_10 : decode cX1_byMonthDay 10 = .ok (.ifCond .eq 29, 3) := by decide +kernel
theorem dX1_byMonthDay_13 : decode cX1_byMonthDay 13 = .ok (.bipush 31, 2) := by decide +kernel
theorem dX1_byMonthDay_15 : decode cX1_byMonthDay 15 = .ok (.iload_n 1, 1) := by decide +kernel
theorem dX1_byMonthDay_16 : decode cX1_byMonthDay 16 = .ok (.invokestatic 111, 3) := by decide +kernel
theorem dX1_byMonthDay_19 : decode cX1_byMonthDay 19 = .ok (.isub, 1) := by decide +kernel
theorem dX1_byMonthDay_20 : decode cX1_byMonthDay 20 = .ok (.istore_n 2, 1) := by decide +kernel
theorem dX1_byMonthDay_21 : decode cX1_byMonthDay 21 = .ok (.aload_n 0, 1) := by decide +kernel
theorem dX1_byMonthDay_22 : decode cX1_byMonthDay 22 = .ok (.getfield 15, 3) := by decide +kernel
theorem dX1_byMonthDay_25 : decode cX1_byMonthDay 25 = .ok (.getfield 135, 3) := by decide +kernel
theorem dX1_byMonthDay_28 : decode cX1_byMonthDay 28 = .ok (.aload_n 0, 1) := by decide +kernel
theorem dX1_byMonthDay_29 : decode cX1_byMonthDay 29 = .ok (.getfield 15, 3) := by decide +kernel
theorem dX1_byMonthDay_32 : decode cX1_byMonthDay 32 = .ok (.getfield 138, 3) := by decide +kernel
theorem dX1_byMonthDay_35 : decode cX1_byMonthDay 35 = .ok (.iload_n 2, 1) := by decide +kernel
theorem dX1_byMonthDay_36 : decode cX1_byMonthDay 36 = .ok (.iushr, 1) := by decide +kernel
theorem dX1_byMonthDay_37 : decode cX1_byMonthDay 37 = .ok (.ior, 1) := by decide +kernel
theorem dX1_byMonthDay_38 : decode cX1_byMonthDay 38 = .ok (.ireturn, 1) := by decide +kernel
theorem dX1_byMonthDay_39 : decode cX1_byMonthDay 39 = .ok (.aload_n 0, 1) := by decide +kernel
theorem dX1_byMonthDay_40 : decode cX1_byMonthDay 40 = .ok (.getfield 15, 3) := by decide +kernel
theorem dX1_byMonthDay_43 : decode cX1_byMonthDay 43 = .ok (.getfield 42, 3) := by decide +kernel
theorem dX1_byMonthDay_46 : decode cX1_byMonthDay 46 = .ok (.getfield 95, 3) := by decide +kernel
theorem dX1_byMonthDay_49 : decode cX1_byMonthDay 49 = .ok (.ifCond .eq 20, 3) := by decide +kernel
theorem dX1_byMonthDay_52 : decode cX1_byMonthDay 52 = .ok (.aload_n 0, 1) := by decide +kernel
theorem dX1_byMonthDay_53 : decode cX1_byMonthDay 53 = .ok (.getfield 15, 3) := by decide +kernel
theorem dX1_byMonthDay_56 : decode cX1_byMonthDay 56 = .ok (.getstatic 132, 3) := by decide +kernel
theorem dX1_byMonthDay_59 : decode cX1_byMonthDay 59 = .ok (.invokevirtual 81, 3) := by decide +kernel
theorem dX1_byMonthDay_62 : decode cX1_byMonthDay 62 = .ok (.ifCond .ne 7, 3) := by decide +kernel
theorem dX1_byMonthDay_65 : decode cX1_byMonthDay 65 = .ok (.iconst 1, 1) := by decide +kernel
theorem dX1_byMonthDay_66 : decode cX1_byMonthDay 66 = .ok (.goto 4, 3) := by decide +kernel
theorem dX1_byMonthDay_69 : decode cX1_byMonthDay 69 = .ok (.iconst 0, 1) := by decide +kernel
theorem dX1_byMonthDay_70 : decode cX1_byMonthDay 70 = .ok (.istore_n 2, 1) := by decide +kernel
theorem dX1_byMonthDay_71 : decode cX1_byMonthDay 71 = .ok (.iload_n 2, 1) := by decide +kernel
theorem dX1_byMonthDay_72 : decode cX1_byMonthDay 72 = .ok (.ifCond .eq 15, 3) := by decide +kernel
theorem dX1_byMonthDay_75 : decode cX1_byMonthDay 75 = .ok (.iconst 1, 1) := by decide +kernel
theorem dX1_byMonthDay_76 : decode cX1_byMonthDay 76 = .ok (.aload_n 0, 1) := by decide +kernel
theorem dX1_byMonthDay_77 : decode cX1_byMonthDay 77 = .ok (.getfield 26, 3) := by decide +kernel
theorem dX1_byMonthDay_80 : decode cX1_byMonthDay 80 = .ok (.invokestatic 141, 3) := by decide +kernel
theorem dX1_byMonthDay_83 : decode cX1_byMonthDay 83 = .ok (.ishl, 1) := by decide +kernel
theorem dX1_byMonthDay_84 : decode cX1_byMonthDay 84 = .ok (.goto 5, 3) := by decide +kernel
theorem dX1_byMonthDay_87 : decode cX1_byMonthDay 87 = .ok (.ldc 110, 2) := by decide +kernel
theorem dX1_byMonthDay_89 : decode cX1_byMonthDay 89 = .ok (.ireturn, 1) := by decide +kernel
theorem dX1_byWeekday_0 : decode cX1_byWeekday 0 = .ok (.aload_n 0, 1) := by decide +kernel
theorem dX1_byWeekday_1 : decode cX1_byWeekday 1 = .ok (.getfield 15, 3) := by decide +kernel
theorem dX1_byWeekday_4 : decode cX1_byWeekday 4 = .ok (.getstatic 132, 3) := by decide +kernel
theorem dX1_byWeekday_7 : decode cX1_byWeekday 7 = .ok (.invokevirtual 81, 3) := by decide +kernel
theorem dX1_byWeekday_10 : decode cX1_byWeekday 10 = .ok (.ifCond .eq 38, 3) := by decide +kernel
theorem dX1_byWeekday_13 : decode cX1_byWeekday 13 = .ok (.aload_n 0, 1) := by decide +kernel
theorem dX1_byWeekday_14 : decode cX1_byWeekday 14 = .ok (.getfield 15, 3) := by decide +kernel
theorem dX1_byWeekday_17 : decode cX1_byWeekday 17 = .ok (.getfield 144, 3) := by decide +kernel
theorem dX1_byWeekday_20 : decode cX1_byWeekday 20 = .ok (.ifCond .ne 7, 3) := by decide +kernel
theorem dX1_byWeekday_23 : decode cX1_byWeekday 23 = .ok (.iconst 0, 1) := by decide +kernel
theorem dX1_byWeekday_24 : decode cX1_byWeekday 24 = .ok (.goto 8, 3) := by decide +kernel
theorem dX1_byWeekday_27 : decode cX1_byWeekday 27 = .ok (.aload_n 0, 1) := by decide +kernel
theorem dX1_byWeekday_28 : decode cX1_byWeekday 28 = .ok (.iload_n 1, 1) := by decide +kernel
theorem dX1_byWeekday_29 : decode cX1_byWeekday 29 = .ok (.invokevirtual 147, 3) := by decide +kernel
theorem dX1_byWeekday_32 : decode cX1_byWeekday 32 = .ok (.istore_n 2, 1) := by decide +kernel
theorem dX1_byWeekday_33 : decode cX1_byWeekday 33 = .ok (.iload_n 2, 1) := by decide +kernel
theorem dX1_byWeekday_34 : decode cX1_byWeekday 34 = .ok (.aload_n 0, 1) := by decide +kernel
theorem dX1_byWeekday_35 : decode cX1_byWeekday 35 = .ok (.iload_n 1, 1) := by decide +kernel
theorem dX1_byWeekday_36 : decode cX1_byWeekday 36 = .ok (.aload_n 0, 1) := by decide +kernel
theorem dX1_byWeekday_37 : decode cX1_byWeekday 37 = .ok (.getfield 15, 3) := by decide +kernel
theorem dX1_byWeekday_40 : decode cX1_byWeekday 40 = .ok (.getfield 149, 3) := by decide +kernel
theorem dX1_byWeekday_43 : decode cX1_byWeekday 43 = .ok (.invokevirtual 152, 3) := by decide +kernel
theorem dX1_byWeekday_46 : decode cX1_byWeekday 46 = .ok (.ior, 1) := by decide +kernel
theorem dX1_byWeekday_47 : decode cX1_byWeekday 47 = .ok (.ireturn, 1) := by decide +kernel
theorem dX1_byWeekday_48 : decode cX1_byWeekday 48 = .ok (.aload_n 0, 1) := by decide +kernel
theorem dX1_byWeekday_49 : decode cX1_byWeekday 49 = .ok (.getfield 15, 3) := by decide +kernel
theorem dX1_byWeekday_52 : decode cX1_byWeekday 52 = .ok (.getfield 42, 3) := by decide +kernel
theorem dX1_byWeekday_55 : decode cX1_byWeekday 55 = .ok (.getstatic 155, 3) := by decide +kernel
theorem dX1_byWeekday_58 : decode cX1_byWeekday 58 = .ok (.if_acmp .ne 25, 3) := by decide +kernel
theorem dX1_byWeekday_61 : decode cX1_byWeekday 61 = .ok (.aload_n 0, 1) := by decide +kernel
theorem dX1_byWeekday_62 : decode cX1_byWeekday 62 = .ok (.iload_n 1, 1) := by decide +kernel
theorem dX1_byWeekday_63 : decode cX1_byWeekday 63 = .ok (.iconst 1, 1) := by decide +kernel
theorem dX1_byWeekday_64 : decode cX1_byWeekday 64 = .ok (.aload_n 0, 1) := by decide +kernel
theorem dX1_byWeekday_65 : decode cX1_byWeekday 65 = .ok (.getfield 9, 3) := by decide +kernel
theorem dX1_byWeekday_68 : decode cX1_byWeekday 68 = .ok (.aload_n 0, 1) := by decide +kernel
theorem dX1_byWeekday_69 : decode cX1_byWeekday 69 = .ok (.getfield 26, 3) := by decide +kernel
theorem dX1_byWeekday_72 : decode cX1_byWeekday 72 = .ok (.invokevirtual 52, 3) := by decide +kernel
theorem dX1_byWeekday_75 : decode cX1_byWeekday 75 = .ok (.bipush 7, 2) := by decide +kernel
theorem dX1_byWeekday_77 : decode cX1_byWeekday 77 = .ok (.irem, 1) := by decide +kernel
theorem dX1_byWeekday_78 : decode cX1_byWeekday 78 = .ok (.ishl, 1) := by decide +kernel
theorem dX1_byWeekday_79 : decode cX1_byWeekday 79 = .ok (.invokevirtual 152, 3) := by decide +kernel
theorem dX1_byWeekday_82 : decode cX1_byWeekday 82 = .ok (.ireturn, 1) := by decide +kernel
theorem dX1_byWeekday_83 : decode cX1_byWeekday 83 = .ok (.ldc 110, 2) := by decide +kernel
theorem dX1_byWeekday_85 : decode cX1_byWeekday 85 = .ok (.ireturn, 1) := by decide +kernel
theorem dX1_plainWeekdays_0 : decode cX1_plainWeekdays 0 = .ok (.aload_n 0, 1) := by decide +kernel
theorem dX1_plainWeekdays_1 : decode cX1_plainWeekdays 1 = .ok (.getfield 9, 3) := by decide +kernel
theorem dX1_plainWeekdays_4 : decode cX1_plainWeekdays 4 = .ok (.getfield 92, 3) := by decide +kernel
theorem dX1_plainWeekdays_7 : decode cX1_plainWeekdays 7 = .ok (.iload_n 1, 1) := by decide +kernel
theorem dX1_plainWeekdays_8 : decode cX1_plainWeekdays 8 = .ok (.iaload, 1) := by decide +kernel
theorem dX1_plainWeekdays_9 : decode cX1_plainWeekdays 9 = .ok (.bipush 7, 2) := by decide +kernel
theorem dX1_plainWeekdays_11 : decode cX1_plainWeekdays 11 = .ok (.irem, 1) := by decide +kernel
theorem dX1_plainWeekdays_12 : decode cX1_plainWeekdays 12 = .ok (.istore_n 3, 1) := by decide +kernel
theorem dX1_plainWeekdays_13 : decode cX1_plainWeekdays 13 = .ok (.iload_n 2, 1) := by decide +kernel
theorem dX1_plainWeekdays_14 : decode cX1_plainWeekdays 14 = .ok (.iload_n 3, 1) := by decide +kernel
theorem dX1_plainWeekdays_15 : decode cX1_plainWeekdays 15 = .ok (.iushr, 1) := by decide +kernel
theorem dX1_plainWeekdays_16 : decode cX1_plainWeekdays 16 = .ok (.iload_n 2, 1) := by decide +kernel
theorem dX1_plainWeekdays_17 : decode cX1_plainWeekdays 17 = .ok (.bipush 7, 2) := by decide +kernel
theorem dX1_plainWeekdays_19 : decode cX1_plainWeekdays 19 = .ok (.iload_n 3, 1) := by decide +kernel
theorem dX1_plainWeekdays_20 : decode cX1_plainWeekdays 20 = .ok (.isub, 1) := by decide +kernel
theorem dX1_plainWeekdays_21 : decode cX1_plainWeekdays 21 = .ok (.ishl, 1) := by decide +kernel
theorem dX1_plainWeekdays_22 : decode cX1_plainWeekdays 22 = .ok (.ior, 1) := by decide +kernel
theorem dX1_plainWeekdays_23 : decode cX1_plainWeekdays 23 = .ok (.bipush 127, 2) := by decide +kernel
theorem dX1_plainWeekdays_25 : decode cX1_plainWeekdays 25 = .ok (.iand, 1) := by decide +kernel
theorem dX1_plainWeekdays_26 : decode cX1_plainWeekdays 26 = .ok (.istore 4, 2) := by decide +kernel
theorem dX1_plainWeekdays_28 : decode cX1_plainWeekdays 28 = .ok (.iload 4, 2) := by decide +kernel
theorem dX1_plainWeekdays_30 : decode cX1_plainWeekdays 30 = .ok (.iload 4, 2) := by decide +kernel
theorem dX1_plainWeekdays_32 : decode cX1_plainWeekdays 32 = .ok (.bipush 7, 2) := by decide +kernel
theorem dX1_plainWeekdays_34 : decode cX1_plainWeekdays 34 = .ok (.ishl, 1) := by decide +kernel
theorem dX1_plainWeekdays_35 : decode cX1_plainWeekdays 35 = .ok (.ior, 1) := by decide +kernel
theorem dX1_plainWeekdays_36 : decode cX1_plainWeekdays 36 = .ok (.iload 4, 2) := by decide +kernel
theorem dX1_plainWeekdays_38 : decode cX1_plainWeekdays 38 = .ok (.bipush 14, 2) := by decide +kernel
theorem dX1_plainWeekdays_40 : decode cX1_plainWeekdays 40 = .ok (.ishl, 1) := by decide +kernel
theorem dX1_plainWeekdays_41 : decode cX1_plainWeekdays 41 = .ok (.ior, 1) := by decide +kernel
theorem dX1_plainWeekdays_42 : decode cX1_plainWeekdays 42 = .ok (.iload 4, 2) := by decide +kernel
theorem dX1_plainWeekdays_44 : decode cX1_plainWeekdays 44 = .ok (.bipush 21, 2) := by decide +kernel
theorem dX1_plainWeekdays_46 : decode cX1_plainWeekdays 46 = .ok (.ishl, 1) := by decide +kernel
theorem dX1_plainWeekdays_47 : decode cX1_plainWeekdays 47 = .ok (.ior, 1) := by decide +kernel
theorem dX1_plainWeekdays_48 : decode cX1_plainWeekdays 48 = .ok (.istore 5, 2) := by decide +kernel
theorem dX1_plainWeekdays_50 : decode cX1_plainWeekdays 50 = .ok (.iload 5, 2) := by decide +kernel
theorem dX1_plainWeekdays_52 : decode cX1_plainWeekdays 52 = .ok (.iload 4, 2) := by decide +kernel
theorem dX1_plainWeekdays_54 : decode cX1_plainWeekdays 54 = .ok (.bipush 28, 2) := by decide +kernel
theorem dX1_plainWeekdays_56 : decode cX1_plainWeekdays 56 = .ok (.ishl, 1) := by decide +kernel
theorem dX1_plainWeekdays_57 : decode cX1_plainWeekdays 57 = .ok (.ior, 1) := by decide +kernel
theorem dX1_plainWeekdays_58 : decode cX1_plainWeekdays 58 = .ok (.ireturn, 1) := by decide +kernel
theorem dX1_numberedWeekdays_0 : decode cX1_numberedWeekdays 0 = .ok (.aload_n 0, 1) := by decide +kernel
theorem dX1_numberedWeekdays_1 : decode cX1_numberedWeekdays 1 = .ok (.getfield 15, 3) := by decide +kernel
theorem dX1_numberedWeekdays_4 : decode cX1_numberedWeekdays 4 = .ok (.getfield 42, 3) := by decide +kernel
theorem dX1_numberedWeekdays_7 : decode cX1_numberedWeekdays 7 = .ok (.getstatic 158, 3) := by decide +kernel
theorem dX1_numberedWeekdays_10 : decode cX1_numberedWeekdays 10 = .ok (.if_acmp .eq 16, 3) := by decide +kernel
theorem dX1_numberedWeekdays_13 : decode cX1_numberedWeekdays 13 = .ok (.aload_n 0, 1) := by decide +kernel
theorem dX1_numberedWeekdays_14 : decode cX1_numberedWeekdays 14 = .ok (.getfield 15, 3) := by decide +kernel
theorem dX1_numberedWeekdays_17 : decode cX1_numberedWeekdays 17 = .ok (.getstatic 120, 3) := by decide +kernel
theorem dX1_numberedWeekdays_20 : decode cX1_numberedWeekdays 20 = .ok (.invokevirtual 81, 3) := by decide +kernel
theorem dX1_numberedWeekdays_23 : decode cX1_numberedWeekdays 23 = .ok (.ifCond .eq 7, 3) := by decide +kernel
theorem dX1_numberedWeekdays_26 : decode cX1_numberedWeekdays 26 = .ok (.iconst 1, 1) := by decide +kernel
theorem dX1_numberedWeekdays_27 : decode cX1_numberedWeekdays 27 = .ok (.goto 4, 3) := by decide +kernel
theorem dX1_numberedWeekdays_30 : decode cX1_numberedWeekdays 30 = .ok (.iconst 0, 1) := by decide +kernel
theorem dX1_numberedWeekdays_31 : decode cX1_numberedWeekdays 31 = .ok (.istore_n 2, 1) := by decide +kernel
theorem dX1_numberedWeekdays_32 : decode cX1_numberedWeekdays 32 = .ok (.iload_n 2, 1) := by decide +kernel
theorem dX1_numberedWeekdays_33 : decode cX1_numberedWeekdays 33 = .ok (.ifCond .eq 7, 3) := by decide +kernel
theorem dX1_numberedWeekdays_36 : decode cX1_numberedWeekdays 36 = .ok (.iload_n 1, 1) := by decide +kernel
theorem dX1_numberedWeekdays_37 : decode cX1_numberedWeekdays 37 = .ok (.goto 7, 3) := by decide +kernel
theorem dX1_numberedWeekdays_40 : decode cX1_numberedWeekdays 40 = .ok (.iload_n 1, 1) := by decide +kernel
theorem dX1_numberedWeekdays_41 : decode cX1_numberedWeekdays 41 = .ok (.invokestatic 63, 3) := by decide +kernel
theorem dX1_numberedWeekdays_44 : decode cX1_numberedWeekdays 44 = .ok (.istore_n 3, 1) := by decide +kernel
theorem dX1_numberedWeekdays_45 : decode cX1_numberedWeekdays 45 = .ok (.iload_n 2, 1) := by decide +kernel
theorem dX1_numberedWeekdays_46 : decode cX1_numberedWeekdays 46 = .ok (.ifCond .eq 9, 3) := by decide +kernel
theorem dX1_numberedWeekdays_49 : decode cX1_numberedWeekdays 49 = .ok (.iload_n 1, 1) := by decide +kernel
theorem dX1_numberedWeekdays_50 : decode cX1_numberedWeekdays 50 = .ok (.iconst 1, 1) := by decide +kernel
theorem dX1_numberedWeekdays_51 : decode cX1_numberedWeekdays 51 = .ok (.iadd, 1) := by decide +kernel
theorem dX1_numberedWeekdays_52 : decode cX1_numberedWeekdays 52 = .ok (.goto 7, 3) := by decide +kernel
theorem dX1_numberedWeekdays_55 : decode cX1_numberedWeekdays 55 = .ok (.iload_n 3, 1) := by decide +kernel
theorem dX1_numberedWeekdays_56 : decode cX1_numberedWeekdays 56 = .ok (.bipush 12, 2) := by decide +kernel
theorem dX1_numberedWeekdays_58 : decode cX1_numberedWeekdays 58 = .ok (.iadd, 1) := by decide +kernel
theorem dX1_numberedWeekdays_59 : decode cX1_numberedWeekdays 59 = .ok (.istore 4, 2) := by decide +kernel
theorem dX1_numberedWeekdays_61 : decode cX1_numberedWeekdays 61 = .ok (.iconst 0, 1) := by decide +kernel
theorem dX1_numberedWeekdays_62 : decode cX1_numberedWeekdays 62 = .ok (.istore 5, 2) := by decide +kernel
theorem dX1_numberedWeekdays_64 : decode cX1_numberedWeekdays 64 = .ok (.aload_n 0, 1) := by decide +kernel
theorem dX1_numberedWeekdays_65 : decode cX1_numberedWeekdays 65 = .ok (.getfield 9, 3) := by decide +kernel
theorem dX1_numberedWeekdays_68 : decode cX1_numberedWeekdays 68 = .ok (.getfield 92, 3) := by decide +kernel
theorem dX1_numberedWeekdays_71 : decode cX1_numberedWeekdays 71 = .ok (.iload_n 1, 1) := by decide +kernel
theorem dX1_numberedWeekdays_72 : decode cX1_numberedWeekdays 72 = .ok (.iaload, 1) := by decide +kernel
theorem dX1_numberedWeekdays_73 : decode cX1_numberedWeekdays 73 = .ok (.istore 6, 2) := by decide +kernel
theorem dX1_numberedWeekdays_75 : decode cX1_numberedWeekdays 75 = .ok (.iload 6, 2) := by decide +kernel
theorem dX1_numberedWeekdays_77 : decode cX1_numberedWeekdays 77 = .ok (.aload_n 0, 1) := by decide +kernel
theorem dX1_numberedWeekdays_78 : decode cX1_numberedWeekdays 78 = .ok (.getfield 9, 3) := by decide +kernel
theorem dX1_numberedWeekdays_81 : decode cX1_numberedWeekdays 81 = .ok (.getfield 92, 3) := by decide +kernel
theorem dX1_numberedWeekdays_84 : decode cX1_numberedWeekdays 84 = .ok (.iload_n 1, 1) := by decide +kernel
theorem dX1_numberedWeekdays_85 : decode cX1_numberedWeekdays 85 = .ok (.iconst 1, 1) := by decide +kernel
theorem dX1_numberedWeekdays_86 : decode cX1_numberedWeekdays 86 = .ok (.iadd, 1) := by decide +kernel
theorem dX1_numberedWeekdays_87 : decode cX1_numberedWeekdays 87 = .ok (.iaload, 1) := by decide +kernel
theorem dX1_numberedWeekdays_88 : decode cX1_numberedWeekdays 88 = .ok (.if_icmp .ge 116, 3) := by decide +kernel
theorem dX1_numberedWeekdays_91 : decode cX1_numberedWeekdays 91 = .ok (.iload 6, 2) := by decide +kernel
theorem dX1_numberedWeekdays_93 : decode cX1_numberedWeekdays 93 = .ok (.aload_n 0, 1) := by decide +kernel
theorem dX1_numberedWeekdays_94 : decode cX1_numberedWeekdays 94 = .ok (.getfield 9, 3) := by decide +kernel
theorem dX1_numberedWeekdays_97 : decode cX1_numberedWeekdays 97 = .ok (.getfield 92, 3) := by decide +kernel
theorem dX1_numberedWeekdays_100 : decode cX1_numberedWeekdays 100 = .ok (.iload_n 3, 1) := by decide +kernel
theorem dX1_numberedWeekdays_101 : decode cX1_numberedWeekdays 101 = .ok (.iaload, 1) := by decide +kernel
theorem dX1_numberedWeekdays_102 : decode cX1_numberedWeekdays 102 = .ok (.isub, 1) := by decide +kernel
theorem dX1_numberedWeekdays_103 : decode cX1_numberedWeekdays 103 = .ok (.bipush 7, 2) := by decide +kernel
theorem dX1_numberedWeekdays_105 : decode cX1_numberedWeekdays 105 = .ok (.idiv, 1) := by decide +kernel
theorem dX1_numberedWeekdays_106 : decode cX1_numberedWeekdays 106 = .ok (.iconst 1, 1) := by decide +kernel
theorem dX1_numberedWeekdays_107 : decode cX1_numberedWeekdays 107 = .ok (.iadd, 1) := by decide +kernel
theorem dX1_numberedWeekdays_108 : decode cX1_numberedWeekdays 108 = .ok (.istore 7, 2) := by decide +kernel
theorem dX1_numberedWeekdays_110 : decode cX1_numberedWeekdays 110 = .ok (.aload_n 0, 1) := by decide +kernel
theorem dX1_numberedWeekdays_111 : decode cX1_numberedWeekdays 111 = .ok (.getfield 9, 3) := by decide +kernel
theorem dX1_numberedWeekdays_114 : decode cX1_numberedWeekdays 114 = .ok (.getfield 92, 3) := by decide +kernel
theorem dX1_numberedWeekdays_117 : decode cX1_numberedWeekdays 117 = .ok (.iload 4, 2) := by decide +kernel
theorem dX1_numberedWeekdays_119 : decode cX1_numberedWeekdays 119 = .ok (.iaload, 1) := by decide +kernel
theorem dX1_numberedWeekdays_120 : decode cX1_numberedWeekdays 120 = .ok (.iconst 1, 1) := by decide +kernel
theorem dX1_numberedWeekdays_121 : decode cX1_numberedWeekdays 121 = .ok (.isub, 1) := by decide +kernel
theorem dX1_numberedWeekdays_122 : decode cX1_numberedWeekdays 122 = .ok (.iload 6, 2) := by decide +kernel
theorem dX1_numberedWeekdays_124 : decode cX1_numberedWeekdays 124 = .ok (.isub, 1) := by decide +kernel
theorem dX1_numberedWeekdays_125 : decode cX1_numberedWeekdays 125 = .ok (.bipush 7, 2) := by decide +kernel
theorem dX1_numberedWeekdays_127 : decode cX1_numberedWeekdays 127 = .ok (.idiv, 1) := by decide +kernel
theorem dX1_numberedWeekdays_128 : decode cX1_numberedWeekdays 128 = .ok (.iconst 1, 1) := by decide +kernel
theorem dX1_numberedWeekdays_129 : decode cX1_numberedWeekdays 129 = .ok (.iadd, 1) := by decide +kernel
theorem dX1_numberedWeekdays_130 : decode cX1_numberedWeekdays 130 = .ok (.istore 8, 2) := by decide +kernel
theorem dX1_numberedWeekdays_132 : decode cX1_numberedWeekdays 132 = .ok (.iload 6, 2) := by decide +kernel
theorem dX1_numberedWeekdays_134 : decode cX1_numberedWeekdays 134 = .ok (.bipush 7, 2) := by decide +kernel
theorem dX1_numberedWeekdays_136 : decode cX1_numberedWeekdays 136 = .ok (.irem, 1) := by decide +kernel
theorem dX1_numberedWeekdays_137 : decode cX1_numberedWeekdays 137 = .ok (.istore 9, 2) := by decide +kernel
theorem dX1_numberedWeekdays_139 : decode cX1_numberedWeekdays 139 = .ok (.aload_n 0, 1) := by decide +kernel
theorem dX1_numberedWeekdays_140 : decode cX1_numberedWeekdays 140 = .ok (.getfield 15, 3) := by decide +kernel
theorem dX1_numberedWeekdays_143 : decode cX1_numberedWeekdays 143 = .ok (.getfield 161, 3) := by decide +kernel
theorem dX1_numberedWeekdays_146 : decode cX1_numberedWeekdays 146 = .ok (.iload 9, 2) := by decide +kernel
theorem dX1_numberedWeekdays_148 : decode cX1_numberedWeekdays 148 = .ok (.laload, 1) := by decide +kernel
theorem dX1_numberedWeekdays_149 : decode cX1_numberedWeekdays 149 = .ok (.iload 7, 2) := by decide +kernel
theorem dX1_numberedWeekdays_151 : decode cX1_numberedWeekdays 151 = .ok (.lushr, 1) := by decide +kernel
theorem dX1_numberedWeekdays_152 : decode cX1_numberedWeekdays 152 = .ok (.lconst 1, 1) := by decide +kernel
theorem dX1_numberedWeekdays_153 : decode cX1_numberedWeekdays 153 = .ok (.land, 1) := by decide +kernel
theorem dX1_numberedWeekdays_154 : decode cX1_numberedWeekdays 154 = .ok (.lconst 0, 1) := by decide +kernel
theorem dX1_numberedWeekdays_155 : decode cX1_numberedWeekdays 155 = .ok (.lcmp, 1) := by decide +kernel
theorem dX1_numberedWeekdays_156 : decode cX1_numberedWeekdays 156 = .ok (.ifCond .ne 23, 3) := by decide +kernel
theorem dX1_numberedWeekdays_159 : decode cX1_numberedWeekdays 159 = .ok (.aload_n 0, 1) := by decide +kernel
theorem dX1_numberedWeekdays_160 : decode cX1_numberedWeekdays 160 = .ok (.getfield 15, 3) := by decide +kernel
theorem dX1_numberedWeekdays_163 : decode cX1_numberedWeekdays 163 = .ok (.getfield 165, 3) := by decide +kernel
theorem dX1_numberedWeekdays_166 : decode cX1_numberedWeekdays 166 = .ok (.iload 9, 2) := by decide +kernel
theorem dX1_numberedWeekdays_168 : decode cX1_numberedWeekdays 168 = .ok (.laload, 1) := by decide +kernel
theorem dX1_numberedWeekdays_169 : decode cX1_numberedWeekdays 169 = .ok (.iload 8, 2) := by decide +kernel
theorem dX1_numberedWeekdays_171 : decode cX1_numberedWeekdays 171 = .ok (.lushr, 1) := by decide +kernel
theorem dX1_numberedWeekdays_172 : decode cX1_numberedWeekdays 172 = .ok (.lconst 1, 1) := by decide +kernel
theorem dX1_numberedWeekdays_173 : decode cX1_numberedWeekdays 173 = .ok (.land, 1) := by decide +kernel
theorem dX1_numberedWeekdays_174 : decode cX1_numberedWeekdays 174 = .ok (.lconst 0, 1) := by decide +kernel
theorem dX1_numberedWeekdays_175 : decode cX1_numberedWeekdays 175 = .ok (.lcmp, 1) := by decide +kernel
theorem dX1_numberedWeekdays_176 : decode cX1_numberedWeekdays 176 = .ok (.ifCond .eq 22, 3) := by decide +kernel
theorem dX1_numberedWeekdays_179 : decode cX1_numberedWeekdays 179 = .ok (.iload 5, 2) := by decide +kernel
theorem dX1_numberedWeekdays_181 : decode cX1_numberedWeekdays 181 = .ok (.iconst 1, 1) := by decide +kernel
theorem dX1_numberedWeekdays_182 : decode cX1_numberedWeekdays 182 = .ok (.iload 6, 2) := by decide +kernel
theorem dX1_numberedWeekdays_184 : decode cX1_numberedWeekdays 184 = .ok (.aload_n 0, 1) := by decide +kernel
theorem dX1_numberedWeekdays_185 : decode cX1_numberedWeekdays 185 = .ok (.getfield 9, 3) := by decide +kernel
theorem dX1_numberedWeekdays_188 : decode cX1_numberedWeekdays 188 = .ok (.getfield 92, 3) := by decide +kernel
theorem dX1_numberedWeekdays_191 : decode cX1_numberedWeekdays 191 = .ok (.iload_n 1, 1) := by decide +kernel
theorem dX1_numberedWeekdays_192 : decode cX1_numberedWeekdays 192 = .ok (.iaload, 1) := by decide +kernel
theorem dX1_numberedWeekdays_193 : decode cX1_numberedWeekdays 193 = .ok (.isub, 1) := by decide +kernel
theorem dX1_numberedWeekdays_194 : decode cX1_numberedWeekdays 194 = .ok (.ishl, 1) := by decide +kernel
theorem dX1_numberedWeekdays_195 : decode cX1_numberedWeekdays 195 = .ok (.ior, 1) := by decide +kernel
theorem dX1_numberedWeekdays_196 : decode cX1_numberedWeekdays 196 = .ok (.istore 5, 2) := by decide +kernel
theorem dX1_numberedWeekdays_198 : decode cX1_numberedWeekdays 198 = .ok (.iinc 6 1, 3) := by decide +kernel
theorem dX1_numberedWeekdays_201 : decode cX1_numberedWeekdays 201 = .ok (.goto (-126), 3) := by decide +kernel
theorem dX1_numberedWeekdays_204 : decode cX1_numberedWeekdays 204 = .ok (.iload 5, 2) := by decide +kernel
theorem dX1_numberedWeekdays_206 : decode cX1_numberedWeekdays 206 = .ok (.ireturn, 1) := by decide +kernel
theorem dX1_choosePlaces_0 : decode cX1_choosePlaces 0 = .ok (.aload_n 0, 1) := by decide +kernel
theorem dX1_choosePlaces_1 : decode cX1_choosePlaces 1 = .ok (.iconst 0, 1) := by decide +kernel
theorem dX1_choosePlaces_2 : decode cX1_choosePlaces 2 = .ok (.putfield 168, 3) := by decide +kernel
theorem dX1_choosePlaces_5 : decode cX1_choosePlaces 5 = .ok (.iconst (-1), 1) := by decide +kernel
theorem dX1_choosePlaces_6 : decode cX1_choosePlaces 6 = .ok (.istore_n 3, 1) := by decide +kernel
theorem dX1_choosePlaces_7 : decode cX1_choosePlaces 7 = .ok (.iload_n 1, 1) := by decide +kernel
theorem dX1_choosePlaces_8 : decode cX1_choosePlaces 8 = .ok (.istore 4, 2) := by decide +kernel
theorem dX1_choosePlaces_10 : decode cX1_choosePlaces 10 = .ok (.iload 4, 2) := by decide +kernel
theorem dX1_choosePlaces_12 : decode cX1_choosePlaces 12 = .ok (.iload_n 2, 1) := by decide +kernel
theorem dX1_choosePlaces_13 : decode cX1_choosePlaces 13 = .ok (.if_icmp .gt 108, 3) := by decide +kernel
theorem dX1_choosePlaces_16 : decode cX1_choosePlaces 16 = .ok (.aload_n 0, 1) := by decide +kernel
theorem dX1_choosePlaces_17 : decode cX1_choosePlaces 17 = .ok (.getfield 19, 3) := by decide +kernel
theorem dX1_choosePlaces_20 : decode cX1_choosePlaces 20 = .ok (.iload 4, 2) := by decide +kernel
theorem dX1_choosePlaces_22 : decode cX1_choosePlaces 22 = .ok (.iaload, 1) := by decide +kernel
theorem dX1_choosePlaces_23 : decode cX1_choosePlaces 23 = .ok (.istore 5, 2) := by decide +kernel
theorem dX1_choosePlaces_25 : decode cX1_choosePlaces 25 = .ok (.aload_n 0, 1) := by decide +kernel
theorem dX1_choosePlaces_26 : decode cX1_choosePlaces 26 = .ok (.getfield 19, 3) := by decide +kernel
theorem dX1_choosePlaces_29 : decode cX1_choosePlaces 29 = .ok (.iload 4, 2) := by decide +kernel
theorem dX1_choosePlaces_31 : decode cX1_choosePlaces 31 = .ok (.iconst 0, 1) := by decide +kernel
theorem dX1_choosePlaces_32 : decode cX1_choosePlaces 32 = .ok (.iastore, 1) := by decide +kernel
theorem dX1_choosePlaces_33 : decode cX1_choosePlaces 33 = .ok (.iload 5, 2) := by decide +kernel
theorem dX1_choosePlaces_35 : decode cX1_choosePlaces 35 = .ok (.invokestatic 171, 3) := by decide +kernel
theorem dX1_choosePlaces_38 : decode cX1_choosePlaces 38 = .ok (.istore 6, 2) := by decide +kernel
theorem dX1_choosePlaces_40 : decode cX1_choosePlaces 40 = .ok (.iload 6, 2) := by decide +kernel
theorem dX1_choosePlaces_42 : decode cX1_choosePlaces 42 = .ok (.ifCond .le 73, 3) := by decide +kernel
theorem dX1_choosePlaces_45 : decode cX1_choosePlaces 45 = .ok (.iload 5, 2) := by decide +kernel
theorem dX1_choosePlaces_47 : decode cX1_choosePlaces 47 = .ok (.invokestatic 176, 3) := by decide +kernel
theorem dX1_choosePlaces_50 : decode cX1_choosePlaces 50 = .ok (.istore 7, 2) := by decide +kernel
theorem dX1_choosePlaces_52 : decode cX1_choosePlaces 52 = .ok (.aload_n 0, 1) := by decide +kernel
theorem dX1_choosePlaces_53 : decode cX1_choosePlaces 53 = .ok (.getfield 15, 3) := by decide +kernel
theorem dX1_choosePlaces_56 : decode cX1_choosePlaces 56 = .ok (.getfield 42, 3) := by decide +kernel
theorem dX1_choosePlaces_59 : decode cX1_choosePlaces 59 = .ok (.iload 4, 2) := by decide +kernel
theorem dX1_choosePlaces_61 : decode cX1_choosePlaces 61 = .ok (.aload_n 0, 1) := by decide +kernel
theorem dX1_choosePlaces_62 : decode cX1_choosePlaces 62 = .ok (.getfield 9, 3) := by decide +kernel
theorem dX1_choosePlaces_65 : decode cX1_choosePlaces 65 = .ok (.getfield 92, 3) := by decide +kernel
theorem dX1_choosePlaces_68 : decode cX1_choosePlaces 68 = .ok (.iload 4, 2) := by decide +kernel
theorem dX1_choosePlaces_70 : decode cX1_choosePlaces 70 = .ok (.iaload, 1) := by decide +kernel
theorem dX1_choosePlaces_71 : decode cX1_choosePlaces 71 = .ok (.iload 7, 2) := by decide +kernel
theorem dX1_choosePlaces_73 : decode cX1_choosePlaces 73 = .ok (.iadd, 1) := by decide +kernel
theorem dX1_choosePlaces_74 : decode cX1_choosePlaces 74 = .ok (.invokevirtual 55, 3) := by decide +kernel
theorem dX1_choosePlaces_77 : decode cX1_choosePlaces 77 = .ok (.istore 8, 2) := by decide +kernel
theorem dX1_choosePlaces_79 : decode cX1_choosePlaces 79 = .ok (.iload 8, 2) := by decide +kernel
theorem dX1_choosePlaces_81 : decode cX1_choosePlaces 81 = .ok (.iload_n 3, 1) := by decide +kernel
theorem dX1_choosePlaces_82 : decode cX1_choosePlaces 82 = .ok (.if_icmp .eq 10, 3) := by decide +kernel
theorem dX1_choosePlaces_85 : decode cX1_choosePlaces 85 = .ok (.aload_n 0, 1) := by decide +kernel
theorem dX1_choosePlaces_86 : decode cX1_choosePlaces 86 = .ok (.invokevirtual 179, 3) := by decide +kernel
theorem dX1_choosePlaces_89 : decode cX1_choosePlaces 89 = .ok (.iload 8, 2) := by decide +kernel
theorem dX1_choosePlaces_91 : decode cX1_choosePlaces 91 = .ok (.istore_n 3, 1) := by decide +kernel
theorem dX1_choosePlaces_92 : decode cX1_choosePlaces 92 = .ok (.aload_n 0, 1) := by decide +kernel
theorem dX1_choosePlaces_93 : decode cX1_choosePlaces 93 = .ok (.iload 4, 2) := by decide +kernel
theorem dX1_choosePlaces_95 : decode cX1_choosePlaces 95 = .ok (.iload 7, 2) := by decide +kernel
theorem dX1_choosePlaces_97 : decode cX1_choosePlaces 97 = .ok (.invokevirtual 182, 3) := by decide +kernel
theorem dX1_choosePlaces_100 : decode cX1_choosePlaces 100 = .ok (.iload 5, 2) := by decide +kernel
theorem dX1_choosePlaces_102 : decode cX1_choosePlaces 102 = .ok (.iload 5, 2) := by decide +kernel
theorem dX1_choosePlaces_104 : decode cX1_choosePlaces 104 = .ok (.iconst 1, 1) := by decide +kernel
theorem dX1_choosePlaces_105 : decode cX1_choosePlaces 105 = .ok (.isub, 1) := by decide +kernel
theorem dX1_choosePlaces_106 : decode cX1_choosePlaces 106 = .ok (.iand, 1) := by decide +kernel
theorem dX1_choosePlaces_107 : decode cX1_choosePlaces 107 = .ok (.istore 5, 2) := by decide +kernel
theorem dX1_choosePlaces_109 : decode cX1_choosePlaces 109 = .ok (.iinc 6 (-1), 3) := by decide +kernel
theorem dX1_choosePlaces_112 : decode cX1_choosePlaces 112 = .ok (.goto (-72), 3) := by decide +kernel
theorem dX1_choosePlaces_115 : decode cX1_choosePlaces 115 = .ok (.iinc 4 1, 3) := by decide +kernel
theorem dX1_choosePlaces_118 : decode cX1_choosePlaces 118 = .ok (.goto (-108), 3) := by decide +kernel
theorem dX1_choosePlaces_121 : decode cX1_choosePlaces 121 = .ok (.aload_n 0, 1) := by decide +kernel
theorem dX1_choosePlaces_122 : decode cX1_choosePlaces 122 = .ok (.invokevirtual 179, 3) := by decide +kernel
theorem dX1_choosePlaces_125 : decode cX1_choosePlaces 125 = .ok (.return_, 1) := by decide +kernel
theorem dX1_gather_0 : decode cX1_gather 0 = .ok (.aload_n 0, 1) := by decide +kernel
theorem dX1_gather_1 : decode cX1_gather 1 = .ok (.getfield 168, 3) := by decide +kernel
theorem dX1_gather_4 : decode cX1_gather 4 = .ok (.aload_n 0, 1) := by decide +kernel
theorem dX1_gather_5 : decode cX1_gather 5 = .ok (.getfield 23, 3) := by decide +kernel
theorem dX1_gather_8 : decode cX1_gather 8 = .ok (.arraylength, 1) := by decide +kernel
theorem dX1_gather_9 : decode cX1_gather 9 = .ok (.if_icmp .ge 28, 3) := by decide +kernel
theorem dX1_gather_12 : decode cX1_gather 12 = .ok (.aload_n 0, 1) := by decide +kernel
theorem dX1_gather_13 : decode cX1_gather 13 = .ok (.getfield 23, 3) := by decide +kernel
theorem dX1_gather_16 : decode cX1_gather 16 = .ok (.aload_n 0, 1) := by decide +kernel
theorem dX1_gather_17 : decode cX1_gather 17 = .ok (.getfield 168, 3) := by decide +kernel
theorem dX1_gather_20 : decode cX1_gather 20 = .ok (.bipush 32, 2) := by decide +kernel
theorem dX1_gather_22 : decode cX1_gather 22 = .ok (.iload_n 1, 1) := by decide +kernel
theorem dX1_gather_23 : decode cX1_gather 23 = .ok (.imul, 1) := by decide +kernel
theorem dX1_gather_24 : decode cX1_gather 24 = .ok (.iload_n 2, 1) := by decide +kernel
theorem dX1_gather_25 : decode cX1_gather 25 = .ok (.iadd, 1) := by decide +kernel
theorem dX1_gather_26 : decode cX1_gather 26 = .ok (.iastore, 1) := by decide +kernel
theorem dX1_gather_27 : decode cX1_gather 27 = .ok (.aload_n 0, 1) := by decide +kernel
theorem dX1_gather_28 : decode cX1_gather 28 = .ok (.dup, 1) := by decide +kernel
theorem dX1_gather_29 : decode cX1_gather 29 = .ok (.getfield 168, 3) := by decide +kernel
theorem dX1_gather_32 : decode cX1_gather 32 = .ok (.iconst 1, 1) := by decide +kernel
theorem dX1_gather_33 : decode cX1_gather 33 = .ok (.iadd, 1) := by decide +kernel
theorem dX1_gather_34 : decode cX1_gather 34 = .ok (.putfield 168, 3) := by decide +kernel
theorem dX1_gather_37 : decode cX1_gather 37 = .ok (.return_, 1) := by decide +kernel
theorem dX1_keepChosen_0 : decode cX1_keepChosen 0 = .ok (.iconst 0, 1) := by decide +kernel
theorem dX1_keepChosen_1 : decode cX1_keepChosen 1 = .ok (.istore_n 1, 1) := by decide +kernel
theorem dX1_keepChosen_2 : decode cX1_keepChosen 2 = .ok (.iload_n 1, 1) := by decide +kernel
theorem dX1_keepChosen_3 : decode cX1_keepChosen 3 = .ok (.aload_n 0, 1) := by decide +kernel
theorem dX1_keepChosen_4 : decode cX1_keepChosen 4 = .ok (.getfield 168, 3) := by decide +kernel
theorem dX1_keepChosen_7 : decode cX1_keepChosen 7 = .ok (.if_icmp .ge 52, 3) := by decide +kernel
theorem dX1_keepChosen_10 : decode cX1_keepChosen 10 = .ok (.aload_n 0, 1) := by decide +kernel
theorem dX1_keepChosen_11 : decode cX1_keepChosen 11 = .ok (.getfield 15, 3) := by decide +kernel
theorem dX1_keepChosen_14 : decode cX1_keepChosen 14 = .ok (.iload_n 1, 1) := by decide +kernel
theorem dX1_keepChosen_15 : decode cX1_keepChosen 15 = .ok (.aload_n 0, 1) := by decide +kernel
theorem dX1_keepChosen_16 : decode cX1_keepChosen 16 = .ok (.getfield 168, 3) := by decide +kernel
theorem dX1_keepChosen_19 : decode cX1_keepChosen 19 = .ok (.invokevirtual 185, 3) := by decide +kernel
theorem dX1_keepChosen_22 : decode cX1_keepChosen 22 = .ok (.ifCond .eq 31, 3) := by decide +kernel
theorem dX1_keepChosen_25 : decode cX1_keepChosen 25 = .ok (.aload_n 0, 1) := by decide +kernel
theorem dX1_keepChosen_26 : decode cX1_keepChosen 26 = .ok (.getfield 19, 3) := by decide +kernel
theorem dX1_keepChosen_29 : decode cX1_keepChosen 29 = .ok (.aload_n 0, 1) := by decide +kernel
theorem dX1_keepChosen_30 : decode cX1_keepChosen 30 = .ok (.getfield 23, 3) := by decide +kernel
theorem dX1_keepChosen_33 : decode cX1_keepChosen 33 = .ok (.iload_n 1, 1) := by decide +kernel
theorem dX1_keepChosen_34 : decode cX1_keepChosen 34 = .ok (.iaload, 1) := by decide +kernel
theorem dX1_keepChosen_35 : decode cX1_keepChosen 35 = .ok (.bipush 32, 2) := by decide +kernel
theorem dX1_keepChosen_37 : decode cX1_keepChosen 37 = .ok (.idiv, 1) := by decide +kernel
theorem dX1_keepChosen_38 : decode cX1_keepChosen 38 = .ok (.dup2, 1) := by decide +kernel
theorem dX1_keepChosen_39 : decode cX1_keepChosen 39 = .ok (.iaload, 1) := by decide +kernel
theorem dX1_keepChosen_40 : decode cX1_keepChosen 40 = .ok (.iconst 1, 1) := by decide +kernel
theorem dX1_keepChosen_41 : decode cX1_keepChosen 41 = .ok (.aload_n 0, 1) := by decide +kernel
theorem dX1_keepChosen_42 : decode cX1_keepChosen 42 = .ok (.getfield 23, 3) := by decide +kernel
theorem dX1_keepChosen_45 : decode cX1_keepChosen 45 = .ok (.iload_n 1, 1) := by decide +kernel
theorem dX1_keepChosen_46 : decode cX1_keepChosen 46 = .ok (.iaload, 1) := by decide +kernel
theorem dX1_keepChosen_47 : decode cX1_keepChosen 47 = .ok (.bipush 32, 2) := by decide +kernel
theorem dX1_keepChosen_49 : decode cX1_keepChosen 49 = .ok (.irem, 1) := by decide +kernel
theorem dX1_keepChosen_50 : decode cX1_keepChosen 50 = .ok (.ishl, 1) := by decide +kernel
theorem dX1_keepChosen_51 : decode cX1_keepChosen 51 = .ok (.ior, 1) := by decide +kernel
theorem dX1_keepChosen_52 : decode cX1_keepChosen 52 = .ok (.iastore, 1) := by decide +kernel
theorem dX1_keepChosen_53 : decode cX1_keepChosen 53 = .ok (.iinc 1 1, 3) := by decide +kernel
theorem dX1_keepChosen_56 : decode cX1_keepChosen 56 = .ok (.goto (-54), 3) := by decide +kernel
theorem dX1_keepChosen_59 : decode cX1_keepChosen 59 = .ok (.aload_n 0, 1) := by decide +kernel
theorem dX1_keepChosen_60 : decode cX1_keepChosen 60 = .ok (.iconst 0, 1) := by decide +kernel
theorem dX1_keepChosen_61 : decode cX1_keepChosen 61 = .ok (.putfield 168, 3) := by decide +kernel
theorem dX1_keepChosen_64 : decode cX1_keepChosen 64 = .ok (.return_, 1) := by decide +kernel
theorem dX1_cutEnds_0 : decode cX1_cutEnds 0 = .ok (.aload_n 0, 1) := by decide +kernel
theorem dX1_cutEnds_1 : decode cX1_cutEnds 1 = .ok (.getfield 26, 3) := by decide +kernel
theorem dX1_cutEnds_4 : decode cX1_cutEnds 4 = .ok (.invokestatic 46, 3) := by decide +kernel
theorem dX1_cutEnds_7 : decode cX1_cutEnds 7 = .ok (.istore_n 3, 1) := by decide +kernel
theorem dX1_cutEnds_8 : decode cX1_cutEnds 8 = .ok (.aload_n 0, 1) := by decide +kernel
theorem dX1_cutEnds_9 : decode cX1_cutEnds 9 = .ok (.getfield 15, 3) := by decide +kernel
theorem dX1_cutEnds_12 : decode cX1_cutEnds 12 = .ok (.getfield 66, 3) := by decide +kernel
theorem dX1_cutEnds_15 : decode cX1_cutEnds 15 = .ok (.invokestatic 46, 3) := by decide +kernel
theorem dX1_cutEnds_18 : decode cX1_cutEnds 18 = .ok (.istore 4, 2) := by decide +kernel
theorem dX1_cutEnds_20 : decode cX1_cutEnds 20 = .ok (.aload_n 0, 1) := by decide +kernel
theorem dX1_cutEnds_21 : decode cX1_cutEnds 21 = .ok (.getfield 15, 3) := by decide +kernel
theorem dX1_cutEnds_24 : decode cX1_cutEnds 24 = .ok (.getfield 188, 3) := by decide +kernel
theorem dX1_cutEnds_27 : decode cX1_cutEnds 27 = .ok (.istore 5, 2) := by decide +kernel
theorem dX1_cutEnds_29 : decode cX1_cutEnds 29 = .ok (.iload_n 1, 1) := by decide +kernel
theorem dX1_cutEnds_30 : decode cX1_cutEnds 30 = .ok (.istore 6, 2) := by decide +kernel
theorem dX1_cutEnds_32 : decode cX1_cutEnds 32 = .ok (.iload 6, 2) := by decide +kernel
theorem dX1_cutEnds_34 : decode cX1_cutEnds 34 = .ok (.iload_n 2, 1) := by decide +kernel
theorem dX1_cutEnds_35 : decode cX1_cutEnds 35 = .ok (.if_icmp .gt 93, 3) := by decide +kernel
theorem dX1_cutEnds_38 : decode cX1_cutEnds 38 = .ok (.iload 6, 2) := by decide +kernel
theorem dX1_cutEnds_40 : decode cX1_cutEnds 40 = .ok (.iload_n 3, 1) := by decide +kernel
theorem dX1_cutEnds_41 : decode cX1_cutEnds 41 = .ok (.if_icmp .lt 10, 3) := by decide +kernel
theorem dX1_cutEnds_44 : decode cX1_cutEnds 44 = .ok (.iload 6, 2) := by decide +kernel
theorem dX1_cutEnds_46 : decode cX1_cutEnds 46 = .ok (.iload 4, 2) := by decide +kernel
theorem dX1_cutEnds_48 : decode cX1_cutEnds 48 = .ok (.if_icmp .le 7, 3) := by decide +kernel
theorem dX1_cutEnds_51 : decode cX1_cutEnds 51 = .ok (.iconst 1, 1) := by decide +kernel
theorem dX1_cutEnds_52 : decode cX1_cutEnds 52 = .ok (.goto 4, 3) := by decide +kernel
theorem dX1_cutEnds_55 : decode cX1_cutEnds 55 = .ok (.iconst 0, 1) := by decide +kernel
theorem dX1_cutEnds_56 : decode cX1_cutEnds 56 = .ok (.istore 7, 2) := by decide +kernel
theorem dX1_cutEnds_58 : decode cX1_cutEnds 58 = .ok (.iload 7, 2) := by decide +kernel
theorem dX1_cutEnds_60 : decode cX1_cutEnds 60 = .ok (.ifCond .eq 7, 3) := by decide +kernel
theorem dX1_cutEnds_63 : decode cX1_cutEnds 63 = .ok (.iconst 0, 1) := by decide +kernel
theorem dX1_cutEnds_64 : decode cX1_cutEnds 64 = .ok (.goto 27, 3) := by decide +kernel
theorem dX1_cutEnds_67 : decode cX1_cutEnds 67 = .ok (.aload_n 0, 1) := by decide +kernel
theorem dX1_cutEnds_68 : decode cX1_cutEnds 68 = .ok (.getfield 19, 3) := by decide +kernel
theorem dX1_cutEnds_71 : decode cX1_cutEnds 71 = .ok (.iload 6, 2) := by decide +kernel
theorem dX1_cutEnds_73 : decode cX1_cutEnds 73 = .ok (.iaload, 1) := by decide +kernel
theorem dX1_cutEnds_74 : decode cX1_cutEnds 74 = .ok (.iload 6, 2) := by decide +kernel
theorem dX1_cutEnds_76 : decode cX1_cutEnds 76 = .ok (.aload_n 0, 1) := by decide +kernel
theorem dX1_cutEnds_77 : decode cX1_cutEnds 77 = .ok (.getfield 26, 3) := by decide +kernel
theorem dX1_cutEnds_80 : decode cX1_cutEnds 80 = .ok (.aload_n 0, 1) := by decide +kernel
theorem dX1_cutEnds_81 : decode cX1_cutEnds 81 = .ok (.getfield 15, 3) := by decide +kernel
theorem dX1_cutEnds_84 : decode cX1_cutEnds 84 = .ok (.getfield 66, 3) := by decide +kernel
theorem dX1_cutEnds_87 : decode cX1_cutEnds 87 = .ok (.invokestatic 191, 3) := by decide +kernel
theorem dX1_cutEnds_90 : decode cX1_cutEnds 90 = .ok (.iand, 1) := by decide +kernel
theorem dX1_cutEnds_91 : decode cX1_cutEnds 91 = .ok (.istore 8, 2) := by decide +kernel
theorem dX1_cutEnds_93 : decode cX1_cutEnds 93 = .ok (.aload_n 0, 1) := by decide +kernel
theorem dX1_cutEnds_94 : decode cX1_cutEnds 94 = .ok (.getfield 19, 3) := by decide +kernel
theorem dX1_cutEnds_97 : decode cX1_cutEnds 97 = .ok (.iload 6, 2) := by decide +kernel
theorem dX1_cutEnds_99 : decode cX1_cutEnds 99 = .ok (.iload 8, 2) := by decide +kernel
theorem dX1_cutEnds_101 : decode cX1_cutEnds 101 = .ok (.iload 5, 2) := by decide +kernel
theorem dX1_cutEnds_103 : decode cX1_cutEnds 103 = .ok (.invokestatic 195, 3) := by decide +kernel
theorem dX1_cutEnds_106 : decode cX1_cutEnds 106 = .ok (.iastore, 1) := by decide +kernel
theorem dX1_cutEnds_107 : decode cX1_cutEnds 107 = .ok (.iload 5, 2) := by decide +kernel
theorem dX1_cutEnds_109 : decode cX1_cutEnds 109 = .ok (.aload_n 0, 1) := by decide +kernel
theorem dX1_cutEnds_110 : decode cX1_cutEnds 110 = .ok (.getfield 19, 3) := by decide +kernel
theorem dX1_cutEnds_113 : decode cX1_cutEnds 113 = .ok (.iload 6, 2) := by decide +kernel
theorem dX1_cutEnds_115 : decode cX1_cutEnds 115 = .ok (.iaload, 1) := by decide +kernel
theorem dX1_cutEnds_116 : decode cX1_cutEnds 116 = .ok (.invokestatic 171, 3) := by decide +kernel
theorem dX1_cutEnds_119 : decode cX1_cutEnds 119 = .ok (.isub, 1) := by decide +kernel
theorem dX1_cutEnds_120 : decode cX1_cutEnds 120 = .ok (.istore 5, 2) := by decide +kernel
theorem dX1_cutEnds_122 : decode cX1_cutEnds 122 = .ok (.iinc 6 1, 3) := by decide +kernel
theorem dX1_cutEnds_125 : decode cX1_cutEnds 125 = .ok (.goto (-93), 3) := by decide +kernel
theorem dX1_cutEnds_128 : decode cX1_cutEnds 128 = .ok (.return_, 1) := by decide +kernel
theorem dX2_periodOf_0 : decode cX2_periodOf 0 = .ok (.aload_n 0, 1) := by decide +kernel
theorem dX2_periodOf_1 : decode cX2_periodOf 1 = .ok (.getstatic 5, 3) := by decide +kernel
theorem dX2_periodOf_4 : decode cX2_periodOf 4 = .ok (.if_acmp .ne 5, 3) := by decide +kernel
theorem dX2_periodOf_7 : decode cX2_periodOf 7 = .ok (.iload_n 2, 1) := by decide +kernel
theorem dX2_periodOf_8 : decode cX2_periodOf 8 = .ok (.ireturn, 1) := by decide +kernel
theorem dX2_periodOf_9 : decode cX2_periodOf 9 = .ok (.aload_n 0, 1) := by decide +kernel
theorem dX2_periodOf_10 : decode cX2_periodOf 10 = .ok (.getstatic 9, 3) := by decide +kernel
theorem dX2_periodOf_13 : decode cX2_periodOf 13 = .ok (.if_acmp .ne 8, 3) := by decide +kernel
theorem dX2_periodOf_16 : decode cX2_periodOf 16 = .ok (.iload_n 2, 1) := by decide +kernel
theorem dX2_periodOf_17 : decode cX2_periodOf 17 = .ok (.bipush 7, 2) := by decide +kernel
theorem dX2_periodOf_19 : decode cX2_periodOf 19 = .ok (.idiv, 1) := by decide +kernel
theorem dX2_periodOf_20 : decode cX2_periodOf 20 = .ok (.ireturn, 1) := by decide +kernel
theorem dX2_periodOf_21 : decode cX2_periodOf 21 = .ok (.aload_n 0, 1) := by decide +kernel
theorem dX2_periodOf_22 : decode cX2_periodOf 22 = .ok (.getstatic 12, 3) := by decide +kernel
theorem dX2_periodOf_25 : decode cX2_periodOf 25 = .ok (.if_acmp .ne 7, 3) := by decide +kernel
theorem dX2_periodOf_28 : decode cX2_periodOf 28 = .ok (.iload_n 1, 1) := by decide +kernel
theorem dX2_periodOf_29 : decode cX2_periodOf 29 = .ok (.goto 7, 3) := by decide +kernel
theorem dX2_periodOf_32 : decode cX2_periodOf 32 = .ok (.iload_n 1, 1) := by decide +kernel
theorem dX2_periodOf_33 : decode cX2_periodOf 33 = .ok (.bipush 12, 2) := by decide +kernel
theorem dX2_periodOf_35 : decode cX2_periodOf 35 = .ok (.idiv, 1) := by decide +kernel
theorem dX2_periodOf_36 : decode cX2_periodOf 36 = .ok (.ireturn, 1) := by decide +kernel
theorem dX3_allows_0 : decode cX3_allows 0 = .ok (.iload_n 1, 1) := by decide +kernel
theorem dX3_allows_1 : decode cX3_allows 1 = .ok (.aload_n 0, 1) := by decide +kernel
theorem dX3_allows_2 : decode cX3_allows 2 = .ok (.getfield 61, 3) := by decide +kernel
theorem dX3_allows_5 : decode cX3_allows 5 = .ok (.if_icmp .lt 19, 3) := by decide +kernel
theorem dX3_allows_8 : decode cX3_allows 8 = .ok (.iload_n 1, 1) := by decide +kernel
theorem dX3_allows_9 : decode cX3_allows 9 = .ok (.aload_n 0, 1) := by decide +kernel
theorem dX3_allows_10 : decode cX3_allows 10 = .ok (.getfield 64, 3) := by decide +kernel
theorem dX3_allows_13 : decode cX3_allows 13 = .ok (.if_icmp .gt 11, 3) := by decide +kernel
theorem dX3_allows_16 : decode cX3_allows 16 = .ok (.iload_n 1, 1) := by decide +kernel
theorem dX3_allows_17 : decode cX3_allows 17 = .ok (.ifCond .eq 7, 3) := by decide +kernel
theorem dX3_allows_20 : decode cX3_allows 20 = .ok (.iconst 1, 1) := by decide +kernel
theorem dX3_allows_21 : decode cX3_allows 21 = .ok (.goto 4, 3) := by decide +kernel
theorem dX3_allows_24 : decode cX3_allows 24 = .ok (.iconst 0, 1) := by decide +kernel
theorem dX3_allows_25 : decode cX3_allows 25 = .ok (.ireturn, 1) := by decide +kernel
theorem dX4_init_0 : decode cX4_init 0 = .ok (.aload_n 0, 1) := by decide +kernel
theorem dX4_init_1 : decode cX4_init 1 = .ok (.invokespecial 3, 3) := by decide +kernel
theorem dX4_init_4 : decode cX4_init 4 = .ok (.aload_n 0, 1) := by decide +kernel
theorem dX4_init_5 : decode cX4_init 5 = .ok (.aload_n 1, 1) := by decide +kernel
theorem dX4_init_6 : decode cX4_init 6 = .ok (.putfield 9, 3) := by decide +kernel
theorem dX4_init_9 : decode cX4_init 9 = .ok (.aload_n 0, 1) := by decide +kernel
theorem dX4_init_10 : decode cX4_init 10 = .ok (.iconst 0, 1) := by decide +kernel
theorem dX4_init_11 : decode cX4_init 11 = .ok (.newarray .char, 2) := by decide +kernel
theorem dX4_init_13 : decode cX4_init 13 = .ok (.putfield 15, 3) := by decide +kernel
theorem dX4_init_16 : decode cX4_init 16 = .ok (.aload_n 0, 1) := by decide +kernel
theorem dX4_init_17 : decode cX4_init 17 = .ok (.iconst 0, 1) := by decide +kernel
theorem dX4_init_18 : decode cX4_init 18 = .ok (.putfield 19, 3) := by decide +kernel
theorem dX4_init_21 : decode cX4_init 21 = .ok (.aload_n 0, 1) := by decide +kernel
theorem dX4_init_22 : decode cX4_init 22 = .ok (.iconst (-1), 1) := by decide +kernel
theorem dX4_init_23 : decode cX4_init 23 = .ok (.putfield 23, 3) := by decide +kernel
theorem dX4_init_26 : decode cX4_init 26 = .ok (.return_, 1) := by decide +kernel
theorem dX4_readRule_0 : decode cX4_readRule 0 = .ok (.aload_n 0, 1) := by decide +kernel
theorem dX4_readRule_1 : decode cX4_readRule 1 = .ok (.aload_n 1, 1) := by decide +kernel
theorem dX4_readRule_2 : decode cX4_readRule 2 = .ok (.putfield 15, 3) := by decide +kernel
theorem dX4_readRule_5 : decode cX4_readRule 5 = .ok (.aload_n 0, 1) := by decide +kernel
theorem dX4_readRule_6 : decode cX4_readRule 6 = .ok (.iload_n 2, 1) := by decide +kernel
theorem dX4_readRule_7 : decode cX4_readRule 7 = .ok (.aload_n 1, 1) := by decide +kernel
theorem dX4_readRule_8 : decode cX4_readRule 8 = .ok (.arraylength, 1) := by decide +kernel
theorem dX4_readRule_9 : decode cX4_readRule 9 = .ok (.invokestatic 26, 3) := by decide +kernel
theorem dX4_readRule_12 : decode cX4_readRule 12 = .ok (.putfield 32, 3) := by decide +kernel
theorem dX4_readRule_15 : decode cX4_readRule 15 = .ok (.aload_n 0, 1) := by decide +kernel
theorem dX4_readRule_16 : decode cX4_readRule 16 = .ok (.iconst 0, 1) := by decide +kernel
theorem dX4_readRule_17 : decode cX4_readRule 17 = .ok (.putfield 35, 3) := by decide +kernel
theorem dX4_readRule_20 : decode cX4_readRule 20 = .ok (.aload_n 0, 1) := by decide +kernel
theorem dX4_readRule_21 : decode cX4_readRule 21 = .ok (.iconst 0, 1) := by decide +kernel
theorem dX4_readRule_22 : decode cX4_readRule 22 = .ok (.putfield 19, 3) := by decide +kernel
theorem dX4_readRule_25 : decode cX4_readRule 25 = .ok (.aload_n 0, 1) := by decide +kernel
theorem dX4_readRule_26 : decode cX4_readRule 26 = .ok (.iconst (-1), 1) := by decide +kernel
theorem dX4_readRule_27 : decode cX4_readRule 27 = .ok (.putfield 23, 3) := by decide +kernel
theorem dX4_readRule_30 : decode cX4_readRule 30 = .ok (.aload_n 0, 1) := by decide +kernel
theorem dX4_readRule_31 : decode cX4_readRule 31 = .ok (.getfield 9, 3) := by decide +kernel
theorem dX4_readRule_34 : decode cX4_readRule 34 = .ok (.invokevirtual 38, 3) := by decide +kernel
theorem dX4_readRule_37 : decode cX4_readRule 37 = .ok (.aload_n 0, 1) := by decide +kernel
theorem dX4_readRule_38 : decode cX4_readRule 38 = .ok (.invokevirtual 43, 3) := by decide +kernel
theorem dX4_readRule_41 : decode cX4_readRule 41 = .ok (.iconst 0, 1) := by decide +kernel
theorem dX4_readRule_42 : decode cX4_readRule 42 = .ok (.istore_n 3, 1) := by decide +kernel
theorem dX4_readRule_43 : decode cX4_readRule 43 = .ok (.iload_n 3, 1) := by decide +kernel
theorem dX4_readRule_44 : decode cX4_readRule 44 = .ok (.sipush 200, 3) := by decide +kernel
theorem dX4_readRule_47 : decode cX4_readRule 47 = .ok (.if_icmp .ge 37, 3) := by decide +kernel
theorem dX4_readRule_50 : decode cX4_readRule 50 = .ok (.aload_n 0, 1) := by decide +kernel
theorem dX4_readRule_51 : decode cX4_readRule 51 = .ok (.getfield 19, 3) := by decide +kernel
theorem dX4_readRule_54 : decode cX4_readRule 54 = .ok (.ifCond .ne 30, 3) := by decide +kernel
theorem dX4_readRule_57 : decode cX4_readRule 57 = .ok (.aload_n 0, 1) := by decide +kernel
theorem dX4_readRule_58 : decode cX4_readRule 58 = .ok (.getfield 35, 3) := by decide +kernel
theorem dX4_readRule_61 : decode cX4_readRule 61 = .ok (.aload_n 0, 1) := by decide +kernel
theorem dX4_readRule_62 : decode cX4_readRule 62 = .ok (.getfield 32, 3) := by decide +kernel
theorem dX4_readRule_65 : decode cX4_readRule 65 = .ok (.if_icmp .ge 19, 3) := by decide +kernel
theorem dX4_readRule_68 : decode cX4_readRule 68 = .ok (.aload_n 0, 1) := by decide +kernel
theorem dX4_readRule_69 : decode cX4_readRule 69 = .ok (.bipush 59, 2) := by decide +kernel
theorem dX4_readRule_71 : decode cX4_readRule 71 = .ok (.invokevirtual 46, 3) := by decide +kernel
theorem dX4_readRule_74 : decode cX4_readRule 74 = .ok (.aload_n 0, 1) := by decide +kernel
theorem dX4_readRule_75 : decode cX4_readRule 75 = .ok (.invokevirtual 43, 3) := by decide +kernel
theorem dX4_readRule_78 : decode cX4_readRule 78 = .ok (.iinc 3 1, 3) := by decide +kernel
theorem dX4_readRule_81 : decode cX4_readRule 81 = .ok (.goto (-38), 3) := by decide +kernel
theorem dX4_readRule_84 : decode cX4_readRule 84 = .ok (.aload_n 0, 1) := by decide +kernel
theorem dX4_readRule_85 : decode cX4_readRule 85 = .ok (.getfield 9, 3) := by decide +kernel
theorem dX4_readRule_88 : decode cX4_readRule 88 = .ok (.invokevirtual 50, 3) := by decide +kernel
theorem dX4_readRule_91 : decode cX4_readRule 91 = .ok (.ifCond .ne 12, 3) := by decide +kernel
theorem dX4_readRule_94 : decode cX4_readRule 94 = .ok (.aload_n 0, 1) := by decide +kernel
theorem dX4_readRule_95 : decode cX4_readRule 95 = .ok (.iconst 4, 1) := by decide +kernel
theorem dX4_readRule_96 : decode cX4_readRule 96 = .ok (.aload_n 0, 1) := by decide +kernel
theorem dX4_readRule_97 : decode cX4_readRule 97 = .ok (.getfield 32, 3) := by decide +kernel
theorem dX4_readRule_100 : decode cX4_readRule 100 = .ok (.invokevirtual 54, 3) := by decide +kernel
theorem dX4_readRule_103 : decode cX4_readRule 103 = .ok (.return_, 1) := by decide +kernel
theorem dX4_fail_0 : decode cX4_fail 0 = .ok (.aload_n 0, 1) := by decide +kernel
theorem dX4_fail_1 : decode cX4_fail 1 = .ok (.getfield 19, 3) := by decide +kernel
theorem dX4_fail_4 : decode cX4_fail 4 = .ok (.ifCond .ne 13, 3) := by decide +kernel
theorem dX4_fail_7 : decode cX4_fail 7 = .ok (.aload_n 0, 1) := by decide +kernel
theorem dX4_fail_8 : decode cX4_fail 8 = .ok (.iload_n 1, 1) := by decide +kernel
theorem dX4_fail_9 : decode cX4_fail 9 = .ok (.putfield 19, 3) := by decide +kernel
theorem dX4_fail_12 : decode cX4_fail 12 = .ok (.aload_n 0, 1) := by decide +kernel
theorem dX4_fail_13 : decode cX4_fail 13 = .ok (.iload_n 2, 1) := by decide +kernel
theorem dX4_fail_14 : decode cX4_fail 14 = .ok (.putfield 23, 3) := by decide +kernel
theorem dX4_fail_17 : decode cX4_fail 17 = .ok (.return_, 1) := by decide +kernel
theorem dX4_sees_0 : decode cX4_sees 0 = .ok (.aload_n 0, 1) := by decide +kernel
theorem dX4_sees_1 : decode cX4_sees 1 = .ok (.getfield 35, 3) := by decide +kernel
theorem dX4_sees_4 : decode cX4_sees 4 = .ok (.aload_n 0, 1) := by decide +kernel
theorem dX4_sees_5 : decode cX4_sees 5 = .ok (.getfield 32, 3) := by decide +kernel
theorem dX4_sees_8 : decode cX4_sees 8 = .ok (.if_icmp .ge 20, 3) := by decide +kernel
theorem dX4_sees_11 : decode cX4_sees 11 = .ok (.aload_n 0, 1) := by decide +kernel
theorem dX4_sees_12 : decode cX4_sees 12 = .ok (.getfield 15, 3) := by decide +kernel
theorem dX4_sees_15 : decode cX4_sees 15 = .ok (.aload_n 0, 1) := by decide +kernel
theorem dX4_sees_16 : decode cX4_sees 16 = .ok (.getfield 35, 3) := by decide +kernel
theorem dX4_sees_19 : decode cX4_sees 19 = .ok (.caload, 1) := by decide +kernel
theorem dX4_sees_20 : decode cX4_sees 20 = .ok (.iload_n 1, 1) := by decide +kernel
theorem dX4_sees_21 : decode cX4_sees 21 = .ok (.if_icmp .ne 7, 3) := by decide +kernel
theorem dX4_sees_24 : decode cX4_sees 24 = .ok (.iconst 1, 1) := by decide +kernel
theorem dX4_sees_25 : decode cX4_sees 25 = .ok (.goto 4, 3) := by decide +kernel
theorem dX4_sees_28 : decode cX4_sees 28 = .ok (.iconst 0, 1) := by decide +kernel
theorem dX4_sees_29 : decode cX4_sees 29 = .ok (.ireturn, 1) := by decide +kernel
theorem dX4_seesLetter_0 : decode cX4_seesLetter 0 = .ok (.aload_n 0, 1) := by decide +kernel
theorem dX4_seesLetter_1 : decode cX4_seesLetter 1 = .ok (.getfield 35, 3) := by decide +kernel
theorem dX4_seesLetter_4 : decode cX4_seesLetter 4 = .ok (.aload_n 0, 1) := by decide +kernel
theorem dX4_seesLetter_5 : decode cX4_seesLetter 5 = .ok (.getfield 32, 3) := by decide +kernel
theorem dX4_seesLetter_8 : decode cX4_seesLetter 8 = .ok (.if_icmp .ge 35, 3) := by decide +kernel
theorem dX4_seesLetter_11 : decode cX4_seesLetter 11 = .ok (.aload_n 0, 1) := by decide +kernel
theorem dX4_seesLetter_12 : decode cX4_seesLetter 12 = .ok (.getfield 15, 3) := by decide +kernel
theorem dX4_seesLetter_15 : decode cX4_seesLetter 15 = .ok (.aload_n 0, 1) := by decide +kernel
theorem dX4_seesLetter_16 : decode cX4_seesLetter 16 = .ok (.getfield 35, 3) := by decide +kernel
theorem dX4_seesLetter_19 : decode cX4_seesLetter 19 = .ok (.caload, 1) := by decide +kernel
theorem dX4_seesLetter_20 : decode cX4_seesLetter 20 = .ok (.bipush 65, 2) := by decide +kernel
theorem dX4_seesLetter_22 : decode cX4_seesLetter 22 = .ok (.if_icmp .lt 21, 3) := by decide +kernel
theorem dX4_seesLetter_25 : decode cX4_seesLetter 25 = .ok (.aload_n 0, 1) := by decide +kernel
theorem dX4_seesLetter_26 : decode cX4_seesLetter 26 = .ok (.getfield 15, 3) := by decide +kernel
theorem dX4_seesLetter_29 : decode cX4_seesLetter 29 = .ok (.aload_n 0, 1) := by decide +kernel
theorem dX4_seesLetter_30 : decode cX4_seesLetter 30 = .ok (.getfield 35, 3) := by decide +kernel
theorem dX4_seesLetter_33 : decode cX4_seesLetter 33 = .ok (.caload, 1) := by decide +kernel
theorem dX4_seesLetter_34 : decode cX4_seesLetter 34 = .ok (.bipush 90, 2) := by decide +kernel
theorem dX4_seesLetter_36 : decode cX4_seesLetter 36 = .ok (.if_icmp .gt 7, 3) := by decide +kernel
theorem dX4_seesLetter_39 : decode cX4_seesLetter 39 = .ok (.iconst 1, 1) := by decide +kernel
theorem dX4_seesLetter_40 : decode cX4_seesLetter 40 = .ok (.goto 4, 3) := by decide +kernel
theorem dX4_seesLetter_43 : decode cX4_seesLetter 43 = .ok (.iconst 0, 1) := by decide +kernel
theorem dX4_seesLetter_44 : decode cX4_seesLetter 44 = .ok (.ireturn, 1) := by decide +kernel
theorem dX4_seesFigure_0 : decode cX4_seesFigure 0 = .ok (.aload_n 0, 1) := by decide +kernel
theorem dX4_seesFigure_1 : decode cX4_seesFigure 1 = .ok (.getfield 35, 3) := by decide +kernel
theorem dX4_seesFigure_4 : decode cX4_seesFigure 4 = .ok (.aload_n 0, 1) := by decide +kernel
theorem dX4_seesFigure_5 : decode cX4_seesFigure 5 = .ok (.getfield 32, 3) := by decide +kernel
theorem dX4_seesFigure_8 : decode cX4_seesFigure 8 = .ok (.if_icmp .ge 35, 3) := by decide +kernel
theorem dX4_seesFigure_11 : decode cX4_seesFigure 11 = .ok (.aload_n 0, 1) := by decide +kernel
theorem dX4_seesFigure_12 : decode cX4_seesFigure 12 = .ok (.getfield 15, 3) := by decide +kernel
theorem dX4_seesFigure_15 : decode cX4_seesFigure 15 = .ok (.aload_n 0, 1) := by decide +kernel
theorem dX4_seesFigure_16 : decode cX4_seesFigure 16 = .ok (.getfield 35, 3) := by decide +kernel
theorem dX4_seesFigure_19 : decode cX4_seesFigure 19 = .ok (.caload, 1) := by decide +kernel
theorem dX4_seesFigure_20 : decode cX4_seesFigure 20 = .ok (.bipush 48, 2) := by decide +kernel
theorem dX4_seesFigure_22 : decode cX4_seesFigure 22 = .ok (.if_icmp .lt 21, 3) := by decide +kernel
theorem dX4_seesFigure_25 : decode cX4_seesFigure 25 = .ok (.aload_n 0, 1) := by decide +kernel
theorem dX4_seesFigure_26 : decode cX4_seesFigure 26 = .ok (.getfield 15, 3) := by decide +kernel
theorem dX4_seesFigure_29 : decode cX4_seesFigure 29 = .ok (.aload_n 0, 1) := by decide +kernel
theorem dX4_seesFigure_30 : decode cX4_seesFigure 30 = .ok (.getfield 35, 3) := by decide +kernel
theorem dX4_seesFigure_33 : decode cX4_seesFigure 33 = .ok (.caload, 1) := by decide +kernel
theorem dX4_seesFigure_34 : decode cX4_seesFigure 34 = .ok (.bipush 57, 2) := by decide +kernel
theorem dX4_seesFigure_36 : decode cX4_seesFigure 36 = .ok (.if_icmp .gt 7, 3) := by decide +kernel
theorem dX4_seesFigure_39 : decode cX4_seesFigure 39 = .ok (.iconst 1, 1) := by decide +kernel
theorem dX4_seesFigure_40 : decode cX4_seesFigure 40 = .ok (.goto 4, 3) := by decide +kernel
theorem dX4_seesFigure_43 : decode cX4_seesFigure 43 = .ok (.iconst 0, 1) := by decide +kernel
theorem dX4_seesFigure_44 : decode cX4_seesFigure 44 = .ok (.ireturn, 1) := by decide +kernel
theorem dX4_take_0 : decode cX4_take 0 = .ok (.aload_n 0, 1) := by decide +kernel
theorem dX4_take_1 : decode cX4_take 1 = .ok (.iload_n 1, 1) := by decide +kernel
theorem dX4_take_2 : decode cX4_take 2 = .ok (.invokevirtual 58, 3) := by decide +kernel
theorem dX4_take_5 : decode cX4_take 5 = .ok (.ifCond .eq 16, 3) := by decide +kernel
theorem dX4_take_8 : decode cX4_take 8 = .ok (.aload_n 0, 1) := by decide +kernel
theorem dX4_take_9 : decode cX4_take 9 = .ok (.dup, 1) := by decide +kernel
theorem dX4_take_10 : decode cX4_take 10 = .ok (.getfield 35, 3) := by decide +kernel
theorem dX4_take_13 : decode cX4_take 13 = .ok (.iconst 1, 1) := by decide +kernel
theorem dX4_take_14 : decode cX4_take 14 = .ok (.iadd, 1) := by decide +kernel
theorem dX4_take_15 : decode cX4_take 15 = .ok (.putfield 35, 3) := by decide +kernel
theorem dX4_take_18 : decode cX4_take 18 = .ok (.goto 12, 3) := by decide +kernel
theorem dX4_take_21 : decode cX4_take 21 = .ok (.aload_n 0, 1) := by decide +kernel
theorem dX4_take_22 : decode cX4_take 22 = .ok (.iconst 1, 1) := by decide +kernel
theorem dX4_take_23 : decode cX4_take 23 = .ok (.aload_n 0, 1) := by decide +kernel
theorem dX4_take_24 : decode cX4_take 24 = .ok (.getfield 35, 3) := by decide +kernel
theorem dX4_take_27 : decode cX4_take 27 = .ok (.invokevirtual 54, 3) := by decide +kernel
theorem dX4_take_30 : decode cX4_take 30 = .ok (.return_, 1) := by decide +kernel
theorem dX4_takeLetters_0 : decode cX4_takeLetters 0 = .ok (.aload_n 0, 1) := by decide +kernel
theorem dX4_takeLetters_1 : decode cX4_takeLetters 1 = .ok (.getfield 35, 3) := by decide +kernel
theorem dX4_takeLetters_4 : decode cX4_takeLetters 4 = .ok (.istore_n 2, 1) := by decide +kernel
theorem dX4_takeLetters_5 : decode cX4_takeLetters 5 = .ok (.iconst 0, 1) := by decide +kernel
theorem dX4_takeLetters_6 : decode cX4_takeLetters 6 = .ok (.istore_n 3, 1) := by decide +kernel
theorem dX4_takeLetters_7 : decode cX4_takeLetters 7 = .ok (.iload_n 3, 1) := by decide +kernel
theorem dX4_takeLetters_8 : decode cX4_takeLetters 8 = .ok (.iload_n 1, 1) := by decide +kernel
theorem dX4_takeLetters_9 : decode cX4_takeLetters 9 = .ok (.if_icmp .ge 26, 3) := by decide +kernel
theorem dX4_takeLetters_12 : decode cX4_takeLetters 12 = .ok (.aload_n 0, 1) := by decide +kernel
theorem dX4_takeLetters_13 : decode cX4_takeLetters 13 = .ok (.invokevirtual 62, 3) := by decide +kernel
theorem dX4_takeLetters_16 : decode cX4_takeLetters 16 = .ok (.ifCond .eq 19, 3) := by decide +kernel
theorem dX4_takeLetters_19 : decode cX4_takeLetters 19 = .ok (.aload_n 0, 1) := by decide +kernel
theorem dX4_takeLetters_20 : decode cX4_takeLetters 20 = .ok (.dup, 1) := by decide +kernel
theorem dX4_takeLetters_21 : decode cX4_takeLetters 21 = .ok (.getfield 35, 3) := by decide +kernel
theorem dX4_takeLetters_24 : decode cX4_takeLetters 24 = .ok (.iconst 1, 1) := by decide +kernel
theorem dX4_takeLetters_25 : decode cX4_takeLetters 25 = .ok (.iadd, 1) := by decide +kernel
theorem dX4_takeLetters_26 : decode cX4_takeLetters 26 = .ok (.putfield 35, 3) := by decide +kernel
theorem dX4_takeLetters_29 : decode cX4_takeLetters 29 = .ok (.iinc 3 1, 3) := by decide +kernel
theorem dX4_takeLetters_32 : decode cX4_takeLetters 32 = .ok (.goto (-25), 3) := by decide +kernel
theorem dX4_takeLetters_35 : decode cX4_takeLetters 35 = .ok (.aload_n 0, 1) := by decide +kernel
theorem dX4_takeLetters_36 : decode cX4_takeLetters 36 = .ok (.getfield 35, 3) := by decide +kernel
theorem dX4_takeLetters_39 : decode cX4_takeLetters 39 = .ok (.iload_n 2, 1) := by decide +kernel
theorem dX4_takeLetters_40 : decode cX4_takeLetters 40 = .ok (.if_icmp .ne 12, 3) := by decide +kernel
theorem dX4_takeLetters_43 : decode cX4_takeLetters 43 = .ok (.aload_n 0, 1) := by decide +kernel
theorem dX4_takeLetters_44 : decode cX4_takeLetters 44 = .ok (.iconst 1, 1) := by decide +kernel
theorem dX4_takeLetters_45 : decode cX4_takeLetters 45 = .ok (.aload_n 0, 1) := by decide +kernel
theorem dX4_takeLetters_46 : decode cX4_takeLetters 46 = .ok (.getfield 35, 3) := by decide +kernel
theorem dX4_takeLetters_49 : decode cX4_takeLetters 49 = .ok (.invokevirtual 54, 3) := by decide +kernel
theorem dX4_takeLetters_52 : decode cX4_takeLetters 52 = .ok (.iload_n 2, 1) := by decide +kernel
theorem dX4_takeLetters_53 : decode cX4_takeLetters 53 = .ok (.ireturn, 1) := by decide +kernel
theorem dX4_isWord_0 : decode cX4_isWord 0 = .ok (.aload_n 1, 1) := by decide +kernel
theorem dX4_isWord_1 : decode cX4_isWord 1 = .ok (.invokevirtual 65, 3) := by decide +kernel
theorem dX4_isWord_4 : decode cX4_isWord 4 = .ok (.aload_n 0, 1) := by decide +kernel
theorem dX4_isWord_5 : decode cX4_isWord 5 = .ok (.getfield 35, 3) := by decide +kernel
theorem dX4_isWord_8 : decode cX4_isWord 8 = .ok (.iload_n 2, 1) := by decide +kernel
theorem dX4_isWord_9 : decode cX4_isWord 9 = .ok (.isub, 1) := by decide +kernel
theorem dX4_isWord_10 : decode cX4_isWord 10 = .ok (.if_icmp .eq 5, 3) := by decide +kernel
theorem dX4_isWord_13 : decode cX4_isWord 13 = .ok (.iconst 0, 1) := by decide +kernel
theorem dX4_isWord_14 : decode cX4_isWord 14 = .ok (.ireturn, 1) := by decide +kernel
theorem dX4_isWord_15 : decode cX4_isWord 15 = .ok (.iconst 0, 1) := by decide +kernel
theorem dX4_isWord_16 : decode cX4_isWord 16 = .ok (.istore_n 3, 1) := by decide +kernel
theorem dX4_isWord_17 : decode cX4_isWord 17 = .ok (.iload_n 3, 1) := by decide +kernel
theorem dX4_isWord_18 : decode cX4_isWord 18 = .ok (.aload_n 1, 1) := by decide +kernel
theorem dX4_isWord_19 : decode cX4_isWord 19 = .ok (.invokevirtual 65, 3) := by decide +kernel
theorem dX4_isWord_22 : decode cX4_isWord 22 = .ok (.if_icmp .ge 27, 3) := by decide +kernel
theorem dX4_isWord_25 : decode cX4_isWord 25 = .ok (.aload_n 1, 1) := by decide +kernel
theorem dX4_isWord_26 : decode cX4_isWord 26 = .ok (.iload_n 3, 1) := by decide +kernel
theorem dX4_isWord_27 : decode cX4_isWord 27 = .ok (.invokevirtual 70, 3) := by decide +kernel
theorem dX4_isWord_30 : decode cX4_isWord 30 = .ok (.aload_n 0, 1) := by decide +kernel
theorem dX4_isWord_31 : decode cX4_isWord 31 = .ok (.getfield 15, 3) := by decide +kernel
theorem dX4_isWord_34 : decode cX4_isWord 34 = .ok (.iload_n 2, 1) := by decide +kernel
theorem dX4_isWord_35 : decode cX4_isWord 35 = .ok (.iload_n 3, 1) := by decide +kernel
theorem dX4_isWord_36 : decode cX4_isWord 36 = .ok (.iadd, 1) := by decide +kernel
theorem dX4_isWord_37 : decode cX4_isWord 37 = .ok (.caload, 1) := by decide +kernel
theorem dX4_isWord_38 : decode cX4_isWord 38 = .ok (.if_icmp .eq 5, 3) := by decide +kernel
theorem dX4_isWord_41 : decode cX4_isWord 41 = .ok (.iconst 0, 1) := by decide +kernel
theorem dX4_isWord_42 : decode cX4_isWord 42 = .ok (.ireturn, 1) := by decide +kernel
theorem dX4_isWord_43 : decode cX4_isWord 43 = .ok (.iinc 3 1, 3) := by decide +kernel
theorem dX4_isWord_46 : decode cX4_isWord 46 = .ok (.goto (-29), 3) := by decide +kernel
theorem dX4_isWord_49 : decode cX4_isWord 49 = .ok (.iconst 1, 1) := by decide +kernel
theorem dX4_isWord_50 : decode cX4_isWord 50 = .ok (.ireturn, 1) := by decide +kernel
theorem dX4_readPart_0 : decode cX4_readPart 0 = .ok (.aload_n 0, 1) := by decide +kernel
theorem dX4_readPart_1 : decode cX4_readPart 1 = .ok (.sipush 200, 3) := by decide +kernel
theorem dX4_readPart_4 : decode cX4_readPart 4 = .ok (.invokevirtual 74, 3) := by decide +kernel
theorem dX4_readPart_7 : decode cX4_readPart 7 = .ok (.istore_n 1, 1) := by decide +kernel
theorem dX4_readPart_8 : decode cX4_readPart 8 = .ok (.aload_n 0, 1) := by decide +kernel
theorem dX4_readPart_9 : decode cX4_readPart 9 = .ok (.iload_n 1, 1) := by decide +kernel
theorem dX4_readPart_10 : decode cX4_readPart 10 = .ok (.invokevirtual 78, 3) := by decide +kernel
theorem dX4_readPart_13 : decode cX4_readPart 13 = .ok (.astore_n 2, 1) := by decide +kernel
theorem dX4_readPart_14 : decode cX4_readPart 14 = .ok (.aload_n 2, 1) := by decide +kernel
theorem dX4_readPart_15 : decode cX4_readPart 15 = .ok (.ifnonnull 10, 3) := by decide +kernel
theorem dX4_readPart_18 : decode cX4_readPart 18 = .ok (.aload_n 0, 1) := by decide +kernel
theorem dX4_readPart_19 : decode cX4_readPart 19 = .ok (.iconst 1, 1) := by decide +kernel
theorem dX4_readPart_20 : decode cX4_readPart 20 = .ok (.iload_n 1, 1) := by decide +kernel
theorem dX4_readPart_21 : decode cX4_readPart 21 = .ok (.invokevirtual 54, 3) := by decide +kernel
theorem dX4_readPart_24 : decode cX4_readPart 24 = .ok (.return_, 1) := by decide +kernel
theorem dX4_readPart_25 : decode cX4_readPart 25 = .ok (.aload_n 0, 1) := by decide +kernel
theorem dX4_readPart_26 : decode cX4_readPart 26 = .ok (.getfield 9, 3) := by decide +kernel
theorem dX4_readPart_29 : decode cX4_readPart 29 = .ok (.aload_n 2, 1) := by decide +kernel
theorem dX4_readPart_30 : decode cX4_readPart 30 = .ok (.invokevirtual 82, 3) := by decide +kernel
theorem dX4_readPart_33 : decode cX4_readPart 33 = .ok (.ifCond .eq 9, 3) := by decide +kernel
theorem dX4_readPart_36 : decode cX4_readPart 36 = .ok (.aload_n 0, 1) := by decide +kernel
theorem dX4_readPart_37 : decode cX4_readPart 37 = .ok (.iconst 3, 1) := by decide +kernel
theorem dX4_readPart_38 : decode cX4_readPart 38 = .ok (.iload_n 1, 1) := by decide +kernel
theorem dX4_readPart_39 : decode cX4_readPart 39 = .ok (.invokevirtual 54, 3) := by decide +kernel
theorem dX4_readPart_42 : decode cX4_readPart 42 = .ok (.aload_n 0, 1) := by decide +kernel
theorem dX4_readPart_43 : decode cX4_readPart 43 = .ok (.getfield 9, 3) := by decide +kernel
theorem dX4_readPart_46 : decode cX4_readPart 46 = .ok (.dup, 1) := by decide +kernel
theorem dX4_readPart_47 : decode cX4_readPart 47 = .ok (.getfield 86, 3) := by decide +kernel
theorem dX4_readPart_50 : decode cX4_readPart 50 = .ok (.aload_n 2, 1) := by decide +kernel
theorem dX4_readPart_51 : decode cX4_readPart 51 = .ok (.getfield 89, 3) := by decide +kernel
theorem dX4_readPart_54 : decode cX4_readPart 54 = .ok (.ior, 1) := by decide +kernel
theorem dX4_readPart_55 : decode cX4_readPart 55 = .ok (.putfield 86, 3) := by decide +kernel
theorem dX4_readPart_58 : decode cX4_readPart 58 = .ok (.aload_n 0, 1) := by decide +kernel
theorem dX4_readPart_59 : decode cX4_readPart 59 = .ok (.bipush 61, 2) := by decide +kernel
theorem dX4_readPart_61 : decode cX4_readPart 61 = .ok (.invokevirtual 46, 3) := by decide +kernel
theorem dX4_readPart_64 : decode cX4_readPart 64 = .ok (.aload_n 0, 1) := by decide +kernel
theorem dX4_readPart_65 : decode cX4_readPart 65 = .ok (.aload_n 2, 1) := by decide +kernel
theorem dX4_readPart_66 : decode cX4_readPart 66 = .ok (.invokevirtual 94, 3) := by decide +kernel
theorem dX4_readPart_69 : decode cX4_readPart 69 = .ok (.iconst 0, 1) := by decide +kernel
theorem dX4_readPart_70 : decode cX4_readPart 70 = .ok (.istore_n 3, 1) := by decide +kernel
theorem dX4_readPart_71 : decode cX4_readPart 71 = .ok (.iload_n 3, 1) := by decide +kernel
theorem dX4_readPart_72 : decode cX4_readPart 72 = .ok (.sipush 200, 3) := by decide +kernel
theorem dX4_readPart_75 : decode cX4_readPart 75 = .ok (.if_icmp .ge 40, 3) := by decide +kernel
theorem dX4_readPart_78 : decode cX4_readPart 78 = .ok (.aload_n 2, 1) := by decide +kernel
theorem dX4_readPart_79 : decode cX4_readPart 79 = .ok (.getfield 98, 3) := by decide +kernel
theorem dX4_readPart_82 : decode cX4_readPart 82 = .ok (.ifCond .eq 33, 3) := by decide +kernel
theorem dX4_readPart_85 : decode cX4_readPart 85 = .ok (.aload_n 0, 1) := by decide +kernel
theorem dX4_readPart_86 : decode cX4_readPart 86 = .ok (.bipush 44, 2) := by decide +kernel
theorem dX4_readPart_88 : decode cX4_readPart 88 = .ok (.invokevirtual 58, 3) := by decide +kernel
theorem dX4_readPart_91 : decode cX4_readPart 91 = .ok (.ifCond .eq 24, 3) := by decide +kernel
theorem dX4_readPart_94 : decode cX4_readPart 94 = .ok (.aload_n 0, 1) := by decide +kernel
theorem dX4_readPart_95 : decode cX4_readPart 95 = .ok (.dup, 1) := by decide +kernel
theorem dX4_readPart_96 : decode cX4_readPart 96 = .ok (.getfield 35, 3) := by decide +kernel
theorem dX4_readPart_99 : decode cX4_readPart 99 = .ok (.iconst 1, 1) := by decide +kernel
theorem dX4_readPart_100 : decode cX4_readPart 100 = .ok (.iadd, 1) := by decide +kernel
theorem dX4_readPart_101 : decode cX4_readPart 101 = .ok (.putfield 35, 3) := by decide +kernel
theorem dX4_readPart_104 : decode cX4_readPart 104 = .ok (.aload_n 0, 1) := by decide +kernel
theorem dX4_readPart_105 : decode cX4_readPart 105 = .ok (.aload_n 2, 1) := by decide +kernel
theorem dX4_readPart_106 : decode cX4_readPart 106 = .ok (.invokevirtual 94, 3) := by decide +kernel
theorem dX4_readPart_109 : decode cX4_readPart 109 = .ok (.iinc 3 1, 3) := by decide +kernel
theorem dX4_readPart_112 : decode cX4_readPart 112 = .ok (.goto (-41), 3) := by decide +kernel
theorem dX4_readPart_115 : decode cX4_readPart 115 = .ok (.aload_n 0, 1) := by decide +kernel
theorem dX4_readPart_116 : decode cX4_readPart 116 = .ok (.getfield 35, 3) := by decide +kernel
theorem dX4_readPart_119 : decode cX4_readPart 119 = .ok (.aload_n 0, 1) := by decide +kernel
theorem dX4_readPart_120 : decode cX4_readPart 120 = .ok (.getfield 32, 3) := by decide +kernel
theorem dX4_readPart_123 : decode cX4_readPart 123 = .ok (.if_icmp .ge 21, 3) := by decide +kernel
theorem dX4_readPart_126 : decode cX4_readPart 126 = .ok (.aload_n 0, 1) := by decide +kernel
theorem dX4_readPart_127 : decode cX4_readPart 127 = .ok (.bipush 59, 2) := by decide +kernel
theorem dX4_readPart_129 : decode cX4_readPart 129 = .ok (.invokevirtual 58, 3) := by decide +kernel
theorem dX4_readPart_132 : decode cX4_readPart 132 = .ok (.ifCond .ne 12, 3) := by decide +kernel
theorem dX4_readPart_135 : decode cX4_readPart 135 = .ok (.aload_n 0, 1) := by decide +kernel
theorem dX4_readPart_136 : decode cX4_readPart 136 = .ok (.iconst 1, 1) := by decide +kernel
theorem dX4_readPart_137 : decode cX4_readPart 137 = .ok (.aload_n 0, 1) := by decide +kernel
theorem dX4_readPart_138 : decode cX4_readPart 138 = .ok (.getfield 35, 3) := by decide +kernel
theorem dX4_readPart_141 : decode cX4_readPart 141 = .ok (.invokevirtual 54, 3) := by decide +kernel
theorem dX4_readPart_144 : decode cX4_readPart 144 = .ok (.return_, 1) := by decide +kernel
theorem dX4_partNamed_0 : decode cX4_partNamed 0 = .ok (.iconst 0, 1) := by decide +kernel
theorem dX4_partNamed_1 : decode cX4_partNamed 1 = .ok (.istore_n 2, 1) := by decide +kernel
theorem dX4_partNamed_2 : decode cX4_partNamed 2 = .ok (.iload_n 2, 1) := by decide +kernel
theorem dX4_partNamed_3 : decode cX4_partNamed 3 = .ok (.getstatic 102, 3) := by decide +kernel
theorem dX4_partNamed_6 : decode cX4_partNamed 6 = .ok (.arraylength, 1) := by decide +kernel
theorem dX4_partNamed_7 : decode cX4_partNamed 7 = .ok (.if_icmp .ge 31, 3) := by decide +kernel
theorem dX4_partNamed_10 : decode cX4_partNamed 10 = .ok (.aload_n 0, 1) := by decide +kernel
theorem dX4_partNamed_11 : decode cX4_partNamed 11 = .ok (.getstatic 102, 3) := by decide +kernel
theorem dX4_partNamed_14 : decode cX4_partNamed 14 = .ok (.iload_n 2, 1) := by decide +kernel
theorem dX4_partNamed_15 : decode cX4_partNamed 15 = .ok (.aaload, 1) := by decide +kernel
theorem dX4_partNamed_16 : decode cX4_partNamed 16 = .ok (.getfield 106, 3) := by decide +kernel
theorem dX4_partNamed_19 : decode cX4_partNamed 19 = .ok (.iload_n 1, 1) := by decide +kernel
theorem dX4_partNamed_20 : decode cX4_partNamed 20 = .ok (.invokevirtual 110, 3) := by decide +kernel
theorem dX4_partNamed_23 : decode cX4_partNamed 23 = .ok (.ifCond .eq 9, 3) := by decide +kernel
theorem dX4_partNamed_26 : decode cX4_partNamed 26 = .ok (.getstatic 102, 3) := by decide +kernel
theorem dX4_partNamed_29 : decode cX4_partNamed 29 = .ok (.iload_n 2, 1) := by decide +kernel
theorem dX4_partNamed_30 : decode cX4_partNamed 30 = .ok (.aaload, 1) := by decide +kernel
theorem dX4_partNamed_31 : decode cX4_partNamed 31 = .ok (.areturn, 1) := by decide +kernel
theorem dX4_partNamed_32 : decode cX4_partNamed 32 = .ok (.iinc 2 1, 3) := by decide +kernel
theorem dX4_partNamed_35 : decode cX4_partNamed 35 = .ok (.goto (-33), 3) := by decide +kernel
theorem dX4_partNamed_38 : decode cX4_partNamed 38 = .ok (.aconst_null, 1) := by decide +kernel
theorem dX4_partNamed_39 : decode cX4_partNamed 39 = .ok (.areturn, 1) := by decide +kernel
theorem dX4_readValue_0 : decode cX4_readValue 0 = .ok (.aload_n 0, 1) := by decide +kernel
theorem dX4_readValue_1 : decode cX4_readValue 1 = .ok (.getfield 19, 3) := by decide +kernel
theorem dX4_readValue_4 : decode cX4_readValue 4 = .ok (.ifCond .eq 4, 3) := by decide +kernel
theorem dX4_readValue_7 : decode cX4_readValue 7 = .ok (.return_, 1) := by decide +kernel
theorem dX4_readValue_8 : decode cX4_readValue 8 = .ok (.aload_n 1, 1) := by decide +kernel
theorem dX4_readValue_9 : decode cX4_readValue 9 = .ok (.getstatic 114, 3) := by decide +kernel
theorem dX4_readValue_12 : decode cX4_readValue 12 = .ok (.if_acmp .ne 10, 3) := by decide +kernel
theorem dX4_readValue_15 : decode cX4_readValue 15 = .ok (.aload_n 0, 1) := by decide +kernel
theorem dX4_readValue_16 : decode cX4_readValue 16 = .ok (.invokevirtual 118, 3) := by decide +kernel
theorem dX4_readValue_19 : decode cX4_readValue 19 = .ok (.goto 64, 3) := by decide +kernel
theorem dX4_readValue_22 : decode cX4_readValue 22 = .ok (.aload_n 1, 1) := by decide +kernel
theorem dX4_readValue_23 : decode cX4_readValue 23 = .ok (.getstatic 121, 3) := by decide +kernel
theorem dX4_readValue_26 : decode cX4_readValue 26 = .ok (.if_acmp .ne 10, 3) := by decide +kernel
theorem dX4_readValue_29 : decode cX4_readValue 29 = .ok (.aload_n 0, 1) := by decide +kernel
theorem dX4_readValue_30 : decode cX4_readValue 30 = .ok (.invokevirtual 124, 3) := by decide +kernel
theorem dX4_readValue_33 : decode cX4_readValue 33 = .ok (.goto 50, 3) := by decide +kernel
theorem dX4_readValue_36 : decode cX4_readValue 36 = .ok (.aload_n 0, 1) := by decide +kernel
theorem dX4_readValue_37 : decode cX4_readValue 37 = .ok (.getfield 35, 3) := by decide +kernel
theorem dX4_readValue_40 : decode cX4_readValue 40 = .ok (.istore_n 2, 1) := by decide +kernel
theorem dX4_readValue_41 : decode cX4_readValue 41 = .ok (.aload_n 0, 1) := by decide +kernel
theorem dX4_readValue_42 : decode cX4_readValue 42 = .ok (.aload_n 1, 1) := by decide +kernel
theorem dX4_readValue_43 : decode cX4_readValue 43 = .ok (.invokevirtual 127, 3) := by decide +kernel
theorem dX4_readValue_46 : decode cX4_readValue 46 = .ok (.istore_n 3, 1) := by decide +kernel
theorem dX4_readValue_47 : decode cX4_readValue 47 = .ok (.aload_n 1, 1) := by decide +kernel
theorem dX4_readValue_48 : decode cX4_readValue 48 = .ok (.getstatic 131, 3) := by decide +kernel
theorem dX4_readValue_51 : decode cX4_readValue 51 = .ok (.if_acmp .ne 16, 3) := by decide +kernel
theorem dX4_readValue_54 : decode cX4_readValue 54 = .ok (.iload_n 3, 1) := by decide +kernel
theorem dX4_readValue_55 : decode cX4_readValue 55 = .ok (.invokestatic 134, 3) := by decide +kernel
theorem dX4_readValue_58 : decode cX4_readValue 58 = .ok (.ifCond .ne 9, 3) := by decide +kernel
theorem dX4_readValue_61 : decode cX4_readValue 61 = .ok (.aload_n 0, 1) := by decide +kernel
theorem dX4_readValue_62 : decode cX4_readValue 62 = .ok (.iconst 2, 1) := by decide +kernel
theorem dX4_readValue_63 : decode cX4_readValue 63 = .ok (.iload_n 2, 1) := by decide +kernel
theorem dX4_readValue_64 : decode cX4_readValue 64 = .ok (.invokevirtual 54, 3) := by decide +kernel
theorem dX4_readValue_67 : decode cX4_readValue 67 = .ok (.aload_n 0, 1) := by decide +kernel
theorem dX4_readValue_68 : decode cX4_readValue 68 = .ok (.getfield 19, 3) := by decide +kernel
theorem dX4_readValue_71 : decode cX4_readValue 71 = .ok (.ifCond .ne 12, 3) := by decide +kernel
theorem dX4_readValue_74 : decode cX4_readValue 74 = .ok (.aload_n 0, 1) := by decide +kernel
theorem dX4_readValue_75 : decode cX4_readValue 75 = .ok (.getfield 9, 3) := by decide +kernel
theorem dX4_readValue_78 : decode cX4_readValue 78 = .ok (.aload_n 1, 1) := by decide +kernel
theorem dX4_readValue_79 : decode cX4_readValue 79 = .ok (.iload_n 3, 1) := by decide +kernel
theorem dX4_readValue_80 : decode cX4_readValue 80 = .ok (.invokevirtual 140, 3) := by decide +kernel
theorem dX4_readValue_83 : decode cX4_readValue 83 = .ok (.return_, 1) := by decide +kernel
theorem dX4_readFrequency_0 : decode cX4_readFrequency 0 = .ok (.aload_n 0, 1) := by decide +kernel
theorem dX4_readFrequency_1 : decode cX4_readFrequency 1 = .ok (.sipush 200, 3) := by decide +kernel
theorem dX4_readFrequency_4 : decode cX4_readFrequency 4 = .ok (.invokevirtual 74, 3) := by decide +kernel
theorem dX4_readFrequency_7 : decode cX4_readFrequency 7 = .ok (.istore_n 1, 1) := by decide +kernel
theorem dX4_readFrequency_8 : decode cX4_readFrequency 8 = .ok (.iconst 0, 1) := by decide +kernel
theorem dX4_readFrequency_9 : decode cX4_readFrequency 9 = .ok (.istore_n 2, 1) := by decide +kernel
theorem dX4_readFrequency_10 : decode cX4_readFrequency 10 = .ok (.iload_n 2, 1) := by decide +kernel
theorem dX4_readFrequency_11 : decode cX4_readFrequency 11 = .ok (.getstatic 144, 3) := by decide +kernel
theorem dX4_readFrequency_14 : decode cX4_readFrequency 14 = .ok (.arraylength, 1) := by decide +kernel
theorem dX4_readFrequency_15 : decode cX4_readFrequency 15 = .ok (.if_icmp .ge 38, 3) := by decide +kernel
theorem dX4_readFrequency_18 : decode cX4_readFrequency 18 = .ok (.aload_n 0, 1) := by decide +kernel
theorem dX4_readFrequency_19 : decode cX4_readFrequency 19 = .ok (.getstatic 144, 3) := by decide +kernel
theorem dX4_readFrequency_22 : decode cX4_readFrequency 22 = .ok (.iload_n 2, 1) := by decide +kernel
theorem dX4_readFrequency_23 : decode cX4_readFrequency 23 = .ok (.aaload, 1) := by decide +kernel
theorem dX4_readFrequency_24 : decode cX4_readFrequency 24 = .ok (.getfield 148, 3) := by decide +kernel
theorem dX4_readFrequency_27 : decode cX4_readFrequency 27 = .ok (.iload_n 1, 1) := by decide +kernel
theorem dX4_readFrequency_28 : decode cX4_readFrequency 28 = .ok (.invokevirtual 110, 3) := by decide +kernel
theorem dX4_readFrequency_31 : decode cX4_readFrequency 31 = .ok (.ifCond .eq 16, 3) := by decide +kernel
theorem dX4_readFrequency_34 : decode cX4_readFrequency 34 = .ok (.aload_n 0, 1) := by decide +kernel
theorem dX4_readFrequency_35 : decode cX4_readFrequency 35 = .ok (.getfield 9, 3) := by decide +kernel
theorem dX4_readFrequency_38 : decode cX4_readFrequency 38 = .ok (.getstatic 144, 3) := by decide +kernel
theorem dX4_readFrequency_41 : decode cX4_readFrequency 41 = .ok (.iload_n 2, 1) := by decide +kernel
theorem dX4_readFrequency_42 : decode cX4_readFrequency 42 = .ok (.aaload, 1) := by decide +kernel
theorem dX4_readFrequency_43 : decode cX4_readFrequency 43 = .ok (.putfield 151, 3) := by decide +kernel
theorem dX4_readFrequency_46 : decode cX4_readFrequency 46 = .ok (.return_, 1) := by decide +kernel
theorem dX4_readFrequency_47 : decode cX4_readFrequency 47 = .ok (.iinc 2 1, 3) := by decide +kernel
theorem dX4_readFrequency_50 : decode cX4_readFrequency 50 = .ok (.goto (-40), 3) := by decide +kernel
theorem dX4_readFrequency_53 : decode cX4_readFrequency 53 = .ok (.aload_n 0, 1) := by decide +kernel
theorem dX4_readFrequency_54 : decode cX4_readFrequency 54 = .ok (.iconst 1, 1) := by decide +kernel
theorem dX4_readFrequency_55 : decode cX4_readFrequency 55 = .ok (.iload_n 1, 1) := by decide +kernel
theorem dX4_readFrequency_56 : decode cX4_readFrequency 56 = .ok (.invokevirtual 54, 3) := by decide +kernel
theorem dX4_readFrequency_59 : decode cX4_readFrequency 59 = .ok (.return_, 1) := by decide +kernel
theorem dX4_readNumber_0 : decode cX4_readNumber 0 = .ok (.aload_n 0, 1) := by decide +kernel
theorem dX4_readNumber_1 : decode cX4_readNumber 1 = .ok (.getfield 35, 3) := by decide +kernel
theorem dX4_readNumber_4 : decode cX4_readNumber 4 = .ok (.istore_n 2, 1) := by decide +kernel
theorem dX4_readNumber_5 : decode cX4_readNumber 5 = .ok (.aload_n 1, 1) := by decide +kernel
theorem dX4_readNumber_6 : decode cX4_readNumber 6 = .ok (.getfield 155, 3) := by decide +kernel
theorem dX4_readNumber_9 : decode cX4_readNumber 9 = .ok (.ifCond .ge 16, 3) := by decide +kernel
theorem dX4_readNumber_12 : decode cX4_readNumber 12 = .ok (.aload_n 0, 1) := by decide +kernel
theorem dX4_readNumber_13 : decode cX4_readNumber 13 = .ok (.bipush 45, 2) := by decide +kernel
theorem dX4_readNumber_15 : decode cX4_readNumber 15 = .ok (.invokevirtual 58, 3) := by decide +kernel
theorem dX4_readNumber_18 : decode cX4_readNumber 18 = .ok (.ifCond .eq 7, 3) := by decide +kernel
theorem dX4_readNumber_21 : decode cX4_readNumber 21 = .ok (.iconst 1, 1) := by decide +kernel
theorem dX4_readNumber_22 : decode cX4_readNumber 22 = .ok (.goto 4, 3) := by decide +kernel
theorem dX4_readNumber_25 : decode cX4_readNumber 25 = .ok (.iconst 0, 1) := by decide +kernel
theorem dX4_readNumber_26 : decode cX4_readNumber 26 = .ok (.istore_n 3, 1) := by decide +kernel
theorem dX4_readNumber_27 : decode cX4_readNumber 27 = .ok (.iload_n 3, 1) := by decide +kernel
theorem dX4_readNumber_28 : decode cX4_readNumber 28 = .ok (.ifCond .ne 19, 3) := by decide +kernel
theorem dX4_readNumber_31 : decode cX4_readNumber 31 = .ok (.aload_n 1, 1) := by decide +kernel
theorem dX4_readNumber_32 : decode cX4_readNumber 32 = .ok (.getfield 155, 3) := by decide +kernel
theorem dX4_readNumber_35 : decode cX4_readNumber 35 = .ok (.ifCond .ge 22, 3) := by decide +kernel
theorem dX4_readNumber_38 : decode cX4_readNumber 38 = .ok (.aload_n 0, 1) := by decide +kernel
theorem dX4_readNumber_39 : decode cX4_readNumber 39 = .ok (.bipush 43, 2) := by decide +kernel
theorem dX4_readNumber_41 : decode cX4_readNumber 41 = .ok (.invokevirtual 58, 3) := by decide +kernel
theorem dX4_readNumber_44 : decode cX4_readNumber 44 = .ok (.ifCond .eq 13, 3) := by decide +kernel
theorem dX4_readNumber_47 : decode cX4_readNumber 47 = .ok (.aload_n 0, 1) := by decide +kernel
theorem dX4_readNumber_48 : decode cX4_readNumber 48 = .ok (.dup, 1) := by decide +kernel
theorem dX4_readNumber_49 : decode cX4_readNumber 49 = .ok (.getfield 35, 3) := by decide +kernel
theorem dX4_readNumber_52 : decode cX4_readNumber 52 = .ok (.iconst 1, 1) := by decide +kernel
theorem dX4_readNumber_53 : decode cX4_readNumber 53 = .ok (.iadd, 1) := by decide +kernel
theorem dX4_readNumber_54 : decode cX4_readNumber 54 = .ok (.putfield 35, 3) := by decide +kernel
theorem dX4_readNumber_57 : decode cX4_readNumber 57 = .ok (.aload_n 0, 1) := by decide +kernel
theorem dX4_readNumber_58 : decode cX4_readNumber 58 = .ok (.getfield 35, 3) := by decide +kernel
theorem dX4_readNumber_61 : decode cX4_readNumber 61 = .ok (.istore 4, 2) := by decide +kernel
theorem dX4_readNumber_63 : decode cX4_readNumber 63 = .ok (.iconst 0, 1) := by decide +kernel
theorem dX4_readNumber_64 : decode cX4_readNumber 64 = .ok (.istore 5, 2) := by decide +kernel
theorem dX4_readNumber_66 : decode cX4_readNumber 66 = .ok (.iconst 0, 1) := by decide +kernel
theorem dX4_readNumber_67 : decode cX4_readNumber 67 = .ok (.istore 6, 2) := by decide +kernel
theorem dX4_readNumber_69 : decode cX4_readNumber 69 = .ok (.iload 6, 2) := by decide +kernel
theorem dX4_readNumber_71 : decode cX4_readNumber 71 = .ok (.sipush 200, 3) := by decide +kernel
theorem dX4_readNumber_74 : decode cX4_readNumber 74 = .ok (.if_icmp .ge 51, 3) := by decide +kernel
theorem dX4_readNumber_77 : decode cX4_readNumber 77 = .ok (.aload_n 0, 1) := by decide +kernel
theorem dX4_readNumber_78 : decode cX4_readNumber 78 = .ok (.invokevirtual 158, 3) := by decide +kernel
theorem dX4_readNumber_81 : decode cX4_readNumber 81 = .ok (.ifCond .eq 44, 3) := by decide +kernel
theorem dX4_readNumber_84 : decode cX4_readNumber 84 = .ok (.ldc 161, 2) := by decide +kernel
theorem dX4_readNumber_86 : decode cX4_readNumber 86 = .ok (.iload 5, 2) := by decide +kernel
theorem dX4_readNumber_88 : decode cX4_readNumber 88 = .ok (.bipush 10, 2) := by decide +kernel
theorem dX4_readNumber_90 : decode cX4_readNumber 90 = .ok (.imul, 1) := by decide +kernel
theorem dX4_readNumber_91 : decode cX4_readNumber 91 = .ok (.aload_n 0, 1) := by decide +kernel
theorem dX4_readNumber_92 : decode cX4_readNumber 92 = .ok (.getfield 15, 3) := by decide +kernel
theorem dX4_readNumber_95 : decode cX4_readNumber 95 = .ok (.aload_n 0, 1) := by decide +kernel
theorem dX4_readNumber_96 : decode cX4_readNumber 96 = .ok (.getfield 35, 3) := by decide +kernel
theorem dX4_readNumber_99 : decode cX4_readNumber 99 = .ok (.caload, 1) := by decide +kernel
theorem dX4_readNumber_100 : decode cX4_readNumber 100 = .ok (.iadd, 1) := by decide +kernel
theorem dX4_readNumber_101 : decode cX4_readNumber 101 = .ok (.bipush 48, 2) := by decide +kernel
theorem dX4_readNumber_103 : decode cX4_readNumber 103 = .ok (.isub, 1) := by decide +kernel
theorem dX4_readNumber_104 : decode cX4_readNumber 104 = .ok (.invokestatic 26, 3) := by decide +kernel
theorem dX4_readNumber_107 : decode cX4_readNumber 107 = .ok (.istore 5, 2) := by decide +kernel
theorem dX4_readNumber_109 : decode cX4_readNumber 109 = .ok (.aload_n 0, 1) := by decide +kernel
theorem dX4_readNumber_110 : decode cX4_readNumber 110 = .ok (.dup, 1) := by decide +kernel
theorem dX4_readNumber_111 : decode cX4_readNumber 111 = .ok (.getfield 35, 3) := by decide +kernel
theorem dX4_readNumber_114 : decode cX4_readNumber 114 = .ok (.iconst 1, 1) := by decide +kernel
theorem dX4_readNumber_115 : decode cX4_readNumber 115 = .ok (.iadd, 1) := by decide +kernel
theorem dX4_readNumber_116 : decode cX4_readNumber 116 = .ok (.putfield 35, 3) := by decide +kernel
theorem dX4_readNumber_119 : decode cX4_readNumber 119 = .ok (.iinc 6 1, 3) := by decide +kernel
theorem dX4_readNumber_122 : decode cX4_readNumber 122 = .ok (.goto (-53), 3) := by decide +kernel
theorem dX4_readNumber_125 : decode cX4_readNumber 125 = .ok (.aload_n 0, 1) := by decide +kernel
theorem dX4_readNumber_126 : decode cX4_readNumber 126 = .ok (.getfield 35, 3) := by decide +kernel
theorem dX4_readNumber_129 : decode cX4_readNumber 129 = .ok (.iload 4, 2) := by decide +kernel
theorem dX4_readNumber_131 : decode cX4_readNumber 131 = .ok (.if_icmp .ne 12, 3) := by decide +kernel
theorem dX4_readNumber_134 : decode cX4_readNumber 134 = .ok (.aload_n 0, 1) := by decide +kernel
theorem dX4_readNumber_135 : decode cX4_readNumber 135 = .ok (.iconst 1, 1) := by decide +kernel
theorem dX4_readNumber_136 : decode cX4_readNumber 136 = .ok (.aload_n 0, 1) := by decide +kernel
theorem dX4_readNumber_137 : decode cX4_readNumber 137 = .ok (.getfield 35, 3) := by decide +kernel
theorem dX4_readNumber_140 : decode cX4_readNumber 140 = .ok (.invokevirtual 54, 3) := by decide +kernel
theorem dX4_readNumber_143 : decode cX4_readNumber 143 = .ok (.iload_n 3, 1) := by decide +kernel
theorem dX4_readNumber_144 : decode cX4_readNumber 144 = .ok (.ifCond .eq 9, 3) := by decide +kernel
theorem dX4_readNumber_147 : decode cX4_readNumber 147 = .ok (.iload 5, 2) := by decide +kernel
theorem dX4_readNumber_149 : decode cX4_readNumber 149 = .ok (.ineg, 1) := by decide +kernel
theorem dX4_readNumber_150 : decode cX4_readNumber 150 = .ok (.goto 5, 3) := by decide +kernel
theorem dX4_readNumber_153 : decode cX4_readNumber 153 = .ok (.iload 5, 2) := by decide +kernel
theorem dX4_readNumber_155 : decode cX4_readNumber 155 = .ok (.istore 6, 2) := by decide +kernel
theorem dX4_readNumber_157 : decode cX4_readNumber 157 = .ok (.aload_n 1, 1) := by decide +kernel
theorem dX4_readNumber_158 : decode cX4_readNumber 158 = .ok (.iload 6, 2) := by decide +kernel
theorem dX4_readNumber_160 : decode cX4_readNumber 160 = .ok (.invokevirtual 162, 3) := by decide +kernel
theorem dX4_readNumber_163 : decode cX4_readNumber 163 = .ok (.ifCond .ne 9, 3) := by decide +kernel
theorem dX4_readNumber_166 : decode cX4_readNumber 166 = .ok (.aload_n 0, 1) := by decide +kernel
theorem dX4_readNumber_167 : decode cX4_readNumber 167 = .ok (.iconst 2, 1) := by decide +kernel
theorem dX4_readNumber_168 : decode cX4_readNumber 168 = .ok (.iload_n 2, 1) := by decide +kernel
theorem dX4_readNumber_169 : decode cX4_readNumber 169 = .ok (.invokevirtual 54, 3) := by decide +kernel
theorem dX4_readNumber_172 : decode cX4_readNumber 172 = .ok (.iload 6, 2) := by decide +kernel
theorem dX4_readNumber_174 : decode cX4_readNumber 174 = .ok (.ireturn, 1) := by decide +kernel
theorem dX4_readWeekday_0 : decode cX4_readWeekday 0 = .ok (.iconst 0, 1) := by decide +kernel
theorem dX4_readWeekday_1 : decode cX4_readWeekday 1 = .ok (.istore_n 1, 1) := by decide +kernel
theorem dX4_readWeekday_2 : decode cX4_readWeekday 2 = .ok (.aload_n 0, 1) := by decide +kernel
theorem dX4_readWeekday_3 : decode cX4_readWeekday 3 = .ok (.bipush 43, 2) := by decide +kernel
theorem dX4_readWeekday_5 : decode cX4_readWeekday 5 = .ok (.invokevirtual 58, 3) := by decide +kernel
theorem dX4_readWeekday_8 : decode cX4_readWeekday 8 = .ok (.ifCond .ne 19, 3) := by decide +kernel
theorem dX4_readWeekday_11 : decode cX4_readWeekday 11 = .ok (.aload_n 0, 1) := by decide +kernel
theorem dX4_readWeekday_12 : decode cX4_readWeekday 12 = .ok (.bipush 45, 2) := by decide +kernel
theorem dX4_readWeekday_14 : decode cX4_readWeekday 14 = .ok (.invokevirtual 58, 3) := by decide +kernel
theorem dX4_readWeekday_17 : decode cX4_readWeekday 17 = .ok (.ifCond .ne 10, 3) := by decide +kernel
theorem dX4_readWeekday_20 : decode cX4_readWeekday 20 = .ok (.aload_n 0, 1) := by decide +kernel
theorem dX4_readWeekday_21 : decode cX4_readWeekday 21 = .ok (.invokevirtual 158, 3) := by decide +kernel
theorem dX4_readWeekday_24 : decode cX4_readWeekday 24 = .ok (.ifCond .eq 11, 3) := by decide +kernel
theorem dX4_readWeekday_27 : decode cX4_readWeekday 27 = .ok (.aload_n 0, 1) := by decide +kernel
theorem dX4_readWeekday_28 : decode cX4_readWeekday 28 = .ok (.getstatic 121, 3) := by decide +kernel
theorem dX4_readWeekday_31 : decode cX4_readWeekday 31 = .ok (.invokevirtual 127, 3) := by decide +kernel
theorem dX4_readWeekday_34 : decode cX4_readWeekday 34 = .ok (.istore_n 1, 1) := by decide +kernel
theorem dX4_readWeekday_35 : decode cX4_readWeekday 35 = .ok (.aload_n 0, 1) := by decide +kernel
theorem dX4_readWeekday_36 : decode cX4_readWeekday 36 = .ok (.iconst 2, 1) := by decide +kernel
theorem dX4_readWeekday_37 : decode cX4_readWeekday 37 = .ok (.invokevirtual 74, 3) := by decide +kernel
theorem dX4_readWeekday_40 : decode cX4_readWeekday 40 = .ok (.istore_n 2, 1) := by decide +kernel
theorem dX4_readWeekday_41 : decode cX4_readWeekday 41 = .ok (.aload_n 0, 1) := by decide +kernel
theorem dX4_readWeekday_42 : decode cX4_readWeekday 42 = .ok (.getfield 35, 3) := by decide +kernel
theorem dX4_readWeekday_45 : decode cX4_readWeekday 45 = .ok (.iload_n 2, 1) := by decide +kernel
theorem dX4_readWeekday_46 : decode cX4_readWeekday 46 = .ok (.iconst 2, 1) := by decide +kernel
theorem dX4_readWeekday_47 : decode cX4_readWeekday 47 = .ok (.iadd, 1) := by decide +kernel
theorem dX4_readWeekday_48 : decode cX4_readWeekday 48 = .ok (.if_icmp .eq 12, 3) := by decide +kernel
theorem dX4_readWeekday_51 : decode cX4_readWeekday 51 = .ok (.aload_n 0, 1) := by decide +kernel
theorem dX4_readWeekday_52 : decode cX4_readWeekday 52 = .ok (.iconst 1, 1) := by decide +kernel
theorem dX4_readWeekday_53 : decode cX4_readWeekday 53 = .ok (.aload_n 0, 1) := by decide +kernel
theorem dX4_readWeekday_54 : decode cX4_readWeekday 54 = .ok (.getfield 35, 3) := by decide +kernel
theorem dX4_readWeekday_57 : decode cX4_readWeekday 57 = .ok (.invokevirtual 54, 3) := by decide +kernel
theorem dX4_readWeekday_60 : decode cX4_readWeekday 60 = .ok (.aload_n 0, 1) := by decide +kernel
theorem dX4_readWeekday_61 : decode cX4_readWeekday 61 = .ok (.getfield 19, 3) := by decide +kernel
theorem dX4_readWeekday_64 : decode cX4_readWeekday 64 = .ok (.ifCond .eq 4, 3) := by decide +kernel
theorem dX4_readWeekday_67 : decode cX4_readWeekday 67 = .ok (.return_, 1) := by decide +kernel
theorem dX4_readWeekday_68 : decode cX4_readWeekday 68 = .ok (.aload_n 0, 1) := by decide +kernel
theorem dX4_readWeekday_69 : decode cX4_readWeekday 69 = .ok (.iload_n 2, 1) := by decide +kernel
theorem dX4_readWeekday_70 : decode cX4_readWeekday 70 = .ok (.invokevirtual 165, 3) := by decide +kernel
theorem dX4_readWeekday_73 : decode cX4_readWeekday 73 = .ok (.istore_n 3, 1) := by decide +kernel
theorem dX4_readWeekday_74 : decode cX4_readWeekday 74 = .ok (.iload_n 3, 1) := by decide +kernel
theorem dX4_readWeekday_75 : decode cX4_readWeekday 75 = .ok (.iconst (-1), 1) := by decide +kernel
theorem dX4_readWeekday_76 : decode cX4_readWeekday 76 = .ok (.if_icmp .ne 12, 3) := by decide +kernel
theorem dX4_readWeekday_79 : decode cX4_readWeekday 79 = .ok (.aload_n 0, 1) := by decide +kernel
theorem dX4_readWeekday_80 : decode cX4_readWeekday 80 = .ok (.iconst 1, 1) := by decide +kernel
theorem dX4_readWeekday_81 : decode cX4_readWeekday 81 = .ok (.iload_n 2, 1) := by decide +kernel
theorem dX4_readWeekday_82 : decode cX4_readWeekday 82 = .ok (.invokevirtual 54, 3) := by decide +kernel
theorem dX4_readWeekday_85 : decode cX4_readWeekday 85 = .ok (.goto 12, 3) := by decide +kernel
theorem dX4_readWeekday_88 : decode cX4_readWeekday 88 = .ok (.aload_n 0, 1) := by decide +kernel
theorem dX4_readWeekday_89 : decode cX4_readWeekday 89 = .ok (.getfield 9, 3) := by decide +kernel
theorem dX4_readWeekday_92 : decode cX4_readWeekday 92 = .ok (.iload_n 3, 1) := by decide +kernel
theorem dX4_readWeekday_93 : decode cX4_readWeekday 93 = .ok (.iload_n 1, 1) := by decide +kernel
theorem dX4_readWeekday_94 : decode cX4_readWeekday 94 = .ok (.invokevirtual 168, 3) := by decide +kernel
theorem dX4_readWeekday_97 : decode cX4_readWeekday 97 = .ok (.return_, 1) := by decide +kernel
theorem dX4_weekdayAt_0 : decode cX4_weekdayAt 0 = .ok (.iconst 0, 1) := by decide +kernel
theorem dX4_weekdayAt_1 : decode cX4_weekdayAt 1 = .ok (.istore_n 2, 1) := by decide +kernel
theorem dX4_weekdayAt_2 : decode cX4_weekdayAt 2 = .ok (.iload_n 2, 1) := by decide +kernel
theorem dX4_weekdayAt_3 : decode cX4_weekdayAt 3 = .ok (.bipush 7, 2) := by decide +kernel
theorem dX4_weekdayAt_5 : decode cX4_weekdayAt 5 = .ok (.if_icmp .ge 49, 3) := by decide +kernel
theorem dX4_weekdayAt_8 : decode cX4_weekdayAt 8 = .ok (.ldc 171, 2) := by decide +kernel
theorem dX4_weekdayAt_10 : decode cX4_weekdayAt 10 = .ok (.iconst 2, 1) := by decide +kernel
theorem dX4_weekdayAt_11 : decode cX4_weekdayAt 11 = .ok (.iload_n 2, 1) := by decide +kernel
theorem dX4_weekdayAt_12 : decode cX4_weekdayAt 12 = .ok (.imul, 1) := by decide +kernel
theorem dX4_weekdayAt_13 : decode cX4_weekdayAt 13 = .ok (.invokevirtual 70, 3) := by decide +kernel
theorem dX4_weekdayAt_16 : decode cX4_weekdayAt 16 = .ok (.aload_n 0, 1) := by decide +kernel
theorem dX4_weekdayAt_17 : decode cX4_weekdayAt 17 = .ok (.getfield 15, 3) := by decide +kernel
theorem dX4_weekdayAt_20 : decode cX4_weekdayAt 20 = .ok (.iload_n 1, 1) := by decide +kernel
theorem dX4_weekdayAt_21 : decode cX4_weekdayAt 21 = .ok (.caload, 1) := by decide +kernel
theorem dX4_weekdayAt_22 : decode cX4_weekdayAt 22 = .ok (.if_icmp .ne 26, 3) := by decide +kernel
theorem dX4_weekdayAt_25 : decode cX4_weekdayAt 25 = .ok (.ldc 171, 2) := by decide +kernel
theorem dX4_weekdayAt_27 : decode cX4_weekdayAt 27 = .ok (.iconst 2, 1) := by decide +kernel
theorem dX4_weekdayAt_28 : decode cX4_weekdayAt 28 = .ok (.iload_n 2, 1) := by decide +kernel
theorem dX4_weekdayAt_29 : decode cX4_weekdayAt 29 = .ok (.imul, 1) := by decide +kernel
theorem dX4_weekdayAt_30 : decode cX4_weekdayAt 30 = .ok (.iconst 1, 1) := by decide +kernel
theorem dX4_weekdayAt_31 : decode cX4_weekdayAt 31 = .ok (.iadd, 1) := by decide +kernel
theorem dX4_weekdayAt_32 : decode cX4_weekdayAt 32 = .ok (.invokevirtual 70, 3) := by decide +kernel
theorem dX4_weekdayAt_35 : decode cX4_weekdayAt 35 = .ok (.aload_n 0, 1) := by decide +kernel
theorem dX4_weekdayAt_36 : decode cX4_weekdayAt 36 = .ok (.getfield 15, 3) := by decide +kernel
theorem dX4_weekdayAt_39 : decode cX4_weekdayAt 39 = .ok (.iload_n 1, 1) := by decide +kernel
theorem dX4_weekdayAt_40 : decode cX4_weekdayAt 40 = .ok (.iconst 1, 1) := by decide +kernel
theorem dX4_weekdayAt_41 : decode cX4_weekdayAt 41 = .ok (.iadd, 1) := by decide +kernel
theorem dX4_weekdayAt_42 : decode cX4_weekdayAt 42 = .ok (.caload, 1) := by decide +kernel
theorem dX4_weekdayAt_43 : decode cX4_weekdayAt 43 = .ok (.if_icmp .ne 5, 3) := by decide +kernel
theorem dX4_weekdayAt_46 : decode cX4_weekdayAt 46 = .ok (.iload_n 2, 1) := by decide +kernel
theorem dX4_weekdayAt_47 : decode cX4_weekdayAt 47 = .ok (.ireturn, 1) := by decide +kernel
theorem dX4_weekdayAt_48 : decode cX4_weekdayAt 48 = .ok (.iinc 2 1, 3) := by decide +kernel
theorem dX4_weekdayAt_51 : decode cX4_weekdayAt 51 = .ok (.goto (-49), 3) := by decide +kernel
theorem dX4_weekdayAt_54 : decode cX4_weekdayAt 54 = .ok (.iconst (-1), 1) := by decide +kernel
theorem dX4_weekdayAt_55 : decode cX4_weekdayAt 55 = .ok (.ireturn, 1) := by decide +kernel
theorem dX5_init_0 : decode cX5_init 0 = .ok (.aload_n 0, 1) := by decide +kernel
theorem dX5_init_1 : decode cX5_init 1 = .ok (.invokespecial 3, 3) := by decide +kernel
theorem dX5_init_4 : decode cX5_init 4 = .ok (.aload_n 0, 1) := by decide +kernel
theorem dX5_init_5 : decode cX5_init 5 = .ok (.bipush 7, 2) := by decide +kernel
theorem dX5_init_7 : decode cX5_init 7 = .ok (.newarray .long, 2) := by decide +kernel
theorem dX5_init_9 : decode cX5_init 9 = .ok (.putfield 9, 3) := by decide +kernel
theorem dX5_init_12 : decode cX5_init 12 = .ok (.aload_n 0, 1) := by decide +kernel
theorem dX5_init_13 : decode cX5_init 13 = .ok (.bipush 7, 2) := by decide +kernel
theorem dX5_init_15 : decode cX5_init 15 = .ok (.newarray .long, 2) := by decide +kernel
theorem dX5_init_17 : decode cX5_init 17 = .ok (.putfield 15, 3) := by decide +kernel
theorem dX5_init_20 : decode cX5_init 20 = .ok (.aload_n 0, 1) := by decide +kernel
theorem dX5_init_21 : decode cX5_init 21 = .ok (.sipush 733, 3) := by decide +kernel
theorem dX5_init_24 : decode cX5_init 24 = .ok (.newarray .byte, 2) := by decide +kernel
theorem dX5_init_26 : decode cX5_init 26 = .ok (.putfield 18, 3) := by decide +kernel
theorem dX5_init_29 : decode cX5_init 29 = .ok (.aload_n 0, 1) := by decide +kernel
theorem dX5_init_30 : decode cX5_init 30 = .ok (.invokevirtual 22, 3) := by decide +kernel
theorem dX5_init_33 : decode cX5_init 33 = .ok (.return_, 1) := by decide +kernel
theorem dX5_forget_0 : decode cX5_forget 0 = .ok (.aload_n 0, 1) := by decide +kernel
theorem dX5_forget_1 : decode cX5_forget 1 = .ok (.iconst 0, 1) := by decide +kernel
theorem dX5_forget_2 : decode cX5_forget 2 = .ok (.putfield 25, 3) := by decide +kernel
theorem dX5_forget_5 : decode cX5_forget 5 = .ok (.aload_n 0, 1) := by decide +kernel
theorem dX5_forget_6 : decode cX5_forget 6 = .ok (.getstatic 29, 3) := by decide +kernel
theorem dX5_forget_9 : decode cX5_forget 9 = .ok (.putfield 35, 3) := by decide +kernel
theorem dX5_forget_12 : decode cX5_forget 12 = .ok (.aload_n 0, 1) := by decide +kernel
theorem dX5_forget_13 : decode cX5_forget 13 = .ok (.iconst 1, 1) := by decide +kernel
theorem dX5_forget_14 : decode cX5_forget 14 = .ok (.putfield 38, 3) := by decide +kernel
theorem dX5_forget_17 : decode cX5_forget 17 = .ok (.aload_n 0, 1) := by decide +kernel
theorem dX5_forget_18 : decode cX5_forget 18 = .ok (.ldc 41, 2) := by decide +kernel
theorem dX5_forget_20 : decode cX5_forget 20 = .ok (.putfield 42, 3) := by decide +kernel
theorem dX5_forget_23 : decode cX5_forget 23 = .ok (.aload_n 0, 1) := by decide +kernel
theorem dX5_forget_24 : decode cX5_forget 24 = .ok (.ldc 45, 2) := by decide +kernel
theorem dX5_forget_26 : decode cX5_forget 26 = .ok (.putfield 46, 3) := by decide +kernel
theorem dX5_forget_29 : decode cX5_forget 29 = .ok (.aload_n 0, 1) := by decide +kernel
theorem dX5_forget_30 : decode cX5_forget 30 = .ok (.iconst 0, 1) := by decide +kernel
theorem dX5_forget_31 : decode cX5_forget 31 = .ok (.putfield 49, 3) := by decide +kernel
theorem dX5_forget_34 : decode cX5_forget 34 = .ok (.aload_n 0, 1) := by decide +kernel
theorem dX5_forget_35 : decode cX5_forget 35 = .ok (.iconst 0, 1) := by decide +kernel
theorem dX5_forget_36 : decode cX5_forget 36 = .ok (.putfield 52, 3) := by decide +kernel
theorem dX5_forget_39 : decode cX5_forget 39 = .ok (.aload_n 0, 1) := by decide +kernel
theorem dX5_forget_40 : decode cX5_forget 40 = .ok (.iconst 0, 1) := by decide +kernel
theorem dX5_forget_41 : decode cX5_forget 41 = .ok (.putfield 55, 3) := by decide +kernel
theorem dX5_forget_44 : decode cX5_forget 44 = .ok (.aload_n 0, 1) := by decide +kernel
theorem dX5_forget_45 : decode cX5_forget 45 = .ok (.iconst 0, 1) := by decide +kernel
theorem dX5_forget_46 : decode cX5_forget 46 = .ok (.putfield 58, 3) := by decide +kernel
theorem dX5_forget_49 : decode cX5_forget 49 = .ok (.aload_n 0, 1) := by decide +kernel
theorem dX5_forget_50 : decode cX5_forget 50 = .ok (.iconst 0, 1) := by decide +kernel
theorem dX5_forget_51 : decode cX5_forget 51 = .ok (.putfield 61, 3) := by decide +kernel
theorem dX5_forget_54 : decode cX5_forget 54 = .ok (.aload_n 0, 1) := by decide +kernel
theorem dX5_forget_55 : decode cX5_forget 55 = .ok (.getfield 9, 3) := by decide +kernel
theorem dX5_forget_58 : decode cX5_forget 58 = .ok (.lconst 0, 1) := by decide +kernel
theorem dX5_forget_59 : decode cX5_forget 59 = .ok (.invokestatic 64, 3) := by decide +kernel
theorem dX5_forget_62 : decode cX5_forget 62 = .ok (.aload_n 0, 1) := by decide +kernel
theorem dX5_forget_63 : decode cX5_forget 63 = .ok (.getfield 15, 3) := by decide +kernel
theorem dX5_forget_66 : decode cX5_forget 66 = .ok (.lconst 0, 1) := by decide +kernel
theorem dX5_forget_67 : decode cX5_forget 67 = .ok (.invokestatic 64, 3) := by decide +kernel
theorem dX5_forget_70 : decode cX5_forget 70 = .ok (.aload_n 0, 1) := by decide +kernel
theorem dX5_forget_71 : decode cX5_forget 71 = .ok (.getfield 18, 3) := by decide +kernel
theorem dX5_forget_74 : decode cX5_forget 74 = .ok (.iconst 0, 1) := by decide +kernel
theorem dX5_forget_75 : decode cX5_forget 75 = .ok (.invokestatic 70, 3) := by decide +kernel
theorem dX5_forget_78 : decode cX5_forget 78 = .ok (.return_, 1) := by decide +kernel
theorem dX5_has_0 : decode cX5_has 0 = .ok (.aload_n 0, 1) := by decide +kernel
theorem dX5_has_1 : decode cX5_has 1 = .ok (.getfield 25, 3) := by decide +kernel
theorem dX5_has_4 : decode cX5_has 4 = .ok (.aload_n 1, 1) := by decide +kernel
theorem dX5_has_5 : decode cX5_has 5 = .ok (.getfield 73, 3) := by decide +kernel
theorem dX5_has_8 : decode cX5_has 8 = .ok (.iand, 1) := by decide +kernel
theorem dX5_has_9 : decode cX5_has 9 = .ok (.ifCond .eq 7, 3) := by decide +kernel
theorem dX5_has_12 : decode cX5_has 12 = .ok (.iconst 1, 1) := by decide +kernel
theorem dX5_has_13 : decode cX5_has 13 = .ok (.goto 4, 3) := by decide +kernel
theorem dX5_has_16 : decode cX5_has 16 = .ok (.iconst 0, 1) := by decide +kernel
theorem dX5_has_17 : decode cX5_has 17 = .ok (.ireturn, 1) := by decide +kernel
theorem dX5_addNumber_0 : decode cX5_addNumber 0 = .ok (.aload_n 1, 1) := by decide +kernel
theorem dX5_addNumber_1 : decode cX5_addNumber 1 = .ok (.getstatic 78, 3) := by decide +kernel
theorem dX5_addNumber_4 : decode cX5_addNumber 4 = .ok (.if_acmp .ne 11, 3) := by decide +kernel
theorem dX5_addNumber_7 : decode cX5_addNumber 7 = .ok (.aload_n 0, 1) := by decide +kernel
theorem dX5_addNumber_8 : decode cX5_addNumber 8 = .ok (.iload_n 2, 1) := by decide +kernel
theorem dX5_addNumber_9 : decode cX5_addNumber 9 = .ok (.putfield 38, 3) := by decide +kernel
theorem dX5_addNumber_12 : decode cX5_addNumber 12 = .ok (.goto 112, 3) := by decide +kernel
theorem dX5_addNumber_15 : decode cX5_addNumber 15 = .ok (.aload_n 1, 1) := by decide +kernel
theorem dX5_addNumber_16 : decode cX5_addNumber 16 = .ok (.getstatic 82, 3) := by decide +kernel
theorem dX5_addNumber_19 : decode cX5_addNumber 19 = .ok (.if_acmp .ne 11, 3) := by decide +kernel
theorem dX5_addNumber_22 : decode cX5_addNumber 22 = .ok (.aload_n 0, 1) := by decide +kernel
theorem dX5_addNumber_23 : decode cX5_addNumber 23 = .ok (.iload_n 2, 1) := by decide +kernel
theorem dX5_addNumber_24 : decode cX5_addNumber 24 = .ok (.putfield 42, 3) := by decide +kernel
theorem dX5_addNumber_27 : decode cX5_addNumber 27 = .ok (.goto 97, 3) := by decide +kernel
theorem dX5_addNumber_30 : decode cX5_addNumber 30 = .ok (.aload_n 1, 1) := by decide +kernel
theorem dX5_addNumber_31 : decode cX5_addNumber 31 = .ok (.getstatic 85, 3) := by decide +kernel
theorem dX5_addNumber_34 : decode cX5_addNumber 34 = .ok (.if_acmp .ne 11, 3) := by decide +kernel
theorem dX5_addNumber_37 : decode cX5_addNumber 37 = .ok (.aload_n 0, 1) := by decide +kernel
theorem dX5_addNumber_38 : decode cX5_addNumber 38 = .ok (.iload_n 2, 1) := by decide +kernel
theorem dX5_addNumber_39 : decode cX5_addNumber 39 = .ok (.putfield 46, 3) := by decide +kernel
theorem dX5_addNumber_42 : decode cX5_addNumber 42 = .ok (.goto 82, 3) := by decide +kernel
theorem dX5_addNumber_45 : decode cX5_addNumber 45 = .ok (.aload_n 1, 1) := by decide +kernel
theorem dX5_addNumber_46 : decode cX5_addNumber 46 = .ok (.getstatic 88, 3) := by decide +kernel
theorem dX5_addNumber_49 : decode cX5_addNumber 49 = .ok (.if_acmp .ne 18, 3) := by decide +kernel
theorem dX5_addNumber_52 : decode cX5_addNumber 52 = .ok (.aload_n 0, 1) := by decide +kernel
theorem dX5_addNumber_53 : decode cX5_addNumber 53 = .ok (.dup, 1) := by decide +kernel
theorem dX5_addNumber_54 : decode cX5_addNumber 54 = .ok (.getfield 49, 3) := by decide +kernel
theorem dX5_addNumber_57 : decode cX5_addNumber 57 = .ok (.iconst 1, 1) := by decide +kernel
theorem dX5_addNumber_58 : decode cX5_addNumber 58 = .ok (.iload_n 2, 1) := by decide +kernel
theorem dX5_addNumber_59 : decode cX5_addNumber 59 = .ok (.ishl, 1) := by decide +kernel
theorem dX5_addNumber_60 : decode cX5_addNumber 60 = .ok (.ior, 1) := by decide +kernel
theorem dX5_addNumber_61 : decode cX5_addNumber 61 = .ok (.putfield 49, 3) := by decide +kernel
theorem dX5_addNumber_64 : decode cX5_addNumber 64 = .ok (.goto 60, 3) := by decide +kernel
theorem dX5_addNumber_67 : decode cX5_addNumber 67 = .ok (.aload_n 1, 1) := by decide +kernel
theorem dX5_addNumber_68 : decode cX5_addNumber 68 = .ok (.getstatic 91, 3) := by decide +kernel
theorem dX5_addNumber_71 : decode cX5_addNumber 71 = .ok (.if_acmp .ne 17, 3) := by decide +kernel
theorem dX5_addNumber_74 : decode cX5_addNumber 74 = .ok (.aload_n 0, 1) := by decide +kernel
theorem dX5_addNumber_75 : decode cX5_addNumber 75 = .ok (.getfield 18, 3) := by decide +kernel
theorem dX5_addNumber_78 : decode cX5_addNumber 78 = .ok (.sipush 366, 3) := by decide +kernel
theorem dX5_addNumber_81 : decode cX5_addNumber 81 = .ok (.iload_n 2, 1) := by decide +kernel
theorem dX5_addNumber_82 : decode cX5_addNumber 82 = .ok (.iadd, 1) := by decide +kernel
theorem dX5_addNumber_83 : decode cX5_addNumber 83 = .ok (.iconst 1, 1) := by decide +kernel
theorem dX5_addNumber_84 : decode cX5_addNumber 84 = .ok (.bastore, 1) := by decide +kernel
theorem dX5_addNumber_85 : decode cX5_addNumber 85 = .ok (.goto 39, 3) := by decide +kernel
theorem dX5_addNumber_88 : decode cX5_addNumber 88 = .ok (.iload_n 2, 1) := by decide +kernel
theorem dX5_addNumber_89 : decode cX5_addNumber 89 = .ok (.ifCond .le 20, 3) := by decide +kernel
theorem dX5_addNumber_92 : decode cX5_addNumber 92 = .ok (.aload_n 0, 1) := by decide +kernel
theorem dX5_addNumber_93 : decode cX5_addNumber 93 = .ok (.dup, 1) := by decide +kernel
theorem dX5_addNumber_94 : decode cX5_addNumber 94 = .ok (.getfield 52, 3) := by decide +kernel
theorem dX5_addNumber_97 : decode cX5_addNumber 97 = .ok (.iconst 1, 1) := by decide +kernel
theorem dX5_addNumber_98 : decode cX5_addNumber 98 = .ok (.iload_n 2, 1) := by decide +kernel
theorem dX5_addNumber_99 : decode cX5_addNumber 99 = .ok (.iconst 1, 1) := by decide +kernel
theorem dX5_addNumber_100 : decode cX5_addNumber 100 = .ok (.isub, 1) := by decide +kernel
theorem dX5_addNumber_101 : decode cX5_addNumber 101 = .ok (.ishl, 1) := by decide +kernel
theorem dX5_addNumber_102 : decode cX5_addNumber 102 = .ok (.ior, 1) := by decide +kernel
theorem dX5_addNumber_103 : decode cX5_addNumber 103 = .ok (.putfield 52, 3) := by decide +kernel
theorem dX5_addNumber_106 : decode cX5_addNumber 106 = .ok (.goto 18, 3) := by decide +kernel
theorem dX5_addNumber_109 : decode cX5_addNumber 109 = .ok (.aload_n 0, 1) := by decide +kernel
theorem dX5_addNumber_110 : decode cX5_addNumber 110 = .ok (.dup, 1) := by decide +kernel
theorem dX5_addNumber_111 : decode cX5_addNumber 111 = .ok (.getfield 55, 3) := by decide +kernel
theorem dX5_addNumber_114 : decode cX5_addNumber 114 = .ok (.iconst 1, 1) := by decide +kernel
theorem dX5_addNumber_115 : decode cX5_addNumber 115 = .ok (.bipush 31, 2) := by decide +kernel
theorem dX5_addNumber_117 : decode cX5_addNumber 117 = .ok (.iload_n 2, 1) := by decide +kernel
theorem dX5_addNumber_118 : decode cX5_addNumber 118 = .ok (.iadd, 1) := by decide +kernel
theorem dX5_addNumber_119 : decode cX5_addNumber 119 = .ok (.ishl, 1) := by decide +kernel
theorem dX5_addNumber_120 : decode cX5_addNumber 120 = .ok (.ior, 1) := by decide +kernel
theorem dX5_addNumber_121 : decode cX5_addNumber 121 = .ok (.putfield 55, 3) := by decide +kernel
theorem dX5_addNumber_124 : decode cX5_addNumber 124 = .ok (.return_, 1) := by decide +kernel
theorem dX5_addWeekday_0 : decode cX5_addWeekday 0 = .ok (.iload_n 2, 1) := by decide +kernel
theorem dX5_addWeekday_1 : decode cX5_addWeekday 1 = .ok (.ifCond .ne 16, 3) := by decide +kernel
theorem dX5_addWeekday_4 : decode cX5_addWeekday 4 = .ok (.aload_n 0, 1) := by decide +kernel
theorem dX5_addWeekday_5 : decode cX5_addWeekday 5 = .ok (.dup, 1) := by decide +kernel
theorem dX5_addWeekday_6 : decode cX5_addWeekday 6 = .ok (.getfield 58, 3) := by decide +kernel
theorem dX5_addWeekday_9 : decode cX5_addWeekday 9 = .ok (.iconst 1, 1) := by decide +kernel
theorem dX5_addWeekday_10 : decode cX5_addWeekday 10 = .ok (.iload_n 1, 1) := by decide +kernel
theorem dX5_addWeekday_11 : decode cX5_addWeekday 11 = .ok (.ishl, 1) := by decide +kernel
theorem dX5_addWeekday_12 : decode cX5_addWeekday 12 = .ok (.ior, 1) := by decide +kernel
theorem dX5_addWeekday_13 : decode cX5_addWeekday 13 = .ok (.putfield 58, 3) := by decide +kernel
theorem dX5_addWeekday_16 : decode cX5_addWeekday 16 = .ok (.return_, 1) := by decide +kernel
theorem dX5_addWeekday_17 : decode cX5_addWeekday 17 = .ok (.aload_n 0, 1) := by decide +kernel
theorem dX5_addWeekday_18 : decode cX5_addWeekday 18 = .ok (.dup, 1) := by decide +kernel
theorem dX5_addWeekday_19 : decode cX5_addWeekday 19 = .ok (.getfield 61, 3) := by decide +kernel
theorem dX5_addWeekday_22 : decode cX5_addWeekday 22 = .ok (.iconst 1, 1) := by decide +kernel
theorem dX5_addWeekday_23 : decode cX5_addWeekday 23 = .ok (.iload_n 1, 1) := by decide +kernel
theorem dX5_addWeekday_24 : decode cX5_addWeekday 24 = .ok (.ishl, 1) := by decide +kernel
theorem dX5_addWeekday_25 : decode cX5_addWeekday 25 = .ok (.ior, 1) := by decide +kernel
theorem dX5_addWeekday_26 : decode cX5_addWeekday 26 = .ok (.putfield 61, 3) := by decide +kernel
theorem dX5_addWeekday_29 : decode cX5_addWeekday 29 = .ok (.iload_n 2, 1) := by decide +kernel
theorem dX5_addWeekday_30 : decode cX5_addWeekday 30 = .ok (.ifCond .le 18, 3) := by decide +kernel
theorem dX5_addWeekday_33 : decode cX5_addWeekday 33 = .ok (.aload_n 0, 1) := by decide +kernel
theorem dX5_addWeekday_34 : decode cX5_addWeekday 34 = .ok (.getfield 9, 3) := by decide +kernel
theorem dX5_addWeekday_37 : decode cX5_addWeekday 37 = .ok (.iload_n 1, 1) := by decide +kernel
theorem dX5_addWeekday_38 : decode cX5_addWeekday 38 = .ok (.dup2, 1) := by decide +kernel
theorem dX5_addWeekday_39 : decode cX5_addWeekday 39 = .ok (.laload, 1) := by decide +kernel
theorem dX5_addWeekday_40 : decode cX5_addWeekday 40 = .ok (.lconst 1, 1) := by decide +kernel
theorem dX5_addWeekday_41 : decode cX5_addWeekday 41 = .ok (.iload_n 2, 1) := by decide +kernel
theorem dX5_addWeekday_42 : decode cX5_addWeekday 42 = .ok (.lshl, 1) := by decide +kernel
theorem dX5_addWeekday_43 : decode cX5_addWeekday 43 = .ok (.lor, 1) := by decide +kernel
theorem dX5_addWeekday_44 : decode cX5_addWeekday 44 = .ok (.lastore, 1) := by decide +kernel
theorem dX5_addWeekday_45 : decode cX5_addWeekday 45 = .ok (.goto 16, 3) := by decide +kernel
theorem dX5_addWeekday_48 : decode cX5_addWeekday 48 = .ok (.aload_n 0, 1) := by decide +kernel
theorem dX5_addWeekday_49 : decode cX5_addWeekday 49 = .ok (.getfield 15, 3) := by decide +kernel
theorem dX5_addWeekday_52 : decode cX5_addWeekday 52 = .ok (.iload_n 1, 1) := by decide +kernel
theorem dX5_addWeekday_53 : decode cX5_addWeekday 53 = .ok (.dup2, 1) := by decide +kernel
theorem dX5_addWeekday_54 : decode cX5_addWeekday 54 = .ok (.laload, 1) := by decide +kernel
theorem dX5_addWeekday_55 : decode cX5_addWeekday 55 = .ok (.lconst 1, 1) := by decide +kernel
theorem dX5_addWeekday_56 : decode cX5_addWeekday 56 = .ok (.iload_n 2, 1) := by decide +kernel
theorem dX5_addWeekday_57 : decode cX5_addWeekday 57 = .ok (.ineg, 1) := by decide +kernel
theorem dX5_addWeekday_58 : decode cX5_addWeekday 58 = .ok (.lshl, 1) := by decide +kernel
theorem dX5_addWeekday_59 : decode cX5_addWeekday 59 = .ok (.lor, 1) := by decide +kernel
theorem dX5_addWeekday_60 : decode cX5_addWeekday 60 = .ok (.lastore, 1) := by decide +kernel
theorem dX5_addWeekday_61 : decode cX5_addWeekday 61 = .ok (.return_, 1) := by decide +kernel
theorem dX5_isChosen_0 : decode cX5_isChosen 0 = .ok (.aload_n 0, 1) := by decide +kernel
theorem dX5_isChosen_1 : decode cX5_isChosen 1 = .ok (.getfield 18, 3) := by decide +kernel
theorem dX5_isChosen_4 : decode cX5_isChosen 4 = .ok (.sipush 366, 3) := by decide +kernel
theorem dX5_isChosen_7 : decode cX5_isChosen 7 = .ok (.iload_n 1, 1) := by decide +kernel
theorem dX5_isChosen_8 : decode cX5_isChosen 8 = .ok (.iadd, 1) := by decide +kernel
theorem dX5_isChosen_9 : decode cX5_isChosen 9 = .ok (.iconst 1, 1) := by decide +kernel
theorem dX5_isChosen_10 : decode cX5_isChosen 10 = .ok (.iadd, 1) := by decide +kernel
theorem dX5_isChosen_11 : decode cX5_isChosen 11 = .ok (.baload, 1) := by decide +kernel
theorem dX5_isChosen_12 : decode cX5_isChosen 12 = .ok (.ifCond .ne 18, 3) := by decide +kernel
theorem dX5_isChosen_15 : decode cX5_isChosen 15 = .ok (.aload_n 0, 1) := by decide +kernel
theorem dX5_isChosen_16 : decode cX5_isChosen 16 = .ok (.getfield 18, 3) := by decide +kernel
theorem dX5_isChosen_19 : decode cX5_isChosen 19 = .ok (.sipush 366, 3) := by decide +kernel
theorem dX5_isChosen_22 : decode cX5_isChosen 22 = .ok (.iload_n 1, 1) := by decide +kernel
theorem dX5_isChosen_23 : decode cX5_isChosen 23 = .ok (.iadd, 1) := by decide +kernel
theorem dX5_isChosen_24 : decode cX5_isChosen 24 = .ok (.iload_n 2, 1) := by decide +kernel
theorem dX5_isChosen_25 : decode cX5_isChosen 25 = .ok (.isub, 1) := by decide +kernel
theorem dX5_isChosen_26 : decode cX5_isChosen 26 = .ok (.baload, 1) := by decide +kernel
theorem dX5_isChosen_27 : decode cX5_isChosen 27 = .ok (.ifCond .eq 7, 3) := by decide +kernel
theorem dX5_isChosen_30 : decode cX5_isChosen 30 = .ok (.iconst 1, 1) := by decide +kernel
theorem dX5_isChosen_31 : decode cX5_isChosen 31 = .ok (.goto 4, 3) := by decide +kernel
theorem dX5_isChosen_34 : decode cX5_isChosen 34 = .ok (.iconst 0, 1) := by decide +kernel
theorem dX5_isChosen_35 : decode cX5_isChosen 35 = .ok (.ireturn, 1) := by decide +kernel
theorem dX5_goesTogether_0 : decode cX5_goesTogether 0 = .ok (.aload_n 0, 1) := by decide +kernel
theorem dX5_goesTogether_1 : decode cX5_goesTogether 1 = .ok (.getstatic 94, 3) := by decide +kernel
theorem dX5_goesTogether_4 : decode cX5_goesTogether 4 = .ok (.invokevirtual 97, 3) := by decide +kernel
theorem dX5_goesTogether_7 : decode cX5_goesTogether 7 = .ok (.ifCond .eq 23, 3) := by decide +kernel
theorem dX5_goesTogether_10 : decode cX5_goesTogether 10 = .ok (.aload_n 0, 1) := by decide +kernel
theorem dX5_goesTogether_11 : decode cX5_goesTogether 11 = .ok (.getstatic 82, 3) := by decide +kernel
theorem dX5_goesTogether_14 : decode cX5_goesTogether 14 = .ok (.invokevirtual 97, 3) := by decide +kernel
theorem dX5_goesTogether_17 : decode cX5_goesTogether 17 = .ok (.ifCond .eq 15, 3) := by decide +kernel
theorem dX5_goesTogether_20 : decode cX5_goesTogether 20 = .ok (.aload_n 0, 1) := by decide +kernel
theorem dX5_goesTogether_21 : decode cX5_goesTogether 21 = .ok (.getstatic 85, 3) := by decide +kernel
theorem dX5_goesTogether_24 : decode cX5_goesTogether 24 = .ok (.invokevirtual 97, 3) := by decide +kernel
theorem dX5_goesTogether_27 : decode cX5_goesTogether 27 = .ok (.ifCond .eq 5, 3) := by decide +kernel
theorem dX5_goesTogether_30 : decode cX5_goesTogether 30 = .ok (.iconst 0, 1) := by decide +kernel
theorem dX5_goesTogether_31 : decode cX5_goesTogether 31 = .ok (.ireturn, 1) := by decide +kernel
theorem dX5_goesTogether_32 : decode cX5_goesTogether 32 = .ok (.aload_n 0, 1) := by decide +kernel
theorem dX5_goesTogether_33 : decode cX5_goesTogether 33 = .ok (.getstatic 101, 3) := by decide +kernel
theorem dX5_goesTogether_36 : decode cX5_goesTogether 36 = .ok (.invokevirtual 97, 3) := by decide +kernel
theorem dX5_goesTogether_39 : decode cX5_goesTogether 39 = .ok (.ifCond .eq 15, 3) := by decide +kernel
theorem dX5_goesTogether_42 : decode cX5_goesTogether 42 = .ok (.aload_n 0, 1) := by decide +kernel
theorem dX5_goesTogether_43 : decode cX5_goesTogether 43 = .ok (.getfield 35, 3) := by decide +kernel
theorem dX5_goesTogether_46 : decode cX5_goesTogether 46 = .ok (.getstatic 104, 3) := by decide +kernel
theorem dX5_goesTogether_49 : decode cX5_goesTogether 49 = .ok (.if_acmp .ne 5, 3) := by decide +kernel
theorem dX5_goesTogether_52 : decode cX5_goesTogether 52 = .ok (.iconst 0, 1) := by decide +kernel
theorem dX5_goesTogether_53 : decode cX5_goesTogether 53 = .ok (.ireturn, 1) := by decide +kernel
theorem dX5_goesTogether_54 : decode cX5_goesTogether 54 = .ok (.aload_n 0, 1) := by decide +kernel
theorem dX5_goesTogether_55 : decode cX5_goesTogether 55 = .ok (.getfield 61, 3) := by decide +kernel
theorem dX5_goesTogether_58 : decode cX5_goesTogether 58 = .ok (.ifCond .eq 25, 3) := by decide +kernel
theorem dX5_goesTogether_61 : decode cX5_goesTogether 61 = .ok (.aload_n 0, 1) := by decide +kernel
theorem dX5_goesTogether_62 : decode cX5_goesTogether 62 = .ok (.getfield 35, 3) := by decide +kernel
theorem dX5_goesTogether_65 : decode cX5_goesTogether 65 = .ok (.getfield 107, 3) := by decide +kernel
theorem dX5_goesTogether_68 : decode cX5_goesTogether 68 = .ok (.ifCond .eq 13, 3) := by decide +kernel
theorem dX5_goesTogether_71 : decode cX5_goesTogether 71 = .ok (.aload_n 0, 1) := by decide +kernel
theorem dX5_goesTogether_72 : decode cX5_goesTogether 72 = .ok (.getstatic 101, 3) := by decide +kernel
theorem dX5_goesTogether_75 : decode cX5_goesTogether 75 = .ok (.invokevirtual 97, 3) := by decide +kernel
theorem dX5_goesTogether_78 : decode cX5_goesTogether 78 = .ok (.ifCond .eq 5, 3) := by decide +kernel
theorem dX5_goesTogether_81 : decode cX5_goesTogether 81 = .ok (.iconst 0, 1) := by decide +kernel
theorem dX5_goesTogether_82 : decode cX5_goesTogether 82 = .ok (.ireturn, 1) := by decide +kernel
theorem dX5_goesTogether_83 : decode cX5_goesTogether 83 = .ok (.aload_n 0, 1) := by decide +kernel
theorem dX5_goesTogether_84 : decode cX5_goesTogether 84 = .ok (.getstatic 91, 3) := by decide +kernel
theorem dX5_goesTogether_87 : decode cX5_goesTogether 87 = .ok (.invokevirtual 97, 3) := by decide +kernel
theorem dX5_goesTogether_90 : decode cX5_goesTogether 90 = .ok (.ifCond .eq 33, 3) := by decide +kernel
theorem dX5_goesTogether_93 : decode cX5_goesTogether 93 = .ok (.aload_n 0, 1) := by decide +kernel
theorem dX5_goesTogether_94 : decode cX5_goesTogether 94 = .ok (.getstatic 88, 3) := by decide +kernel
theorem dX5_goesTogether_97 : decode cX5_goesTogether 97 = .ok (.invokevirtual 97, 3) := by decide +kernel
theorem dX5_goesTogether_100 : decode cX5_goesTogether 100 = .ok (.ifCond .ne 23, 3) := by decide +kernel
theorem dX5_goesTogether_103 : decode cX5_goesTogether 103 = .ok (.aload_n 0, 1) := by decide +kernel
theorem dX5_goesTogether_104 : decode cX5_goesTogether 104 = .ok (.getstatic 101, 3) := by decide +kernel
theorem dX5_goesTogether_107 : decode cX5_goesTogether 107 = .ok (.invokevirtual 97, 3) := by decide +kernel
theorem dX5_goesTogether_110 : decode cX5_goesTogether 110 = .ok (.ifCond .ne 13, 3) := by decide +kernel
theorem dX5_goesTogether_113 : decode cX5_goesTogether 113 = .ok (.aload_n 0, 1) := by decide +kernel
theorem dX5_goesTogether_114 : decode cX5_goesTogether 114 = .ok (.getstatic 111, 3) := by decide +kernel
theorem dX5_goesTogether_117 : decode cX5_goesTogether 117 = .ok (.invokevirtual 97, 3) := by decide +kernel
theorem dX5_goesTogether_120 : decode cX5_goesTogether 120 = .ok (.ifCond .eq 7, 3) := by decide +kernel
theorem dX5_goesTogether_123 : decode cX5_goesTogether 123 = .ok (.iconst 1, 1) := by decide +kernel
theorem dX5_goesTogether_124 : decode cX5_goesTogether 124 = .ok (.goto 4, 3) := by decide +kernel
theorem dX5_goesTogether_127 : decode cX5_goesTogether 127 = .ok (.iconst 0, 1) := by decide +kernel
theorem dX5_goesTogether_128 : decode cX5_goesTogether 128 = .ok (.ireturn, 1) := by decide +kernel
theorem dX6_init_0 : decode cX6_init 0 = .ok (.aload_n 0, 1) := by decide +kernel
theorem dX6_init_1 : decode cX6_init 1 = .ok (.invokespecial 3, 3) := by decide +kernel
theorem dX6_init_4 : decode cX6_init 4 = .ok (.aload_n 0, 1) := by decide +kernel
theorem dX6_init_5 : decode cX6_init 5 = .ok (.sipush 3600, 3) := by decide +kernel
theorem dX6_init_8 : decode cX6_init 8 = .ok (.newarray .int, 2) := by decide +kernel
theorem dX6_init_10 : decode cX6_init 10 = .ok (.putfield 9, 3) := by decide +kernel
theorem dX6_init_13 : decode cX6_init 13 = .ok (.aload_n 0, 1) := by decide +kernel
theorem dX6_init_14 : decode cX6_init 14 = .ok (.sipush 3600, 3) := by decide +kernel
theorem dX6_init_17 : decode cX6_init 17 = .ok (.newarray .int, 2) := by decide +kernel
theorem dX6_init_19 : decode cX6_init 19 = .ok (.putfield 15, 3) := by decide +kernel
theorem dX6_init_22 : decode cX6_init 22 = .ok (.aload_n 0, 1) := by decide +kernel
theorem dX6_init_23 : decode cX6_init 23 = .ok (.sipush 3600, 3) := by decide +kernel
theorem dX6_init_26 : decode cX6_init 26 = .ok (.newarray .int, 2) := by decide +kernel
theorem dX6_init_28 : decode cX6_init 28 = .ok (.putfield 18, 3) := by decide +kernel
theorem dX6_init_31 : decode cX6_init 31 = .ok (.aload_n 0, 1) := by decide +kernel
theorem dX6_init_32 : decode cX6_init 32 = .ok (.iconst 0, 1) := by decide +kernel
theorem dX6_init_33 : decode cX6_init 33 = .ok (.putfield 21, 3) := by decide +kernel
theorem dX6_init_36 : decode cX6_init 36 = .ok (.return_, 1) := by decide +kernel
theorem dX6_begin_0 : decode cX6_begin 0 = .ok (.aload_n 0, 1) := by decide +kernel
theorem dX6_begin_1 : decode cX6_begin 1 = .ok (.getfield 9, 3) := by decide +kernel
theorem dX6_begin_4 : decode cX6_begin 4 = .ok (.iconst 0, 1) := by decide +kernel
theorem dX6_begin_5 : decode cX6_begin 5 = .ok (.invokestatic 25, 3) := by decide +kernel
theorem dX6_begin_8 : decode cX6_begin 8 = .ok (.aload_n 0, 1) := by decide +kernel
theorem dX6_begin_9 : decode cX6_begin 9 = .ok (.getfield 15, 3) := by decide +kernel
theorem dX6_begin_12 : decode cX6_begin 12 = .ok (.iconst 0, 1) := by decide +kernel
theorem dX6_begin_13 : decode cX6_begin 13 = .ok (.invokestatic 25, 3) := by decide +kernel
theorem dX6_begin_16 : decode cX6_begin 16 = .ok (.aload_n 0, 1) := by decide +kernel
theorem dX6_begin_17 : decode cX6_begin 17 = .ok (.getfield 18, 3) := by decide +kernel
theorem dX6_begin_20 : decode cX6_begin 20 = .ok (.iconst 0, 1) := by decide +kernel
theorem dX6_begin_21 : decode cX6_begin 21 = .ok (.invokestatic 25, 3) := by decide +kernel
theorem dX6_begin_24 : decode cX6_begin 24 = .ok (.aload_n 0, 1) := by decide +kernel
theorem dX6_begin_25 : decode cX6_begin 25 = .ok (.iconst 1, 1) := by decide +kernel
theorem dX6_begin_26 : decode cX6_begin 26 = .ok (.putfield 21, 3) := by decide +kernel
theorem dX6_begin_29 : decode cX6_begin 29 = .ok (.return_, 1) := by decide +kernel
theorem dX6_daysIn_0 : decode cX6_daysIn 0 = .ok (.aload_n 0, 1) := by decide +kernel
theorem dX6_daysIn_1 : decode cX6_daysIn 1 = .ok (.getfield 9, 3) := by decide +kernel
theorem dX6_daysIn_4 : decode cX6_daysIn 4 = .ok (.iload_n 1, 1) := by decide +kernel
theorem dX6_daysIn_5 : decode cX6_daysIn 5 = .ok (.iaload, 1) := by decide +kernel
theorem dX6_daysIn_6 : decode cX6_daysIn 6 = .ok (.aload_n 0, 1) := by decide +kernel
theorem dX6_daysIn_7 : decode cX6_daysIn 7 = .ok (.getfield 15, 3) := by decide +kernel
theorem dX6_daysIn_10 : decode cX6_daysIn 10 = .ok (.iload_n 1, 1) := by decide +kernel
theorem dX6_daysIn_11 : decode cX6_daysIn 11 = .ok (.iaload, 1) := by decide +kernel
theorem dX6_daysIn_12 : decode cX6_daysIn 12 = .ok (.ior, 1) := by decide +kernel
theorem dX6_daysIn_13 : decode cX6_daysIn 13 = .ok (.aload_n 0, 1) := by decide +kernel
theorem dX6_daysIn_14 : decode cX6_daysIn 14 = .ok (.getfield 18, 3) := by decide +kernel
theorem dX6_daysIn_17 : decode cX6_daysIn 17 = .ok (.iload_n 1, 1) := by decide +kernel
theorem dX6_daysIn_18 : decode cX6_daysIn 18 = .ok (.iaload, 1) := by decide +kernel
theorem dX6_daysIn_19 : decode cX6_daysIn 19 = .ok (.iconst (-1), 1) := by decide +kernel
theorem dX6_daysIn_20 : decode cX6_daysIn 20 = .ok (.ixor, 1) := by decide +kernel
theorem dX6_daysIn_21 : decode cX6_daysIn 21 = .ok (.iand, 1) := by decide +kernel
theorem dX6_daysIn_22 : decode cX6_daysIn 22 = .ok (.ireturn, 1) := by decide +kernel
theorem dX6_mark_0 : decode cX6_mark 0 = .ok (.iload_n 1, 1) := by decide +kernel
theorem dX6_mark_1 : decode cX6_mark 1 = .ok (.invokestatic 31, 3) := by decide +kernel
theorem dX6_mark_4 : decode cX6_mark 4 = .ok (.istore_n 3, 1) := by decide +kernel
theorem dX6_mark_5 : decode cX6_mark 5 = .ok (.iconst 1, 1) := by decide +kernel
theorem dX6_mark_6 : decode cX6_mark 6 = .ok (.iload_n 1, 1) := by decide +kernel
theorem dX6_mark_7 : decode cX6_mark 7 = .ok (.invokestatic 37, 3) := by decide +kernel
theorem dX6_mark_10 : decode cX6_mark 10 = .ok (.ishl, 1) := by decide +kernel
theorem dX6_mark_11 : decode cX6_mark 11 = .ok (.istore 4, 2) := by decide +kernel
theorem dX6_mark_13 : decode cX6_mark 13 = .ok (.aload_n 0, 1) := by decide +kernel
theorem dX6_mark_14 : decode cX6_mark 14 = .ok (.iload_n 3, 1) := by decide +kernel
theorem dX6_mark_15 : decode cX6_mark 15 = .ok (.iaload, 1) := by decide +kernel
theorem dX6_mark_16 : decode cX6_mark 16 = .ok (.iload 4, 2) := by decide +kernel
theorem dX6_mark_18 : decode cX6_mark 18 = .ok (.iand, 1) := by decide +kernel
theorem dX6_mark_19 : decode cX6_mark 19 = .ok (.ifCond .eq 7, 3) := by decide +kernel
theorem dX6_mark_22 : decode cX6_mark 22 = .ok (.iconst 1, 1) := by decide +kernel
theorem dX6_mark_23 : decode cX6_mark 23 = .ok (.goto 4, 3) := by decide +kernel
theorem dX6_mark_26 : decode cX6_mark 26 = .ok (.iconst 0, 1) := by decide +kernel
theorem dX6_mark_27 : decode cX6_mark 27 = .ok (.istore 5, 2) := by decide +kernel
theorem dX6_mark_29 : decode cX6_mark 29 = .ok (.aload_n 0, 1) := by decide +kernel
theorem dX6_mark_30 : decode cX6_mark 30 = .ok (.iload_n 3, 1) := by decide +kernel
theorem dX6_mark_31 : decode cX6_mark 31 = .ok (.iload_n 2, 1) := by decide +kernel
theorem dX6_mark_32 : decode cX6_mark 32 = .ok (.ifCond .eq 12, 3) := by decide +kernel
theorem dX6_mark_35 : decode cX6_mark 35 = .ok (.aload_n 0, 1) := by decide +kernel
theorem dX6_mark_36 : decode cX6_mark 36 = .ok (.iload_n 3, 1) := by decide +kernel
theorem dX6_mark_37 : decode cX6_mark 37 = .ok (.iaload, 1) := by decide +kernel
theorem dX6_mark_38 : decode cX6_mark 38 = .ok (.iload 4, 2) := by decide +kernel
theorem dX6_mark_40 : decode cX6_mark 40 = .ok (.ior, 1) := by decide +kernel
theorem dX6_mark_41 : decode cX6_mark 41 = .ok (.goto 11, 3) := by decide +kernel
theorem dX6_mark_44 : decode cX6_mark 44 = .ok (.aload_n 0, 1) := by decide +kernel
theorem dX6_mark_45 : decode cX6_mark 45 = .ok (.iload_n 3, 1) := by decide +kernel
theorem dX6_mark_46 : decode cX6_mark 46 = .ok (.iaload, 1) := by decide +kernel
theorem dX6_mark_47 : decode cX6_mark 47 = .ok (.iload 4, 2) := by decide +kernel
theorem dX6_mark_49 : decode cX6_mark 49 = .ok (.iconst (-1), 1) := by decide +kernel
theorem dX6_mark_50 : decode cX6_mark 50 = .ok (.ixor, 1) := by decide +kernel
theorem dX6_mark_51 : decode cX6_mark 51 = .ok (.iand, 1) := by decide +kernel
theorem dX6_mark_52 : decode cX6_mark 52 = .ok (.iastore, 1) := by decide +kernel
theorem dX6_mark_53 : decode cX6_mark 53 = .ok (.iload 5, 2) := by decide +kernel
theorem dX6_mark_55 : decode cX6_mark 55 = .ok (.ireturn, 1) := by decide +kernel
theorem dX7_init_0 : decode cX7_init 0 = .ok (.aload_n 0, 1) := by decide +kernel
theorem dX7_init_1 : decode cX7_init 1 = .ok (.invokespecial 1, 3) := by decide +kernel
theorem dX7_init_4 : decode cX7_init 4 = .ok (.aload_n 0, 1) := by decide +kernel
theorem dX7_init_5 : decode cX7_init 5 = .ok (.sipush 200, 3) := by decide +kernel
theorem dX7_init_8 : decode cX7_init 8 = .ok (.newarray .char, 2) := by decide +kernel
theorem dX7_init_10 : decode cX7_init 10 = .ok (.putfield 9, 3) := by decide +kernel
theorem dX7_init_13 : decode cX7_init 13 = .ok (.aload_n 0, 1) := by decide +kernel
theorem dX7_init_14 : decode cX7_init 14 = .ok (.iconst 0, 1) := by decide +kernel
theorem dX7_init_15 : decode cX7_init 15 = .ok (.putfield 13, 3) := by decide +kernel
theorem dX7_init_18 : decode cX7_init 18 = .ok (.aload_n 0, 1) := by decide +kernel
theorem dX7_init_19 : decode cX7_init 19 = .ok (.new 17, 3) := by decide +kernel
theorem dX7_init_22 : decode cX7_init 22 = .ok (.dup, 1) := by decide +kernel
theorem dX7_init_23 : decode cX7_init 23 = .ok (.invokespecial 19, 3) := by decide +kernel
theorem dX7_init_26 : decode cX7_init 26 = .ok (.putfield 20, 3) := by decide +kernel
theorem dX7_init_29 : decode cX7_init 29 = .ok (.aload_n 0, 1) := by decide +kernel
theorem dX7_init_30 : decode cX7_init 30 = .ok (.new 24, 3) := by decide +kernel
theorem dX7_init_33 : decode cX7_init 33 = .ok (.dup, 1) := by decide +kernel
theorem dX7_init_34 : decode cX7_init 34 = .ok (.invokespecial 26, 3) := by decide +kernel
theorem dX7_init_37 : decode cX7_init 37 = .ok (.putfield 27, 3) := by decide +kernel
theorem dX7_init_40 : decode cX7_init 40 = .ok (.aload_n 0, 1) := by decide +kernel
theorem dX7_init_41 : decode cX7_init 41 = .ok (.new 31, 3) := by decide +kernel
theorem dX7_init_44 : decode cX7_init 44 = .ok (.dup, 1) := by decide +kernel
theorem dX7_init_45 : decode cX7_init 45 = .ok (.aload_n 0, 1) := by decide +kernel
theorem dX7_init_46 : decode cX7_init 46 = .ok (.getfield 27, 3) := by decide +kernel
theorem dX7_init_49 : decode cX7_init 49 = .ok (.invokespecial 33, 3) := by decide +kernel
theorem dX7_init_52 : decode cX7_init 52 = .ok (.putfield 36, 3) := by decide +kernel
theorem dX7_init_55 : decode cX7_init 55 = .ok (.aload_n 0, 1) := by decide +kernel
theorem dX7_init_56 : decode cX7_init 56 = .ok (.new 40, 3) := by decide +kernel
theorem dX7_init_59 : decode cX7_init 59 = .ok (.dup, 1) := by decide +kernel
theorem dX7_init_60 : decode cX7_init 60 = .ok (.aload_n 0, 1) := by decide +kernel
theorem dX7_init_61 : decode cX7_init 61 = .ok (.getfield 20, 3) := by decide +kernel
theorem dX7_init_64 : decode cX7_init 64 = .ok (.aload_n 0, 1) := by decide +kernel
theorem dX7_init_65 : decode cX7_init 65 = .ok (.getfield 27, 3) := by decide +kernel
theorem dX7_init_68 : decode cX7_init 68 = .ok (.invokespecial 42, 3) := by decide +kernel
theorem dX7_init_71 : decode cX7_init 71 = .ok (.putfield 45, 3) := by decide +kernel
theorem dX7_init_74 : decode cX7_init 74 = .ok (.aload_n 0, 1) := by decide +kernel
theorem dX7_init_75 : decode cX7_init 75 = .ok (.bipush 12, 2) := by decide +kernel
theorem dX7_init_77 : decode cX7_init 77 = .ok (.anewarray 49, 3) := by decide +kernel
theorem dX7_init_80 : decode cX7_init 80 = .ok (.putfield 51, 3) := by decide +kernel
theorem dX7_init_83 : decode cX7_init 83 = .ok (.aload_n 0, 1) := by decide +kernel
theorem dX7_init_84 : decode cX7_init 84 = .ok (.sipush 300, 3) := by decide +kernel
theorem dX7_init_87 : decode cX7_init 87 = .ok (.newarray .long, 2) := by decide +kernel
theorem dX7_init_89 : decode cX7_init 89 = .ok (.putfield 55, 3) := by decide +kernel
theorem dX7_init_92 : decode cX7_init 92 = .ok (.aload_n 0, 1) := by decide +kernel
theorem dX7_init_93 : decode cX7_init 93 = .ok (.iconst 0, 1) := by decide +kernel
theorem dX7_init_94 : decode cX7_init 94 = .ok (.putfield 59, 3) := by decide +kernel
theorem dX7_init_97 : decode cX7_init 97 = .ok (.aload_n 0, 1) := by decide +kernel
theorem dX7_init_98 : decode cX7_init 98 = .ok (.iconst 4, 1) := by decide +kernel
theorem dX7_init_99 : decode cX7_init 99 = .ok (.newarray .int, 2) := by decide +kernel
theorem dX7_init_101 : decode cX7_init 101 = .ok (.putfield 62, 3) := by decide +kernel
theorem dX7_init_104 : decode cX7_init 104 = .ok (.return_, 1) := by decide +kernel
theorem dX7_feed_0 : decode cX7_feed 0 = .ok (.iload_n 1, 1) := by decide +kernel
theorem dX7_feed_1 : decode cX7_feed 1 = .ok (.iconst 1, 1) := by decide +kernel
theorem dX7_feed_2 : decode cX7_feed 2 = .ok (.if_icmp .lt 9, 3) := by decide +kernel
theorem dX7_feed_5 : decode cX7_feed 5 = .ok (.iload_n 1, 1) := by decide +kernel
theorem dX7_feed_6 : decode cX7_feed 6 = .ok (.bipush 8, 2) := by decide +kernel
theorem dX7_feed_8 : decode cX7_feed 8 = .ok (.if_icmp .le 11, 3) := by decide +kernel
theorem dX7_feed_11 : decode cX7_feed 11 = .ok (.new 66, 3) := by decide +kernel
theorem dX7_feed_14 : decode cX7_feed 14 = .ok (.dup, 1) := by decide +kernel
theorem dX7_feed_15 : decode cX7_feed 15 = .ok (.invokespecial 68, 3) := by decide +kernel
theorem dX7_feed_18 : decode cX7_feed 18 = .ok (.athrow, 1) := by decide +kernel
theorem dX7_feed_19 : decode cX7_feed 19 = .ok (.aload_n 0, 1) := by decide +kernel
theorem dX7_feed_20 : decode cX7_feed 20 = .ok (.getfield 13, 3) := by decide +kernel
theorem dX7_feed_23 : decode cX7_feed 23 = .ok (.iload_n 1, 1) := by decide +kernel
theorem dX7_feed_24 : decode cX7_feed 24 = .ok (.iadd, 1) := by decide +kernel
theorem dX7_feed_25 : decode cX7_feed 25 = .ok (.sipush 200, 3) := by decide +kernel
theorem dX7_feed_28 : decode cX7_feed 28 = .ok (.if_icmp .le 5, 3) := by decide +kernel
theorem dX7_feed_31 : decode cX7_feed 31 = .ok (.iconst (-1), 1) := by decide +kernel
theorem dX7_feed_32 : decode cX7_feed 32 = .ok (.ireturn, 1) := by decide +kernel
theorem dX7_feed_33 : decode cX7_feed 33 = .ok (.iconst 0, 1) := by decide +kernel
theorem dX7_feed_34 : decode cX7_feed 34 = .ok (.istore 4, 2) := by decide +kernel
theorem dX7_feed_36 : decode cX7_feed 36 = .ok (.iload 4, 2) := by decide +kernel
theorem dX7_feed_38 : decode cX7_feed 38 = .ok (.iload_n 1, 1) := by decide +kernel
theorem dX7_feed_39 : decode cX7_feed 39 = .ok (.if_icmp .ge 34, 3) := by decide +kernel
theorem dX7_feed_42 : decode cX7_feed 42 = .ok (.aload_n 0, 1) := by decide +kernel
theorem dX7_feed_43 : decode cX7_feed 43 = .ok (.getfield 9, 3) := by decide +kernel
theorem dX7_feed_46 : decode cX7_feed 46 = .ok (.aload_n 0, 1) := by decide +kernel
theorem dX7_feed_47 : decode cX7_feed 47 = .ok (.getfield 13, 3) := by decide +kernel
theorem dX7_feed_50 : decode cX7_feed 50 = .ok (.iload 4, 2) := by decide +kernel
theorem dX7_feed_52 : decode cX7_feed 52 = .ok (.iadd, 1) := by decide +kernel
theorem dX7_feed_53 : decode cX7_feed 53 = .ok (.lload_n 2, 1) := by decide +kernel
theorem dX7_feed_54 : decode cX7_feed 54 = .ok (.bipush 8, 2) := by decide +kernel
theorem dX7_feed_56 : decode cX7_feed 56 = .ok (.iload 4, 2) := by decide +kernel
theorem dX7_feed_58 : decode cX7_feed 58 = .ok (.imul, 1) := by decide +kernel
theorem dX7_feed_59 : decode cX7_feed 59 = .ok (.lushr, 1) := by decide +kernel
theorem dX7_feed_60 : decode cX7_feed 60 = .ok (.ldc2_w 69, 3) := by decide +kernel
theorem dX7_feed_63 : decode cX7_feed 63 = .ok (.land, 1) := by decide +kernel
theorem dX7_feed_64 : decode cX7_feed 64 = .ok (.l2i, 1) := by decide +kernel
theorem dX7_feed_65 : decode cX7_feed 65 = .ok (.i2c, 1) := by decide +kernel
theorem dX7_feed_66 : decode cX7_feed 66 = .ok (.castore, 1) := by decide +kernel
theorem dX7_feed_67 : decode cX7_feed 67 = .ok (.iinc 4 1, 3) := by decide +kernel
theorem dX7_feed_70 : decode cX7_feed 70 = .ok (.goto (-34), 3) := by decide +kernel
theorem dX7_feed_73 : decode cX7_feed 73 = .ok (.aload_n 0, 1) := by decide +kernel
theorem dX7_feed_74 : decode cX7_feed 74 = .ok (.dup, 1) := by decide +kernel
theorem dX7_feed_75 : decode cX7_feed 75 = .ok (.getfield 13, 3) := by decide +kernel
theorem dX7_feed_78 : decode cX7_feed 78 = .ok (.iload_n 1, 1) := by decide +kernel
theorem dX7_feed_79 : decode cX7_feed 79 = .ok (.iadd, 1) := by decide +kernel
theorem dX7_feed_80 : decode cX7_feed 80 = .ok (.putfield 13, 3) := by decide +kernel
theorem dX7_feed_83 : decode cX7_feed 83 = .ok (.aload_n 0, 1) := by decide +kernel
theorem dX7_feed_84 : decode cX7_feed 84 = .ok (.getfield 13, 3) := by decide +kernel
theorem dX7_feed_87 : decode cX7_feed 87 = .ok (.ireturn, 1) := by decide +kernel
theorem dX7_wipe_0 : decode cX7_wipe 0 = .ok (.aload_n 0, 1) := by decide +kernel
theorem dX7_wipe_1 : decode cX7_wipe 1 = .ok (.getfield 13, 3) := by decide +kernel
theorem dX7_wipe_4 : decode cX7_wipe 4 = .ok (.istore_n 1, 1) := by decide +kernel
theorem dX7_wipe_5 : decode cX7_wipe 5 = .ok (.aload_n 0, 1) := by decide +kernel
theorem dX7_wipe_6 : decode cX7_wipe 6 = .ok (.iconst 0, 1) := by decide +kernel
theorem dX7_wipe_7 : decode cX7_wipe 7 = .ok (.putfield 13, 3) := by decide +kernel
theorem dX7_wipe_10 : decode cX7_wipe 10 = .ok (.iload_n 1, 1) := by decide +kernel
theorem dX7_wipe_11 : decode cX7_wipe 11 = .ok (.ireturn, 1) := by decide +kernel
theorem dX7_thing_0 : decode cX7_thing 0 = .ok (.iload_n 1, 1) := by decide +kernel
theorem dX7_thing_1 : decode cX7_thing 1 = .ok (.invokestatic 71, 3) := by decide +kernel
theorem dX7_thing_4 : decode cX7_thing 4 = .ok (.aload_n 0, 1) := by decide +kernel
theorem dX7_thing_5 : decode cX7_thing 5 = .ok (.invokevirtual 75, 3) := by decide +kernel
theorem dX7_thing_8 : decode cX7_thing 8 = .ok (.istore_n 2, 1) := by decide +kernel
theorem dX7_thing_9 : decode cX7_thing 9 = .ok (.iload_n 2, 1) := by decide +kernel
theorem dX7_thing_10 : decode cX7_thing 10 = .ok (.iconst (-1), 1) := by decide +kernel
theorem dX7_thing_11 : decode cX7_thing 11 = .ok (.if_icmp .ne 5, 3) := by decide +kernel
theorem dX7_thing_14 : decode cX7_thing 14 = .ok (.iconst (-1), 1) := by decide +kernel
theorem dX7_thing_15 : decode cX7_thing 15 = .ok (.ireturn, 1) := by decide +kernel
theorem dX7_thing_16 : decode cX7_thing 16 = .ok (.aload_n 0, 1) := by decide +kernel
theorem dX7_thing_17 : decode cX7_thing 17 = .ok (.getfield 36, 3) := by decide +kernel
theorem dX7_thing_20 : decode cX7_thing 20 = .ok (.aload_n 0, 1) := by decide +kernel
theorem dX7_thing_21 : decode cX7_thing 21 = .ok (.getfield 9, 3) := by decide +kernel
theorem dX7_thing_24 : decode cX7_thing 24 = .ok (.aload_n 0, 1) := by decide +kernel
theorem dX7_thing_25 : decode cX7_thing 25 = .ok (.getfield 13, 3) := by decide +kernel
theorem dX7_thing_28 : decode cX7_thing 28 = .ok (.invokevirtual 79, 3) := by decide +kernel
theorem dX7_thing_31 : decode cX7_thing 31 = .ok (.aload_n 0, 1) := by decide +kernel
theorem dX7_thing_32 : decode cX7_thing 32 = .ok (.getfield 36, 3) := by decide +kernel
theorem dX7_thing_35 : decode cX7_thing 35 = .ok (.getfield 83, 3) := by decide +kernel
theorem dX7_thing_38 : decode cX7_thing 38 = .ok (.ifCond .eq 5, 3) := by decide +kernel
theorem dX7_thing_41 : decode cX7_thing 41 = .ok (.iconst (-1), 1) := by decide +kernel
theorem dX7_thing_42 : decode cX7_thing 42 = .ok (.ireturn, 1) := by decide +kernel
theorem dX7_thing_43 : decode cX7_thing 43 = .ok (.aload_n 0, 1) := by decide +kernel
theorem dX7_thing_44 : decode cX7_thing 44 = .ok (.getfield 51, 3) := by decide +kernel
theorem dX7_thing_47 : decode cX7_thing 47 = .ok (.iload_n 2, 1) := by decide +kernel
theorem dX7_thing_48 : decode cX7_thing 48 = .ok (.aaload, 1) := by decide +kernel
theorem dX7_thing_49 : decode cX7_thing 49 = .ok (.astore_n 3, 1) := by decide +kernel
theorem dX7_thing_50 : decode cX7_thing 50 = .ok (.aload_n 3, 1) := by decide +kernel
theorem dX7_thing_51 : decode cX7_thing 51 = .ok (.ifnonnull 18, 3) := by decide +kernel
theorem dX7_thing_54 : decode cX7_thing 54 = .ok (.new 49, 3) := by decide +kernel
theorem dX7_thing_57 : decode cX7_thing 57 = .ok (.dup, 1) := by decide +kernel
theorem dX7_thing_58 : decode cX7_thing 58 = .ok (.invokespecial 86, 3) := by decide +kernel
theorem dX7_thing_61 : decode cX7_thing 61 = .ok (.astore_n 3, 1) := by decide +kernel
theorem dX7_thing_62 : decode cX7_thing 62 = .ok (.aload_n 0, 1) := by decide +kernel
theorem dX7_thing_63 : decode cX7_thing 63 = .ok (.getfield 51, 3) := by decide +kernel
theorem dX7_thing_66 : decode cX7_thing 66 = .ok (.iload_n 2, 1) := by decide +kernel
theorem dX7_thing_67 : decode cX7_thing 67 = .ok (.aload_n 3, 1) := by decide +kernel
theorem dX7_thing_68 : decode cX7_thing 68 = .ok (.aastore, 1) := by decide +kernel
theorem dX7_thing_69 : decode cX7_thing 69 = .ok (.aload_n 3, 1) := by decide +kernel
theorem dX7_thing_70 : decode cX7_thing 70 = .ok (.invokevirtual 87, 3) := by decide +kernel
theorem dX7_thing_73 : decode cX7_thing 73 = .ok (.aload_n 0, 1) := by decide +kernel
theorem dX7_thing_74 : decode cX7_thing 74 = .ok (.getfield 45, 3) := by decide +kernel
theorem dX7_thing_77 : decode cX7_thing 77 = .ok (.aload_n 3, 1) := by decide +kernel
theorem dX7_thing_78 : decode cX7_thing 78 = .ok (.getfield 90, 3) := by decide +kernel
theorem dX7_thing_81 : decode cX7_thing 81 = .ok (.iload_n 1, 1) := by decide +kernel
theorem dX7_thing_82 : decode cX7_thing 82 = .ok (.invokevirtual 93, 3) := by decide +kernel
theorem dX7_thing_85 : decode cX7_thing 85 = .ok (.iload_n 2, 1) := by decide +kernel
theorem dX7_thing_86 : decode cX7_thing 86 = .ok (.ireturn, 1) := by decide +kernel
theorem dX7_fault_0 : decode cX7_fault 0 = .ok (.aload_n 0, 1) := by decide +kernel
theorem dX7_fault_1 : decode cX7_fault 1 = .ok (.getfield 36, 3) := by decide +kernel
theorem dX7_fault_4 : decode cX7_fault 4 = .ok (.getfield 83, 3) := by decide +kernel
theorem dX7_fault_7 : decode cX7_fault 7 = .ok (.ireturn, 1) := by decide +kernel
theorem dX7_place_0 : decode cX7_place 0 = .ok (.aload_n 0, 1) := by decide +kernel
theorem dX7_place_1 : decode cX7_place 1 = .ok (.getfield 36, 3) := by decide +kernel
theorem dX7_place_4 : decode cX7_place 4 = .ok (.getfield 97, 3) := by decide +kernel
theorem dX7_place_7 : decode cX7_place 7 = .ok (.ireturn, 1) := by decide +kernel
theorem dX7_drop_0 : decode cX7_drop 0 = .ok (.aload_n 0, 1) := by decide +kernel
theorem dX7_drop_1 : decode cX7_drop 1 = .ok (.iload_n 1, 1) := by decide +kernel
theorem dX7_drop_2 : decode cX7_drop 2 = .ok (.invokevirtual 100, 3) := by decide +kernel
theorem dX7_drop_5 : decode cX7_drop 5 = .ok (.iconst 0, 1) := by decide +kernel
theorem dX7_drop_6 : decode cX7_drop 6 = .ok (.putfield 104, 3) := by decide +kernel
theorem dX7_drop_9 : decode cX7_drop 9 = .ok (.return_, 1) := by decide +kernel
theorem dX7_except_0 : decode cX7_except 0 = .ok (.aload_n 0, 1) := by decide +kernel
theorem dX7_except_1 : decode cX7_except 1 = .ok (.iload_n 1, 1) := by decide +kernel
theorem dX7_except_2 : decode cX7_except 2 = .ok (.invokevirtual 100, 3) := by decide +kernel
theorem dX7_except_5 : decode cX7_except 5 = .ok (.astore 4, 2) := by decide +kernel
theorem dX7_except_7 : decode cX7_except 7 = .ok (.iload_n 2, 1) := by decide +kernel
theorem dX7_except_8 : decode cX7_except 8 = .ok (.invokestatic 71, 3) := by decide +kernel
theorem dX7_except_11 : decode cX7_except 11 = .ok (.aload 4, 2) := by decide +kernel
theorem dX7_except_13 : decode cX7_except 13 = .ok (.getfield 108, 3) := by decide +kernel
theorem dX7_except_16 : decode cX7_except 16 = .ok (.iload_n 2, 1) := by decide +kernel
theorem dX7_except_17 : decode cX7_except 17 = .ok (.iload_n 3, 1) := by decide +kernel
theorem dX7_except_18 : decode cX7_except 18 = .ok (.invokestatic 111, 3) := by decide +kernel
theorem dX7_except_21 : decode cX7_except 21 = .ok (.ireturn, 1) := by decide +kernel
theorem dX7_besides_0 : decode cX7_besides 0 = .ok (.aload_n 0, 1) := by decide +kernel
theorem dX7_besides_1 : decode cX7_besides 1 = .ok (.iload_n 1, 1) := by decide +kernel
theorem dX7_besides_2 : decode cX7_besides 2 = .ok (.invokevirtual 100, 3) := by decide +kernel
theorem dX7_besides_5 : decode cX7_besides 5 = .ok (.astore 4, 2) := by decide +kernel
theorem dX7_besides_7 : decode cX7_besides 7 = .ok (.iload_n 2, 1) := by decide +kernel
theorem dX7_besides_8 : decode cX7_besides 8 = .ok (.invokestatic 71, 3) := by decide +kernel
theorem dX7_besides_11 : decode cX7_besides 11 = .ok (.aload 4, 2) := by decide +kernel
theorem dX7_besides_13 : decode cX7_besides 13 = .ok (.getfield 115, 3) := by decide +kernel
theorem dX7_besides_16 : decode cX7_besides 16 = .ok (.iload_n 2, 1) := by decide +kernel
theorem dX7_besides_17 : decode cX7_besides 17 = .ok (.iload_n 3, 1) := by decide +kernel
theorem dX7_besides_18 : decode cX7_besides 18 = .ok (.invokestatic 111, 3) := by decide +kernel
theorem dX7_besides_21 : decode cX7_besides 21 = .ok (.ireturn, 1) := by decide +kernel
theorem dX7_comes_0 : decode cX7_comes 0 = .ok (.aload_n 0, 1) := by decide +kernel
theorem dX7_comes_1 : decode cX7_comes 1 = .ok (.iload_n 1, 1) := by decide +kernel
theorem dX7_comes_2 : decode cX7_comes 2 = .ok (.invokevirtual 100, 3) := by decide +kernel
theorem dX7_comes_5 : decode cX7_comes 5 = .ok (.astore_n 3, 1) := by decide +kernel
theorem dX7_comes_6 : decode cX7_comes 6 = .ok (.iload_n 2, 1) := by decide +kernel
theorem dX7_comes_7 : decode cX7_comes 7 = .ok (.invokestatic 71, 3) := by decide +kernel
theorem dX7_comes_10 : decode cX7_comes 10 = .ok (.aload_n 3, 1) := by decide +kernel
theorem dX7_comes_11 : decode cX7_comes 11 = .ok (.iload_n 2, 1) := by decide +kernel
theorem dX7_comes_12 : decode cX7_comes 12 = .ok (.invokestatic 118, 3) := by decide +kernel
theorem dX7_comes_15 : decode cX7_comes 15 = .ok (.invokevirtual 122, 3) := by decide +kernel
theorem dX7_comes_18 : decode cX7_comes 18 = .ok (.iconst 1, 1) := by decide +kernel
theorem dX7_comes_19 : decode cX7_comes 19 = .ok (.iload_n 2, 1) := by decide +kernel
theorem dX7_comes_20 : decode cX7_comes 20 = .ok (.invokestatic 125, 3) := by decide +kernel
theorem dX7_comes_23 : decode cX7_comes 23 = .ok (.ishl, 1) := by decide +kernel
theorem dX7_comes_24 : decode cX7_comes 24 = .ok (.iand, 1) := by decide +kernel
theorem dX7_comes_25 : decode cX7_comes 25 = .ok (.ifCond .eq 7, 3) := by decide +kernel
theorem dX7_comes_28 : decode cX7_comes 28 = .ok (.iconst 1, 1) := by decide +kernel
theorem dX7_comes_29 : decode cX7_comes 29 = .ok (.goto 4, 3) := by decide +kernel
theorem dX7_comes_32 : decode cX7_comes 32 = .ok (.iconst 0, 1) := by decide +kernel
theorem dX7_comes_33 : decode cX7_comes 33 = .ok (.ireturn, 1) := by decide +kernel
theorem dX7_next_0 : decode cX7_next 0 = .ok (.aload_n 0, 1) := by decide +kernel
theorem dX7_next_1 : decode cX7_next 1 = .ok (.iload_n 1, 1) := by decide +kernel
theorem dX7_next_2 : decode cX7_next 2 = .ok (.invokevirtual 100, 3) := by decide +kernel
theorem dX7_next_5 : decode cX7_next 5 = .ok (.astore_n 3, 1) := by decide +kernel
theorem dX7_next_6 : decode cX7_next 6 = .ok (.iload_n 2, 1) := by decide +kernel
theorem dX7_next_7 : decode cX7_next 7 = .ok (.invokestatic 71, 3) := by decide +kernel
theorem dX7_next_10 : decode cX7_next 10 = .ok (.iload_n 2, 1) := by decide +kernel
theorem dX7_next_11 : decode cX7_next 11 = .ok (.invokestatic 118, 3) := by decide +kernel
theorem dX7_next_14 : decode cX7_next 14 = .ok (.istore 4, 2) := by decide +kernel
theorem dX7_next_16 : decode cX7_next 16 = .ok (.bipush (-2), 2) := by decide +kernel
theorem dX7_next_18 : decode cX7_next 18 = .ok (.iload_n 2, 1) := by decide +kernel
theorem dX7_next_19 : decode cX7_next 19 = .ok (.invokestatic 125, 3) := by decide +kernel
theorem dX7_next_22 : decode cX7_next 22 = .ok (.ishl, 1) := by decide +kernel
theorem dX7_next_23 : decode cX7_next 23 = .ok (.istore 5, 2) := by decide +kernel
theorem dX7_next_25 : decode cX7_next 25 = .ok (.iload 4, 2) := by decide +kernel
theorem dX7_next_27 : decode cX7_next 27 = .ok (.istore 6, 2) := by decide +kernel
theorem dX7_next_29 : decode cX7_next 29 = .ok (.iload 6, 2) := by decide +kernel
theorem dX7_next_31 : decode cX7_next 31 = .ok (.sipush 3600, 3) := by decide +kernel
theorem dX7_next_34 : decode cX7_next 34 = .ok (.if_icmp .ge 48, 3) := by decide +kernel
theorem dX7_next_37 : decode cX7_next 37 = .ok (.aload_n 3, 1) := by decide +kernel
theorem dX7_next_38 : decode cX7_next 38 = .ok (.iload 6, 2) := by decide +kernel
theorem dX7_next_40 : decode cX7_next 40 = .ok (.invokevirtual 122, 3) := by decide +kernel
theorem dX7_next_43 : decode cX7_next 43 = .ok (.iload 6, 2) := by decide +kernel
theorem dX7_next_45 : decode cX7_next 45 = .ok (.iload 4, 2) := by decide +kernel
theorem dX7_next_47 : decode cX7_next 47 = .ok (.if_icmp .ne 8, 3) := by decide +kernel
theorem dX7_next_50 : decode cX7_next 50 = .ok (.iload 5, 2) := by decide +kernel
theorem dX7_next_52 : decode cX7_next 52 = .ok (.goto 5, 3) := by decide +kernel
theorem dX7_next_55 : decode cX7_next 55 = .ok (.ldc 128, 2) := by decide +kernel
theorem dX7_next_57 : decode cX7_next 57 = .ok (.iand, 1) := by decide +kernel
theorem dX7_next_58 : decode cX7_next 58 = .ok (.istore 7, 2) := by decide +kernel
theorem dX7_next_60 : decode cX7_next 60 = .ok (.iload 7, 2) := by decide +kernel
theorem dX7_next_62 : decode cX7_next 62 = .ok (.ifCond .eq 14, 3) := by decide +kernel
theorem dX7_next_65 : decode cX7_next 65 = .ok (.iload 6, 2) := by decide +kernel
theorem dX7_next_67 : decode cX7_next 67 = .ok (.iload 7, 2) := by decide +kernel
theorem dX7_next_69 : decode cX7_next 69 = .ok (.invokestatic 129, 3) := by decide +kernel
theorem dX7_next_72 : decode cX7_next 72 = .ok (.invokestatic 134, 3) := by decide +kernel
theorem dX7_next_75 : decode cX7_next 75 = .ok (.ireturn, 1) := by decide +kernel
theorem dX7_next_76 : decode cX7_next 76 = .ok (.iinc 6 1, 3) := by decide +kernel
theorem dX7_next_79 : decode cX7_next 79 = .ok (.goto (-50), 3) := by decide +kernel
theorem dX7_next_82 : decode cX7_next 82 = .ok (.iconst (-1), 1) := by decide +kernel
theorem dX7_next_83 : decode cX7_next 83 = .ok (.ireturn, 1) := by decide +kernel
theorem dX7_date_0 : decode cX7_date 0 = .ok (.aload_n 0, 1) := by decide +kernel
theorem dX7_date_1 : decode cX7_date 1 = .ok (.iload_n 1, 1) := by decide +kernel
theorem dX7_date_2 : decode cX7_date 2 = .ok (.invokevirtual 100, 3) := by decide +kernel
theorem dX7_date_5 : decode cX7_date 5 = .ok (.astore_n 3, 1) := by decide +kernel
theorem dX7_date_6 : decode cX7_date 6 = .ok (.iload_n 2, 1) := by decide +kernel
theorem dX7_date_7 : decode cX7_date 7 = .ok (.ifCond .ge 11, 3) := by decide +kernel
theorem dX7_date_10 : decode cX7_date 10 = .ok (.new 66, 3) := by decide +kernel
theorem dX7_date_13 : decode cX7_date 13 = .ok (.dup, 1) := by decide +kernel
theorem dX7_date_14 : decode cX7_date 14 = .ok (.invokespecial 68, 3) := by decide +kernel
theorem dX7_date_17 : decode cX7_date 17 = .ok (.athrow, 1) := by decide +kernel
theorem dX7_date_18 : decode cX7_date 18 = .ok (.iload_n 2, 1) := by decide +kernel
theorem dX7_date_19 : decode cX7_date 19 = .ok (.istore 4, 2) := by decide +kernel
theorem dX7_date_21 : decode cX7_date 21 = .ok (.iconst 0, 1) := by decide +kernel
theorem dX7_date_22 : decode cX7_date 22 = .ok (.istore 5, 2) := by decide +kernel
theorem dX7_date_24 : decode cX7_date 24 = .ok (.iload 5, 2) := by decide +kernel
theorem dX7_date_26 : decode cX7_date 26 = .ok (.sipush 3600, 3) := by decide +kernel
theorem dX7_date_29 : decode cX7_date 29 = .ok (.if_icmp .ge 63, 3) := by decide +kernel
theorem dX7_date_32 : decode cX7_date 32 = .ok (.aload_n 3, 1) := by decide +kernel
theorem dX7_date_33 : decode cX7_date 33 = .ok (.iload 5, 2) := by decide +kernel
theorem dX7_date_35 : decode cX7_date 35 = .ok (.invokevirtual 122, 3) := by decide +kernel
theorem dX7_date_38 : decode cX7_date 38 = .ok (.istore 6, 2) := by decide +kernel
theorem dX7_date_40 : decode cX7_date 40 = .ok (.iload 6, 2) := by decide +kernel
theorem dX7_date_42 : decode cX7_date 42 = .ok (.invokestatic 138, 3) := by decide +kernel
theorem dX7_date_45 : decode cX7_date 45 = .ok (.istore 7, 2) := by decide +kernel
theorem dX7_date_47 : decode cX7_date 47 = .ok (.iload 4, 2) := by decide +kernel
theorem dX7_date_49 : decode cX7_date 49 = .ok (.iload 7, 2) := by decide +kernel
theorem dX7_date_51 : decode cX7_date 51 = .ok (.if_icmp .ge 28, 3) := by decide +kernel
theorem dX7_date_54 : decode cX7_date 54 = .ok (.iload 6, 2) := by decide +kernel
theorem dX7_date_56 : decode cX7_date 56 = .ok (.iload 6, 2) := by decide +kernel
theorem dX7_date_58 : decode cX7_date 58 = .ok (.iload 4, 2) := by decide +kernel
theorem dX7_date_60 : decode cX7_date 60 = .ok (.invokestatic 141, 3) := by decide +kernel
theorem dX7_date_63 : decode cX7_date 63 = .ok (.iconst (-1), 1) := by decide +kernel
theorem dX7_date_64 : decode cX7_date 64 = .ok (.ixor, 1) := by decide +kernel
theorem dX7_date_65 : decode cX7_date 65 = .ok (.iand, 1) := by decide +kernel
theorem dX7_date_66 : decode cX7_date 66 = .ok (.istore 8, 2) := by decide +kernel
theorem dX7_date_68 : decode cX7_date 68 = .ok (.iload 5, 2) := by decide +kernel
theorem dX7_date_70 : decode cX7_date 70 = .ok (.iload 8, 2) := by decide +kernel
theorem dX7_date_72 : decode cX7_date 72 = .ok (.invokestatic 129, 3) := by decide +kernel
theorem dX7_date_75 : decode cX7_date 75 = .ok (.invokestatic 134, 3) := by decide +kernel
theorem dX7_date_78 : decode cX7_date 78 = .ok (.ireturn, 1) := by decide +kernel
theorem dX7_date_79 : decode cX7_date 79 = .ok (.iload 4, 2) := by decide +kernel
theorem dX7_date_81 : decode cX7_date 81 = .ok (.iload 7, 2) := by decide +kernel
theorem dX7_date_83 : decode cX7_date 83 = .ok (.isub, 1) := by decide +kernel
theorem dX7_date_84 : decode cX7_date 84 = .ok (.istore 4, 2) := by decide +kernel
theorem dX7_date_86 : decode cX7_date 86 = .ok (.iinc 5 1, 3) := by decide +kernel
theorem dX7_date_89 : decode cX7_date 89 = .ok (.goto (-65), 3) := by decide +kernel
theorem dX7_date_92 : decode cX7_date 92 = .ok (.iconst (-1), 1) := by decide +kernel
theorem dX7_date_93 : decode cX7_date 93 = .ok (.ireturn, 1) := by decide +kernel
theorem dX7_times_0 : decode cX7_times 0 = .ok (.aload_n 0, 1) := by decide +kernel
theorem dX7_times_1 : decode cX7_times 1 = .ok (.iload_n 1, 1) := by decide +kernel
theorem dX7_times_2 : decode cX7_times 2 = .ok (.invokevirtual 100, 3) := by decide +kernel
theorem dX7_times_5 : decode cX7_times 5 = .ok (.astore 4, 2) := by decide +kernel
theorem dX7_times_7 : decode cX7_times 7 = .ok (.iload_n 2, 1) := by decide +kernel
theorem dX7_times_8 : decode cX7_times 8 = .ok (.invokestatic 71, 3) := by decide +kernel
theorem dX7_times_11 : decode cX7_times 11 = .ok (.iload_n 3, 1) := by decide +kernel
theorem dX7_times_12 : decode cX7_times 12 = .ok (.invokestatic 71, 3) := by decide +kernel
theorem dX7_times_15 : decode cX7_times 15 = .ok (.iload_n 3, 1) := by decide +kernel
theorem dX7_times_16 : decode cX7_times 16 = .ok (.invokestatic 118, 3) := by decide +kernel
theorem dX7_times_19 : decode cX7_times 19 = .ok (.istore 5, 2) := by decide +kernel
theorem dX7_times_21 : decode cX7_times 21 = .ok (.iconst 0, 1) := by decide +kernel
theorem dX7_times_22 : decode cX7_times 22 = .ok (.istore 6, 2) := by decide +kernel
theorem dX7_times_24 : decode cX7_times 24 = .ok (.iload_n 2, 1) := by decide +kernel
theorem dX7_times_25 : decode cX7_times 25 = .ok (.invokestatic 118, 3) := by decide +kernel
theorem dX7_times_28 : decode cX7_times 28 = .ok (.istore 7, 2) := by decide +kernel
theorem dX7_times_30 : decode cX7_times 30 = .ok (.iload 7, 2) := by decide +kernel
theorem dX7_times_32 : decode cX7_times 32 = .ok (.iload 5, 2) := by decide +kernel
theorem dX7_times_34 : decode cX7_times 34 = .ok (.if_icmp .gt 32, 3) := by decide +kernel
theorem dX7_times_37 : decode cX7_times 37 = .ok (.iload 6, 2) := by decide +kernel
theorem dX7_times_39 : decode cX7_times 39 = .ok (.aload 4, 2) := by decide +kernel
theorem dX7_times_41 : decode cX7_times 41 = .ok (.iload 7, 2) := by decide +kernel
theorem dX7_times_43 : decode cX7_times 43 = .ok (.invokevirtual 122, 3) := by decide +kernel
theorem dX7_times_46 : decode cX7_times 46 = .ok (.iload 7, 2) := by decide +kernel
theorem dX7_times_48 : decode cX7_times 48 = .ok (.iload_n 2, 1) := by decide +kernel
theorem dX7_times_49 : decode cX7_times 49 = .ok (.iload_n 3, 1) := by decide +kernel
theorem dX7_times_50 : decode cX7_times 50 = .ok (.invokestatic 144, 3) := by decide +kernel
theorem dX7_times_53 : decode cX7_times 53 = .ok (.iand, 1) := by decide +kernel
theorem dX7_times_54 : decode cX7_times 54 = .ok (.invokestatic 138, 3) := by decide +kernel
theorem dX7_times_57 : decode cX7_times 57 = .ok (.iadd, 1) := by decide +kernel
theorem dX7_times_58 : decode cX7_times 58 = .ok (.istore 6, 2) := by decide +kernel
theorem dX7_times_60 : decode cX7_times 60 = .ok (.iinc 7 1, 3) := by decide +kernel
theorem dX7_times_63 : decode cX7_times 63 = .ok (.goto (-33), 3) := by decide +kernel
theorem dX7_times_66 : decode cX7_times 66 = .ok (.iload 6, 2) := by decide +kernel
theorem dX7_times_68 : decode cX7_times 68 = .ok (.ireturn, 1) := by decide +kernel
theorem dX7_list_0 : decode cX7_list 0 = .ok (.iload_n 1, 1) := by decide +kernel
theorem dX7_list_1 : decode cX7_list 1 = .ok (.invokestatic 71, 3) := by decide +kernel
theorem dX7_list_4 : decode cX7_list 4 = .ok (.iload_n 2, 1) := by decide +kernel
theorem dX7_list_5 : decode cX7_list 5 = .ok (.invokestatic 71, 3) := by decide +kernel
theorem dX7_list_8 : decode cX7_list 8 = .ok (.aload_n 0, 1) := by decide +kernel
theorem dX7_list_9 : decode cX7_list 9 = .ok (.iconst 0, 1) := by decide +kernel
theorem dX7_list_10 : decode cX7_list 10 = .ok (.putfield 59, 3) := by decide +kernel
theorem dX7_list_13 : decode cX7_list 13 = .ok (.iload_n 2, 1) := by decide +kernel
theorem dX7_list_14 : decode cX7_list 14 = .ok (.invokestatic 118, 3) := by decide +kernel
theorem dX7_list_17 : decode cX7_list 17 = .ok (.istore_n 3, 1) := by decide +kernel
theorem dX7_list_18 : decode cX7_list 18 = .ok (.iload_n 1, 1) := by decide +kernel
theorem dX7_list_19 : decode cX7_list 19 = .ok (.invokestatic 118, 3) := by decide +kernel
theorem dX7_list_22 : decode cX7_list 22 = .ok (.istore 4, 2) := by decide +kernel
theorem dX7_list_24 : decode cX7_list 24 = .ok (.iload 4, 2) := by decide +kernel
theorem dX7_list_26 : decode cX7_list 26 = .ok (.iload_n 3, 1) := by decide +kernel
theorem dX7_list_27 : decode cX7_list 27 = .ok (.if_icmp .gt 39, 3) := by decide +kernel
theorem dX7_list_30 : decode cX7_list 30 = .ok (.aload_n 0, 1) := by decide +kernel
theorem dX7_list_31 : decode cX7_list 31 = .ok (.getfield 59, 3) := by decide +kernel
theorem dX7_list_34 : decode cX7_list 34 = .ok (.sipush 300, 3) := by decide +kernel
theorem dX7_list_37 : decode cX7_list 37 = .ok (.if_icmp .ge 29, 3) := by decide +kernel
theorem dX7_list_40 : decode cX7_list 40 = .ok (.aload_n 0, 1) := by decide +kernel
theorem dX7_list_41 : decode cX7_list 41 = .ok (.iload 4, 2) := by decide +kernel
theorem dX7_list_43 : decode cX7_list 43 = .ok (.aload_n 0, 1) := by decide +kernel
theorem dX7_list_44 : decode cX7_list 44 = .ok (.iload 4, 2) := by decide +kernel
theorem dX7_list_46 : decode cX7_list 46 = .ok (.invokevirtual 148, 3) := by decide +kernel
theorem dX7_list_49 : decode cX7_list 49 = .ok (.iload 4, 2) := by decide +kernel
theorem dX7_list_51 : decode cX7_list 51 = .ok (.iload_n 1, 1) := by decide +kernel
theorem dX7_list_52 : decode cX7_list 52 = .ok (.iload_n 2, 1) := by decide +kernel
theorem dX7_list_53 : decode cX7_list 53 = .ok (.invokestatic 144, 3) := by decide +kernel
theorem dX7_list_56 : decode cX7_list 56 = .ok (.iand, 1) := by decide +kernel
theorem dX7_list_57 : decode cX7_list 57 = .ok (.invokevirtual 151, 3) := by decide +kernel
theorem dX7_list_60 : decode cX7_list 60 = .ok (.iinc 4 1, 3) := by decide +kernel
theorem dX7_list_63 : decode cX7_list 63 = .ok (.goto (-39), 3) := by decide +kernel
theorem dX7_list_66 : decode cX7_list 66 = .ok (.aload_n 0, 1) := by decide +kernel
theorem dX7_list_67 : decode cX7_list 67 = .ok (.getfield 59, 3) := by decide +kernel
theorem dX7_list_70 : decode cX7_list 70 = .ok (.ireturn, 1) := by decide +kernel
theorem dX7_item_0 : decode cX7_item 0 = .ok (.iload_n 1, 1) := by decide +kernel
theorem dX7_item_1 : decode cX7_item 1 = .ok (.ifCond .lt 11, 3) := by decide +kernel
theorem dX7_item_4 : decode cX7_item 4 = .ok (.iload_n 1, 1) := by decide +kernel
theorem dX7_item_5 : decode cX7_item 5 = .ok (.aload_n 0, 1) := by decide +kernel
theorem dX7_item_6 : decode cX7_item 6 = .ok (.getfield 59, 3) := by decide +kernel
theorem dX7_item_9 : decode cX7_item 9 = .ok (.if_icmp .lt 11, 3) := by decide +kernel
theorem dX7_item_12 : decode cX7_item 12 = .ok (.new 155, 3) := by decide +kernel
theorem dX7_item_15 : decode cX7_item 15 = .ok (.dup, 1) := by decide +kernel
theorem dX7_item_16 : decode cX7_item 16 = .ok (.invokespecial 157, 3) := by decide +kernel
theorem dX7_item_19 : decode cX7_item 19 = .ok (.athrow, 1) := by decide +kernel
theorem dX7_item_20 : decode cX7_item 20 = .ok (.aload_n 0, 1) := by decide +kernel
theorem dX7_item_21 : decode cX7_item 21 = .ok (.getfield 55, 3) := by decide +kernel
theorem dX7_item_24 : decode cX7_item 24 = .ok (.iload_n 1, 1) := by decide +kernel
theorem dX7_item_25 : decode cX7_item 25 = .ok (.laload, 1) := by decide +kernel
theorem dX7_item_26 : decode cX7_item 26 = .ok (.lreturn, 1) := by decide +kernel
theorem dX7_busiest_0 : decode cX7_busiest 0 = .ok (.iload_n 1, 1) := by decide +kernel
theorem dX7_busiest_1 : decode cX7_busiest 1 = .ok (.invokestatic 71, 3) := by decide +kernel
theorem dX7_busiest_4 : decode cX7_busiest 4 = .ok (.iload_n 2, 1) := by decide +kernel
theorem dX7_busiest_5 : decode cX7_busiest 5 = .ok (.invokestatic 71, 3) := by decide +kernel
theorem dX7_busiest_8 : decode cX7_busiest 8 = .ok (.iload_n 2, 1) := by decide +kernel
theorem dX7_busiest_9 : decode cX7_busiest 9 = .ok (.invokestatic 118, 3) := by decide +kernel
theorem dX7_busiest_12 : decode cX7_busiest 12 = .ok (.istore_n 3, 1) := by decide +kernel
theorem dX7_busiest_13 : decode cX7_busiest 13 = .ok (.iconst (-1), 1) := by decide +kernel
theorem dX7_busiest_14 : decode cX7_busiest 14 = .ok (.istore 4, 2) := by decide +kernel
theorem dX7_busiest_16 : decode cX7_busiest 16 = .ok (.iconst 0, 1) := by decide +kernel
theorem dX7_busiest_17 : decode cX7_busiest 17 = .ok (.istore 5, 2) := by decide +kernel
theorem dX7_busiest_19 : decode cX7_busiest 19 = .ok (.iload_n 1, 1) := by decide +kernel
theorem dX7_busiest_20 : decode cX7_busiest 20 = .ok (.invokestatic 118, 3) := by decide +kernel
theorem dX7_busiest_23 : decode cX7_busiest 23 = .ok (.istore 6, 2) := by decide +kernel
theorem dX7_busiest_25 : decode cX7_busiest 25 = .ok (.iload 6, 2) := by decide +kernel
theorem dX7_busiest_27 : decode cX7_busiest 27 = .ok (.iload_n 3, 1) := by decide +kernel
theorem dX7_busiest_28 : decode cX7_busiest 28 = .ok (.if_icmp .gt 100, 3) := by decide +kernel
theorem dX7_busiest_31 : decode cX7_busiest 31 = .ok (.aload_n 0, 1) := by decide +kernel
theorem dX7_busiest_32 : decode cX7_busiest 32 = .ok (.iload 6, 2) := by decide +kernel
theorem dX7_busiest_34 : decode cX7_busiest 34 = .ok (.iload 6, 2) := by decide +kernel
theorem dX7_busiest_36 : decode cX7_busiest 36 = .ok (.iload_n 1, 1) := by decide +kernel
theorem dX7_busiest_37 : decode cX7_busiest 37 = .ok (.iload_n 2, 1) := by decide +kernel
theorem dX7_busiest_38 : decode cX7_busiest 38 = .ok (.invokestatic 144, 3) := by decide +kernel
theorem dX7_busiest_41 : decode cX7_busiest 41 = .ok (.invokevirtual 158, 3) := by decide +kernel
theorem dX7_busiest_44 : decode cX7_busiest 44 = .ok (.iconst 0, 1) := by decide +kernel
theorem dX7_busiest_45 : decode cX7_busiest 45 = .ok (.istore 7, 2) := by decide +kernel
theorem dX7_busiest_47 : decode cX7_busiest 47 = .ok (.ldc 128, 2) := by decide +kernel
theorem dX7_busiest_49 : decode cX7_busiest 49 = .ok (.istore 8, 2) := by decide +kernel
theorem dX7_busiest_51 : decode cX7_busiest 51 = .ok (.iconst 3, 1) := by decide +kernel
theorem dX7_busiest_52 : decode cX7_busiest 52 = .ok (.istore 9, 2) := by decide +kernel
theorem dX7_busiest_54 : decode cX7_busiest 54 = .ok (.iload 9, 2) := by decide +kernel
theorem dX7_busiest_56 : decode cX7_busiest 56 = .ok (.ifCond .lt 43, 3) := by decide +kernel
theorem dX7_busiest_59 : decode cX7_busiest 59 = .ok (.iload 8, 2) := by decide +kernel
theorem dX7_busiest_61 : decode cX7_busiest 61 = .ok (.aload_n 0, 1) := by decide +kernel
theorem dX7_busiest_62 : decode cX7_busiest 62 = .ok (.getfield 62, 3) := by decide +kernel
theorem dX7_busiest_65 : decode cX7_busiest 65 = .ok (.iload 9, 2) := by decide +kernel
theorem dX7_busiest_67 : decode cX7_busiest 67 = .ok (.iaload, 1) := by decide +kernel
theorem dX7_busiest_68 : decode cX7_busiest 68 = .ok (.iand, 1) := by decide +kernel
theorem dX7_busiest_69 : decode cX7_busiest 69 = .ok (.ifCond .eq 24, 3) := by decide +kernel
theorem dX7_busiest_72 : decode cX7_busiest 72 = .ok (.iload 8, 2) := by decide +kernel
theorem dX7_busiest_74 : decode cX7_busiest 74 = .ok (.aload_n 0, 1) := by decide +kernel
theorem dX7_busiest_75 : decode cX7_busiest 75 = .ok (.getfield 62, 3) := by decide +kernel
theorem dX7_busiest_78 : decode cX7_busiest 78 = .ok (.iload 9, 2) := by decide +kernel
theorem dX7_busiest_80 : decode cX7_busiest 80 = .ok (.iaload, 1) := by decide +kernel
theorem dX7_busiest_81 : decode cX7_busiest 81 = .ok (.iand, 1) := by decide +kernel
theorem dX7_busiest_82 : decode cX7_busiest 82 = .ok (.istore 8, 2) := by decide +kernel
theorem dX7_busiest_84 : decode cX7_busiest 84 = .ok (.iload 7, 2) := by decide +kernel
theorem dX7_busiest_86 : decode cX7_busiest 86 = .ok (.iconst 1, 1) := by decide +kernel
theorem dX7_busiest_87 : decode cX7_busiest 87 = .ok (.iload 9, 2) := by decide +kernel
theorem dX7_busiest_89 : decode cX7_busiest 89 = .ok (.ishl, 1) := by decide +kernel
theorem dX7_busiest_90 : decode cX7_busiest 90 = .ok (.ior, 1) := by decide +kernel
theorem dX7_busiest_91 : decode cX7_busiest 91 = .ok (.istore 7, 2) := by decide +kernel
theorem dX7_busiest_93 : decode cX7_busiest 93 = .ok (.iinc 9 (-1), 3) := by decide +kernel
theorem dX7_busiest_96 : decode cX7_busiest 96 = .ok (.goto (-42), 3) := by decide +kernel
theorem dX7_busiest_99 : decode cX7_busiest 99 = .ok (.iload 7, 2) := by decide +kernel
theorem dX7_busiest_101 : decode cX7_busiest 101 = .ok (.iload 5, 2) := by decide +kernel
theorem dX7_busiest_103 : decode cX7_busiest 103 = .ok (.if_icmp .le 19, 3) := by decide +kernel
theorem dX7_busiest_106 : decode cX7_busiest 106 = .ok (.iload 7, 2) := by decide +kernel
theorem dX7_busiest_108 : decode cX7_busiest 108 = .ok (.istore 5, 2) := by decide +kernel
theorem dX7_busiest_110 : decode cX7_busiest 110 = .ok (.iload 6, 2) := by decide +kernel
theorem dX7_busiest_112 : decode cX7_busiest 112 = .ok (.iload 8, 2) := by decide +kernel
theorem dX7_busiest_114 : decode cX7_busiest 114 = .ok (.invokestatic 129, 3) := by decide +kernel
theorem dX7_busiest_117 : decode cX7_busiest 117 = .ok (.invokestatic 134, 3) := by decide +kernel
theorem dX7_busiest_120 : decode cX7_busiest 120 = .ok (.istore 4, 2) := by decide +kernel
theorem dX7_busiest_122 : decode cX7_busiest 122 = .ok (.iinc 6 1, 3) := by decide +kernel
theorem dX7_busiest_125 : decode cX7_busiest 125 = .ok (.goto (-100), 3) := by decide +kernel
theorem dX7_busiest_128 : decode cX7_busiest 128 = .ok (.iload 4, 2) := by decide +kernel
theorem dX7_busiest_130 : decode cX7_busiest 130 = .ok (.ireturn, 1) := by decide +kernel
theorem dX7_quiet_0 : decode cX7_quiet 0 = .ok (.iload_n 1, 1) := by decide +kernel
theorem dX7_quiet_1 : decode cX7_quiet 1 = .ok (.invokestatic 71, 3) := by decide +kernel
theorem dX7_quiet_4 : decode cX7_quiet 4 = .ok (.iload_n 2, 1) := by decide +kernel
theorem dX7_quiet_5 : decode cX7_quiet 5 = .ok (.iconst 1, 1) := by decide +kernel
theorem dX7_quiet_6 : decode cX7_quiet 6 = .ok (.if_icmp .lt 10, 3) := by decide +kernel
theorem dX7_quiet_9 : decode cX7_quiet 9 = .ok (.iload_n 2, 1) := by decide +kernel
theorem dX7_quiet_10 : decode cX7_quiet 10 = .ok (.sipush 1000, 3) := by decide +kernel
theorem dX7_quiet_13 : decode cX7_quiet 13 = .ok (.if_icmp .le 11, 3) := by decide +kernel
theorem dX7_quiet_16 : decode cX7_quiet 16 = .ok (.new 66, 3) := by decide +kernel
theorem dX7_quiet_19 : decode cX7_quiet 19 = .ok (.dup, 1) := by decide +kernel
theorem dX7_quiet_20 : decode cX7_quiet 20 = .ok (.invokespecial 68, 3) := by decide +kernel
theorem dX7_quiet_23 : decode cX7_quiet 23 = .ok (.athrow, 1) := by decide +kernel
theorem dX7_quiet_24 : decode cX7_quiet 24 = .ok (.iload_n 1, 1) := by decide +kernel
theorem dX7_quiet_25 : decode cX7_quiet 25 = .ok (.invokestatic 118, 3) := by decide +kernel
theorem dX7_quiet_28 : decode cX7_quiet 28 = .ok (.istore_n 3, 1) := by decide +kernel
theorem dX7_quiet_29 : decode cX7_quiet 29 = .ok (.aload_n 0, 1) := by decide +kernel
theorem dX7_quiet_30 : decode cX7_quiet 30 = .ok (.getfield 20, 3) := by decide +kernel
theorem dX7_quiet_33 : decode cX7_quiet 33 = .ok (.iload_n 1, 1) := by decide +kernel
theorem dX7_quiet_34 : decode cX7_quiet 34 = .ok (.invokevirtual 161, 3) := by decide +kernel
theorem dX7_quiet_37 : decode cX7_quiet 37 = .ok (.istore 4, 2) := by decide +kernel
theorem dX7_quiet_39 : decode cX7_quiet 39 = .ok (.iload_n 3, 1) := by decide +kernel
theorem dX7_quiet_40 : decode cX7_quiet 40 = .ok (.istore 5, 2) := by decide +kernel
theorem dX7_quiet_42 : decode cX7_quiet 42 = .ok (.iload 5, 2) := by decide +kernel
theorem dX7_quiet_44 : decode cX7_quiet 44 = .ok (.sipush 3600, 3) := by decide +kernel
theorem dX7_quiet_47 : decode cX7_quiet 47 = .ok (.if_icmp .ge 105, 3) := by decide +kernel
theorem dX7_quiet_50 : decode cX7_quiet 50 = .ok (.aload_n 0, 1) := by decide +kernel
theorem dX7_quiet_51 : decode cX7_quiet 51 = .ok (.iload 5, 2) := by decide +kernel
theorem dX7_quiet_53 : decode cX7_quiet 53 = .ok (.invokevirtual 148, 3) := by decide +kernel
theorem dX7_quiet_56 : decode cX7_quiet 56 = .ok (.iload 5, 2) := by decide +kernel
theorem dX7_quiet_58 : decode cX7_quiet 58 = .ok (.iload_n 3, 1) := by decide +kernel
theorem dX7_quiet_59 : decode cX7_quiet 59 = .ok (.if_icmp .ne 12, 3) := by decide +kernel
theorem dX7_quiet_62 : decode cX7_quiet 62 = .ok (.iconst (-1), 1) := by decide +kernel
theorem dX7_quiet_63 : decode cX7_quiet 63 = .ok (.iload_n 1, 1) := by decide +kernel
theorem dX7_quiet_64 : decode cX7_quiet 64 = .ok (.invokestatic 125, 3) := by decide +kernel
theorem dX7_quiet_67 : decode cX7_quiet 67 = .ok (.ishl, 1) := by decide +kernel
theorem dX7_quiet_68 : decode cX7_quiet 68 = .ok (.goto 5, 3) := by decide +kernel
theorem dX7_quiet_71 : decode cX7_quiet 71 = .ok (.ldc 128, 2) := by decide +kernel
theorem dX7_quiet_73 : decode cX7_quiet 73 = .ok (.iand, 1) := by decide +kernel
theorem dX7_quiet_74 : decode cX7_quiet 74 = .ok (.istore 6, 2) := by decide +kernel
theorem dX7_quiet_76 : decode cX7_quiet 76 = .ok (.iload 6, 2) := by decide +kernel
theorem dX7_quiet_78 : decode cX7_quiet 78 = .ok (.invokestatic 138, 3) := by decide +kernel
theorem dX7_quiet_81 : decode cX7_quiet 81 = .ok (.istore 7, 2) := by decide +kernel
theorem dX7_quiet_83 : decode cX7_quiet 83 = .ok (.iload 7, 2) := by decide +kernel
theorem dX7_quiet_85 : decode cX7_quiet 85 = .ok (.ifCond .le 61, 3) := by decide +kernel
theorem dX7_quiet_88 : decode cX7_quiet 88 = .ok (.aload_n 0, 1) := by decide +kernel
theorem dX7_quiet_89 : decode cX7_quiet 89 = .ok (.getfield 20, 3) := by decide +kernel
theorem dX7_quiet_92 : decode cX7_quiet 92 = .ok (.getfield 164, 3) := by decide +kernel
theorem dX7_quiet_95 : decode cX7_quiet 95 = .ok (.iload 5, 2) := by decide +kernel
theorem dX7_quiet_97 : decode cX7_quiet 97 = .ok (.iaload, 1) := by decide +kernel
theorem dX7_quiet_98 : decode cX7_quiet 98 = .ok (.iload 6, 2) := by decide +kernel
theorem dX7_quiet_100 : decode cX7_quiet 100 = .ok (.invokestatic 129, 3) := by decide +kernel
theorem dX7_quiet_103 : decode cX7_quiet 103 = .ok (.iadd, 1) := by decide +kernel
theorem dX7_quiet_104 : decode cX7_quiet 104 = .ok (.istore 8, 2) := by decide +kernel
theorem dX7_quiet_106 : decode cX7_quiet 106 = .ok (.iload 8, 2) := by decide +kernel
theorem dX7_quiet_108 : decode cX7_quiet 108 = .ok (.iload 4, 2) := by decide +kernel
theorem dX7_quiet_110 : decode cX7_quiet 110 = .ok (.isub, 1) := by decide +kernel
theorem dX7_quiet_111 : decode cX7_quiet 111 = .ok (.iload_n 2, 1) := by decide +kernel
theorem dX7_quiet_112 : decode cX7_quiet 112 = .ok (.if_icmp .lt 13, 3) := by decide +kernel
theorem dX7_quiet_115 : decode cX7_quiet 115 = .ok (.aload_n 0, 1) := by decide +kernel
theorem dX7_quiet_116 : decode cX7_quiet 116 = .ok (.getfield 20, 3) := by decide +kernel
theorem dX7_quiet_119 : decode cX7_quiet 119 = .ok (.iload 4, 2) := by decide +kernel
theorem dX7_quiet_121 : decode cX7_quiet 121 = .ok (.invokevirtual 167, 3) := by decide +kernel
theorem dX7_quiet_124 : decode cX7_quiet 124 = .ok (.ireturn, 1) := by decide +kernel
theorem dX7_quiet_125 : decode cX7_quiet 125 = .ok (.iload 8, 2) := by decide +kernel
theorem dX7_quiet_127 : decode cX7_quiet 127 = .ok (.iconst 1, 1) := by decide +kernel
theorem dX7_quiet_128 : decode cX7_quiet 128 = .ok (.iadd, 1) := by decide +kernel
theorem dX7_quiet_129 : decode cX7_quiet 129 = .ok (.istore 4, 2) := by decide +kernel
theorem dX7_quiet_131 : decode cX7_quiet 131 = .ok (.iload 6, 2) := by decide +kernel
theorem dX7_quiet_133 : decode cX7_quiet 133 = .ok (.iload 6, 2) := by decide +kernel
theorem dX7_quiet_135 : decode cX7_quiet 135 = .ok (.iconst 1, 1) := by decide +kernel
theorem dX7_quiet_136 : decode cX7_quiet 136 = .ok (.isub, 1) := by decide +kernel
theorem dX7_quiet_137 : decode cX7_quiet 137 = .ok (.iand, 1) := by decide +kernel
theorem dX7_quiet_138 : decode cX7_quiet 138 = .ok (.istore 6, 2) := by decide +kernel
theorem dX7_quiet_140 : decode cX7_quiet 140 = .ok (.iinc 7 (-1), 3) := by decide +kernel
theorem dX7_quiet_143 : decode cX7_quiet 143 = .ok (.goto (-60), 3) := by decide +kernel
theorem dX7_quiet_146 : decode cX7_quiet 146 = .ok (.iinc 5 1, 3) := by decide +kernel
theorem dX7_quiet_149 : decode cX7_quiet 149 = .ok (.goto (-107), 3) := by decide +kernel
theorem dX7_quiet_152 : decode cX7_quiet 152 = .ok (.aload_n 0, 1) := by decide +kernel
theorem dX7_quiet_153 : decode cX7_quiet 153 = .ok (.getfield 20, 3) := by decide +kernel
theorem dX7_quiet_156 : decode cX7_quiet 156 = .ok (.getfield 164, 3) := by decide +kernel
theorem dX7_quiet_159 : decode cX7_quiet 159 = .ok (.sipush 3600, 3) := by decide +kernel
theorem dX7_quiet_162 : decode cX7_quiet 162 = .ok (.iaload, 1) := by decide +kernel
theorem dX7_quiet_163 : decode cX7_quiet 163 = .ok (.iload 4, 2) := by decide +kernel
theorem dX7_quiet_165 : decode cX7_quiet 165 = .ok (.isub, 1) := by decide +kernel
theorem dX7_quiet_166 : decode cX7_quiet 166 = .ok (.iload_n 2, 1) := by decide +kernel
theorem dX7_quiet_167 : decode cX7_quiet 167 = .ok (.if_icmp .lt 15, 3) := by decide +kernel
theorem dX7_quiet_170 : decode cX7_quiet 170 = .ok (.aload_n 0, 1) := by decide +kernel
theorem dX7_quiet_171 : decode cX7_quiet 171 = .ok (.getfield 20, 3) := by decide +kernel
theorem dX7_quiet_174 : decode cX7_quiet 174 = .ok (.iload 4, 2) := by decide +kernel
theorem dX7_quiet_176 : decode cX7_quiet 176 = .ok (.invokevirtual 167, 3) := by decide +kernel
theorem dX7_quiet_179 : decode cX7_quiet 179 = .ok (.goto 4, 3) := by decide +kernel
theorem dX7_quiet_182 : decode cX7_quiet 182 = .ok (.iconst (-1), 1) := by decide +kernel
theorem dX7_quiet_183 : decode cX7_quiet 183 = .ok (.ireturn, 1) := by decide +kernel
theorem dX7_shifted_0 : decode cX7_shifted 0 = .ok (.iload_n 1, 1) := by decide +kernel
theorem dX7_shifted_1 : decode cX7_shifted 1 = .ok (.invokestatic 71, 3) := by decide +kernel
theorem dX7_shifted_4 : decode cX7_shifted 4 = .ok (.aload_n 0, 1) := by decide +kernel
theorem dX7_shifted_5 : decode cX7_shifted 5 = .ok (.getfield 20, 3) := by decide +kernel
theorem dX7_shifted_8 : decode cX7_shifted 8 = .ok (.iload_n 1, 1) := by decide +kernel
theorem dX7_shifted_9 : decode cX7_shifted 9 = .ok (.invokevirtual 161, 3) := by decide +kernel
theorem dX7_shifted_12 : decode cX7_shifted 12 = .ok (.i2l, 1) := by decide +kernel
theorem dX7_shifted_13 : decode cX7_shifted 13 = .ok (.iload_n 2, 1) := by decide +kernel
theorem dX7_shifted_14 : decode cX7_shifted 14 = .ok (.i2l, 1) := by decide +kernel
theorem dX7_shifted_15 : decode cX7_shifted 15 = .ok (.ladd, 1) := by decide +kernel
theorem dX7_shifted_16 : decode cX7_shifted 16 = .ok (.lstore_n 3, 1) := by decide +kernel
theorem dX7_shifted_17 : decode cX7_shifted 17 = .ok (.lload_n 3, 1) := by decide +kernel
theorem dX7_shifted_18 : decode cX7_shifted 18 = .ok (.lconst 0, 1) := by decide +kernel
theorem dX7_shifted_19 : decode cX7_shifted 19 = .ok (.lcmp, 1) := by decide +kernel
theorem dX7_shifted_20 : decode cX7_shifted 20 = .ok (.ifCond .lt 20, 3) := by decide +kernel
theorem dX7_shifted_23 : decode cX7_shifted 23 = .ok (.lload_n 3, 1) := by decide +kernel
theorem dX7_shifted_24 : decode cX7_shifted 24 = .ok (.aload_n 0, 1) := by decide +kernel
theorem dX7_shifted_25 : decode cX7_shifted 25 = .ok (.getfield 20, 3) := by decide +kernel
theorem dX7_shifted_28 : decode cX7_shifted 28 = .ok (.getfield 164, 3) := by decide +kernel
theorem dX7_shifted_31 : decode cX7_shifted 31 = .ok (.sipush 3600, 3) := by decide +kernel
theorem dX7_shifted_34 : decode cX7_shifted 34 = .ok (.iaload, 1) := by decide +kernel
theorem dX7_shifted_35 : decode cX7_shifted 35 = .ok (.i2l, 1) := by decide +kernel
theorem dX7_shifted_36 : decode cX7_shifted 36 = .ok (.lcmp, 1) := by decide +kernel
theorem dX7_shifted_37 : decode cX7_shifted 37 = .ok (.ifCond .lt 5, 3) := by decide +kernel
theorem dX7_shifted_40 : decode cX7_shifted 40 = .ok (.iconst (-1), 1) := by decide +kernel
theorem dX7_shifted_41 : decode cX7_shifted 41 = .ok (.ireturn, 1) := by decide +kernel
theorem dX7_shifted_42 : decode cX7_shifted 42 = .ok (.aload_n 0, 1) := by decide +kernel
theorem dX7_shifted_43 : decode cX7_shifted 43 = .ok (.getfield 20, 3) := by decide +kernel
theorem dX7_shifted_46 : decode cX7_shifted 46 = .ok (.lload_n 3, 1) := by decide +kernel
theorem dX7_shifted_47 : decode cX7_shifted 47 = .ok (.l2i, 1) := by decide +kernel
theorem dX7_shifted_48 : decode cX7_shifted 48 = .ok (.invokevirtual 167, 3) := by decide +kernel
theorem dX7_shifted_51 : decode cX7_shifted 51 = .ok (.ireturn, 1) := by decide +kernel
theorem dX7_requireDate_0 : decode cX7_requireDate 0 = .ok (.iload_n 0, 1) := by decide +kernel
theorem dX7_requireDate_1 : decode cX7_requireDate 1 = .ok (.invokestatic 170, 3) := by decide +kernel
theorem dX7_requireDate_4 : decode cX7_requireDate 4 = .ok (.ifCond .ne 11, 3) := by decide +kernel
theorem dX7_requireDate_7 : decode cX7_requireDate 7 = .ok (.new 66, 3) := by decide +kernel
theorem dX7_requireDate_10 : decode cX7_requireDate 10 = .ok (.dup, 1) := by decide +kernel
theorem dX7_requireDate_11 : decode cX7_requireDate 11 = .ok (.invokespecial 68, 3) := by decide +kernel
theorem dX7_requireDate_14 : decode cX7_requireDate 14 = .ok (.athrow, 1) := by decide +kernel
theorem dX7_requireDate_15 : decode cX7_requireDate 15 = .ok (.return_, 1) := by decide +kernel
theorem dX7_knownThing_0 : decode cX7_knownThing 0 = .ok (.iload_n 1, 1) := by decide +kernel
theorem dX7_knownThing_1 : decode cX7_knownThing 1 = .ok (.ifCond .lt 9, 3) := by decide +kernel
theorem dX7_knownThing_4 : decode cX7_knownThing 4 = .ok (.iload_n 1, 1) := by decide +kernel
theorem dX7_knownThing_5 : decode cX7_knownThing 5 = .ok (.bipush 12, 2) := by decide +kernel
theorem dX7_knownThing_7 : decode cX7_knownThing 7 = .ok (.if_icmp .lt 11, 3) := by decide +kernel
theorem dX7_knownThing_10 : decode cX7_knownThing 10 = .ok (.new 155, 3) := by decide +kernel
theorem dX7_knownThing_13 : decode cX7_knownThing 13 = .ok (.dup, 1) := by decide +kernel
theorem dX7_knownThing_14 : decode cX7_knownThing 14 = .ok (.invokespecial 157, 3) := by decide +kernel
theorem dX7_knownThing_17 : decode cX7_knownThing 17 = .ok (.athrow, 1) := by decide +kernel
theorem dX7_knownThing_18 : decode cX7_knownThing 18 = .ok (.aload_n 0, 1) := by decide +kernel
theorem dX7_knownThing_19 : decode cX7_knownThing 19 = .ok (.getfield 51, 3) := by decide +kernel
theorem dX7_knownThing_22 : decode cX7_knownThing 22 = .ok (.iload_n 1, 1) := by decide +kernel
theorem dX7_knownThing_23 : decode cX7_knownThing 23 = .ok (.aaload, 1) := by decide +kernel
theorem dX7_knownThing_24 : decode cX7_knownThing 24 = .ok (.astore_n 2, 1) := by decide +kernel
theorem dX7_knownThing_25 : decode cX7_knownThing 25 = .ok (.aload_n 2, 1) := by decide +kernel
theorem dX7_knownThing_26 : decode cX7_knownThing 26 = .ok (.ifnull 10, 3) := by decide +kernel
theorem dX7_knownThing_29 : decode cX7_knownThing 29 = .ok (.aload_n 2, 1) := by decide +kernel
theorem dX7_knownThing_30 : decode cX7_knownThing 30 = .ok (.getfield 104, 3) := by decide +kernel
theorem dX7_knownThing_33 : decode cX7_knownThing 33 = .ok (.ifCond .ne 11, 3) := by decide +kernel
theorem dX7_knownThing_36 : decode cX7_knownThing 36 = .ok (.new 155, 3) := by decide +kernel
theorem dX7_knownThing_39 : decode cX7_knownThing 39 = .ok (.dup, 1) := by decide +kernel
theorem dX7_knownThing_40 : decode cX7_knownThing 40 = .ok (.invokespecial 157, 3) := by decide +kernel
theorem dX7_knownThing_43 : decode cX7_knownThing 43 = .ok (.athrow, 1) := by decide +kernel
theorem dX7_knownThing_44 : decode cX7_knownThing 44 = .ok (.aload_n 2, 1) := by decide +kernel
theorem dX7_knownThing_45 : decode cX7_knownThing 45 = .ok (.areturn, 1) := by decide +kernel
theorem dX7_freeNumber_0 : decode cX7_freeNumber 0 = .ok (.iconst 0, 1) := by decide +kernel
theorem dX7_freeNumber_1 : decode cX7_freeNumber 1 = .ok (.istore_n 1, 1) := by decide +kernel
theorem dX7_freeNumber_2 : decode cX7_freeNumber 2 = .ok (.iload_n 1, 1) := by decide +kernel
theorem dX7_freeNumber_3 : decode cX7_freeNumber 3 = .ok (.bipush 12, 2) := by decide +kernel
theorem dX7_freeNumber_5 : decode cX7_freeNumber 5 = .ok (.if_icmp .ge 29, 3) := by decide +kernel
theorem dX7_freeNumber_8 : decode cX7_freeNumber 8 = .ok (.aload_n 0, 1) := by decide +kernel
theorem dX7_freeNumber_9 : decode cX7_freeNumber 9 = .ok (.getfield 51, 3) := by decide +kernel
theorem dX7_freeNumber_12 : decode cX7_freeNumber 12 = .ok (.iload_n 1, 1) := by decide +kernel
theorem dX7_freeNumber_13 : decode cX7_freeNumber 13 = .ok (.aaload, 1) := by decide +kernel
theorem dX7_freeNumber_14 : decode cX7_freeNumber 14 = .ok (.astore_n 2, 1) := by decide +kernel
theorem dX7_freeNumber_15 : decode cX7_freeNumber 15 = .ok (.aload_n 2, 1) := by decide +kernel
theorem dX7_freeNumber_16 : decode cX7_freeNumber 16 = .ok (.ifnull 10, 3) := by decide +kernel
theorem dX7_freeNumber_19 : decode cX7_freeNumber 19 = .ok (.aload_n 2, 1) := by decide +kernel
theorem dX7_freeNumber_20 : decode cX7_freeNumber 20 = .ok (.getfield 104, 3) := by decide +kernel
theorem dX7_freeNumber_23 : decode cX7_freeNumber 23 = .ok (.ifCond .ne 5, 3) := by decide +kernel
theorem dX7_freeNumber_26 : decode cX7_freeNumber 26 = .ok (.iload_n 1, 1) := by decide +kernel
theorem dX7_freeNumber_27 : decode cX7_freeNumber 27 = .ok (.ireturn, 1) := by decide +kernel
theorem dX7_freeNumber_28 : decode cX7_freeNumber 28 = .ok (.iinc 1 1, 3) := by decide +kernel
theorem dX7_freeNumber_31 : decode cX7_freeNumber 31 = .ok (.goto (-29), 3) := by decide +kernel
theorem dX7_freeNumber_34 : decode cX7_freeNumber 34 = .ok (.iconst (-1), 1) := by decide +kernel
theorem dX7_freeNumber_35 : decode cX7_freeNumber 35 = .ok (.ireturn, 1) := by decide +kernel
theorem dX7_daysOfThing_0 : decode cX7_daysOfThing 0 = .ok (.aload_n 0, 1) := by decide +kernel
theorem dX7_daysOfThing_1 : decode cX7_daysOfThing 1 = .ok (.getfield 51, 3) := by decide +kernel
theorem dX7_daysOfThing_4 : decode cX7_daysOfThing 4 = .ok (.iload_n 1, 1) := by decide +kernel
theorem dX7_daysOfThing_5 : decode cX7_daysOfThing 5 = .ok (.aaload, 1) := by decide +kernel
theorem dX7_daysOfThing_6 : decode cX7_daysOfThing 6 = .ok (.astore_n 3, 1) := by decide +kernel
theorem dX7_daysOfThing_7 : decode cX7_daysOfThing 7 = .ok (.aload_n 3, 1) := by decide +kernel
theorem dX7_daysOfThing_8 : decode cX7_daysOfThing 8 = .ok (.ifnull 10, 3) := by decide +kernel
theorem dX7_daysOfThing_11 : decode cX7_daysOfThing 11 = .ok (.aload_n 3, 1) := by decide +kernel
theorem dX7_daysOfThing_12 : decode cX7_daysOfThing 12 = .ok (.getfield 104, 3) := by decide +kernel
theorem dX7_daysOfThing_15 : decode cX7_daysOfThing 15 = .ok (.ifCond .ne 7, 3) := by decide +kernel
theorem dX7_daysOfThing_18 : decode cX7_daysOfThing 18 = .ok (.iconst 0, 1) := by decide +kernel
theorem dX7_daysOfThing_19 : decode cX7_daysOfThing 19 = .ok (.goto 8, 3) := by decide +kernel
theorem dX7_daysOfThing_22 : decode cX7_daysOfThing 22 = .ok (.aload_n 3, 1) := by decide +kernel
theorem dX7_daysOfThing_23 : decode cX7_daysOfThing 23 = .ok (.iload_n 2, 1) := by decide +kernel
theorem dX7_daysOfThing_24 : decode cX7_daysOfThing 24 = .ok (.invokevirtual 122, 3) := by decide +kernel
theorem dX7_daysOfThing_27 : decode cX7_daysOfThing 27 = .ok (.ireturn, 1) := by decide +kernel
theorem dX7_busyDays_0 : decode cX7_busyDays 0 = .ok (.iconst 0, 1) := by decide +kernel
theorem dX7_busyDays_1 : decode cX7_busyDays 1 = .ok (.istore_n 2, 1) := by decide +kernel
theorem dX7_busyDays_2 : decode cX7_busyDays 2 = .ok (.iconst 0, 1) := by decide +kernel
theorem dX7_busyDays_3 : decode cX7_busyDays 3 = .ok (.istore_n 3, 1) := by decide +kernel
theorem dX7_busyDays_4 : decode cX7_busyDays 4 = .ok (.iload_n 3, 1) := by decide +kernel
theorem dX7_busyDays_5 : decode cX7_busyDays 5 = .ok (.bipush 12, 2) := by decide +kernel
theorem dX7_busyDays_7 : decode cX7_busyDays 7 = .ok (.if_icmp .ge 18, 3) := by decide +kernel
theorem dX7_busyDays_10 : decode cX7_busyDays 10 = .ok (.iload_n 2, 1) := by decide +kernel
theorem dX7_busyDays_11 : decode cX7_busyDays 11 = .ok (.aload_n 0, 1) := by decide +kernel
theorem dX7_busyDays_12 : decode cX7_busyDays 12 = .ok (.iload_n 3, 1) := by decide +kernel
theorem dX7_busyDays_13 : decode cX7_busyDays 13 = .ok (.iload_n 1, 1) := by decide +kernel
theorem dX7_busyDays_14 : decode cX7_busyDays 14 = .ok (.invokevirtual 174, 3) := by decide +kernel
theorem dX7_busyDays_17 : decode cX7_busyDays 17 = .ok (.ior, 1) := by decide +kernel
theorem dX7_busyDays_18 : decode cX7_busyDays 18 = .ok (.istore_n 2, 1) := by decide +kernel
theorem dX7_busyDays_19 : decode cX7_busyDays 19 = .ok (.iinc 3 1, 3) := by decide +kernel
theorem dX7_busyDays_22 : decode cX7_busyDays 22 = .ok (.goto (-18), 3) := by decide +kernel
theorem dX7_busyDays_25 : decode cX7_busyDays 25 = .ok (.iload_n 2, 1) := by decide +kernel
theorem dX7_busyDays_26 : decode cX7_busyDays 26 = .ok (.ireturn, 1) := by decide +kernel
theorem dX7_listMonth_0 : decode cX7_listMonth 0 = .ok (.iload_n 2, 1) := by decide +kernel
theorem dX7_listMonth_1 : decode cX7_listMonth 1 = .ok (.istore_n 3, 1) := by decide +kernel
theorem dX7_listMonth_2 : decode cX7_listMonth 2 = .ok (.iload_n 2, 1) := by decide +kernel
theorem dX7_listMonth_3 : decode cX7_listMonth 3 = .ok (.invokestatic 138, 3) := by decide +kernel
theorem dX7_listMonth_6 : decode cX7_listMonth 6 = .ok (.istore 4, 2) := by decide +kernel
theorem dX7_listMonth_8 : decode cX7_listMonth 8 = .ok (.iload 4, 2) := by decide +kernel
theorem dX7_listMonth_10 : decode cX7_listMonth 10 = .ok (.ifCond .le 24, 3) := by decide +kernel
theorem dX7_listMonth_13 : decode cX7_listMonth 13 = .ok (.aload_n 0, 1) := by decide +kernel
theorem dX7_listMonth_14 : decode cX7_listMonth 14 = .ok (.iload_n 1, 1) := by decide +kernel
theorem dX7_listMonth_15 : decode cX7_listMonth 15 = .ok (.iload_n 3, 1) := by decide +kernel
theorem dX7_listMonth_16 : decode cX7_listMonth 16 = .ok (.invokestatic 129, 3) := by decide +kernel
theorem dX7_listMonth_19 : decode cX7_listMonth 19 = .ok (.invokevirtual 177, 3) := by decide +kernel
theorem dX7_listMonth_22 : decode cX7_listMonth 22 = .ok (.iload_n 3, 1) := by decide +kernel
theorem dX7_listMonth_23 : decode cX7_listMonth 23 = .ok (.iload_n 3, 1) := by decide +kernel
theorem dX7_listMonth_24 : decode cX7_listMonth 24 = .ok (.iconst 1, 1) := by decide +kernel
theorem dX7_listMonth_25 : decode cX7_listMonth 25 = .ok (.isub, 1) := by decide +kernel
theorem dX7_listMonth_26 : decode cX7_listMonth 26 = .ok (.iand, 1) := by decide +kernel
theorem dX7_listMonth_27 : decode cX7_listMonth 27 = .ok (.istore_n 3, 1) := by decide +kernel
theorem dX7_listMonth_28 : decode cX7_listMonth 28 = .ok (.iinc 4 (-1), 3) := by decide +kernel
theorem dX7_listMonth_31 : decode cX7_listMonth 31 = .ok (.goto (-23), 3) := by decide +kernel
theorem dX7_listMonth_34 : decode cX7_listMonth 34 = .ok (.return_, 1) := by decide +kernel
theorem dX7_listDay_0 : decode cX7_listDay 0 = .ok (.iload_n 1, 1) := by decide +kernel
theorem dX7_listDay_1 : decode cX7_listDay 1 = .ok (.iload_n 2, 1) := by decide +kernel
theorem dX7_listDay_2 : decode cX7_listDay 2 = .ok (.invokestatic 134, 3) := by decide +kernel
theorem dX7_listDay_5 : decode cX7_listDay 5 = .ok (.i2l, 1) := by decide +kernel
theorem dX7_listDay_6 : decode cX7_listDay 6 = .ok (.lstore_n 3, 1) := by decide +kernel
theorem dX7_listDay_7 : decode cX7_listDay 7 = .ok (.iconst 0, 1) := by decide +kernel
theorem dX7_listDay_8 : decode cX7_listDay 8 = .ok (.istore 5, 2) := by decide +kernel
theorem dX7_listDay_10 : decode cX7_listDay 10 = .ok (.iload 5, 2) := by decide +kernel
theorem dX7_listDay_12 : decode cX7_listDay 12 = .ok (.bipush 12, 2) := by decide +kernel
theorem dX7_listDay_14 : decode cX7_listDay 14 = .ok (.if_icmp .ge 61, 3) := by decide +kernel
theorem dX7_listDay_17 : decode cX7_listDay 17 = .ok (.aload_n 0, 1) := by decide +kernel
theorem dX7_listDay_18 : decode cX7_listDay 18 = .ok (.getfield 59, 3) := by decide +kernel
theorem dX7_listDay_21 : decode cX7_listDay 21 = .ok (.sipush 300, 3) := by decide +kernel
theorem dX7_listDay_24 : decode cX7_listDay 24 = .ok (.if_icmp .ge 51, 3) := by decide +kernel
theorem dX7_listDay_27 : decode cX7_listDay 27 = .ok (.aload_n 0, 1) := by decide +kernel
theorem dX7_listDay_28 : decode cX7_listDay 28 = .ok (.iload 5, 2) := by decide +kernel
theorem dX7_listDay_30 : decode cX7_listDay 30 = .ok (.iload_n 1, 1) := by decide +kernel
theorem dX7_listDay_31 : decode cX7_listDay 31 = .ok (.invokevirtual 174, 3) := by decide +kernel
theorem dX7_listDay_34 : decode cX7_listDay 34 = .ok (.iconst 1, 1) := by decide +kernel
theorem dX7_listDay_35 : decode cX7_listDay 35 = .ok (.iload_n 2, 1) := by decide +kernel
theorem dX7_listDay_36 : decode cX7_listDay 36 = .ok (.ishl, 1) := by decide +kernel
theorem dX7_listDay_37 : decode cX7_listDay 37 = .ok (.iand, 1) := by decide +kernel
theorem dX7_listDay_38 : decode cX7_listDay 38 = .ok (.ifCond .eq 31, 3) := by decide +kernel
theorem dX7_listDay_41 : decode cX7_listDay 41 = .ok (.aload_n 0, 1) := by decide +kernel
theorem dX7_listDay_42 : decode cX7_listDay 42 = .ok (.getfield 55, 3) := by decide +kernel
theorem dX7_listDay_45 : decode cX7_listDay 45 = .ok (.aload_n 0, 1) := by decide +kernel
theorem dX7_listDay_46 : decode cX7_listDay 46 = .ok (.getfield 59, 3) := by decide +kernel
theorem dX7_listDay_49 : decode cX7_listDay 49 = .ok (.ldc2_w 180, 3) := by decide +kernel
theorem dX7_listDay_52 : decode cX7_listDay 52 = .ok (.lload_n 3, 1) := by decide +kernel
theorem dX7_listDay_53 : decode cX7_listDay 53 = .ok (.lmul, 1) := by decide +kernel
theorem dX7_listDay_54 : decode cX7_listDay 54 = .ok (.iload 5, 2) := by decide +kernel
theorem dX7_listDay_56 : decode cX7_listDay 56 = .ok (.i2l, 1) := by decide +kernel
theorem dX7_listDay_57 : decode cX7_listDay 57 = .ok (.ladd, 1) := by decide +kernel
theorem dX7_listDay_58 : decode cX7_listDay 58 = .ok (.lastore, 1) := by decide +kernel
theorem dX7_listDay_59 : decode cX7_listDay 59 = .ok (.aload_n 0, 1) := by decide +kernel
theorem dX7_listDay_60 : decode cX7_listDay 60 = .ok (.dup, 1) := by decide +kernel
theorem dX7_listDay_61 : decode cX7_listDay 61 = .ok (.getfield 59, 3) := by decide +kernel
theorem dX7_listDay_64 : decode cX7_listDay 64 = .ok (.iconst 1, 1) := by decide +kernel
theorem dX7_listDay_65 : decode cX7_listDay 65 = .ok (.iadd, 1) := by decide +kernel
theorem dX7_listDay_66 : decode cX7_listDay 66 = .ok (.putfield 59, 3) := by decide +kernel
theorem dX7_listDay_69 : decode cX7_listDay 69 = .ok (.iinc 5 1, 3) := by decide +kernel
theorem dX7_listDay_72 : decode cX7_listDay 72 = .ok (.goto (-62), 3) := by decide +kernel
theorem dX7_listDay_75 : decode cX7_listDay 75 = .ok (.return_, 1) := by decide +kernel
theorem dX7_countThings_0 : decode cX7_countThings 0 = .ok (.aload_n 0, 1) := by decide +kernel
theorem dX7_countThings_1 : decode cX7_countThings 1 = .ok (.getfield 62, 3) := by decide +kernel
theorem dX7_countThings_4 : decode cX7_countThings 4 = .ok (.iconst 0, 1) := by decide +kernel
theorem dX7_countThings_5 : decode cX7_countThings 5 = .ok (.invokestatic 182, 3) := by decide +kernel
theorem dX7_countThings_8 : decode cX7_countThings 8 = .ok (.iconst 0, 1) := by decide +kernel
theorem dX7_countThings_9 : decode cX7_countThings 9 = .ok (.istore_n 3, 1) := by decide +kernel
theorem dX7_countThings_10 : decode cX7_countThings 10 = .ok (.iload_n 3, 1) := by decide +kernel
theorem dX7_countThings_11 : decode cX7_countThings 11 = .ok (.bipush 12, 2) := by decide +kernel
theorem dX7_countThings_13 : decode cX7_countThings 13 = .ok (.if_icmp .ge 62, 3) := by decide +kernel
theorem dX7_countThings_16 : decode cX7_countThings 16 = .ok (.aload_n 0, 1) := by decide +kernel
theorem dX7_countThings_17 : decode cX7_countThings 17 = .ok (.iload_n 3, 1) := by decide +kernel
theorem dX7_countThings_18 : decode cX7_countThings 18 = .ok (.iload_n 1, 1) := by decide +kernel
theorem dX7_countThings_19 : decode cX7_countThings 19 = .ok (.invokevirtual 174, 3) := by decide +kernel
theorem dX7_countThings_22 : decode cX7_countThings 22 = .ok (.iload_n 2, 1) := by decide +kernel
theorem dX7_countThings_23 : decode cX7_countThings 23 = .ok (.iand, 1) := by decide +kernel
theorem dX7_countThings_24 : decode cX7_countThings 24 = .ok (.istore 4, 2) := by decide +kernel
theorem dX7_countThings_26 : decode cX7_countThings 26 = .ok (.iconst 0, 1) := by decide +kernel
theorem dX7_countThings_27 : decode cX7_countThings 27 = .ok (.istore 5, 2) := by decide +kernel
theorem dX7_countThings_29 : decode cX7_countThings 29 = .ok (.iload 5, 2) := by decide +kernel
theorem dX7_countThings_31 : decode cX7_countThings 31 = .ok (.iconst 4, 1) := by decide +kernel
theorem dX7_countThings_32 : decode cX7_countThings 32 = .ok (.if_icmp .ge 37, 3) := by decide +kernel
theorem dX7_countThings_35 : decode cX7_countThings 35 = .ok (.aload_n 0, 1) := by decide +kernel
theorem dX7_countThings_36 : decode cX7_countThings 36 = .ok (.getfield 62, 3) := by decide +kernel
theorem dX7_countThings_39 : decode cX7_countThings 39 = .ok (.iload 5, 2) := by decide +kernel
theorem dX7_countThings_41 : decode cX7_countThings 41 = .ok (.iaload, 1) := by decide +kernel
theorem dX7_countThings_42 : decode cX7_countThings 42 = .ok (.iload 4, 2) := by decide +kernel
theorem dX7_countThings_44 : decode cX7_countThings 44 = .ok (.iand, 1) := by decide +kernel
theorem dX7_countThings_45 : decode cX7_countThings 45 = .ok (.istore 6, 2) := by decide +kernel
theorem dX7_countThings_47 : decode cX7_countThings 47 = .ok (.aload_n 0, 1) := by decide +kernel
theorem dX7_countThings_48 : decode cX7_countThings 48 = .ok (.getfield 62, 3) := by decide +kernel
theorem dX7_countThings_51 : decode cX7_countThings 51 = .ok (.iload 5, 2) := by decide +kernel
theorem dX7_countThings_53 : decode cX7_countThings 53 = .ok (.dup2, 1) := by decide +kernel
theorem dX7_countThings_54 : decode cX7_countThings 54 = .ok (.iaload, 1) := by decide +kernel
theorem dX7_countThings_55 : decode cX7_countThings 55 = .ok (.iload 4, 2) := by decide +kernel
theorem dX7_countThings_57 : decode cX7_countThings 57 = .ok (.ixor, 1) := by decide +kernel
theorem dX7_countThings_58 : decode cX7_countThings 58 = .ok (.iastore, 1) := by decide +kernel
theorem dX7_countThings_59 : decode cX7_countThings 59 = .ok (.iload 6, 2) := by decide +kernel
theorem dX7_countThings_61 : decode cX7_countThings 61 = .ok (.istore 4, 2) := by decide +kernel
theorem dX7_countThings_63 : decode cX7_countThings 63 = .ok (.iinc 5 1, 3) := by decide +kernel
theorem dX7_countThings_66 : decode cX7_countThings 66 = .ok (.goto (-37), 3) := by decide +kernel
theorem dX7_countThings_69 : decode cX7_countThings 69 = .ok (.iinc 3 1, 3) := by decide +kernel
theorem dX7_countThings_72 : decode cX7_countThings 72 = .ok (.goto (-62), 3) := by decide +kernel
theorem dX7_countThings_75 : decode cX7_countThings 75 = .ok (.return_, 1) := by decide +kernel
theorem dJ6_numberOfTrailingZeros_0f7a4_0 : decode cJ6_numberOfTrailingZeros_0f7a4 0 = .ok (.iload_n 0, 1) := by decide +kernel
theorem dJ6_numberOfTrailingZeros_0f7a4_1 : decode cJ6_numberOfTrailingZeros_0f7a4 1 = .ok (.iconst (-1), 1) := by decide +kernel
theorem dJ6_numberOfTrailingZeros_0f7a4_2 : decode cJ6_numberOfTrailingZeros_0f7a4 2 = .ok (.ixor, 1) := by decide +kernel
theorem dJ6_numberOfTrailingZeros_0f7a4_3 : decode cJ6_numberOfTrailingZeros_0f7a4 3 = .ok (.iload_n 0, 1) := by decide +kernel
theorem dJ6_numberOfTrailingZeros_0f7a4_4 : decode cJ6_numberOfTrailingZeros_0f7a4 4 = .ok (.iconst 1, 1) := by decide +kernel
theorem dJ6_numberOfTrailingZeros_0f7a4_5 : decode cJ6_numberOfTrailingZeros_0f7a4 5 = .ok (.isub, 1) := by decide +kernel
theorem dJ6_numberOfTrailingZeros_0f7a4_6 : decode cJ6_numberOfTrailingZeros_0f7a4 6 = .ok (.iand, 1) := by decide +kernel
theorem dJ6_numberOfTrailingZeros_0f7a4_7 : decode cJ6_numberOfTrailingZeros_0f7a4 7 = .ok (.istore_n 0, 1) := by decide +kernel
theorem dJ6_numberOfTrailingZeros_0f7a4_8 : decode cJ6_numberOfTrailingZeros_0f7a4 8 = .ok (.iload_n 0, 1) := by decide +kernel
theorem dJ6_numberOfTrailingZeros_0f7a4_9 : decode cJ6_numberOfTrailingZeros_0f7a4 9 = .ok (.ifCond .gt 8, 3) := by decide +kernel
theorem dJ6_numberOfTrailingZeros_0f7a4_12 : decode cJ6_numberOfTrailingZeros_0f7a4 12 = .ok (.iload_n 0, 1) := by decide +kernel
theorem dJ6_numberOfTrailingZeros_0f7a4_13 : decode cJ6_numberOfTrailingZeros_0f7a4 13 = .ok (.bipush 32, 2) := by decide +kernel
theorem dJ6_numberOfTrailingZeros_0f7a4_15 : decode cJ6_numberOfTrailingZeros_0f7a4 15 = .ok (.iand, 1) := by decide +kernel
theorem dJ6_numberOfTrailingZeros_0f7a4_16 : decode cJ6_numberOfTrailingZeros_0f7a4 16 = .ok (.ireturn, 1) := by decide +kernel
theorem dJ6_numberOfTrailingZeros_0f7a4_17 : decode cJ6_numberOfTrailingZeros_0f7a4 17 = .ok (.iconst 1, 1) := by decide +kernel
theorem dJ6_numberOfTrailingZeros_0f7a4_18 : decode cJ6_numberOfTrailingZeros_0f7a4 18 = .ok (.istore_n 1, 1) := by decide +kernel
theorem dJ6_numberOfTrailingZeros_0f7a4_19 : decode cJ6_numberOfTrailingZeros_0f7a4 19 = .ok (.iload_n 0, 1) := by decide +kernel
theorem dJ6_numberOfTrailingZeros_0f7a4_20 : decode cJ6_numberOfTrailingZeros_0f7a4 20 = .ok (.ldc_w 264, 3) := by decide +kernel
theorem dJ6_numberOfTrailingZeros_0f7a4_23 : decode cJ6_numberOfTrailingZeros_0f7a4 23 = .ok (.if_icmp .le 11, 3) := by decide +kernel
theorem dJ6_numberOfTrailingZeros_0f7a4_26 : decode cJ6_numberOfTrailingZeros_0f7a4 26 = .ok (.iinc 1 16, 3) := by decide +kernel
theorem dJ6_numberOfTrailingZeros_0f7a4_29 : decode cJ6_numberOfTrailingZeros_0f7a4 29 = .ok (.iload_n 0, 1) := by decide +kernel
theorem dJ6_numberOfTrailingZeros_0f7a4_30 : decode cJ6_numberOfTrailingZeros_0f7a4 30 = .ok (.bipush 16, 2) := by decide +kernel
theorem dJ6_numberOfTrailingZeros_0f7a4_32 : decode cJ6_numberOfTrailingZeros_0f7a4 32 = .ok (.iushr, 1) := by decide +kernel
theorem dJ6_numberOfTrailingZeros_0f7a4_33 : decode cJ6_numberOfTrailingZeros_0f7a4 33 = .ok (.istore_n 0, 1) := by decide +kernel
theorem dJ6_numberOfTrailingZeros_0f7a4_34 : decode cJ6_numberOfTrailingZeros_0f7a4 34 = .ok (.iload_n 0, 1) := by decide +kernel
theorem dJ6_numberOfTrailingZeros_0f7a4_35 : decode cJ6_numberOfTrailingZeros_0f7a4 35 = .ok (.sipush 256, 3) := by decide +kernel
theorem dJ6_numberOfTrailingZeros_0f7a4_38 : decode cJ6_numberOfTrailingZeros_0f7a4 38 = .ok (.if_icmp .le 11, 3) := by decide +kernel
theorem dJ6_numberOfTrailingZeros_0f7a4_41 : decode cJ6_numberOfTrailingZeros_0f7a4 41 = .ok (.iinc 1 8, 3) := by decide +kernel
theorem dJ6_numberOfTrailingZeros_0f7a4_44 : decode cJ6_numberOfTrailingZeros_0f7a4 44 = .ok (.iload_n 0, 1) := by decide +kernel
theorem dJ6_numberOfTrailingZeros_0f7a4_45 : decode cJ6_numberOfTrailingZeros_0f7a4 45 = .ok (.bipush 8, 2) := by decide +kernel
theorem dJ6_numberOfTrailingZeros_0f7a4_47 : decode cJ6_numberOfTrailingZeros_0f7a4 47 = .ok (.iushr, 1) := by decide +kernel
theorem dJ6_numberOfTrailingZeros_0f7a4_48 : decode cJ6_numberOfTrailingZeros_0f7a4 48 = .ok (.istore_n 0, 1) := by decide +kernel
theorem dJ6_numberOfTrailingZeros_0f7a4_49 : decode cJ6_numberOfTrailingZeros_0f7a4 49 = .ok (.iload_n 0, 1) := by decide +kernel
theorem dJ6_numberOfTrailingZeros_0f7a4_50 : decode cJ6_numberOfTrailingZeros_0f7a4 50 = .ok (.bipush 16, 2) := by decide +kernel
theorem dJ6_numberOfTrailingZeros_0f7a4_52 : decode cJ6_numberOfTrailingZeros_0f7a4 52 = .ok (.if_icmp .le 10, 3) := by decide +kernel
theorem dJ6_numberOfTrailingZeros_0f7a4_55 : decode cJ6_numberOfTrailingZeros_0f7a4 55 = .ok (.iinc 1 4, 3) := by decide +kernel
theorem dJ6_numberOfTrailingZeros_0f7a4_58 : decode cJ6_numberOfTrailingZeros_0f7a4 58 = .ok (.iload_n 0, 1) := by decide +kernel
theorem dJ6_numberOfTrailingZeros_0f7a4_59 : decode cJ6_numberOfTrailingZeros_0f7a4 59 = .ok (.iconst 4, 1) := by decide +kernel
theorem dJ6_numberOfTrailingZeros_0f7a4_60 : decode cJ6_numberOfTrailingZeros_0f7a4 60 = .ok (.iushr, 1) := by decide +kernel
theorem dJ6_numberOfTrailingZeros_0f7a4_61 : decode cJ6_numberOfTrailingZeros_0f7a4 61 = .ok (.istore_n 0, 1) := by decide +kernel
theorem dJ6_numberOfTrailingZeros_0f7a4_62 : decode cJ6_numberOfTrailingZeros_0f7a4 62 = .ok (.iload_n 0, 1) := by decide +kernel
theorem dJ6_numberOfTrailingZeros_0f7a4_63 : decode cJ6_numberOfTrailingZeros_0f7a4 63 = .ok (.iconst 4, 1) := by decide +kernel
theorem dJ6_numberOfTrailingZeros_0f7a4_64 : decode cJ6_numberOfTrailingZeros_0f7a4 64 = .ok (.if_icmp .le 10, 3) := by decide +kernel
theorem dJ6_numberOfTrailingZeros_0f7a4_67 : decode cJ6_numberOfTrailingZeros_0f7a4 67 = .ok (.iinc 1 2, 3) := by decide +kernel
theorem dJ6_numberOfTrailingZeros_0f7a4_70 : decode cJ6_numberOfTrailingZeros_0f7a4 70 = .ok (.iload_n 0, 1) := by decide +kernel
theorem dJ6_numberOfTrailingZeros_0f7a4_71 : decode cJ6_numberOfTrailingZeros_0f7a4 71 = .ok (.iconst 2, 1) := by decide +kernel
theorem dJ6_numberOfTrailingZeros_0f7a4_72 : decode cJ6_numberOfTrailingZeros_0f7a4 72 = .ok (.iushr, 1) := by decide +kernel
theorem dJ6_numberOfTrailingZeros_0f7a4_73 : decode cJ6_numberOfTrailingZeros_0f7a4 73 = .ok (.istore_n 0, 1) := by decide +kernel
theorem dJ6_numberOfTrailingZeros_0f7a4_74 : decode cJ6_numberOfTrailingZeros_0f7a4 74 = .ok (.iload_n 1, 1) := by decide +kernel
theorem dJ6_numberOfTrailingZeros_0f7a4_75 : decode cJ6_numberOfTrailingZeros_0f7a4 75 = .ok (.iload_n 0, 1) := by decide +kernel
theorem dJ6_numberOfTrailingZeros_0f7a4_76 : decode cJ6_numberOfTrailingZeros_0f7a4 76 = .ok (.iconst 1, 1) := by decide +kernel
theorem dJ6_numberOfTrailingZeros_0f7a4_77 : decode cJ6_numberOfTrailingZeros_0f7a4 77 = .ok (.iushr, 1) := by decide +kernel
theorem dJ6_numberOfTrailingZeros_0f7a4_78 : decode cJ6_numberOfTrailingZeros_0f7a4 78 = .ok (.iadd, 1) := by decide +kernel
theorem dJ6_numberOfTrailingZeros_0f7a4_79 : decode cJ6_numberOfTrailingZeros_0f7a4 79 = .ok (.ireturn, 1) := by decide +kernel
theorem dJ6_bitCount_0f7a4_0 : decode cJ6_bitCount_0f7a4 0 = .ok (.iload_n 0, 1) := by decide +kernel
theorem dJ6_bitCount_0f7a4_1 : decode cJ6_bitCount_0f7a4 1 = .ok (.iload_n 0, 1) := by decide +kernel
theorem dJ6_bitCount_0f7a4_2 : decode cJ6_bitCount_0f7a4 2 = .ok (.iconst 1, 1) := by decide +kernel
theorem dJ6_bitCount_0f7a4_3 : decode cJ6_bitCount_0f7a4 3 = .ok (.iushr, 1) := by decide +kernel
theorem dJ6_bitCount_0f7a4_4 : decode cJ6_bitCount_0f7a4 4 = .ok (.ldc_w 265, 3) := by decide +kernel
theorem dJ6_bitCount_0f7a4_7 : decode cJ6_bitCount_0f7a4 7 = .ok (.iand, 1) := by decide +kernel
theorem dJ6_bitCount_0f7a4_8 : decode cJ6_bitCount_0f7a4 8 = .ok (.isub, 1) := by decide +kernel
theorem dJ6_bitCount_0f7a4_9 : decode cJ6_bitCount_0f7a4 9 = .ok (.istore_n 0, 1) := by decide +kernel
theorem dJ6_bitCount_0f7a4_10 : decode cJ6_bitCount_0f7a4 10 = .ok (.iload_n 0, 1) := by decide +kernel
theorem dJ6_bitCount_0f7a4_11 : decode cJ6_bitCount_0f7a4 11 = .ok (.ldc_w 266, 3) := by decide +kernel
theorem dJ6_bitCount_0f7a4_14 : decode cJ6_bitCount_0f7a4 14 = .ok (.iand, 1) := by decide +kernel
theorem dJ6_bitCount_0f7a4_15 : decode cJ6_bitCount_0f7a4 15 = .ok (.iload_n 0, 1) := by decide +kernel
theorem dJ6_bitCount_0f7a4_16 : decode cJ6_bitCount_0f7a4 16 = .ok (.iconst 2, 1) := by decide +kernel
theorem dJ6_bitCount_0f7a4_17 : decode cJ6_bitCount_0f7a4 17 = .ok (.iushr, 1) := by decide +kernel
theorem dJ6_bitCount_0f7a4_18 : decode cJ6_bitCount_0f7a4 18 = .ok (.ldc_w 266, 3) := by decide +kernel
theorem dJ6_bitCount_0f7a4_21 : decode cJ6_bitCount_0f7a4 21 = .ok (.iand, 1) := by decide +kernel
theorem dJ6_bitCount_0f7a4_22 : decode cJ6_bitCount_0f7a4 22 = .ok (.iadd, 1) := by decide +kernel
theorem dJ6_bitCount_0f7a4_23 : decode cJ6_bitCount_0f7a4 23 = .ok (.istore_n 0, 1) := by decide +kernel
theorem dJ6_bitCount_0f7a4_24 : decode cJ6_bitCount_0f7a4 24 = .ok (.iload_n 0, 1) := by decide +kernel
theorem dJ6_bitCount_0f7a4_25 : decode cJ6_bitCount_0f7a4 25 = .ok (.iload_n 0, 1) := by decide +kernel
theorem dJ6_bitCount_0f7a4_26 : decode cJ6_bitCount_0f7a4 26 = .ok (.iconst 4, 1) := by decide +kernel
theorem dJ6_bitCount_0f7a4_27 : decode cJ6_bitCount_0f7a4 27 = .ok (.iushr, 1) := by decide +kernel
theorem dJ6_bitCount_0f7a4_28 : decode cJ6_bitCount_0f7a4 28 = .ok (.iadd, 1) := by decide +kernel
theorem dJ6_bitCount_0f7a4_29 : decode cJ6_bitCount_0f7a4 29 = .ok (.ldc_w 267, 3) := by decide +kernel
theorem dJ6_bitCount_0f7a4_32 : decode cJ6_bitCount_0f7a4 32 = .ok (.iand, 1) := by decide +kernel
theorem dJ6_bitCount_0f7a4_33 : decode cJ6_bitCount_0f7a4 33 = .ok (.istore_n 0, 1) := by decide +kernel
theorem dJ6_bitCount_0f7a4_34 : decode cJ6_bitCount_0f7a4 34 = .ok (.iload_n 0, 1) := by decide +kernel
theorem dJ6_bitCount_0f7a4_35 : decode cJ6_bitCount_0f7a4 35 = .ok (.iload_n 0, 1) := by decide +kernel
theorem dJ6_bitCount_0f7a4_36 : decode cJ6_bitCount_0f7a4 36 = .ok (.bipush 8, 2) := by decide +kernel
theorem dJ6_bitCount_0f7a4_38 : decode cJ6_bitCount_0f7a4 38 = .ok (.iushr, 1) := by decide +kernel
theorem dJ6_bitCount_0f7a4_39 : decode cJ6_bitCount_0f7a4 39 = .ok (.iadd, 1) := by decide +kernel
theorem dJ6_bitCount_0f7a4_40 : decode cJ6_bitCount_0f7a4 40 = .ok (.istore_n 0, 1) := by decide +kernel
theorem dJ6_bitCount_0f7a4_41 : decode cJ6_bitCount_0f7a4 41 = .ok (.iload_n 0, 1) := by decide +kernel
theorem dJ6_bitCount_0f7a4_42 : decode cJ6_bitCount_0f7a4 42 = .ok (.iload_n 0, 1) := by decide +kernel
theorem dJ6_bitCount_0f7a4_43 : decode cJ6_bitCount_0f7a4 43 = .ok (.bipush 16, 2) := by decide +kernel
theorem dJ6_bitCount_0f7a4_45 : decode cJ6_bitCount_0f7a4 45 = .ok (.iushr, 1) := by decide +kernel
theorem dJ6_bitCount_0f7a4_46 : decode cJ6_bitCount_0f7a4 46 = .ok (.iadd, 1) := by decide +kernel
theorem dJ6_bitCount_0f7a4_47 : decode cJ6_bitCount_0f7a4 47 = .ok (.istore_n 0, 1) := by decide +kernel
theorem dJ6_bitCount_0f7a4_48 : decode cJ6_bitCount_0f7a4 48 = .ok (.iload_n 0, 1) := by decide +kernel
theorem dJ6_bitCount_0f7a4_49 : decode cJ6_bitCount_0f7a4 49 = .ok (.bipush 63, 2) := by decide +kernel
theorem dJ6_bitCount_0f7a4_51 : decode cJ6_bitCount_0f7a4 51 = .ok (.iand, 1) := by decide +kernel
theorem dJ6_bitCount_0f7a4_52 : decode cJ6_bitCount_0f7a4 52 = .ok (.ireturn, 1) := by decide +kernel
theorem dJ9_max_7cf53_0 : decode cJ9_max_7cf53 0 = .ok (.iload_n 0, 1) := by decide +kernel
theorem dJ9_max_7cf53_1 : decode cJ9_max_7cf53 1 = .ok (.iload_n 1, 1) := by decide +kernel
theorem dJ9_max_7cf53_2 : decode cJ9_max_7cf53 2 = .ok (.if_icmp .lt 7, 3) := by decide +kernel
theorem dJ9_max_7cf53_5 : decode cJ9_max_7cf53 5 = .ok (.iload_n 0, 1) := by decide +kernel
theorem dJ9_max_7cf53_6 : decode cJ9_max_7cf53 6 = .ok (.goto 4, 3) := by decide +kernel
theorem dJ9_max_7cf53_9 : decode cJ9_max_7cf53 9 = .ok (.iload_n 1, 1) := by decide +kernel
theorem dJ9_max_7cf53_10 : decode cJ9_max_7cf53 10 = .ok (.ireturn, 1) := by decide +kernel
theorem dJ9_min_7cf53_0 : decode cJ9_min_7cf53 0 = .ok (.iload_n 0, 1) := by decide +kernel
theorem dJ9_min_7cf53_1 : decode cJ9_min_7cf53 1 = .ok (.iload_n 1, 1) := by decide +kernel
theorem dJ9_min_7cf53_2 : decode cJ9_min_7cf53 2 = .ok (.if_icmp .gt 7, 3) := by decide +kernel
theorem dJ9_min_7cf53_5 : decode cJ9_min_7cf53 5 = .ok (.iload_n 0, 1) := by decide +kernel
theorem dJ9_min_7cf53_6 : decode cJ9_min_7cf53 6 = .ok (.goto 4, 3) := by decide +kernel
theorem dJ9_min_7cf53_9 : decode cJ9_min_7cf53 9 = .ok (.iload_n 1, 1) := by decide +kernel
theorem dJ9_min_7cf53_10 : decode cJ9_min_7cf53 10 = .ok (.ireturn, 1) := by decide +kernel
theorem dJ0_length_8abf5_0 : decode cJ0_length_8abf5 0 = .ok (.aload_n 0, 1) := by decide +kernel
theorem dJ0_length_8abf5_1 : decode cJ0_length_8abf5 1 = .ok (.getfield 9, 3) := by decide +kernel
theorem dJ0_length_8abf5_4 : decode cJ0_length_8abf5 4 = .ok (.arraylength, 1) := by decide +kernel
theorem dJ0_length_8abf5_5 : decode cJ0_length_8abf5 5 = .ok (.aload_n 0, 1) := by decide +kernel
theorem dJ0_length_8abf5_6 : decode cJ0_length_8abf5 6 = .ok (.invokevirtual 335, 3) := by decide +kernel
theorem dJ0_length_8abf5_9 : decode cJ0_length_8abf5 9 = .ok (.ishr, 1) := by decide +kernel
theorem dJ0_length_8abf5_10 : decode cJ0_length_8abf5 10 = .ok (.ireturn, 1) := by decide +kernel
theorem dJ0_charAt_5068e_0 : decode cJ0_charAt_5068e 0 = .ok (.aload_n 0, 1) := by decide +kernel
theorem dJ0_charAt_5068e_1 : decode cJ0_charAt_5068e 1 = .ok (.invokevirtual 492, 3) := by decide +kernel
theorem dJ0_charAt_5068e_4 : decode cJ0_charAt_5068e 4 = .ok (.ifCond .eq 12, 3) := by decide +kernel
theorem dJ0_charAt_5068e_7 : decode cJ0_charAt_5068e 7 = .ok (.aload_n 0, 1) := by decide +kernel
theorem dJ0_charAt_5068e_8 : decode cJ0_charAt_5068e 8 = .ok (.getfield 9, 3) := by decide +kernel
theorem dJ0_charAt_5068e_11 : decode cJ0_charAt_5068e 11 = .ok (.iload_n 1, 1) := by decide +kernel
theorem dJ0_charAt_5068e_12 : decode cJ0_charAt_5068e 12 = .ok (.invokestatic 495, 3) := by decide +kernel
theorem dJ0_charAt_5068e_15 : decode cJ0_charAt_5068e 15 = .ok (.ireturn, 1) := by decide +kernel
theorem dJ0_charAt_5068e_16 : decode cJ0_charAt_5068e 16 = .ok (.aload_n 0, 1) := by decide +kernel
theorem dJ0_charAt_5068e_17 : decode cJ0_charAt_5068e 17 = .ok (.getfield 9, 3) := by decide +kernel
theorem dJ0_charAt_5068e_20 : decode cJ0_charAt_5068e 20 = .ok (.iload_n 1, 1) := by decide +kernel
theorem dJ0_charAt_5068e_21 : decode cJ0_charAt_5068e 21 = .ok (.invokestatic 498, 3) := by decide +kernel
theorem dJ0_charAt_5068e_24 : decode cJ0_charAt_5068e 24 = .ok (.ireturn, 1) := by decide +kernel
theorem dJ0_coder_7d493_0 : decode cJ0_coder_7d493 0 = .ok (.getstatic 38, 3) := by decide +kernel
theorem dJ0_coder_7d493_3 : decode cJ0_coder_7d493 3 = .ok (.ifCond .eq 10, 3) := by decide +kernel
theorem dJ0_coder_7d493_6 : decode cJ0_coder_7d493 6 = .ok (.aload_n 0, 1) := by decide +kernel
theorem dJ0_coder_7d493_7 : decode cJ0_coder_7d493 7 = .ok (.getfield 15, 3) := by decide +kernel
theorem dJ0_coder_7d493_10 : decode cJ0_coder_7d493 10 = .ok (.goto 4, 3) := by decide +kernel
theorem dJ0_coder_7d493_13 : decode cJ0_coder_7d493 13 = .ok (.iconst 1, 1) := by decide +kernel
theorem dJ0_coder_7d493_14 : decode cJ0_coder_7d493 14 = .ok (.ireturn, 1) := by decide +kernel
theorem dJ0_isLatin1_aae02_0 : decode cJ0_isLatin1_aae02 0 = .ok (.getstatic 38, 3) := by decide +kernel
theorem dJ0_isLatin1_aae02_3 : decode cJ0_isLatin1_aae02 3 = .ok (.ifCond .eq 14, 3) := by decide +kernel
theorem dJ0_isLatin1_aae02_6 : decode cJ0_isLatin1_aae02 6 = .ok (.aload_n 0, 1) := by decide +kernel
theorem dJ0_isLatin1_aae02_7 : decode cJ0_isLatin1_aae02 7 = .ok (.getfield 15, 3) := by decide +kernel
theorem dJ0_isLatin1_aae02_10 : decode cJ0_isLatin1_aae02 10 = .ok (.ifCond .ne 7, 3) := by decide +kernel
theorem dJ0_isLatin1_aae02_13 : decode cJ0_isLatin1_aae02 13 = .ok (.iconst 1, 1) := by decide +kernel
theorem dJ0_isLatin1_aae02_14 : decode cJ0_isLatin1_aae02 14 = .ok (.goto 4, 3) := by decide +kernel
theorem dJ0_isLatin1_aae02_17 : decode cJ0_isLatin1_aae02 17 = .ok (.iconst 0, 1) := by decide +kernel
theorem dJ0_isLatin1_aae02_18 : decode cJ0_isLatin1_aae02 18 = .ok (.ireturn, 1) := by decide +kernel
theorem dJ0_checkIndex_df160_0 : decode cJ0_checkIndex_df160 0 = .ok (.iload_n 0, 1) := by decide +kernel
theorem dJ0_checkIndex_df160_1 : decode cJ0_checkIndex_df160 1 = .ok (.iload_n 1, 1) := by decide +kernel
theorem dJ0_checkIndex_df160_2 : decode cJ0_checkIndex_df160 2 = .ok (.getstatic 1053, 3) := by decide +kernel
theorem dJ0_checkIndex_df160_5 : decode cJ0_checkIndex_df160 5 = .ok (.invokestatic 1059, 3) := by decide +kernel
theorem dJ0_checkIndex_df160_8 : decode cJ0_checkIndex_df160 8 = .ok (.pop, 1) := by decide +kernel
theorem dJ0_checkIndex_df160_9 : decode cJ0_checkIndex_df160 9 = .ok (.return_, 1) := by decide +kernel
theorem dJ1_charAt_3b067_0 : decode cJ1_charAt_3b067 0 = .ok (.iload_n 1, 1) := by decide +kernel
theorem dJ1_charAt_3b067_1 : decode cJ1_charAt_3b067 1 = .ok (.aload_n 0, 1) := by decide +kernel
theorem dJ1_charAt_3b067_2 : decode cJ1_charAt_3b067 2 = .ok (.arraylength, 1) := by decide +kernel
theorem dJ1_charAt_3b067_3 : decode cJ1_charAt_3b067 3 = .ok (.invokestatic 9, 3) := by decide +kernel
theorem dJ1_charAt_3b067_6 : decode cJ1_charAt_3b067 6 = .ok (.aload_n 0, 1) := by decide +kernel
theorem dJ1_charAt_3b067_7 : decode cJ1_charAt_3b067 7 = .ok (.iload_n 1, 1) := by decide +kernel
theorem dJ1_charAt_3b067_8 : decode cJ1_charAt_3b067 8 = .ok (.baload, 1) := by decide +kernel
theorem dJ1_charAt_3b067_9 : decode cJ1_charAt_3b067 9 = .ok (.sipush 255, 3) := by decide +kernel
theorem dJ1_charAt_3b067_12 : decode cJ1_charAt_3b067 12 = .ok (.iand, 1) := by decide +kernel
theorem dJ1_charAt_3b067_13 : decode cJ1_charAt_3b067 13 = .ok (.i2c, 1) := by decide +kernel
theorem dJ1_charAt_3b067_14 : decode cJ1_charAt_3b067 14 = .ok (.ireturn, 1) := by decide +kernel
theorem dJ2_getChar_3b067_0 : decode cJ2_getChar_3b067 0 = .ok (.getstatic 44, 3) := by decide +kernel
theorem dJ2_getChar_3b067_3 : decode cJ2_getChar_3b067 3 = .ok (.ifCond .ne 25, 3) := by decide +kernel
theorem dJ2_getChar_3b067_6 : decode cJ2_getChar_3b067 6 = .ok (.iload_n 1, 1) := by decide +kernel
theorem dJ2_getChar_3b067_7 : decode cJ2_getChar_3b067 7 = .ok (.ifCond .lt 11, 3) := by decide +kernel
theorem dJ2_getChar_3b067_10 : decode cJ2_getChar_3b067 10 = .ok (.iload_n 1, 1) := by decide +kernel
theorem dJ2_getChar_3b067_11 : decode cJ2_getChar_3b067 11 = .ok (.aload_n 0, 1) := by decide +kernel
theorem dJ2_getChar_3b067_12 : decode cJ2_getChar_3b067 12 = .ok (.invokestatic 48, 3) := by decide +kernel
theorem dJ2_getChar_3b067_15 : decode cJ2_getChar_3b067 15 = .ok (.if_icmp .lt 13, 3) := by decide +kernel
theorem dJ2_getChar_3b067_18 : decode cJ2_getChar_3b067 18 = .ok (.new 52, 3) := by decide +kernel
theorem dJ2_getChar_3b067_21 : decode cJ2_getChar_3b067 21 = .ok (.dup, 1) := by decide +kernel
theorem dJ2_getChar_3b067_22 : decode cJ2_getChar_3b067 22 = .ok (.ldc 54, 2) := by decide +kernel
theorem dJ2_getChar_3b067_24 : decode cJ2_getChar_3b067 24 = .ok (.invokespecial 56, 3) := by decide +kernel
theorem dJ2_getChar_3b067_27 : decode cJ2_getChar_3b067 27 = .ok (.athrow, 1) := by decide +kernel
theorem dJ2_getChar_3b067_28 : decode cJ2_getChar_3b067 28 = .ok (.iload_n 1, 1) := by decide +kernel
theorem dJ2_getChar_3b067_29 : decode cJ2_getChar_3b067 29 = .ok (.iconst 1, 1) := by decide +kernel
theorem dJ2_getChar_3b067_30 : decode cJ2_getChar_3b067 30 = .ok (.ishl, 1) := by decide +kernel
theorem dJ2_getChar_3b067_31 : decode cJ2_getChar_3b067 31 = .ok (.istore_n 1, 1) := by decide +kernel
theorem dJ2_getChar_3b067_32 : decode cJ2_getChar_3b067 32 = .ok (.aload_n 0, 1) := by decide +kernel
theorem dJ2_getChar_3b067_33 : decode cJ2_getChar_3b067 33 = .ok (.iload_n 1, 1) := by decide +kernel
theorem dJ2_getChar_3b067_34 : decode cJ2_getChar_3b067 34 = .ok (.iinc 1 1, 3) := by decide +kernel
theorem dJ2_getChar_3b067_37 : decode cJ2_getChar_3b067 37 = .ok (.baload, 1) := by decide +kernel
theorem dJ2_getChar_3b067_38 : decode cJ2_getChar_3b067 38 = .ok (.sipush 255, 3) := by decide +kernel
theorem dJ2_getChar_3b067_41 : decode cJ2_getChar_3b067 41 = .ok (.iand, 1) := by decide +kernel
theorem dJ2_getChar_3b067_42 : decode cJ2_getChar_3b067 42 = .ok (.getstatic 59, 3) := by decide +kernel
theorem dJ2_getChar_3b067_45 : decode cJ2_getChar_3b067 45 = .ok (.ishl, 1) := by decide +kernel
theorem dJ2_getChar_3b067_46 : decode cJ2_getChar_3b067 46 = .ok (.aload_n 0, 1) := by decide +kernel
theorem dJ2_getChar_3b067_47 : decode cJ2_getChar_3b067 47 = .ok (.iload_n 1, 1) := by decide +kernel
theorem dJ2_getChar_3b067_48 : decode cJ2_getChar_3b067 48 = .ok (.baload, 1) := by decide +kernel
theorem dJ2_getChar_3b067_49 : decode cJ2_getChar_3b067 49 = .ok (.sipush 255, 3) := by decide +kernel
theorem dJ2_getChar_3b067_52 : decode cJ2_getChar_3b067 52 = .ok (.iand, 1) := by decide +kernel
theorem dJ2_getChar_3b067_53 : decode cJ2_getChar_3b067 53 = .ok (.getstatic 63, 3) := by decide +kernel
theorem dJ2_getChar_3b067_56 : decode cJ2_getChar_3b067 56 = .ok (.ishl, 1) := by decide +kernel
theorem dJ2_getChar_3b067_57 : decode cJ2_getChar_3b067 57 = .ok (.ior, 1) := by decide +kernel
theorem dJ2_getChar_3b067_58 : decode cJ2_getChar_3b067 58 = .ok (.i2c, 1) := by decide +kernel
theorem dJ2_getChar_3b067_59 : decode cJ2_getChar_3b067 59 = .ok (.ireturn, 1) := by decide +kernel
theorem dJ2_length_9d52b_0 : decode cJ2_length_9d52b 0 = .ok (.aload_n 0, 1) := by decide +kernel
theorem dJ2_length_9d52b_1 : decode cJ2_length_9d52b 1 = .ok (.arraylength, 1) := by decide +kernel
theorem dJ2_length_9d52b_2 : decode cJ2_length_9d52b 2 = .ok (.iconst 1, 1) := by decide +kernel
theorem dJ2_length_9d52b_3 : decode cJ2_length_9d52b 3 = .ok (.ishr, 1) := by decide +kernel
theorem dJ2_length_9d52b_4 : decode cJ2_length_9d52b 4 = .ok (.ireturn, 1) := by decide +kernel
theorem dJ2_charAt_3b067_0 : decode cJ2_charAt_3b067 0 = .ok (.iload_n 1, 1) := by decide +kernel
theorem dJ2_charAt_3b067_1 : decode cJ2_charAt_3b067 1 = .ok (.aload_n 0, 1) := by decide +kernel
theorem dJ2_charAt_3b067_2 : decode cJ2_charAt_3b067 2 = .ok (.invokestatic 67, 3) := by decide +kernel
theorem dJ2_charAt_3b067_5 : decode cJ2_charAt_3b067 5 = .ok (.aload_n 0, 1) := by decide +kernel
theorem dJ2_charAt_3b067_6 : decode cJ2_charAt_3b067 6 = .ok (.iload_n 1, 1) := by decide +kernel
theorem dJ2_charAt_3b067_7 : decode cJ2_charAt_3b067 7 = .ok (.invokestatic 71, 3) := by decide +kernel
theorem dJ2_charAt_3b067_10 : decode cJ2_charAt_3b067 10 = .ok (.ireturn, 1) := by decide +kernel
theorem dJ2_checkIndex_2214a_0 : decode cJ2_checkIndex_2214a 0 = .ok (.iload_n 0, 1) := by decide +kernel
theorem dJ2_checkIndex_2214a_1 : decode cJ2_checkIndex_2214a 1 = .ok (.aload_n 1, 1) := by decide +kernel
theorem dJ2_checkIndex_2214a_2 : decode cJ2_checkIndex_2214a 2 = .ok (.invokestatic 48, 3) := by decide +kernel
theorem dJ2_checkIndex_2214a_5 : decode cJ2_checkIndex_2214a 5 = .ok (.invokestatic 414, 3) := by decide +kernel
theorem dJ2_checkIndex_2214a_8 : decode cJ2_checkIndex_2214a 8 = .ok (.return_, 1) := by decide +kernel
theorem dJ7_fill_d0a16_0 : decode cJ7_fill_d0a16 0 = .ok (.iconst 0, 1) := by decide +kernel
theorem dJ7_fill_d0a16_1 : decode cJ7_fill_d0a16 1 = .ok (.istore_n 3, 1) := by decide +kernel
theorem dJ7_fill_d0a16_2 : decode cJ7_fill_d0a16 2 = .ok (.aload_n 0, 1) := by decide +kernel
theorem dJ7_fill_d0a16_3 : decode cJ7_fill_d0a16 3 = .ok (.arraylength, 1) := by decide +kernel
theorem dJ7_fill_d0a16_4 : decode cJ7_fill_d0a16 4 = .ok (.istore 4, 2) := by decide +kernel
theorem dJ7_fill_d0a16_6 : decode cJ7_fill_d0a16 6 = .ok (.iload_n 3, 1) := by decide +kernel
theorem dJ7_fill_d0a16_7 : decode cJ7_fill_d0a16 7 = .ok (.iload 4, 2) := by decide +kernel
theorem dJ7_fill_d0a16_9 : decode cJ7_fill_d0a16 9 = .ok (.if_icmp .ge 13, 3) := by decide +kernel
theorem dJ7_fill_d0a16_12 : decode cJ7_fill_d0a16 12 = .ok (.aload_n 0, 1) := by decide +kernel
theorem dJ7_fill_d0a16_13 : decode cJ7_fill_d0a16 13 = .ok (.iload_n 3, 1) := by decide +kernel
theorem dJ7_fill_d0a16_14 : decode cJ7_fill_d0a16 14 = .ok (.lload_n 1, 1) := by decide +kernel
theorem dJ7_fill_d0a16_15 : decode cJ7_fill_d0a16 15 = .ok (.lastore, 1) := by decide +kernel
theorem dJ7_fill_d0a16_16 : decode cJ7_fill_d0a16 16 = .ok (.iinc 3 1, 3) := by decide +kernel
theorem dJ7_fill_d0a16_19 : decode cJ7_fill_d0a16 19 = .ok (.goto (-13), 3) := by decide +kernel
theorem dJ7_fill_d0a16_22 : decode cJ7_fill_d0a16 22 = .ok (.return_, 1) := by decide +kernel
theorem dJ7_fill_53178_0 : decode cJ7_fill_53178 0 = .ok (.iconst 0, 1) := by decide +kernel
theorem dJ7_fill_53178_1 : decode cJ7_fill_53178 1 = .ok (.istore_n 2, 1) := by decide +kernel
theorem dJ7_fill_53178_2 : decode cJ7_fill_53178 2 = .ok (.aload_n 0, 1) := by decide +kernel
theorem dJ7_fill_53178_3 : decode cJ7_fill_53178 3 = .ok (.arraylength, 1) := by decide +kernel
theorem dJ7_fill_53178_4 : decode cJ7_fill_53178 4 = .ok (.istore_n 3, 1) := by decide +kernel
theorem dJ7_fill_53178_5 : decode cJ7_fill_53178 5 = .ok (.iload_n 2, 1) := by decide +kernel
theorem dJ7_fill_53178_6 : decode cJ7_fill_53178 6 = .ok (.iload_n 3, 1) := by decide +kernel
theorem dJ7_fill_53178_7 : decode cJ7_fill_53178 7 = .ok (.if_icmp .ge 13, 3) := by decide +kernel
theorem dJ7_fill_53178_10 : decode cJ7_fill_53178 10 = .ok (.aload_n 0, 1) := by decide +kernel
theorem dJ7_fill_53178_11 : decode cJ7_fill_53178 11 = .ok (.iload_n 2, 1) := by decide +kernel
theorem dJ7_fill_53178_12 : decode cJ7_fill_53178 12 = .ok (.iload_n 1, 1) := by decide +kernel
theorem dJ7_fill_53178_13 : decode cJ7_fill_53178 13 = .ok (.iastore, 1) := by decide +kernel
theorem dJ7_fill_53178_14 : decode cJ7_fill_53178 14 = .ok (.iinc 2 1, 3) := by decide +kernel
theorem dJ7_fill_53178_17 : decode cJ7_fill_53178 17 = .ok (.goto (-12), 3) := by decide +kernel
theorem dJ7_fill_53178_20 : decode cJ7_fill_53178 20 = .ok (.return_, 1) := by decide +kernel
theorem dJ7_fill_031fb_0 : decode cJ7_fill_031fb 0 = .ok (.iconst 0, 1) := by decide +kernel
theorem dJ7_fill_031fb_1 : decode cJ7_fill_031fb 1 = .ok (.istore_n 2, 1) := by decide +kernel
theorem dJ7_fill_031fb_2 : decode cJ7_fill_031fb 2 = .ok (.aload_n 0, 1) := by decide +kernel
theorem dJ7_fill_031fb_3 : decode cJ7_fill_031fb 3 = .ok (.arraylength, 1) := by decide +kernel
theorem dJ7_fill_031fb_4 : decode cJ7_fill_031fb 4 = .ok (.istore_n 3, 1) := by decide +kernel
theorem dJ7_fill_031fb_5 : decode cJ7_fill_031fb 5 = .ok (.iload_n 2, 1) := by decide +kernel
theorem dJ7_fill_031fb_6 : decode cJ7_fill_031fb 6 = .ok (.iload_n 3, 1) := by decide +kernel
theorem dJ7_fill_031fb_7 : decode cJ7_fill_031fb 7 = .ok (.if_icmp .ge 13, 3) := by decide +kernel
theorem dJ7_fill_031fb_10 : decode cJ7_fill_031fb 10 = .ok (.aload_n 0, 1) := by decide +kernel
theorem dJ7_fill_031fb_11 : decode cJ7_fill_031fb 11 = .ok (.iload_n 2, 1) := by decide +kernel
theorem dJ7_fill_031fb_12 : decode cJ7_fill_031fb 12 = .ok (.iload_n 1, 1) := by decide +kernel
theorem dJ7_fill_031fb_13 : decode cJ7_fill_031fb 13 = .ok (.bastore, 1) := by decide +kernel
theorem dJ7_fill_031fb_14 : decode cJ7_fill_031fb 14 = .ok (.iinc 2 1, 3) := by decide +kernel
theorem dJ7_fill_031fb_17 : decode cJ7_fill_031fb 17 = .ok (.goto (-12), 3) := by decide +kernel
theorem dJ7_fill_031fb_20 : decode cJ7_fill_031fb 20 = .ok (.return_, 1) := by decide +kernel
theorem dJ3_checkIndex_8e157_0 : decode cJ3_checkIndex_8e157 0 = .ok (.iload_n 0, 1) := by decide +kernel
theorem dJ3_checkIndex_8e157_1 : decode cJ3_checkIndex_8e157 1 = .ok (.ifCond .lt 8, 3) := by decide +kernel
theorem dJ3_checkIndex_8e157_4 : decode cJ3_checkIndex_8e157 4 = .ok (.iload_n 0, 1) := by decide +kernel
theorem dJ3_checkIndex_8e157_5 : decode cJ3_checkIndex_8e157 5 = .ok (.iload_n 1, 1) := by decide +kernel
theorem dJ3_checkIndex_8e157_6 : decode cJ3_checkIndex_8e157 6 = .ok (.if_icmp .lt 10, 3) := by decide +kernel
theorem dJ3_checkIndex_8e157_9 : decode cJ3_checkIndex_8e157 9 = .ok (.aload_n 2, 1) := by decide +kernel
theorem dJ3_checkIndex_8e157_10 : decode cJ3_checkIndex_8e157 10 = .ok (.iload_n 0, 1) := by decide +kernel
theorem dJ3_checkIndex_8e157_11 : decode cJ3_checkIndex_8e157 11 = .ok (.iload_n 1, 1) := by decide +kernel
theorem dJ3_checkIndex_8e157_12 : decode cJ3_checkIndex_8e157 12 = .ok (.invokestatic 95, 3) := by decide +kernel
theorem dJ3_checkIndex_8e157_15 : decode cJ3_checkIndex_8e157 15 = .ok (.athrow, 1) := by decide +kernel
theorem dJ3_checkIndex_8e157_16 : decode cJ3_checkIndex_8e157 16 = .ok (.iload_n 0, 1) := by decide +kernel
theorem dJ3_checkIndex_8e157_17 : decode cJ3_checkIndex_8e157 17 = .ok (.ireturn, 1) := by decide +kernel
