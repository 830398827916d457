theorem dX0_init_0 : decode cX0_init 0 = .ok (.aload_n 0, 1) := by decide +kernel
theorem dX0_init_1 : decode cX0_init 1 = .ok (.invokespecial 1, 3) := by decide +kernel
theorem dX0_init_4 : decode cX0_init 4 = .ok (.return_, 1) := by decide +kernel
theorem dX0_add_0 : decode cX0_add 0 = .ok (.aload_n 1, 1) := by decide +kernel
theorem dX0_add_1 : decode cX0_add 1 = .ok (.aconst_null, 1) := by decide +kernel
theorem dX0_add_2 : decode cX0_add 2 = .ok (.putfield 7, 3) := by decide +kernel
theorem dX0_add_5 : decode cX0_add 5 = .ok (.aload_n 0, 1) := by decide +kernel
theorem dX0_add_6 : decode cX0_add 6 = .ok (.getfield 13, 3) := by decide +kernel
theorem dX0_add_9 : decode cX0_add 9 = .ok (.ifnonnull 11, 3) := by decide +kernel
theorem dX0_add_12 : decode cX0_add 12 = .ok (.aload_n 0, 1) := by decide +kernel
theorem dX0_add_13 : decode cX0_add 13 = .ok (.aload_n 1, 1) := by decide +kernel
theorem dX0_add_14 : decode cX0_add 14 = .ok (.putfield 18, 3) := by decide +kernel
theorem dX0_add_17 : decode cX0_add 17 = .ok (.goto 11, 3) := by decide +kernel
theorem dX0_add_20 : decode cX0_add 20 = .ok (.aload_n 0, 1) := by decide +kernel
theorem dX0_add_21 : decode cX0_add 21 = .ok (.getfield 13, 3) := by decide +kernel
theorem dX0_add_24 : decode cX0_add 24 = .ok (.aload_n 1, 1) := by decide +kernel
theorem dX0_add_25 : decode cX0_add 25 = .ok (.putfield 7, 3) := by decide +kernel
theorem dX0_add_28 : decode cX0_add 28 = .ok (.aload_n 0, 1) := by decide +kernel
theorem dX0_add_29 : decode cX0_add 29 = .ok (.aload_n 1, 1) := by decide +kernel
theorem dX0_add_30 : decode cX0_add 30 = .ok (.putfield 13, 3) := by decide +kernel
theorem dX0_add_33 : decode cX0_add 33 = .ok (.aload_n 0, 1) := by decide +kernel
theorem dX0_add_34 : decode cX0_add 34 = .ok (.dup, 1) := by decide +kernel
theorem dX0_add_35 : decode cX0_add 35 = .ok (.getfield 21, 3) := by decide +kernel
theorem dX0_add_38 : decode cX0_add 38 = .ok (.iconst 1, 1) := by decide +kernel
theorem dX0_add_39 : decode cX0_add 39 = .ok (.iadd, 1) := by decide +kernel
theorem dX0_add_40 : decode cX0_add 40 = .ok (.putfield 21, 3) := by decide +kernel
theorem dX0_add_43 : decode cX0_add 43 = .ok (.return_, 1) := by decide +kernel
theorem dX0_take_0 : decode cX0_take 0 = .ok (.aload_n 0, 1) := by decide +kernel
theorem dX0_take_1 : decode cX0_take 1 = .ok (.getfield 18, 3) := by decide +kernel
theorem dX0_take_4 : decode cX0_take 4 = .ok (.astore_n 1, 1) := by decide +kernel
theorem dX0_take_5 : decode cX0_take 5 = .ok (.aload_n 1, 1) := by decide +kernel
theorem dX0_take_6 : decode cX0_take 6 = .ok (.ifnonnull 5, 3) := by decide +kernel
theorem dX0_take_9 : decode cX0_take 9 = .ok (.aconst_null, 1) := by decide +kernel
theorem dX0_take_10 : decode cX0_take 10 = .ok (.areturn, 1) := by decide +kernel
theorem dX0_take_11 : decode cX0_take 11 = .ok (.aload_n 0, 1) := by decide +kernel
theorem dX0_take_12 : decode cX0_take 12 = .ok (.aload_n 1, 1) := by decide +kernel
theorem dX0_take_13 : decode cX0_take 13 = .ok (.getfield 7, 3) := by decide +kernel
theorem dX0_take_16 : decode cX0_take 16 = .ok (.putfield 18, 3) := by decide +kernel
theorem dX0_take_19 : decode cX0_take 19 = .ok (.aload_n 0, 1) := by decide +kernel
theorem dX0_take_20 : decode cX0_take 20 = .ok (.getfield 18, 3) := by decide +kernel
theorem dX0_take_23 : decode cX0_take 23 = .ok (.ifnonnull 8, 3) := by decide +kernel
theorem dX0_take_26 : decode cX0_take 26 = .ok (.aload_n 0, 1) := by decide +kernel
theorem dX0_take_27 : decode cX0_take 27 = .ok (.aconst_null, 1) := by decide +kernel
theorem dX0_take_28 : decode cX0_take 28 = .ok (.putfield 13, 3) := by decide +kernel
theorem dX0_take_31 : decode cX0_take 31 = .ok (.aload_n 1, 1) := by decide +kernel
theorem dX0_take_32 : decode cX0_take 32 = .ok (.aconst_null, 1) := by decide +kernel
theorem dX0_take_33 : decode cX0_take 33 = .ok (.putfield 7, 3) := by decide +kernel
theorem dX0_take_36 : decode cX0_take 36 = .ok (.aload_n 0, 1) := by decide +kernel
theorem dX0_take_37 : decode cX0_take 37 = .ok (.dup, 1) := by decide +kernel
theorem dX0_take_38 : decode cX0_take 38 = .ok (.getfield 21, 3) := by decide +kernel
theorem dX0_take_41 : decode cX0_take 41 = .ok (.iconst 1, 1) := by decide +kernel
theorem dX0_take_42 : decode cX0_take 42 = .ok (.isub, 1) := by decide +kernel
theorem dX0_take_43 : decode cX0_take 43 = .ok (.putfield 21, 3) := by decide +kernel
theorem dX0_take_46 : decode cX0_take 46 = .ok (.aload_n 1, 1) := by decide +kernel
theorem dX0_take_47 : decode cX0_take 47 = .ok (.areturn, 1) := by decide +kernel
theorem dX0_at_0 : decode cX0_at 0 = .ok (.iload_n 1, 1) := by decide +kernel
theorem dX0_at_1 : decode cX0_at 1 = .ok (.ifCond .lt 11, 3) := by decide +kernel
theorem dX0_at_4 : decode cX0_at 4 = .ok (.iload_n 1, 1) := by decide +kernel
theorem dX0_at_5 : decode cX0_at 5 = .ok (.aload_n 0, 1) := by decide +kernel
theorem dX0_at_6 : decode cX0_at 6 = .ok (.getfield 21, 3) := by decide +kernel
theorem dX0_at_9 : decode cX0_at 9 = .ok (.if_icmp .lt 5, 3) := by decide +kernel
theorem dX0_at_12 : decode cX0_at 12 = .ok (.aconst_null, 1) := by decide +kernel
theorem dX0_at_13 : decode cX0_at 13 = .ok (.areturn, 1) := by decide +kernel
theorem dX0_at_14 : decode cX0_at 14 = .ok (.aload_n 0, 1) := by decide +kernel
theorem dX0_at_15 : decode cX0_at 15 = .ok (.getfield 18, 3) := by decide +kernel
theorem dX0_at_18 : decode cX0_at 18 = .ok (.astore_n 2, 1) := by decide +kernel
theorem dX0_at_19 : decode cX0_at 19 = .ok (.iconst 0, 1) := by decide +kernel
theorem dX0_at_20 : decode cX0_at 20 = .ok (.istore_n 3, 1) := by decide +kernel
theorem dX0_at_21 : decode cX0_at 21 = .ok (.iload_n 3, 1) := by decide +kernel
theorem dX0_at_22 : decode cX0_at 22 = .ok (.iload_n 1, 1) := by decide +kernel
theorem dX0_at_23 : decode cX0_at 23 = .ok (.if_icmp .ge 18, 3) := by decide +kernel
theorem dX0_at_26 : decode cX0_at 26 = .ok (.aload_n 2, 1) := by decide +kernel
theorem dX0_at_27 : decode cX0_at 27 = .ok (.ifnull 14, 3) := by decide +kernel
theorem dX0_at_30 : decode cX0_at 30 = .ok (.aload_n 2, 1) := by decide +kernel
theorem dX0_at_31 : decode cX0_at 31 = .ok (.getfield 7, 3) := by decide +kernel
theorem dX0_at_34 : decode cX0_at 34 = .ok (.astore_n 2, 1) := by decide +kernel
theorem dX0_at_35 : decode cX0_at 35 = .ok (.iinc 3 1, 3) := by decide +kernel
theorem dX0_at_38 : decode cX0_at 38 = .ok (.goto (-17), 3) := by decide +kernel
theorem dX0_at_41 : decode cX0_at 41 = .ok (.aload_n 2, 1) := by decide +kernel
theorem dX0_at_42 : decode cX0_at 42 = .ok (.areturn, 1) := by decide +kernel
theorem dX0_sumOfNs_0 : decode cX0_sumOfNs 0 = .ok (.iconst 0, 1) := by decide +kernel
theorem dX0_sumOfNs_1 : decode cX0_sumOfNs 1 = .ok (.istore_n 1, 1) := by decide +kernel
theorem dX0_sumOfNs_2 : decode cX0_sumOfNs 2 = .ok (.aload_n 0, 1) := by decide +kernel
theorem dX0_sumOfNs_3 : decode cX0_sumOfNs 3 = .ok (.getfield 18, 3) := by decide +kernel
theorem dX0_sumOfNs_6 : decode cX0_sumOfNs 6 = .ok (.astore_n 2, 1) := by decide +kernel
theorem dX0_sumOfNs_7 : decode cX0_sumOfNs 7 = .ok (.iconst 0, 1) := by decide +kernel
theorem dX0_sumOfNs_8 : decode cX0_sumOfNs 8 = .ok (.istore_n 3, 1) := by decide +kernel
theorem dX0_sumOfNs_9 : decode cX0_sumOfNs 9 = .ok (.iload_n 3, 1) := by decide +kernel
theorem dX0_sumOfNs_10 : decode cX0_sumOfNs 10 = .ok (.aload_n 0, 1) := by decide +kernel
theorem dX0_sumOfNs_11 : decode cX0_sumOfNs 11 = .ok (.getfield 21, 3) := by decide +kernel
theorem dX0_sumOfNs_14 : decode cX0_sumOfNs 14 = .ok (.if_icmp .ge 25, 3) := by decide +kernel
theorem dX0_sumOfNs_17 : decode cX0_sumOfNs 17 = .ok (.aload_n 2, 1) := by decide +kernel
theorem dX0_sumOfNs_18 : decode cX0_sumOfNs 18 = .ok (.ifnull 21, 3) := by decide +kernel
theorem dX0_sumOfNs_21 : decode cX0_sumOfNs 21 = .ok (.iload_n 1, 1) := by decide +kernel
theorem dX0_sumOfNs_22 : decode cX0_sumOfNs 22 = .ok (.aload_n 2, 1) := by decide +kernel
theorem dX0_sumOfNs_23 : decode cX0_sumOfNs 23 = .ok (.getfield 25, 3) := by decide +kernel
theorem dX0_sumOfNs_26 : decode cX0_sumOfNs 26 = .ok (.iadd, 1) := by decide +kernel
theorem dX0_sumOfNs_27 : decode cX0_sumOfNs 27 = .ok (.istore_n 1, 1) := by decide +kernel
theorem dX0_sumOfNs_28 : decode cX0_sumOfNs 28 = .ok (.aload_n 2, 1) := by decide +kernel
theorem dX0_sumOfNs_29 : decode cX0_sumOfNs 29 = .ok (.getfield 7, 3) := by decide +kernel
theorem dX0_sumOfNs_32 : decode cX0_sumOfNs 32 = .ok (.astore_n 2, 1) := by decide +kernel
theorem dX0_sumOfNs_33 : decode cX0_sumOfNs 33 = .ok (.iinc 3 1, 3) := by decide +kernel
theorem dX0_sumOfNs_36 : decode cX0_sumOfNs 36 = .ok (.goto (-27), 3) := by decide +kernel
theorem dX0_sumOfNs_39 : decode cX0_sumOfNs 39 = .ok (.iload_n 1, 1) := by decide +kernel
theorem dX0_sumOfNs_40 : decode cX0_sumOfNs 40 = .ok (.ireturn, 1) := by decide +kernel
theorem dX1_init_0 : decode cX1_init 0 = .ok (.aload_n 0, 1) := by decide +kernel
theorem dX1_init_1 : decode cX1_init 1 = .ok (.invokespecial 3, 3) := by decide +kernel
theorem dX1_init_4 : decode cX1_init 4 = .ok (.aload_n 0, 1) := by decide +kernel
theorem dX1_init_5 : decode cX1_init 5 = .ok (.iload_n 1, 1) := by decide +kernel
theorem dX1_init_6 : decode cX1_init 6 = .ok (.putfield 9, 3) := by decide +kernel
theorem dX1_init_9 : decode cX1_init 9 = .ok (.aload_n 0, 1) := by decide +kernel
theorem dX1_init_10 : decode cX1_init 10 = .ok (.iload_n 2, 1) := by decide +kernel
theorem dX1_init_11 : decode cX1_init 11 = .ok (.putfield 15, 3) := by decide +kernel
theorem dX1_init_14 : decode cX1_init 14 = .ok (.aload_n 0, 1) := by decide +kernel
theorem dX1_init_15 : decode cX1_init 15 = .ok (.aload_n 3, 1) := by decide +kernel
theorem dX1_init_16 : decode cX1_init 16 = .ok (.putfield 18, 3) := by decide +kernel
theorem dX1_init_19 : decode cX1_init 19 = .ok (.return_, 1) := by decide +kernel
theorem dX1_answer_0 : decode cX1_answer 0 = .ok (.aload_n 0, 1) := by decide +kernel
theorem dX1_answer_1 : decode cX1_answer 1 = .ok (.iload_n 1, 1) := by decide +kernel
theorem dX1_answer_2 : decode cX1_answer 2 = .ok (.putfield 22, 3) := by decide +kernel
theorem dX1_answer_5 : decode cX1_answer 5 = .ok (.aload_n 0, 1) := by decide +kernel
theorem dX1_answer_6 : decode cX1_answer 6 = .ok (.iload_n 2, 1) := by decide +kernel
theorem dX1_answer_7 : decode cX1_answer 7 = .ok (.putfield 25, 3) := by decide +kernel
theorem dX1_answer_10 : decode cX1_answer 10 = .ok (.iconst 0, 1) := by decide +kernel
theorem dX1_answer_11 : decode cX1_answer 11 = .ok (.ireturn, 1) := by decide +kernel
theorem dX1_breakByCut_0 : decode cX1_breakByCut 0 = .ok (.aload_n 0, 1) := by decide +kernel
theorem dX1_breakByCut_1 : decode cX1_breakByCut 1 = .ok (.getfield 28, 3) := by decide +kernel
theorem dX1_breakByCut_4 : decode cX1_breakByCut 4 = .ok (.ifnull 24, 3) := by decide +kernel
theorem dX1_breakByCut_7 : decode cX1_breakByCut 7 = .ok (.aload_n 0, 1) := by decide +kernel
theorem dX1_breakByCut_8 : decode cX1_breakByCut 8 = .ok (.getfield 28, 3) := by decide +kernel
theorem dX1_breakByCut_11 : decode cX1_breakByCut 11 = .ok (.dup, 1) := by decide +kernel
theorem dX1_breakByCut_12 : decode cX1_breakByCut 12 = .ok (.getfield 31, 3) := by decide +kernel
theorem dX1_breakByCut_15 : decode cX1_breakByCut 15 = .ok (.aload_n 0, 1) := by decide +kernel
theorem dX1_breakByCut_16 : decode cX1_breakByCut 16 = .ok (.getfield 15, 3) := by decide +kernel
theorem dX1_breakByCut_19 : decode cX1_breakByCut 19 = .ok (.iadd, 1) := by decide +kernel
theorem dX1_breakByCut_20 : decode cX1_breakByCut 20 = .ok (.putfield 31, 3) := by decide +kernel
theorem dX1_breakByCut_23 : decode cX1_breakByCut 23 = .ok (.aload_n 0, 1) := by decide +kernel
theorem dX1_breakByCut_24 : decode cX1_breakByCut 24 = .ok (.aconst_null, 1) := by decide +kernel
theorem dX1_breakByCut_25 : decode cX1_breakByCut 25 = .ok (.putfield 28, 3) := by decide +kernel
theorem dX1_breakByCut_28 : decode cX1_breakByCut 28 = .ok (.aload_n 0, 1) := by decide +kernel
theorem dX1_breakByCut_29 : decode cX1_breakByCut 29 = .ok (.iconst 3, 1) := by decide +kernel
theorem dX1_breakByCut_30 : decode cX1_breakByCut 30 = .ok (.iconst 1, 1) := by decide +kernel
theorem dX1_breakByCut_31 : decode cX1_breakByCut 31 = .ok (.invokevirtual 36, 3) := by decide +kernel
theorem dX1_breakByCut_34 : decode cX1_breakByCut 34 = .ok (.pop, 1) := by decide +kernel
theorem dX1_breakByCut_35 : decode cX1_breakByCut 35 = .ok (.return_, 1) := by decide +kernel
theorem dX1_destination_0 : decode cX1_destination 0 = .ok (.aload_n 0, 1) := by decide +kernel
theorem dX1_destination_1 : decode cX1_destination 1 = .ok (.getfield 40, 3) := by decide +kernel
theorem dX1_destination_4 : decode cX1_destination 4 = .ok (.ifnull 11, 3) := by decide +kernel
theorem dX1_destination_7 : decode cX1_destination 7 = .ok (.aload_n 0, 1) := by decide +kernel
theorem dX1_destination_8 : decode cX1_destination 8 = .ok (.getfield 40, 3) := by decide +kernel
theorem dX1_destination_11 : decode cX1_destination 11 = .ok (.getfield 43, 3) := by decide +kernel
theorem dX1_destination_14 : decode cX1_destination 14 = .ok (.ireturn, 1) := by decide +kernel
theorem dX1_destination_15 : decode cX1_destination 15 = .ok (.aload_n 0, 1) := by decide +kernel
theorem dX1_destination_16 : decode cX1_destination 16 = .ok (.getfield 46, 3) := by decide +kernel
theorem dX1_destination_19 : decode cX1_destination 19 = .ok (.ifnonnull 8, 3) := by decide +kernel
theorem dX1_destination_22 : decode cX1_destination 22 = .ok (.bipush (-9), 2) := by decide +kernel
theorem dX1_destination_24 : decode cX1_destination 24 = .ok (.goto 10, 3) := by decide +kernel
theorem dX1_destination_27 : decode cX1_destination 27 = .ok (.aload_n 0, 1) := by decide +kernel
theorem dX1_destination_28 : decode cX1_destination 28 = .ok (.getfield 46, 3) := by decide +kernel
theorem dX1_destination_31 : decode cX1_destination 31 = .ok (.getfield 50, 3) := by decide +kernel
theorem dX1_destination_34 : decode cX1_destination 34 = .ok (.ireturn, 1) := by decide +kernel
theorem dX1_whatLetter_0 : decode cX1_whatLetter 0 = .ok (.aload_n 0, 1) := by decide +kernel
theorem dX1_whatLetter_1 : decode cX1_whatLetter 1 = .ok (.getfield 55, 3) := by decide +kernel
theorem dX1_whatLetter_4 : decode cX1_whatLetter 4 = .ok (.ifCond .eq 5, 3) := by decide +kernel
theorem dX1_whatLetter_7 : decode cX1_whatLetter 7 = .ok (.iconst 1, 1) := by decide +kernel
theorem dX1_whatLetter_8 : decode cX1_whatLetter 8 = .ok (.ireturn, 1) := by decide +kernel
theorem dX1_whatLetter_9 : decode cX1_whatLetter 9 = .ok (.aload_n 0, 1) := by decide +kernel
theorem dX1_whatLetter_10 : decode cX1_whatLetter 10 = .ok (.getfield 59, 3) := by decide +kernel
theorem dX1_whatLetter_13 : decode cX1_whatLetter 13 = .ok (.ifnonnull 7, 3) := by decide +kernel
theorem dX1_whatLetter_16 : decode cX1_whatLetter 16 = .ok (.iconst 2, 1) := by decide +kernel
theorem dX1_whatLetter_17 : decode cX1_whatLetter 17 = .ok (.goto 4, 3) := by decide +kernel
theorem dX1_whatLetter_20 : decode cX1_whatLetter 20 = .ok (.iconst 0, 1) := by decide +kernel
theorem dX1_whatLetter_21 : decode cX1_whatLetter 21 = .ok (.ireturn, 1) := by decide +kernel
theorem dX2_init_0 : decode cX2_init 0 = .ok (.aload_n 0, 1) := by decide +kernel
theorem dX2_init_1 : decode cX2_init 1 = .ok (.invokespecial 1, 3) := by decide +kernel
theorem dX2_init_4 : decode cX2_init 4 = .ok (.aload_n 0, 1) := by decide +kernel
theorem dX2_init_5 : decode cX2_init 5 = .ok (.new 7, 3) := by decide +kernel
theorem dX2_init_8 : decode cX2_init 8 = .ok (.dup, 1) := by decide +kernel
theorem dX2_init_9 : decode cX2_init 9 = .ok (.invokespecial 9, 3) := by decide +kernel
theorem dX2_init_12 : decode cX2_init 12 = .ok (.putfield 10, 3) := by decide +kernel
theorem dX2_init_15 : decode cX2_init 15 = .ok (.aload_n 0, 1) := by decide +kernel
theorem dX2_init_16 : decode cX2_init 16 = .ok (.iload_n 1, 1) := by decide +kernel
theorem dX2_init_17 : decode cX2_init 17 = .ok (.putfield 16, 3) := by decide +kernel
theorem dX2_init_20 : decode cX2_init 20 = .ok (.aload_n 0, 1) := by decide +kernel
theorem dX2_init_21 : decode cX2_init 21 = .ok (.iload_n 2, 1) := by decide +kernel
theorem dX2_init_22 : decode cX2_init 22 = .ok (.putfield 20, 3) := by decide +kernel
theorem dX2_init_25 : decode cX2_init 25 = .ok (.aload_n 0, 1) := by decide +kernel
theorem dX2_init_26 : decode cX2_init 26 = .ok (.iload_n 3, 1) := by decide +kernel
theorem dX2_init_27 : decode cX2_init 27 = .ok (.putfield 23, 3) := by decide +kernel
theorem dX2_init_30 : decode cX2_init 30 = .ok (.aload_n 0, 1) := by decide +kernel
theorem dX2_init_31 : decode cX2_init 31 = .ok (.aload 4, 2) := by decide +kernel
theorem dX2_init_33 : decode cX2_init 33 = .ok (.putfield 26, 3) := by decide +kernel
theorem dX2_init_36 : decode cX2_init 36 = .ok (.return_, 1) := by decide +kernel
theorem dX2_isKnownIn_0 : decode cX2_isKnownIn 0 = .ok (.iload_n 1, 1) := by decide +kernel
theorem dX2_isKnownIn_1 : decode cX2_isKnownIn 1 = .ok (.aload_n 0, 1) := by decide +kernel
theorem dX2_isKnownIn_2 : decode cX2_isKnownIn 2 = .ok (.getfield 20, 3) := by decide +kernel
theorem dX2_isKnownIn_5 : decode cX2_isKnownIn 5 = .ok (.if_icmp .eq 11, 3) := by decide +kernel
theorem dX2_isKnownIn_8 : decode cX2_isKnownIn 8 = .ok (.iload_n 1, 1) := by decide +kernel
theorem dX2_isKnownIn_9 : decode cX2_isKnownIn 9 = .ok (.aload_n 0, 1) := by decide +kernel
theorem dX2_isKnownIn_10 : decode cX2_isKnownIn 10 = .ok (.getfield 23, 3) := by decide +kernel
theorem dX2_isKnownIn_13 : decode cX2_isKnownIn 13 = .ok (.if_icmp .ne 7, 3) := by decide +kernel
theorem dX2_isKnownIn_16 : decode cX2_isKnownIn 16 = .ok (.iconst 1, 1) := by decide +kernel
theorem dX2_isKnownIn_17 : decode cX2_isKnownIn 17 = .ok (.goto 4, 3) := by decide +kernel
theorem dX2_isKnownIn_20 : decode cX2_isKnownIn 20 = .ok (.iconst 0, 1) := by decide +kernel
theorem dX2_isKnownIn_21 : decode cX2_isKnownIn 21 = .ok (.ireturn, 1) := by decide +kernel
theorem dX2_howIn_0 : decode cX2_howIn 0 = .ok (.iload_n 1, 1) := by decide +kernel
theorem dX2_howIn_1 : decode cX2_howIn 1 = .ok (.aload_n 0, 1) := by decide +kernel
theorem dX2_howIn_2 : decode cX2_howIn 2 = .ok (.getfield 23, 3) := by decide +kernel
theorem dX2_howIn_5 : decode cX2_howIn 5 = .ok (.if_icmp .ne 10, 3) := by decide +kernel
theorem dX2_howIn_8 : decode cX2_howIn 8 = .ok (.aload_n 0, 1) := by decide +kernel
theorem dX2_howIn_9 : decode cX2_howIn 9 = .ok (.getfield 30, 3) := by decide +kernel
theorem dX2_howIn_12 : decode cX2_howIn 12 = .ok (.goto 7, 3) := by decide +kernel
theorem dX2_howIn_15 : decode cX2_howIn 15 = .ok (.aload_n 0, 1) := by decide +kernel
theorem dX2_howIn_16 : decode cX2_howIn 16 = .ok (.getfield 33, 3) := by decide +kernel
theorem dX2_howIn_19 : decode cX2_howIn 19 = .ok (.ireturn, 1) := by decide +kernel
theorem dX2_valueIn_0 : decode cX2_valueIn 0 = .ok (.iload_n 1, 1) := by decide +kernel
theorem dX2_valueIn_1 : decode cX2_valueIn 1 = .ok (.aload_n 0, 1) := by decide +kernel
theorem dX2_valueIn_2 : decode cX2_valueIn 2 = .ok (.getfield 23, 3) := by decide +kernel
theorem dX2_valueIn_5 : decode cX2_valueIn 5 = .ok (.if_icmp .ne 10, 3) := by decide +kernel
theorem dX2_valueIn_8 : decode cX2_valueIn 8 = .ok (.aload_n 0, 1) := by decide +kernel
theorem dX2_valueIn_9 : decode cX2_valueIn 9 = .ok (.getfield 36, 3) := by decide +kernel
theorem dX2_valueIn_12 : decode cX2_valueIn 12 = .ok (.goto 7, 3) := by decide +kernel
theorem dX2_valueIn_15 : decode cX2_valueIn 15 = .ok (.aload_n 0, 1) := by decide +kernel
theorem dX2_valueIn_16 : decode cX2_valueIn 16 = .ok (.getfield 39, 3) := by decide +kernel
theorem dX2_valueIn_19 : decode cX2_valueIn 19 = .ok (.ireturn, 1) := by decide +kernel
theorem dX3_init_0 : decode cX3_init 0 = .ok (.aload_n 0, 1) := by decide +kernel
theorem dX3_init_1 : decode cX3_init 1 = .ok (.invokespecial 1, 3) := by decide +kernel
theorem dX3_init_4 : decode cX3_init 4 = .ok (.aload_n 0, 1) := by decide +kernel
theorem dX3_init_5 : decode cX3_init 5 = .ok (.new 7, 3) := by decide +kernel
theorem dX3_init_8 : decode cX3_init 8 = .ok (.dup, 1) := by decide +kernel
theorem dX3_init_9 : decode cX3_init 9 = .ok (.invokespecial 9, 3) := by decide +kernel
theorem dX3_init_12 : decode cX3_init 12 = .ok (.putfield 10, 3) := by decide +kernel
theorem dX3_init_15 : decode cX3_init 15 = .ok (.aload_n 0, 1) := by decide +kernel
theorem dX3_init_16 : decode cX3_init 16 = .ok (.iload_n 1, 1) := by decide +kernel
theorem dX3_init_17 : decode cX3_init 17 = .ok (.putfield 16, 3) := by decide +kernel
theorem dX3_init_20 : decode cX3_init 20 = .ok (.aload_n 0, 1) := by decide +kernel
theorem dX3_init_21 : decode cX3_init 21 = .ok (.iload_n 2, 1) := by decide +kernel
theorem dX3_init_22 : decode cX3_init 22 = .ok (.putfield 20, 3) := by decide +kernel
theorem dX3_init_25 : decode cX3_init 25 = .ok (.aload_n 0, 1) := by decide +kernel
theorem dX3_init_26 : decode cX3_init 26 = .ok (.iload_n 3, 1) := by decide +kernel
theorem dX3_init_27 : decode cX3_init 27 = .ok (.putfield 23, 3) := by decide +kernel
theorem dX3_init_30 : decode cX3_init 30 = .ok (.aload_n 0, 1) := by decide +kernel
theorem dX3_init_31 : decode cX3_init 31 = .ok (.iload 4, 2) := by decide +kernel
theorem dX3_init_33 : decode cX3_init 33 = .ok (.putfield 26, 3) := by decide +kernel
theorem dX3_init_36 : decode cX3_init 36 = .ok (.aload_n 0, 1) := by decide +kernel
theorem dX3_init_37 : decode cX3_init 37 = .ok (.aload 5, 2) := by decide +kernel
theorem dX3_init_39 : decode cX3_init 39 = .ok (.putfield 29, 3) := by decide +kernel
theorem dX3_init_42 : decode cX3_init 42 = .ok (.aload_n 0, 1) := by decide +kernel
theorem dX3_init_43 : decode cX3_init 43 = .ok (.iload 6, 2) := by decide +kernel
theorem dX3_init_45 : decode cX3_init 45 = .ok (.putfield 33, 3) := by decide +kernel
theorem dX3_init_48 : decode cX3_init 48 = .ok (.return_, 1) := by decide +kernel
theorem dX4_init_0 : decode cX4_init 0 = .ok (.aload_n 0, 1) := by decide +kernel
theorem dX4_init_1 : decode cX4_init 1 = .ok (.invokespecial 1, 3) := by decide +kernel
theorem dX4_init_4 : decode cX4_init 4 = .ok (.aload_n 0, 1) := by decide +kernel
theorem dX4_init_5 : decode cX4_init 5 = .ok (.aload_n 1, 1) := by decide +kernel
theorem dX4_init_6 : decode cX4_init 6 = .ok (.putfield 7, 3) := by decide +kernel
theorem dX4_init_9 : decode cX4_init 9 = .ok (.aload_n 0, 1) := by decide +kernel
theorem dX4_init_10 : decode cX4_init 10 = .ok (.iload_n 2, 1) := by decide +kernel
theorem dX4_init_11 : decode cX4_init 11 = .ok (.putfield 13, 3) := by decide +kernel
theorem dX4_init_14 : decode cX4_init 14 = .ok (.aload_n 0, 1) := by decide +kernel
theorem dX4_init_15 : decode cX4_init 15 = .ok (.aload_n 3, 1) := by decide +kernel
theorem dX4_init_16 : decode cX4_init 16 = .ok (.putfield 17, 3) := by decide +kernel
theorem dX4_init_19 : decode cX4_init 19 = .ok (.return_, 1) := by decide +kernel
theorem dX5_init_0 : decode cX5_init 0 = .ok (.aload_n 0, 1) := by decide +kernel
theorem dX5_init_1 : decode cX5_init 1 = .ok (.invokespecial 1, 3) := by decide +kernel
theorem dX5_init_4 : decode cX5_init 4 = .ok (.aload_n 0, 1) := by decide +kernel
theorem dX5_init_5 : decode cX5_init 5 = .ok (.new 7, 3) := by decide +kernel
theorem dX5_init_8 : decode cX5_init 8 = .ok (.dup, 1) := by decide +kernel
theorem dX5_init_9 : decode cX5_init 9 = .ok (.invokespecial 9, 3) := by decide +kernel
theorem dX5_init_12 : decode cX5_init 12 = .ok (.putfield 10, 3) := by decide +kernel
theorem dX5_init_15 : decode cX5_init 15 = .ok (.aload_n 0, 1) := by decide +kernel
theorem dX5_init_16 : decode cX5_init 16 = .ok (.iload_n 1, 1) := by decide +kernel
theorem dX5_init_17 : decode cX5_init 17 = .ok (.putfield 16, 3) := by decide +kernel
theorem dX5_init_20 : decode cX5_init 20 = .ok (.aload_n 0, 1) := by decide +kernel
theorem dX5_init_21 : decode cX5_init 21 = .ok (.iload_n 2, 1) := by decide +kernel
theorem dX5_init_22 : decode cX5_init 22 = .ok (.putfield 20, 3) := by decide +kernel
theorem dX5_init_25 : decode cX5_init 25 = .ok (.return_, 1) := by decide +kernel
theorem dJ9_max_7cf53_0 : decode cJ9_max_7cf53 0 = .ok (.iload_n 0, 1) := by decide +kernel
theorem dJ9_max_7cf53_1 : decode cJ9_max_7cf53 1 = .ok (.iload_n 1, 1) := by decide +kernel
theorem dJ9_max_7cf53_2 : decode cJ9_max_7cf53 2 = .ok (.if_icmp .lt 7, 3) := by decide +kernel
theorem dJ9_max_7cf53_5 : decode cJ9_max_7cf53 5 = .ok (.iload_n 0, 1) := by decide +kernel
theorem dJ9_max_7cf53_6 : decode cJ9_max_7cf53 6 = .ok (.goto 4, 3) := by decide +kernel
theorem dJ9_max_7cf53_9 : decode cJ9_max_7cf53 9 = .ok (.iload_n 1, 1) := by decide +kernel
theorem dJ9_max_7cf53_10 : decode cJ9_max_7cf53 10 = .ok (.ireturn, 1) := by decide +kernel
theorem dJ9_min_7cf53_0 : decode cJ9_min_7cf53 0 = .ok (.iload_n 0, 1) := by decide +kernel
theorem dJ9_min_7cf53_1 : decode cJ9_min_7cf53 1 = .ok (.iload_n 1, 1) := by decide +kernel
theorem dJ9_min_7cf53_2 : decode cJ9_min_7cf53 2 = .ok (.if_icmp .gt 7, 3) := by decide +kernel
theorem dJ9_min_7cf53_5 : decode cJ9_min_7cf53 5 = .ok (.iload_n 0, 1) := by decide +kernel
theorem dJ9_min_7cf53_6 : decode cJ9_min_7cf53 6 = .ok (.goto 4, 3) := by decide +kernel
theorem dJ9_min_7cf53_9 : decode cJ9_min_7cf53 9 = .ok (.iload_n 1, 1) := by decide +kernel
theorem dJ9_min_7cf53_10 : decode cJ9_min_7cf53 10 = .ok (.ireturn, 1) := by decide +kernel
