theorem dX6_init_0 : decode cX6_init 0 = .ok (.aload_n 0, 1) := by decide +kernel
theorem dX6_init_1 : decode cX6_init 1 = .ok (.invokespecial 1, 3) := by decide +kernel
theorem dX6_init_4 : decode cX6_init 4 = .ok (.aload_n 0, 1) := by decide +kernel
theorem dX6_init_5 : decode cX6_init 5 = .ok (.bipush 40, 2) := by decide +kernel
theorem dX6_init_7 : decode cX6_init 7 = .ok (.anewarray 9, 3) := by decide +kernel
theorem dX6_init_10 : decode cX6_init 10 = .ok (.putfield 11, 3) := by decide +kernel
theorem dX6_init_13 : decode cX6_init 13 = .ok (.aload_n 0, 1) := by decide +kernel
theorem dX6_init_14 : decode cX6_init 14 = .ok (.bipush 100, 2) := by decide +kernel
theorem dX6_init_16 : decode cX6_init 16 = .ok (.anewarray 15, 3) := by decide +kernel
theorem dX6_init_19 : decode cX6_init 19 = .ok (.putfield 17, 3) := by decide +kernel
theorem dX6_init_22 : decode cX6_init 22 = .ok (.aload_n 0, 1) := by decide +kernel
theorem dX6_init_23 : decode cX6_init 23 = .ok (.bipush 40, 2) := by decide +kernel
theorem dX6_init_25 : decode cX6_init 25 = .ok (.anewarray 21, 3) := by decide +kernel
theorem dX6_init_28 : decode cX6_init 28 = .ok (.putfield 23, 3) := by decide +kernel
theorem dX6_init_31 : decode cX6_init 31 = .ok (.aload_n 0, 1) := by decide +kernel
theorem dX6_init_32 : decode cX6_init 32 = .ok (.bipush 16, 2) := by decide +kernel
theorem dX6_init_34 : decode cX6_init 34 = .ok (.anewarray 27, 3) := by decide +kernel
theorem dX6_init_37 : decode cX6_init 37 = .ok (.putfield 29, 3) := by decide +kernel
theorem dX6_init_40 : decode cX6_init 40 = .ok (.aload_n 0, 1) := by decide +kernel
theorem dX6_init_41 : decode cX6_init 41 = .ok (.new 33, 3) := by decide +kernel
theorem dX6_init_44 : decode cX6_init 44 = .ok (.dup, 1) := by decide +kernel
theorem dX6_init_45 : decode cX6_init 45 = .ok (.invokespecial 35, 3) := by decide +kernel
theorem dX6_init_48 : decode cX6_init 48 = .ok (.putfield 36, 3) := by decide +kernel
theorem dX6_init_51 : decode cX6_init 51 = .ok (.iconst 0, 1) := by decide +kernel
theorem dX6_init_52 : decode cX6_init 52 = .ok (.istore_n 1, 1) := by decide +kernel
theorem dX6_init_53 : decode cX6_init 53 = .ok (.iload_n 1, 1) := by decide +kernel
theorem dX6_init_54 : decode cX6_init 54 = .ok (.aload_n 0, 1) := by decide +kernel
theorem dX6_init_55 : decode cX6_init 55 = .ok (.getfield 29, 3) := by decide +kernel
theorem dX6_init_58 : decode cX6_init 58 = .ok (.arraylength, 1) := by decide +kernel
theorem dX6_init_59 : decode cX6_init 59 = .ok (.if_icmp .ge 28, 3) := by decide +kernel
theorem dX6_init_62 : decode cX6_init 62 = .ok (.aload_n 0, 1) := by decide +kernel
theorem dX6_init_63 : decode cX6_init 63 = .ok (.getfield 29, 3) := by decide +kernel
theorem dX6_init_66 : decode cX6_init 66 = .ok (.iload_n 1, 1) := by decide +kernel
theorem dX6_init_67 : decode cX6_init 67 = .ok (.new 27, 3) := by decide +kernel
theorem dX6_init_70 : decode cX6_init 70 = .ok (.dup, 1) := by decide +kernel
theorem dX6_init_71 : decode cX6_init 71 = .ok (.iload_n 1, 1) := by decide +kernel
theorem dX6_init_72 : decode cX6_init 72 = .ok (.iconst 4, 1) := by decide +kernel
theorem dX6_init_73 : decode cX6_init 73 = .ok (.idiv, 1) := by decide +kernel
theorem dX6_init_74 : decode cX6_init 74 = .ok (.iload_n 1, 1) := by decide +kernel
theorem dX6_init_75 : decode cX6_init 75 = .ok (.iconst 4, 1) := by decide +kernel
theorem dX6_init_76 : decode cX6_init 76 = .ok (.irem, 1) := by decide +kernel
theorem dX6_init_77 : decode cX6_init 77 = .ok (.invokespecial 40, 3) := by decide +kernel
theorem dX6_init_80 : decode cX6_init 80 = .ok (.aastore, 1) := by decide +kernel
theorem dX6_init_81 : decode cX6_init 81 = .ok (.iinc 1 1, 3) := by decide +kernel
theorem dX6_init_84 : decode cX6_init 84 = .ok (.goto (-31), 3) := by decide +kernel
theorem dX6_init_87 : decode cX6_init 87 = .ok (.return_, 1) := by decide +kernel
theorem dX6_thing_0 : decode cX6_thing 0 = .ok (.iload_n 1, 1) := by decide +kernel
theorem dX6_thing_1 : decode cX6_thing 1 = .ok (.invokestatic 43, 3) := by decide +kernel
theorem dX6_thing_4 : decode cX6_thing 4 = .ok (.ifCond .eq 11, 3) := by decide +kernel
theorem dX6_thing_7 : decode cX6_thing 7 = .ok (.iload_n 2, 1) := by decide +kernel
theorem dX6_thing_8 : decode cX6_thing 8 = .ok (.iload_n 3, 1) := by decide +kernel
theorem dX6_thing_9 : decode cX6_thing 9 = .ok (.invokestatic 47, 3) := by decide +kernel
theorem dX6_thing_12 : decode cX6_thing 12 = .ok (.ifCond .ne 5, 3) := by decide +kernel
theorem dX6_thing_15 : decode cX6_thing 15 = .ok (.iconst (-1), 1) := by decide +kernel
theorem dX6_thing_16 : decode cX6_thing 16 = .ok (.ireturn, 1) := by decide +kernel
theorem dX6_thing_17 : decode cX6_thing 17 = .ok (.aload_n 0, 1) := by decide +kernel
theorem dX6_thing_18 : decode cX6_thing 18 = .ok (.iload_n 1, 1) := by decide +kernel
theorem dX6_thing_19 : decode cX6_thing 19 = .ok (.iload_n 2, 1) := by decide +kernel
theorem dX6_thing_20 : decode cX6_thing 20 = .ok (.iload_n 3, 1) := by decide +kernel
theorem dX6_thing_21 : decode cX6_thing 21 = .ok (.aconst_null, 1) := by decide +kernel
theorem dX6_thing_22 : decode cX6_thing 22 = .ok (.iconst 0, 1) := by decide +kernel
theorem dX6_thing_23 : decode cX6_thing 23 = .ok (.invokevirtual 51, 3) := by decide +kernel
theorem dX6_thing_26 : decode cX6_thing 26 = .ok (.ireturn, 1) := by decide +kernel
theorem dX6_guard_0 : decode cX6_guard 0 = .ok (.aload_n 0, 1) := by decide +kernel
theorem dX6_guard_1 : decode cX6_guard 1 = .ok (.iload_n 2, 1) := by decide +kernel
theorem dX6_guard_2 : decode cX6_guard 2 = .ok (.invokevirtual 55, 3) := by decide +kernel
theorem dX6_guard_5 : decode cX6_guard 5 = .ok (.astore 5, 2) := by decide +kernel
theorem dX6_guard_7 : decode cX6_guard 7 = .ok (.iload_n 1, 1) := by decide +kernel
theorem dX6_guard_8 : decode cX6_guard 8 = .ok (.invokestatic 43, 3) := by decide +kernel
theorem dX6_guard_11 : decode cX6_guard 11 = .ok (.ifCond .eq 19, 3) := by decide +kernel
theorem dX6_guard_14 : decode cX6_guard 14 = .ok (.aload 5, 2) := by decide +kernel
theorem dX6_guard_16 : decode cX6_guard 16 = .ok (.ifnull 14, 3) := by decide +kernel
theorem dX6_guard_19 : decode cX6_guard 19 = .ok (.iload_n 3, 1) := by decide +kernel
theorem dX6_guard_20 : decode cX6_guard 20 = .ok (.ifCond .lt 10, 3) := by decide +kernel
theorem dX6_guard_23 : decode cX6_guard 23 = .ok (.iload_n 3, 1) := by decide +kernel
theorem dX6_guard_24 : decode cX6_guard 24 = .ok (.sipush 255, 3) := by decide +kernel
theorem dX6_guard_27 : decode cX6_guard 27 = .ok (.if_icmp .le 5, 3) := by decide +kernel
theorem dX6_guard_30 : decode cX6_guard 30 = .ok (.iconst (-1), 1) := by decide +kernel
theorem dX6_guard_31 : decode cX6_guard 31 = .ok (.ireturn, 1) := by decide +kernel
theorem dX6_guard_32 : decode cX6_guard 32 = .ok (.aload_n 0, 1) := by decide +kernel
theorem dX6_guard_33 : decode cX6_guard 33 = .ok (.iload_n 1, 1) := by decide +kernel
theorem dX6_guard_34 : decode cX6_guard 34 = .ok (.iload 4, 2) := by decide +kernel
theorem dX6_guard_36 : decode cX6_guard 36 = .ok (.ifCond .eq 7, 3) := by decide +kernel
theorem dX6_guard_39 : decode cX6_guard 39 = .ok (.iconst 4, 1) := by decide +kernel
theorem dX6_guard_40 : decode cX6_guard 40 = .ok (.goto 4, 3) := by decide +kernel
theorem dX6_guard_43 : decode cX6_guard 43 = .ok (.iconst 3, 1) := by decide +kernel
theorem dX6_guard_44 : decode cX6_guard 44 = .ok (.iconst 0, 1) := by decide +kernel
theorem dX6_guard_45 : decode cX6_guard 45 = .ok (.aload 5, 2) := by decide +kernel
theorem dX6_guard_47 : decode cX6_guard 47 = .ok (.iload_n 3, 1) := by decide +kernel
theorem dX6_guard_48 : decode cX6_guard 48 = .ok (.invokevirtual 51, 3) := by decide +kernel
theorem dX6_guard_51 : decode cX6_guard 51 = .ok (.ireturn, 1) := by decide +kernel
theorem dX6_shut_0 : decode cX6_shut 0 = .ok (.aload_n 0, 1) := by decide +kernel
theorem dX6_shut_1 : decode cX6_shut 1 = .ok (.iload_n 1, 1) := by decide +kernel
theorem dX6_shut_2 : decode cX6_shut 2 = .ok (.invokevirtual 55, 3) := by decide +kernel
theorem dX6_shut_5 : decode cX6_shut 5 = .ok (.astore_n 3, 1) := by decide +kernel
theorem dX6_shut_6 : decode cX6_shut 6 = .ok (.aload_n 3, 1) := by decide +kernel
theorem dX6_shut_7 : decode cX6_shut 7 = .ok (.ifnull 19, 3) := by decide +kernel
theorem dX6_shut_10 : decode cX6_shut 10 = .ok (.aload_n 3, 1) := by decide +kernel
theorem dX6_shut_11 : decode cX6_shut 11 = .ok (.getfield 59, 3) := by decide +kernel
theorem dX6_shut_14 : decode cX6_shut 14 = .ok (.iconst 3, 1) := by decide +kernel
theorem dX6_shut_15 : decode cX6_shut 15 = .ok (.if_icmp .eq 13, 3) := by decide +kernel
theorem dX6_shut_18 : decode cX6_shut 18 = .ok (.aload_n 3, 1) := by decide +kernel
theorem dX6_shut_19 : decode cX6_shut 19 = .ok (.getfield 59, 3) := by decide +kernel
theorem dX6_shut_22 : decode cX6_shut 22 = .ok (.iconst 4, 1) := by decide +kernel
theorem dX6_shut_23 : decode cX6_shut 23 = .ok (.if_icmp .eq 5, 3) := by decide +kernel
theorem dX6_shut_26 : decode cX6_shut 26 = .ok (.iconst (-1), 1) := by decide +kernel
theorem dX6_shut_27 : decode cX6_shut 27 = .ok (.ireturn, 1) := by decide +kernel
theorem dX6_shut_28 : decode cX6_shut 28 = .ok (.aload_n 3, 1) := by decide +kernel
theorem dX6_shut_29 : decode cX6_shut 29 = .ok (.getfield 63, 3) := by decide +kernel
theorem dX6_shut_32 : decode cX6_shut 32 = .ok (.invokestatic 67, 3) := by decide +kernel
theorem dX6_shut_35 : decode cX6_shut 35 = .ok (.istore 4, 2) := by decide +kernel
theorem dX6_shut_37 : decode cX6_shut 37 = .ok (.aload_n 3, 1) := by decide +kernel
theorem dX6_shut_38 : decode cX6_shut 38 = .ok (.iload_n 2, 1) := by decide +kernel
theorem dX6_shut_39 : decode cX6_shut 39 = .ok (.putfield 63, 3) := by decide +kernel
theorem dX6_shut_42 : decode cX6_shut 42 = .ok (.iload 4, 2) := by decide +kernel
theorem dX6_shut_44 : decode cX6_shut 44 = .ok (.ireturn, 1) := by decide +kernel
theorem dX6_back_0 : decode cX6_back 0 = .ok (.aload_n 0, 1) := by decide +kernel
theorem dX6_back_1 : decode cX6_back 1 = .ok (.iload_n 1, 1) := by decide +kernel
theorem dX6_back_2 : decode cX6_back 2 = .ok (.invokevirtual 55, 3) := by decide +kernel
theorem dX6_back_5 : decode cX6_back 5 = .ok (.astore_n 2, 1) := by decide +kernel
theorem dX6_back_6 : decode cX6_back 6 = .ok (.aload_n 2, 1) := by decide +kernel
theorem dX6_back_7 : decode cX6_back 7 = .ok (.ifnull 11, 3) := by decide +kernel
theorem dX6_back_10 : decode cX6_back 10 = .ok (.aload_n 2, 1) := by decide +kernel
theorem dX6_back_11 : decode cX6_back 11 = .ok (.getfield 59, 3) := by decide +kernel
theorem dX6_back_14 : decode cX6_back 14 = .ok (.iconst 4, 1) := by decide +kernel
theorem dX6_back_15 : decode cX6_back 15 = .ok (.if_icmp .eq 5, 3) := by decide +kernel
theorem dX6_back_18 : decode cX6_back 18 = .ok (.iconst (-1), 1) := by decide +kernel
theorem dX6_back_19 : decode cX6_back 19 = .ok (.ireturn, 1) := by decide +kernel
theorem dX6_back_20 : decode cX6_back 20 = .ok (.aload_n 2, 1) := by decide +kernel
theorem dX6_back_21 : decode cX6_back 21 = .ok (.getfield 71, 3) := by decide +kernel
theorem dX6_back_24 : decode cX6_back 24 = .ok (.ifCond .ne 7, 3) := by decide +kernel
theorem dX6_back_27 : decode cX6_back 27 = .ok (.iconst 1, 1) := by decide +kernel
theorem dX6_back_28 : decode cX6_back 28 = .ok (.goto 4, 3) := by decide +kernel
theorem dX6_back_31 : decode cX6_back 31 = .ok (.iconst 0, 1) := by decide +kernel
theorem dX6_back_32 : decode cX6_back 32 = .ok (.invokestatic 67, 3) := by decide +kernel
theorem dX6_back_35 : decode cX6_back 35 = .ok (.istore_n 3, 1) := by decide +kernel
theorem dX6_back_36 : decode cX6_back 36 = .ok (.aload_n 2, 1) := by decide +kernel
theorem dX6_back_37 : decode cX6_back 37 = .ok (.iconst 1, 1) := by decide +kernel
theorem dX6_back_38 : decode cX6_back 38 = .ok (.putfield 71, 3) := by decide +kernel
theorem dX6_back_41 : decode cX6_back 41 = .ok (.iload_n 3, 1) := by decide +kernel
theorem dX6_back_42 : decode cX6_back 42 = .ok (.ireturn, 1) := by decide +kernel
theorem dX6_wake_0 : decode cX6_wake 0 = .ok (.aload_n 0, 1) := by decide +kernel
theorem dX6_wake_1 : decode cX6_wake 1 = .ok (.iload_n 1, 1) := by decide +kernel
theorem dX6_wake_2 : decode cX6_wake 2 = .ok (.invokevirtual 55, 3) := by decide +kernel
theorem dX6_wake_5 : decode cX6_wake 5 = .ok (.astore_n 3, 1) := by decide +kernel
theorem dX6_wake_6 : decode cX6_wake 6 = .ok (.aload_n 3, 1) := by decide +kernel
theorem dX6_wake_7 : decode cX6_wake 7 = .ok (.ifnull 12, 3) := by decide +kernel
theorem dX6_wake_10 : decode cX6_wake 10 = .ok (.aload_n 3, 1) := by decide +kernel
theorem dX6_wake_11 : decode cX6_wake 11 = .ok (.getfield 59, 3) := by decide +kernel
theorem dX6_wake_14 : decode cX6_wake 14 = .ok (.bipush 6, 2) := by decide +kernel
theorem dX6_wake_16 : decode cX6_wake 16 = .ok (.if_icmp .eq 5, 3) := by decide +kernel
theorem dX6_wake_19 : decode cX6_wake 19 = .ok (.iconst (-1), 1) := by decide +kernel
theorem dX6_wake_20 : decode cX6_wake 20 = .ok (.ireturn, 1) := by decide +kernel
theorem dX6_wake_21 : decode cX6_wake 21 = .ok (.aload_n 0, 1) := by decide +kernel
theorem dX6_wake_22 : decode cX6_wake 22 = .ok (.aload_n 3, 1) := by decide +kernel
theorem dX6_wake_23 : decode cX6_wake 23 = .ok (.iload_n 2, 1) := by decide +kernel
theorem dX6_wake_24 : decode cX6_wake 24 = .ok (.invokevirtual 74, 3) := by decide +kernel
theorem dX6_wake_27 : decode cX6_wake 27 = .ok (.istore 4, 2) := by decide +kernel
theorem dX6_wake_29 : decode cX6_wake 29 = .ok (.aload_n 0, 1) := by decide +kernel
theorem dX6_wake_30 : decode cX6_wake 30 = .ok (.invokevirtual 78, 3) := by decide +kernel
theorem dX6_wake_33 : decode cX6_wake 33 = .ok (.iload 4, 2) := by decide +kernel
theorem dX6_wake_35 : decode cX6_wake 35 = .ok (.ireturn, 1) := by decide +kernel
theorem dX6_about_0 : decode cX6_about 0 = .ok (.aload_n 0, 1) := by decide +kernel
theorem dX6_about_1 : decode cX6_about 1 = .ok (.iload_n 1, 1) := by decide +kernel
theorem dX6_about_2 : decode cX6_about 2 = .ok (.invokevirtual 55, 3) := by decide +kernel
theorem dX6_about_5 : decode cX6_about 5 = .ok (.astore_n 3, 1) := by decide +kernel
theorem dX6_about_6 : decode cX6_about 6 = .ok (.aload_n 3, 1) := by decide +kernel
theorem dX6_about_7 : decode cX6_about 7 = .ok (.ifnonnull 5, 3) := by decide +kernel
theorem dX6_about_10 : decode cX6_about 10 = .ok (.iconst (-1), 1) := by decide +kernel
theorem dX6_about_11 : decode cX6_about 11 = .ok (.ireturn, 1) := by decide +kernel
theorem dX6_about_12 : decode cX6_about 12 = .ok (.iload_n 2, 1) := by decide +kernel
theorem dX6_about_13 : decode cX6_about 13 = .ok (.tableswitch 111 0 7 #[47, 52, 57, 62, 82, 87, 95, 103], 47) := by decide +kernel
theorem dX6_about_60 : decode cX6_about 60 = .ok (.aload_n 3, 1) := by decide +kernel
theorem dX6_about_61 : decode cX6_about 61 = .ok (.getfield 81, 3) := by decide +kernel
theorem dX6_about_64 : decode cX6_about 64 = .ok (.ireturn, 1) := by decide +kernel
theorem dX6_about_65 : decode cX6_about 65 = .ok (.aload_n 3, 1) := by decide +kernel
theorem dX6_about_66 : decode cX6_about 66 = .ok (.getfield 59, 3) := by decide +kernel
theorem dX6_about_69 : decode cX6_about 69 = .ok (.ireturn, 1) := by decide +kernel
theorem dX6_about_70 : decode cX6_about 70 = .ok (.aload_n 3, 1) := by decide +kernel
theorem dX6_about_71 : decode cX6_about 71 = .ok (.getfield 84, 3) := by decide +kernel
theorem dX6_about_74 : decode cX6_about 74 = .ok (.ireturn, 1) := by decide +kernel
theorem dX6_about_75 : decode cX6_about 75 = .ok (.aload_n 3, 1) := by decide +kernel
theorem dX6_about_76 : decode cX6_about 76 = .ok (.getfield 87, 3) := by decide +kernel
theorem dX6_about_79 : decode cX6_about 79 = .ok (.ifnonnull 8, 3) := by decide +kernel
theorem dX6_about_82 : decode cX6_about 82 = .ok (.bipush (-9), 2) := by decide +kernel
theorem dX6_about_84 : decode cX6_about 84 = .ok (.goto 10, 3) := by decide +kernel
theorem dX6_about_87 : decode cX6_about 87 = .ok (.aload_n 3, 1) := by decide +kernel
theorem dX6_about_88 : decode cX6_about 88 = .ok (.getfield 87, 3) := by decide +kernel
theorem dX6_about_91 : decode cX6_about 91 = .ok (.getfield 91, 3) := by decide +kernel
theorem dX6_about_94 : decode cX6_about 94 = .ok (.ireturn, 1) := by decide +kernel
theorem dX6_about_95 : decode cX6_about 95 = .ok (.aload_n 3, 1) := by decide +kernel
theorem dX6_about_96 : decode cX6_about 96 = .ok (.getfield 94, 3) := by decide +kernel
theorem dX6_about_99 : decode cX6_about 99 = .ok (.ireturn, 1) := by decide +kernel
theorem dX6_about_100 : decode cX6_about 100 = .ok (.aload_n 3, 1) := by decide +kernel
theorem dX6_about_101 : decode cX6_about 101 = .ok (.getfield 63, 3) := by decide +kernel
theorem dX6_about_104 : decode cX6_about 104 = .ok (.invokestatic 67, 3) := by decide +kernel
theorem dX6_about_107 : decode cX6_about 107 = .ok (.ireturn, 1) := by decide +kernel
theorem dX6_about_108 : decode cX6_about 108 = .ok (.aload_n 3, 1) := by decide +kernel
theorem dX6_about_109 : decode cX6_about 109 = .ok (.getfield 71, 3) := by decide +kernel
theorem dX6_about_112 : decode cX6_about 112 = .ok (.invokestatic 67, 3) := by decide +kernel
theorem dX6_about_115 : decode cX6_about 115 = .ok (.ireturn, 1) := by decide +kernel
theorem dX6_about_116 : decode cX6_about 116 = .ok (.aload_n 3, 1) := by decide +kernel
theorem dX6_about_117 : decode cX6_about 117 = .ok (.getfield 97, 3) := by decide +kernel
theorem dX6_about_120 : decode cX6_about 120 = .ok (.getfield 100, 3) := by decide +kernel
theorem dX6_about_123 : decode cX6_about 123 = .ok (.ireturn, 1) := by decide +kernel
theorem dX6_about_124 : decode cX6_about 124 = .ok (.iconst (-1), 1) := by decide +kernel
theorem dX6_about_125 : decode cX6_about 125 = .ok (.ireturn, 1) := by decide +kernel
theorem dX6_ask_0 : decode cX6_ask 0 = .ok (.iload_n 2, 1) := by decide +kernel
theorem dX6_ask_1 : decode cX6_ask 1 = .ok (.ifCond .ne 11, 3) := by decide +kernel
theorem dX6_ask_4 : decode cX6_ask 4 = .ok (.aload_n 0, 1) := by decide +kernel
theorem dX6_ask_5 : decode cX6_ask 5 = .ok (.iload_n 3, 1) := by decide +kernel
theorem dX6_ask_6 : decode cX6_ask 6 = .ok (.invokevirtual 55, 3) := by decide +kernel
theorem dX6_ask_9 : decode cX6_ask 9 = .ok (.goto 4, 3) := by decide +kernel
theorem dX6_ask_12 : decode cX6_ask 12 = .ok (.aconst_null, 1) := by decide +kernel
theorem dX6_ask_13 : decode cX6_ask 13 = .ok (.astore 7, 2) := by decide +kernel
theorem dX6_ask_15 : decode cX6_ask 15 = .ok (.iload_n 2, 1) := by decide +kernel
theorem dX6_ask_16 : decode cX6_ask 16 = .ok (.iconst 1, 1) := by decide +kernel
theorem dX6_ask_17 : decode cX6_ask 17 = .ok (.if_icmp .ne 11, 3) := by decide +kernel
theorem dX6_ask_20 : decode cX6_ask 20 = .ok (.aload_n 0, 1) := by decide +kernel
theorem dX6_ask_21 : decode cX6_ask 21 = .ok (.iload_n 3, 1) := by decide +kernel
theorem dX6_ask_22 : decode cX6_ask 22 = .ok (.invokevirtual 103, 3) := by decide +kernel
theorem dX6_ask_25 : decode cX6_ask 25 = .ok (.goto 4, 3) := by decide +kernel
theorem dX6_ask_28 : decode cX6_ask 28 = .ok (.aconst_null, 1) := by decide +kernel
theorem dX6_ask_29 : decode cX6_ask 29 = .ok (.astore 8, 2) := by decide +kernel
theorem dX6_ask_31 : decode cX6_ask 31 = .ok (.iload 4, 2) := by decide +kernel
theorem dX6_ask_33 : decode cX6_ask 33 = .ok (.iconst 4, 1) := by decide +kernel
theorem dX6_ask_34 : decode cX6_ask 34 = .ok (.if_icmp .ne 12, 3) := by decide +kernel
theorem dX6_ask_37 : decode cX6_ask 37 = .ok (.aload_n 0, 1) := by decide +kernel
theorem dX6_ask_38 : decode cX6_ask 38 = .ok (.iload 6, 2) := by decide +kernel
theorem dX6_ask_40 : decode cX6_ask 40 = .ok (.invokevirtual 55, 3) := by decide +kernel
theorem dX6_ask_43 : decode cX6_ask 43 = .ok (.goto 4, 3) := by decide +kernel
theorem dX6_ask_46 : decode cX6_ask 46 = .ok (.aconst_null, 1) := by decide +kernel
theorem dX6_ask_47 : decode cX6_ask 47 = .ok (.astore 9, 2) := by decide +kernel
theorem dX6_ask_49 : decode cX6_ask 49 = .ok (.iload_n 1, 1) := by decide +kernel
theorem dX6_ask_50 : decode cX6_ask 50 = .ok (.invokestatic 43, 3) := by decide +kernel
theorem dX6_ask_53 : decode cX6_ask 53 = .ok (.ifCond .eq 36, 3) := by decide +kernel
theorem dX6_ask_56 : decode cX6_ask 56 = .ok (.aload 7, 2) := by decide +kernel
theorem dX6_ask_58 : decode cX6_ask 58 = .ok (.ifnonnull 8, 3) := by decide +kernel
theorem dX6_ask_61 : decode cX6_ask 61 = .ok (.aload 8, 2) := by decide +kernel
theorem dX6_ask_63 : decode cX6_ask 63 = .ok (.ifnull 26, 3) := by decide +kernel
theorem dX6_ask_66 : decode cX6_ask 66 = .ok (.iload 4, 2) := by decide +kernel
theorem dX6_ask_68 : decode cX6_ask 68 = .ok (.ifCond .lt 21, 3) := by decide +kernel
theorem dX6_ask_71 : decode cX6_ask 71 = .ok (.iload 4, 2) := by decide +kernel
theorem dX6_ask_73 : decode cX6_ask 73 = .ok (.bipush 7, 2) := by decide +kernel
theorem dX6_ask_75 : decode cX6_ask 75 = .ok (.if_icmp .gt 14, 3) := by decide +kernel
theorem dX6_ask_78 : decode cX6_ask 78 = .ok (.iload 4, 2) := by decide +kernel
theorem dX6_ask_80 : decode cX6_ask 80 = .ok (.iconst 4, 1) := by decide +kernel
theorem dX6_ask_81 : decode cX6_ask 81 = .ok (.if_icmp .ne 10, 3) := by decide +kernel
theorem dX6_ask_84 : decode cX6_ask 84 = .ok (.aload 9, 2) := by decide +kernel
theorem dX6_ask_86 : decode cX6_ask 86 = .ok (.ifnonnull 5, 3) := by decide +kernel
theorem dX6_ask_89 : decode cX6_ask 89 = .ok (.iconst (-1), 1) := by decide +kernel
theorem dX6_ask_90 : decode cX6_ask 90 = .ok (.ireturn, 1) := by decide +kernel
theorem dX6_ask_91 : decode cX6_ask 91 = .ok (.aload 8, 2) := by decide +kernel
theorem dX6_ask_93 : decode cX6_ask 93 = .ok (.ifnull 15, 3) := by decide +kernel
theorem dX6_ask_96 : decode cX6_ask 96 = .ok (.aload 8, 2) := by decide +kernel
theorem dX6_ask_98 : decode cX6_ask 98 = .ok (.iload_n 1, 1) := by decide +kernel
theorem dX6_ask_99 : decode cX6_ask 99 = .ok (.invokevirtual 107, 3) := by decide +kernel
theorem dX6_ask_102 : decode cX6_ask 102 = .ok (.ifCond .ne 6, 3) := by decide +kernel
theorem dX6_ask_105 : decode cX6_ask 105 = .ok (.bipush (-2), 2) := by decide +kernel
theorem dX6_ask_107 : decode cX6_ask 107 = .ok (.ireturn, 1) := by decide +kernel
theorem dX6_ask_108 : decode cX6_ask 108 = .ok (.aload_n 0, 1) := by decide +kernel
theorem dX6_ask_109 : decode cX6_ask 109 = .ok (.getfield 110, 3) := by decide +kernel
theorem dX6_ask_112 : decode cX6_ask 112 = .ok (.aload_n 0, 1) := by decide +kernel
theorem dX6_ask_113 : decode cX6_ask 113 = .ok (.getfield 17, 3) := by decide +kernel
theorem dX6_ask_116 : decode cX6_ask 116 = .ok (.arraylength, 1) := by decide +kernel
theorem dX6_ask_117 : decode cX6_ask 117 = .ok (.if_icmp .lt 6, 3) := by decide +kernel
theorem dX6_ask_120 : decode cX6_ask 120 = .ok (.bipush (-3), 2) := by decide +kernel
theorem dX6_ask_122 : decode cX6_ask 122 = .ok (.ireturn, 1) := by decide +kernel
theorem dX6_ask_123 : decode cX6_ask 123 = .ok (.new 113, 3) := by decide +kernel
theorem dX6_ask_126 : decode cX6_ask 126 = .ok (.dup, 1) := by decide +kernel
theorem dX6_ask_127 : decode cX6_ask 127 = .ok (.iload 4, 2) := by decide +kernel
theorem dX6_ask_129 : decode cX6_ask 129 = .ok (.iload 5, 2) := by decide +kernel
theorem dX6_ask_131 : decode cX6_ask 131 = .ok (.aload 9, 2) := by decide +kernel
theorem dX6_ask_133 : decode cX6_ask 133 = .ok (.invokespecial 115, 3) := by decide +kernel
theorem dX6_ask_136 : decode cX6_ask 136 = .ok (.astore 10, 2) := by decide +kernel
theorem dX6_ask_138 : decode cX6_ask 138 = .ok (.aload 10, 2) := by decide +kernel
theorem dX6_ask_140 : decode cX6_ask 140 = .ok (.aload 7, 2) := by decide +kernel
theorem dX6_ask_142 : decode cX6_ask 142 = .ok (.putfield 118, 3) := by decide +kernel
theorem dX6_ask_145 : decode cX6_ask 145 = .ok (.aload 10, 2) := by decide +kernel
theorem dX6_ask_147 : decode cX6_ask 147 = .ok (.aload 8, 2) := by decide +kernel
theorem dX6_ask_149 : decode cX6_ask 149 = .ok (.putfield 121, 3) := by decide +kernel
theorem dX6_ask_152 : decode cX6_ask 152 = .ok (.aload 10, 2) := by decide +kernel
theorem dX6_ask_154 : decode cX6_ask 154 = .ok (.invokevirtual 125, 3) := by decide +kernel
theorem dX6_ask_157 : decode cX6_ask 157 = .ok (.istore 11, 2) := by decide +kernel
theorem dX6_ask_159 : decode cX6_ask 159 = .ok (.new 15, 3) := by decide +kernel
theorem dX6_ask_162 : decode cX6_ask 162 = .ok (.dup, 1) := by decide +kernel
theorem dX6_ask_163 : decode cX6_ask 163 = .ok (.aload_n 0, 1) := by decide +kernel
theorem dX6_ask_164 : decode cX6_ask 164 = .ok (.getfield 110, 3) := by decide +kernel
theorem dX6_ask_167 : decode cX6_ask 167 = .ok (.iload_n 1, 1) := by decide +kernel
theorem dX6_ask_168 : decode cX6_ask 168 = .ok (.iload 11, 2) := by decide +kernel
theorem dX6_ask_170 : decode cX6_ask 170 = .ok (.aload 10, 2) := by decide +kernel
theorem dX6_ask_172 : decode cX6_ask 172 = .ok (.invokespecial 129, 3) := by decide +kernel
theorem dX6_ask_175 : decode cX6_ask 175 = .ok (.astore 12, 2) := by decide +kernel
theorem dX6_ask_177 : decode cX6_ask 177 = .ok (.aload 10, 2) := by decide +kernel
theorem dX6_ask_179 : decode cX6_ask 179 = .ok (.aload 12, 2) := by decide +kernel
theorem dX6_ask_181 : decode cX6_ask 181 = .ok (.putfield 132, 3) := by decide +kernel
theorem dX6_ask_184 : decode cX6_ask 184 = .ok (.aload_n 0, 1) := by decide +kernel
theorem dX6_ask_185 : decode cX6_ask 185 = .ok (.getfield 17, 3) := by decide +kernel
theorem dX6_ask_188 : decode cX6_ask 188 = .ok (.aload_n 0, 1) := by decide +kernel
theorem dX6_ask_189 : decode cX6_ask 189 = .ok (.getfield 110, 3) := by decide +kernel
theorem dX6_ask_192 : decode cX6_ask 192 = .ok (.aload 12, 2) := by decide +kernel
theorem dX6_ask_194 : decode cX6_ask 194 = .ok (.aastore, 1) := by decide +kernel
theorem dX6_ask_195 : decode cX6_ask 195 = .ok (.aload_n 0, 1) := by decide +kernel
theorem dX6_ask_196 : decode cX6_ask 196 = .ok (.dup, 1) := by decide +kernel
theorem dX6_ask_197 : decode cX6_ask 197 = .ok (.getfield 110, 3) := by decide +kernel
theorem dX6_ask_200 : decode cX6_ask 200 = .ok (.iconst 1, 1) := by decide +kernel
theorem dX6_ask_201 : decode cX6_ask 201 = .ok (.iadd, 1) := by decide +kernel
theorem dX6_ask_202 : decode cX6_ask 202 = .ok (.putfield 110, 3) := by decide +kernel
theorem dX6_ask_205 : decode cX6_ask 205 = .ok (.aload_n 0, 1) := by decide +kernel
theorem dX6_ask_206 : decode cX6_ask 206 = .ok (.aload 10, 2) := by decide +kernel
theorem dX6_ask_208 : decode cX6_ask 208 = .ok (.iload_n 1, 1) := by decide +kernel
theorem dX6_ask_209 : decode cX6_ask 209 = .ok (.invokevirtual 135, 3) := by decide +kernel
theorem dX6_ask_212 : decode cX6_ask 212 = .ok (.aload_n 0, 1) := by decide +kernel
theorem dX6_ask_213 : decode cX6_ask 213 = .ok (.invokevirtual 78, 3) := by decide +kernel
theorem dX6_ask_216 : decode cX6_ask 216 = .ok (.aload 12, 2) := by decide +kernel
theorem dX6_ask_218 : decode cX6_ask 218 = .ok (.getfield 139, 3) := by decide +kernel
theorem dX6_ask_221 : decode cX6_ask 221 = .ok (.ireturn, 1) := by decide +kernel
theorem dX6_when_0 : decode cX6_when 0 = .ok (.aload_n 0, 1) := by decide +kernel
theorem dX6_when_1 : decode cX6_when 1 = .ok (.iload_n 2, 1) := by decide +kernel
theorem dX6_when_2 : decode cX6_when 2 = .ok (.invokevirtual 103, 3) := by decide +kernel
theorem dX6_when_5 : decode cX6_when 5 = .ok (.astore 4, 2) := by decide +kernel
theorem dX6_when_7 : decode cX6_when 7 = .ok (.aload_n 0, 1) := by decide +kernel
theorem dX6_when_8 : decode cX6_when 8 = .ok (.iload_n 3, 1) := by decide +kernel
theorem dX6_when_9 : decode cX6_when 9 = .ok (.invokevirtual 55, 3) := by decide +kernel
theorem dX6_when_12 : decode cX6_when 12 = .ok (.astore 5, 2) := by decide +kernel
theorem dX6_when_14 : decode cX6_when 14 = .ok (.iload_n 1, 1) := by decide +kernel
theorem dX6_when_15 : decode cX6_when 15 = .ok (.invokestatic 43, 3) := by decide +kernel
theorem dX6_when_18 : decode cX6_when 18 = .ok (.ifCond .eq 22, 3) := by decide +kernel
theorem dX6_when_21 : decode cX6_when 21 = .ok (.aload 4, 2) := by decide +kernel
theorem dX6_when_23 : decode cX6_when 23 = .ok (.ifnull 17, 3) := by decide +kernel
theorem dX6_when_26 : decode cX6_when 26 = .ok (.aload 5, 2) := by decide +kernel
theorem dX6_when_28 : decode cX6_when 28 = .ok (.ifnull 12, 3) := by decide +kernel
theorem dX6_when_31 : decode cX6_when 31 = .ok (.aload 5, 2) := by decide +kernel
theorem dX6_when_33 : decode cX6_when 33 = .ok (.getfield 81, 3) := by decide +kernel
theorem dX6_when_36 : decode cX6_when 36 = .ok (.iload_n 1, 1) := by decide +kernel
theorem dX6_when_37 : decode cX6_when 37 = .ok (.if_icmp .eq 5, 3) := by decide +kernel
theorem dX6_when_40 : decode cX6_when 40 = .ok (.iconst (-1), 1) := by decide +kernel
theorem dX6_when_41 : decode cX6_when 41 = .ok (.ireturn, 1) := by decide +kernel
theorem dX6_when_42 : decode cX6_when 42 = .ok (.aload 4, 2) := by decide +kernel
theorem dX6_when_44 : decode cX6_when 44 = .ok (.iload_n 1, 1) := by decide +kernel
theorem dX6_when_45 : decode cX6_when 45 = .ok (.invokevirtual 107, 3) := by decide +kernel
theorem dX6_when_48 : decode cX6_when 48 = .ok (.ifCond .ne 6, 3) := by decide +kernel
theorem dX6_when_51 : decode cX6_when 51 = .ok (.bipush (-2), 2) := by decide +kernel
theorem dX6_when_53 : decode cX6_when 53 = .ok (.ireturn, 1) := by decide +kernel
theorem dX6_when_54 : decode cX6_when 54 = .ok (.aload_n 0, 1) := by decide +kernel
theorem dX6_when_55 : decode cX6_when 55 = .ok (.getfield 140, 3) := by decide +kernel
theorem dX6_when_58 : decode cX6_when 58 = .ok (.aload_n 0, 1) := by decide +kernel
theorem dX6_when_59 : decode cX6_when 59 = .ok (.getfield 23, 3) := by decide +kernel
theorem dX6_when_62 : decode cX6_when 62 = .ok (.arraylength, 1) := by decide +kernel
theorem dX6_when_63 : decode cX6_when 63 = .ok (.if_icmp .lt 6, 3) := by decide +kernel
theorem dX6_when_66 : decode cX6_when 66 = .ok (.bipush (-3), 2) := by decide +kernel
theorem dX6_when_68 : decode cX6_when 68 = .ok (.ireturn, 1) := by decide +kernel
theorem dX6_when_69 : decode cX6_when 69 = .ok (.new 21, 3) := by decide +kernel
theorem dX6_when_72 : decode cX6_when 72 = .ok (.dup, 1) := by decide +kernel
theorem dX6_when_73 : decode cX6_when 73 = .ok (.aload 4, 2) := by decide +kernel
theorem dX6_when_75 : decode cX6_when 75 = .ok (.iload_n 1, 1) := by decide +kernel
theorem dX6_when_76 : decode cX6_when 76 = .ok (.aload 5, 2) := by decide +kernel
theorem dX6_when_78 : decode cX6_when 78 = .ok (.invokespecial 143, 3) := by decide +kernel
theorem dX6_when_81 : decode cX6_when 81 = .ok (.astore 6, 2) := by decide +kernel
theorem dX6_when_83 : decode cX6_when 83 = .ok (.aload_n 0, 1) := by decide +kernel
theorem dX6_when_84 : decode cX6_when 84 = .ok (.getfield 23, 3) := by decide +kernel
theorem dX6_when_87 : decode cX6_when 87 = .ok (.aload_n 0, 1) := by decide +kernel
theorem dX6_when_88 : decode cX6_when 88 = .ok (.getfield 140, 3) := by decide +kernel
theorem dX6_when_91 : decode cX6_when 91 = .ok (.aload 6, 2) := by decide +kernel
theorem dX6_when_93 : decode cX6_when 93 = .ok (.aastore, 1) := by decide +kernel
theorem dX6_when_94 : decode cX6_when 94 = .ok (.aload_n 0, 1) := by decide +kernel
theorem dX6_when_95 : decode cX6_when 95 = .ok (.dup, 1) := by decide +kernel
theorem dX6_when_96 : decode cX6_when 96 = .ok (.getfield 140, 3) := by decide +kernel
theorem dX6_when_99 : decode cX6_when 99 = .ok (.iconst 1, 1) := by decide +kernel
theorem dX6_when_100 : decode cX6_when 100 = .ok (.iadd, 1) := by decide +kernel
theorem dX6_when_101 : decode cX6_when 101 = .ok (.putfield 140, 3) := by decide +kernel
theorem dX6_when_104 : decode cX6_when 104 = .ok (.aload 4, 2) := by decide +kernel
theorem dX6_when_106 : decode cX6_when 106 = .ok (.iload_n 1, 1) := by decide +kernel
theorem dX6_when_107 : decode cX6_when 107 = .ok (.invokevirtual 146, 3) := by decide +kernel
theorem dX6_when_110 : decode cX6_when 110 = .ok (.ifCond .eq 9, 3) := by decide +kernel
theorem dX6_when_113 : decode cX6_when 113 = .ok (.aload_n 0, 1) := by decide +kernel
theorem dX6_when_114 : decode cX6_when 114 = .ok (.aload 6, 2) := by decide +kernel
theorem dX6_when_116 : decode cX6_when 116 = .ok (.invokevirtual 150, 3) := by decide +kernel
theorem dX6_when_119 : decode cX6_when 119 = .ok (.aload_n 0, 1) := by decide +kernel
theorem dX6_when_120 : decode cX6_when 120 = .ok (.getfield 140, 3) := by decide +kernel
theorem dX6_when_123 : decode cX6_when 123 = .ok (.ireturn, 1) := by decide +kernel
theorem dX6_state_0 : decode cX6_state 0 = .ok (.aload_n 0, 1) := by decide +kernel
theorem dX6_state_1 : decode cX6_state 1 = .ok (.iload_n 1, 1) := by decide +kernel
theorem dX6_state_2 : decode cX6_state 2 = .ok (.invokevirtual 103, 3) := by decide +kernel
theorem dX6_state_5 : decode cX6_state 5 = .ok (.astore 4, 2) := by decide +kernel
theorem dX6_state_7 : decode cX6_state 7 = .ok (.aload 4, 2) := by decide +kernel
theorem dX6_state_9 : decode cX6_state 9 = .ok (.ifnull 19, 3) := by decide +kernel
theorem dX6_state_12 : decode cX6_state 12 = .ok (.iload_n 2, 1) := by decide +kernel
theorem dX6_state_13 : decode cX6_state 13 = .ok (.invokestatic 43, 3) := by decide +kernel
theorem dX6_state_16 : decode cX6_state 16 = .ok (.ifCond .eq 12, 3) := by decide +kernel
theorem dX6_state_19 : decode cX6_state 19 = .ok (.iload_n 3, 1) := by decide +kernel
theorem dX6_state_20 : decode cX6_state 20 = .ok (.ifCond .lt 8, 3) := by decide +kernel
theorem dX6_state_23 : decode cX6_state 23 = .ok (.iload_n 3, 1) := by decide +kernel
theorem dX6_state_24 : decode cX6_state 24 = .ok (.iconst 1, 1) := by decide +kernel
theorem dX6_state_25 : decode cX6_state 25 = .ok (.if_icmp .le 5, 3) := by decide +kernel
theorem dX6_state_28 : decode cX6_state 28 = .ok (.iconst (-1), 1) := by decide +kernel
theorem dX6_state_29 : decode cX6_state 29 = .ok (.ireturn, 1) := by decide +kernel
theorem dX6_state_30 : decode cX6_state 30 = .ok (.aload 4, 2) := by decide +kernel
theorem dX6_state_32 : decode cX6_state 32 = .ok (.iload_n 2, 1) := by decide +kernel
theorem dX6_state_33 : decode cX6_state 33 = .ok (.invokevirtual 107, 3) := by decide +kernel
theorem dX6_state_36 : decode cX6_state 36 = .ok (.ifCond .ne 6, 3) := by decide +kernel
theorem dX6_state_39 : decode cX6_state 39 = .ok (.bipush (-2), 2) := by decide +kernel
theorem dX6_state_41 : decode cX6_state 41 = .ok (.ireturn, 1) := by decide +kernel
theorem dX6_state_42 : decode cX6_state 42 = .ok (.iload_n 3, 1) := by decide +kernel
theorem dX6_state_43 : decode cX6_state 43 = .ok (.ifCond .ne 12, 3) := by decide +kernel
theorem dX6_state_46 : decode cX6_state 46 = .ok (.aload 4, 2) := by decide +kernel
theorem dX6_state_48 : decode cX6_state 48 = .ok (.iload_n 2, 1) := by decide +kernel
theorem dX6_state_49 : decode cX6_state 49 = .ok (.invokevirtual 146, 3) := by decide +kernel
theorem dX6_state_52 : decode cX6_state 52 = .ok (.goto 9, 3) := by decide +kernel
theorem dX6_state_55 : decode cX6_state 55 = .ok (.aload 4, 2) := by decide +kernel
theorem dX6_state_57 : decode cX6_state 57 = .ok (.iload_n 2, 1) := by decide +kernel
theorem dX6_state_58 : decode cX6_state 58 = .ok (.invokevirtual 154, 3) := by decide +kernel
theorem dX6_state_61 : decode cX6_state 61 = .ok (.ireturn, 1) := by decide +kernel
theorem dX6_promise_0 : decode cX6_promise 0 = .ok (.aload_n 0, 1) := by decide +kernel
theorem dX6_promise_1 : decode cX6_promise 1 = .ok (.iload_n 1, 1) := by decide +kernel
theorem dX6_promise_2 : decode cX6_promise 2 = .ok (.invokevirtual 103, 3) := by decide +kernel
theorem dX6_promise_5 : decode cX6_promise 5 = .ok (.astore_n 3, 1) := by decide +kernel
theorem dX6_promise_6 : decode cX6_promise 6 = .ok (.aload_n 3, 1) := by decide +kernel
theorem dX6_promise_7 : decode cX6_promise 7 = .ok (.ifnonnull 5, 3) := by decide +kernel
theorem dX6_promise_10 : decode cX6_promise 10 = .ok (.iconst (-1), 1) := by decide +kernel
theorem dX6_promise_11 : decode cX6_promise 11 = .ok (.ireturn, 1) := by decide +kernel
theorem dX6_promise_12 : decode cX6_promise 12 = .ok (.iload_n 2, 1) := by decide +kernel
theorem dX6_promise_13 : decode cX6_promise 13 = .ok (.tableswitch 69 0 4 #[35, 40, 45, 53, 61], 35) := by decide +kernel
theorem dX6_promise_48 : decode cX6_promise 48 = .ok (.aload_n 3, 1) := by decide +kernel
theorem dX6_promise_49 : decode cX6_promise 49 = .ok (.getfield 157, 3) := by decide +kernel
theorem dX6_promise_52 : decode cX6_promise 52 = .ok (.ireturn, 1) := by decide +kernel
theorem dX6_promise_53 : decode cX6_promise 53 = .ok (.aload_n 3, 1) := by decide +kernel
theorem dX6_promise_54 : decode cX6_promise 54 = .ok (.getfield 160, 3) := by decide +kernel
theorem dX6_promise_57 : decode cX6_promise 57 = .ok (.ireturn, 1) := by decide +kernel
theorem dX6_promise_58 : decode cX6_promise 58 = .ok (.aload_n 3, 1) := by decide +kernel
theorem dX6_promise_59 : decode cX6_promise 59 = .ok (.getfield 163, 3) := by decide +kernel
theorem dX6_promise_62 : decode cX6_promise 62 = .ok (.getfield 100, 3) := by decide +kernel
theorem dX6_promise_65 : decode cX6_promise 65 = .ok (.ireturn, 1) := by decide +kernel
theorem dX6_promise_66 : decode cX6_promise 66 = .ok (.aload_n 3, 1) := by decide +kernel
theorem dX6_promise_67 : decode cX6_promise 67 = .ok (.getfield 166, 3) := by decide +kernel
theorem dX6_promise_70 : decode cX6_promise 70 = .ok (.getfield 170, 3) := by decide +kernel
theorem dX6_promise_73 : decode cX6_promise 73 = .ok (.ireturn, 1) := by decide +kernel
theorem dX6_promise_74 : decode cX6_promise 74 = .ok (.aload_n 3, 1) := by decide +kernel
theorem dX6_promise_75 : decode cX6_promise 75 = .ok (.getfield 166, 3) := by decide +kernel
theorem dX6_promise_78 : decode cX6_promise 78 = .ok (.getfield 173, 3) := by decide +kernel
theorem dX6_promise_81 : decode cX6_promise 81 = .ok (.ireturn, 1) := by decide +kernel
theorem dX6_promise_82 : decode cX6_promise 82 = .ok (.iconst (-1), 1) := by decide +kernel
theorem dX6_promise_83 : decode cX6_promise 83 = .ok (.ireturn, 1) := by decide +kernel
theorem dX6_deliver_0 : decode cX6_deliver 0 = .ok (.aload_n 0, 1) := by decide +kernel
theorem dX6_deliver_1 : decode cX6_deliver 1 = .ok (.iload_n 1, 1) := by decide +kernel
theorem dX6_deliver_2 : decode cX6_deliver 2 = .ok (.iload_n 2, 1) := by decide +kernel
theorem dX6_deliver_3 : decode cX6_deliver 3 = .ok (.invokevirtual 176, 3) := by decide +kernel
theorem dX6_deliver_6 : decode cX6_deliver 6 = .ok (.astore_n 3, 1) := by decide +kernel
theorem dX6_deliver_7 : decode cX6_deliver 7 = .ok (.aload_n 3, 1) := by decide +kernel
theorem dX6_deliver_8 : decode cX6_deliver 8 = .ok (.ifnonnull 5, 3) := by decide +kernel
theorem dX6_deliver_11 : decode cX6_deliver 11 = .ok (.iconst (-1), 1) := by decide +kernel
theorem dX6_deliver_12 : decode cX6_deliver 12 = .ok (.ireturn, 1) := by decide +kernel
theorem dX6_deliver_13 : decode cX6_deliver 13 = .ok (.aload_n 0, 1) := by decide +kernel
theorem dX6_deliver_14 : decode cX6_deliver 14 = .ok (.aload_n 3, 1) := by decide +kernel
theorem dX6_deliver_15 : decode cX6_deliver 15 = .ok (.invokevirtual 180, 3) := by decide +kernel
theorem dX6_deliver_18 : decode cX6_deliver 18 = .ok (.istore 4, 2) := by decide +kernel
theorem dX6_deliver_20 : decode cX6_deliver 20 = .ok (.aload_n 0, 1) := by decide +kernel
theorem dX6_deliver_21 : decode cX6_deliver 21 = .ok (.invokevirtual 78, 3) := by decide +kernel
theorem dX6_deliver_24 : decode cX6_deliver 24 = .ok (.iload 4, 2) := by decide +kernel
theorem dX6_deliver_26 : decode cX6_deliver 26 = .ok (.ireturn, 1) := by decide +kernel
theorem dX6_flow_0 : decode cX6_flow 0 = .ok (.iload_n 1, 1) := by decide +kernel
theorem dX6_flow_1 : decode cX6_flow 1 = .ok (.iconst 1, 1) := by decide +kernel
theorem dX6_flow_2 : decode cX6_flow 2 = .ok (.if_icmp .lt 9, 3) := by decide +kernel
theorem dX6_flow_5 : decode cX6_flow 5 = .ok (.iload_n 1, 1) := by decide +kernel
theorem dX6_flow_6 : decode cX6_flow 6 = .ok (.bipush 100, 2) := by decide +kernel
theorem dX6_flow_8 : decode cX6_flow 8 = .ok (.if_icmp .le 5, 3) := by decide +kernel
theorem dX6_flow_11 : decode cX6_flow 11 = .ok (.iconst (-1), 1) := by decide +kernel
theorem dX6_flow_12 : decode cX6_flow 12 = .ok (.ireturn, 1) := by decide +kernel
theorem dX6_flow_13 : decode cX6_flow 13 = .ok (.iconst 0, 1) := by decide +kernel
theorem dX6_flow_14 : decode cX6_flow 14 = .ok (.istore_n 2, 1) := by decide +kernel
theorem dX6_flow_15 : decode cX6_flow 15 = .ok (.iload_n 2, 1) := by decide +kernel
theorem dX6_flow_16 : decode cX6_flow 16 = .ok (.iload_n 1, 1) := by decide +kernel
theorem dX6_flow_17 : decode cX6_flow 17 = .ok (.if_icmp .ge 30, 3) := by decide +kernel
theorem dX6_flow_20 : decode cX6_flow 20 = .ok (.aload_n 0, 1) := by decide +kernel
theorem dX6_flow_21 : decode cX6_flow 21 = .ok (.invokevirtual 184, 3) := by decide +kernel
theorem dX6_flow_24 : decode cX6_flow 24 = .ok (.astore_n 3, 1) := by decide +kernel
theorem dX6_flow_25 : decode cX6_flow 25 = .ok (.aload_n 3, 1) := by decide +kernel
theorem dX6_flow_26 : decode cX6_flow 26 = .ok (.ifnonnull 5, 3) := by decide +kernel
theorem dX6_flow_29 : decode cX6_flow 29 = .ok (.iload_n 2, 1) := by decide +kernel
theorem dX6_flow_30 : decode cX6_flow 30 = .ok (.ireturn, 1) := by decide +kernel
theorem dX6_flow_31 : decode cX6_flow 31 = .ok (.aload_n 0, 1) := by decide +kernel
theorem dX6_flow_32 : decode cX6_flow 32 = .ok (.aload_n 3, 1) := by decide +kernel
theorem dX6_flow_33 : decode cX6_flow 33 = .ok (.invokevirtual 180, 3) := by decide +kernel
theorem dX6_flow_36 : decode cX6_flow 36 = .ok (.pop, 1) := by decide +kernel
theorem dX6_flow_37 : decode cX6_flow 37 = .ok (.aload_n 0, 1) := by decide +kernel
theorem dX6_flow_38 : decode cX6_flow 38 = .ok (.invokevirtual 78, 3) := by decide +kernel
theorem dX6_flow_41 : decode cX6_flow 41 = .ok (.iinc 2 1, 3) := by decide +kernel
theorem dX6_flow_44 : decode cX6_flow 44 = .ok (.goto (-29), 3) := by decide +kernel
theorem dX6_flow_47 : decode cX6_flow 47 = .ok (.iload_n 1, 1) := by decide +kernel
theorem dX6_flow_48 : decode cX6_flow 48 = .ok (.ireturn, 1) := by decide +kernel
theorem dX6_cut_0 : decode cX6_cut 0 = .ok (.aload_n 0, 1) := by decide +kernel
theorem dX6_cut_1 : decode cX6_cut 1 = .ok (.iload_n 1, 1) := by decide +kernel
theorem dX6_cut_2 : decode cX6_cut 2 = .ok (.iload_n 2, 1) := by decide +kernel
theorem dX6_cut_3 : decode cX6_cut 3 = .ok (.invokestatic 188, 3) := by decide +kernel
theorem dX6_cut_6 : decode cX6_cut 6 = .ok (.iload_n 1, 1) := by decide +kernel
theorem dX6_cut_7 : decode cX6_cut 7 = .ok (.iload_n 2, 1) := by decide +kernel
theorem dX6_cut_8 : decode cX6_cut 8 = .ok (.invokestatic 194, 3) := by decide +kernel
theorem dX6_cut_11 : decode cX6_cut 11 = .ok (.invokevirtual 176, 3) := by decide +kernel
theorem dX6_cut_14 : decode cX6_cut 14 = .ok (.astore_n 3, 1) := by decide +kernel
theorem dX6_cut_15 : decode cX6_cut 15 = .ok (.aload_n 0, 1) := by decide +kernel
theorem dX6_cut_16 : decode cX6_cut 16 = .ok (.iload_n 1, 1) := by decide +kernel
theorem dX6_cut_17 : decode cX6_cut 17 = .ok (.iload_n 2, 1) := by decide +kernel
theorem dX6_cut_18 : decode cX6_cut 18 = .ok (.invokestatic 194, 3) := by decide +kernel
theorem dX6_cut_21 : decode cX6_cut 21 = .ok (.iload_n 1, 1) := by decide +kernel
theorem dX6_cut_22 : decode cX6_cut 22 = .ok (.iload_n 2, 1) := by decide +kernel
theorem dX6_cut_23 : decode cX6_cut 23 = .ok (.invokestatic 188, 3) := by decide +kernel
theorem dX6_cut_26 : decode cX6_cut 26 = .ok (.invokevirtual 176, 3) := by decide +kernel
theorem dX6_cut_29 : decode cX6_cut 29 = .ok (.astore 4, 2) := by decide +kernel
theorem dX6_cut_31 : decode cX6_cut 31 = .ok (.aload_n 3, 1) := by decide +kernel
theorem dX6_cut_32 : decode cX6_cut 32 = .ok (.ifnull 13, 3) := by decide +kernel
theorem dX6_cut_35 : decode cX6_cut 35 = .ok (.aload 4, 2) := by decide +kernel
theorem dX6_cut_37 : decode cX6_cut 37 = .ok (.ifnull 8, 3) := by decide +kernel
theorem dX6_cut_40 : decode cX6_cut 40 = .ok (.iload_n 1, 1) := by decide +kernel
theorem dX6_cut_41 : decode cX6_cut 41 = .ok (.iload_n 2, 1) := by decide +kernel
theorem dX6_cut_42 : decode cX6_cut 42 = .ok (.if_icmp .ne 5, 3) := by decide +kernel
theorem dX6_cut_45 : decode cX6_cut 45 = .ok (.iconst (-1), 1) := by decide +kernel
theorem dX6_cut_46 : decode cX6_cut 46 = .ok (.ireturn, 1) := by decide +kernel
theorem dX6_cut_47 : decode cX6_cut 47 = .ok (.aload_n 3, 1) := by decide +kernel
theorem dX6_cut_48 : decode cX6_cut 48 = .ok (.getfield 197, 3) := by decide +kernel
theorem dX6_cut_51 : decode cX6_cut 51 = .ok (.ifCond .eq 6, 3) := by decide +kernel
theorem dX6_cut_54 : decode cX6_cut 54 = .ok (.bipush (-2), 2) := by decide +kernel
theorem dX6_cut_56 : decode cX6_cut 56 = .ok (.ireturn, 1) := by decide +kernel
theorem dX6_cut_57 : decode cX6_cut 57 = .ok (.aload_n 3, 1) := by decide +kernel
theorem dX6_cut_58 : decode cX6_cut 58 = .ok (.iconst 1, 1) := by decide +kernel
theorem dX6_cut_59 : decode cX6_cut 59 = .ok (.putfield 197, 3) := by decide +kernel
theorem dX6_cut_62 : decode cX6_cut 62 = .ok (.aload 4, 2) := by decide +kernel
theorem dX6_cut_64 : decode cX6_cut 64 = .ok (.iconst 1, 1) := by decide +kernel
theorem dX6_cut_65 : decode cX6_cut 65 = .ok (.putfield 197, 3) := by decide +kernel
theorem dX6_cut_68 : decode cX6_cut 68 = .ok (.aload_n 3, 1) := by decide +kernel
theorem dX6_cut_69 : decode cX6_cut 69 = .ok (.getfield 200, 3) := by decide +kernel
theorem dX6_cut_72 : decode cX6_cut 72 = .ok (.getfield 100, 3) := by decide +kernel
theorem dX6_cut_75 : decode cX6_cut 75 = .ok (.aload 4, 2) := by decide +kernel
theorem dX6_cut_77 : decode cX6_cut 77 = .ok (.getfield 200, 3) := by decide +kernel
theorem dX6_cut_80 : decode cX6_cut 80 = .ok (.getfield 100, 3) := by decide +kernel
theorem dX6_cut_83 : decode cX6_cut 83 = .ok (.iadd, 1) := by decide +kernel
theorem dX6_cut_84 : decode cX6_cut 84 = .ok (.istore 5, 2) := by decide +kernel
theorem dX6_cut_86 : decode cX6_cut 86 = .ok (.iconst 0, 1) := by decide +kernel
theorem dX6_cut_87 : decode cX6_cut 87 = .ok (.istore 6, 2) := by decide +kernel
theorem dX6_cut_89 : decode cX6_cut 89 = .ok (.iload 6, 2) := by decide +kernel
theorem dX6_cut_91 : decode cX6_cut 91 = .ok (.iload 5, 2) := by decide +kernel
theorem dX6_cut_93 : decode cX6_cut 93 = .ok (.if_icmp .ge 33, 3) := by decide +kernel
theorem dX6_cut_96 : decode cX6_cut 96 = .ok (.aload_n 0, 1) := by decide +kernel
theorem dX6_cut_97 : decode cX6_cut 97 = .ok (.aload_n 3, 1) := by decide +kernel
theorem dX6_cut_98 : decode cX6_cut 98 = .ok (.getfield 200, 3) := by decide +kernel
theorem dX6_cut_101 : decode cX6_cut 101 = .ok (.getfield 100, 3) := by decide +kernel
theorem dX6_cut_104 : decode cX6_cut 104 = .ok (.ifCond .le 7, 3) := by decide +kernel
theorem dX6_cut_107 : decode cX6_cut 107 = .ok (.aload_n 3, 1) := by decide +kernel
theorem dX6_cut_108 : decode cX6_cut 108 = .ok (.goto 5, 3) := by decide +kernel
theorem dX6_cut_111 : decode cX6_cut 111 = .ok (.aload 4, 2) := by decide +kernel
theorem dX6_cut_113 : decode cX6_cut 113 = .ok (.invokevirtual 202, 3) := by decide +kernel
theorem dX6_cut_116 : decode cX6_cut 116 = .ok (.aload_n 0, 1) := by decide +kernel
theorem dX6_cut_117 : decode cX6_cut 117 = .ok (.invokevirtual 78, 3) := by decide +kernel
theorem dX6_cut_120 : decode cX6_cut 120 = .ok (.iinc 6 1, 3) := by decide +kernel
theorem dX6_cut_123 : decode cX6_cut 123 = .ok (.goto (-34), 3) := by decide +kernel
theorem dX6_cut_126 : decode cX6_cut 126 = .ok (.iload 5, 2) := by decide +kernel
theorem dX6_cut_128 : decode cX6_cut 128 = .ok (.ireturn, 1) := by decide +kernel
theorem dX6_again_0 : decode cX6_again 0 = .ok (.aload_n 0, 1) := by decide +kernel
theorem dX6_again_1 : decode cX6_again 1 = .ok (.iload_n 1, 1) := by decide +kernel
theorem dX6_again_2 : decode cX6_again 2 = .ok (.iload_n 2, 1) := by decide +kernel
theorem dX6_again_3 : decode cX6_again 3 = .ok (.invokevirtual 176, 3) := by decide +kernel
theorem dX6_again_6 : decode cX6_again 6 = .ok (.astore_n 3, 1) := by decide +kernel
theorem dX6_again_7 : decode cX6_again 7 = .ok (.aload_n 0, 1) := by decide +kernel
theorem dX6_again_8 : decode cX6_again 8 = .ok (.iload_n 2, 1) := by decide +kernel
theorem dX6_again_9 : decode cX6_again 9 = .ok (.iload_n 1, 1) := by decide +kernel
theorem dX6_again_10 : decode cX6_again 10 = .ok (.invokevirtual 176, 3) := by decide +kernel
theorem dX6_again_13 : decode cX6_again 13 = .ok (.astore 4, 2) := by decide +kernel
theorem dX6_again_15 : decode cX6_again 15 = .ok (.aload_n 3, 1) := by decide +kernel
theorem dX6_again_16 : decode cX6_again 16 = .ok (.ifnull 13, 3) := by decide +kernel
theorem dX6_again_19 : decode cX6_again 19 = .ok (.aload 4, 2) := by decide +kernel
theorem dX6_again_21 : decode cX6_again 21 = .ok (.ifnull 8, 3) := by decide +kernel
theorem dX6_again_24 : decode cX6_again 24 = .ok (.iload_n 1, 1) := by decide +kernel
theorem dX6_again_25 : decode cX6_again 25 = .ok (.iload_n 2, 1) := by decide +kernel
theorem dX6_again_26 : decode cX6_again 26 = .ok (.if_icmp .ne 5, 3) := by decide +kernel
theorem dX6_again_29 : decode cX6_again 29 = .ok (.iconst (-1), 1) := by decide +kernel
theorem dX6_again_30 : decode cX6_again 30 = .ok (.ireturn, 1) := by decide +kernel
theorem dX6_again_31 : decode cX6_again 31 = .ok (.aload_n 3, 1) := by decide +kernel
theorem dX6_again_32 : decode cX6_again 32 = .ok (.getfield 197, 3) := by decide +kernel
theorem dX6_again_35 : decode cX6_again 35 = .ok (.ifCond .ne 6, 3) := by decide +kernel
theorem dX6_again_38 : decode cX6_again 38 = .ok (.bipush (-2), 2) := by decide +kernel
theorem dX6_again_40 : decode cX6_again 40 = .ok (.ireturn, 1) := by decide +kernel
theorem dX6_again_41 : decode cX6_again 41 = .ok (.aload_n 3, 1) := by decide +kernel
theorem dX6_again_42 : decode cX6_again 42 = .ok (.iconst 0, 1) := by decide +kernel
theorem dX6_again_43 : decode cX6_again 43 = .ok (.putfield 197, 3) := by decide +kernel
theorem dX6_again_46 : decode cX6_again 46 = .ok (.aload 4, 2) := by decide +kernel
theorem dX6_again_48 : decode cX6_again 48 = .ok (.iconst 0, 1) := by decide +kernel
theorem dX6_again_49 : decode cX6_again 49 = .ok (.putfield 197, 3) := by decide +kernel
theorem dX6_again_52 : decode cX6_again 52 = .ok (.iconst 1, 1) := by decide +kernel
theorem dX6_again_53 : decode cX6_again 53 = .ok (.ireturn, 1) := by decide +kernel
theorem dX6_wire_0 : decode cX6_wire 0 = .ok (.aload_n 0, 1) := by decide +kernel
theorem dX6_wire_1 : decode cX6_wire 1 = .ok (.iload_n 1, 1) := by decide +kernel
theorem dX6_wire_2 : decode cX6_wire 2 = .ok (.iload_n 2, 1) := by decide +kernel
theorem dX6_wire_3 : decode cX6_wire 3 = .ok (.invokevirtual 176, 3) := by decide +kernel
theorem dX6_wire_6 : decode cX6_wire 6 = .ok (.astore_n 3, 1) := by decide +kernel
theorem dX6_wire_7 : decode cX6_wire 7 = .ok (.aload_n 3, 1) := by decide +kernel
theorem dX6_wire_8 : decode cX6_wire 8 = .ok (.ifnonnull 7, 3) := by decide +kernel
theorem dX6_wire_11 : decode cX6_wire 11 = .ok (.iconst (-1), 1) := by decide +kernel
theorem dX6_wire_12 : decode cX6_wire 12 = .ok (.goto 10, 3) := by decide +kernel
theorem dX6_wire_15 : decode cX6_wire 15 = .ok (.aload_n 3, 1) := by decide +kernel
theorem dX6_wire_16 : decode cX6_wire 16 = .ok (.getfield 200, 3) := by decide +kernel
theorem dX6_wire_19 : decode cX6_wire 19 = .ok (.getfield 100, 3) := by decide +kernel
theorem dX6_wire_22 : decode cX6_wire 22 = .ok (.ireturn, 1) := by decide +kernel
theorem dX6_letter_0 : decode cX6_letter 0 = .ok (.aload_n 0, 1) := by decide +kernel
theorem dX6_letter_1 : decode cX6_letter 1 = .ok (.iload_n 1, 1) := by decide +kernel
theorem dX6_letter_2 : decode cX6_letter 2 = .ok (.iload_n 2, 1) := by decide +kernel
theorem dX6_letter_3 : decode cX6_letter 3 = .ok (.invokevirtual 176, 3) := by decide +kernel
theorem dX6_letter_6 : decode cX6_letter 6 = .ok (.astore 5, 2) := by decide +kernel
theorem dX6_letter_8 : decode cX6_letter 8 = .ok (.aload 5, 2) := by decide +kernel
theorem dX6_letter_10 : decode cX6_letter 10 = .ok (.ifnull 14, 3) := by decide +kernel
theorem dX6_letter_13 : decode cX6_letter 13 = .ok (.iload 4, 2) := by decide +kernel
theorem dX6_letter_15 : decode cX6_letter 15 = .ok (.ifCond .lt 9, 3) := by decide +kernel
theorem dX6_letter_18 : decode cX6_letter 18 = .ok (.iload 4, 2) := by decide +kernel
theorem dX6_letter_20 : decode cX6_letter 20 = .ok (.iconst 5, 1) := by decide +kernel
theorem dX6_letter_21 : decode cX6_letter 21 = .ok (.if_icmp .le 5, 3) := by decide +kernel
theorem dX6_letter_24 : decode cX6_letter 24 = .ok (.iconst (-1), 1) := by decide +kernel
theorem dX6_letter_25 : decode cX6_letter 25 = .ok (.ireturn, 1) := by decide +kernel
theorem dX6_letter_26 : decode cX6_letter 26 = .ok (.aload 5, 2) := by decide +kernel
theorem dX6_letter_28 : decode cX6_letter 28 = .ok (.getfield 200, 3) := by decide +kernel
theorem dX6_letter_31 : decode cX6_letter 31 = .ok (.iload_n 3, 1) := by decide +kernel
theorem dX6_letter_32 : decode cX6_letter 32 = .ok (.invokevirtual 206, 3) := by decide +kernel
theorem dX6_letter_35 : decode cX6_letter 35 = .ok (.astore 6, 2) := by decide +kernel
theorem dX6_letter_37 : decode cX6_letter 37 = .ok (.aload 6, 2) := by decide +kernel
theorem dX6_letter_39 : decode cX6_letter 39 = .ok (.ifnonnull 6, 3) := by decide +kernel
theorem dX6_letter_42 : decode cX6_letter 42 = .ok (.bipush (-9), 2) := by decide +kernel
theorem dX6_letter_44 : decode cX6_letter 44 = .ok (.ireturn, 1) := by decide +kernel
theorem dX6_letter_45 : decode cX6_letter 45 = .ok (.iload 4, 2) := by decide +kernel
theorem dX6_letter_47 : decode cX6_letter 47 = .ok (.tableswitch 135 0 4 #[33, 39, 61, 83, 105], 33) := by decide +kernel
theorem dX6_letter_80 : decode cX6_letter 80 = .ok (.aload 6, 2) := by decide +kernel
theorem dX6_letter_82 : decode cX6_letter 82 = .ok (.invokevirtual 210, 3) := by decide +kernel
theorem dX6_letter_85 : decode cX6_letter 85 = .ok (.ireturn, 1) := by decide +kernel
theorem dX6_letter_86 : decode cX6_letter 86 = .ok (.aload 6, 2) := by decide +kernel
theorem dX6_letter_88 : decode cX6_letter 88 = .ok (.getfield 132, 3) := by decide +kernel
theorem dX6_letter_91 : decode cX6_letter 91 = .ok (.ifnonnull 8, 3) := by decide +kernel
theorem dX6_letter_94 : decode cX6_letter 94 = .ok (.bipush (-9), 2) := by decide +kernel
theorem dX6_letter_96 : decode cX6_letter 96 = .ok (.goto 11, 3) := by decide +kernel
theorem dX6_letter_99 : decode cX6_letter 99 = .ok (.aload 6, 2) := by decide +kernel
theorem dX6_letter_101 : decode cX6_letter 101 = .ok (.getfield 132, 3) := by decide +kernel
theorem dX6_letter_104 : decode cX6_letter 104 = .ok (.getfield 139, 3) := by decide +kernel
theorem dX6_letter_107 : decode cX6_letter 107 = .ok (.ireturn, 1) := by decide +kernel
theorem dX6_letter_108 : decode cX6_letter 108 = .ok (.aload 6, 2) := by decide +kernel
theorem dX6_letter_110 : decode cX6_letter 110 = .ok (.getfield 213, 3) := by decide +kernel
theorem dX6_letter_113 : decode cX6_letter 113 = .ok (.ifCond .eq 11, 3) := by decide +kernel
theorem dX6_letter_116 : decode cX6_letter 116 = .ok (.aload 6, 2) := by decide +kernel
theorem dX6_letter_118 : decode cX6_letter 118 = .ok (.getfield 216, 3) := by decide +kernel
theorem dX6_letter_121 : decode cX6_letter 121 = .ok (.goto 8, 3) := by decide +kernel
theorem dX6_letter_124 : decode cX6_letter 124 = .ok (.aload 6, 2) := by decide +kernel
theorem dX6_letter_126 : decode cX6_letter 126 = .ok (.getfield 219, 3) := by decide +kernel
theorem dX6_letter_129 : decode cX6_letter 129 = .ok (.ireturn, 1) := by decide +kernel
theorem dX6_letter_130 : decode cX6_letter 130 = .ok (.aload 6, 2) := by decide +kernel
theorem dX6_letter_132 : decode cX6_letter 132 = .ok (.getfield 213, 3) := by decide +kernel
theorem dX6_letter_135 : decode cX6_letter 135 = .ok (.ifCond .eq 11, 3) := by decide +kernel
theorem dX6_letter_138 : decode cX6_letter 138 = .ok (.aload 6, 2) := by decide +kernel
theorem dX6_letter_140 : decode cX6_letter 140 = .ok (.getfield 222, 3) := by decide +kernel
theorem dX6_letter_143 : decode cX6_letter 143 = .ok (.goto 8, 3) := by decide +kernel
theorem dX6_letter_146 : decode cX6_letter 146 = .ok (.aload 6, 2) := by decide +kernel
theorem dX6_letter_148 : decode cX6_letter 148 = .ok (.getfield 225, 3) := by decide +kernel
theorem dX6_letter_151 : decode cX6_letter 151 = .ok (.ireturn, 1) := by decide +kernel
theorem dX6_letter_152 : decode cX6_letter 152 = .ok (.aload 6, 2) := by decide +kernel
theorem dX6_letter_154 : decode cX6_letter 154 = .ok (.getfield 213, 3) := by decide +kernel
theorem dX6_letter_157 : decode cX6_letter 157 = .ok (.ifCond .ne 11, 3) := by decide +kernel
theorem dX6_letter_160 : decode cX6_letter 160 = .ok (.aload 6, 2) := by decide +kernel
theorem dX6_letter_162 : decode cX6_letter 162 = .ok (.getfield 118, 3) := by decide +kernel
theorem dX6_letter_165 : decode cX6_letter 165 = .ok (.ifnonnull 8, 3) := by decide +kernel
theorem dX6_letter_168 : decode cX6_letter 168 = .ok (.bipush (-9), 2) := by decide +kernel
theorem dX6_letter_170 : decode cX6_letter 170 = .ok (.goto 11, 3) := by decide +kernel
theorem dX6_letter_173 : decode cX6_letter 173 = .ok (.aload 6, 2) := by decide +kernel
theorem dX6_letter_175 : decode cX6_letter 175 = .ok (.getfield 118, 3) := by decide +kernel
theorem dX6_letter_178 : decode cX6_letter 178 = .ok (.getfield 91, 3) := by decide +kernel
theorem dX6_letter_181 : decode cX6_letter 181 = .ok (.ireturn, 1) := by decide +kernel
theorem dX6_letter_182 : decode cX6_letter 182 = .ok (.aload 6, 2) := by decide +kernel
theorem dX6_letter_184 : decode cX6_letter 184 = .ok (.getfield 213, 3) := by decide +kernel
theorem dX6_letter_187 : decode cX6_letter 187 = .ok (.ifCond .ne 11, 3) := by decide +kernel
theorem dX6_letter_190 : decode cX6_letter 190 = .ok (.aload 6, 2) := by decide +kernel
theorem dX6_letter_192 : decode cX6_letter 192 = .ok (.getfield 121, 3) := by decide +kernel
theorem dX6_letter_195 : decode cX6_letter 195 = .ok (.ifnonnull 8, 3) := by decide +kernel
theorem dX6_letter_198 : decode cX6_letter 198 = .ok (.bipush (-9), 2) := by decide +kernel
theorem dX6_letter_200 : decode cX6_letter 200 = .ok (.goto 11, 3) := by decide +kernel
theorem dX6_letter_203 : decode cX6_letter 203 = .ok (.aload 6, 2) := by decide +kernel
theorem dX6_letter_205 : decode cX6_letter 205 = .ok (.getfield 121, 3) := by decide +kernel
theorem dX6_letter_208 : decode cX6_letter 208 = .ok (.getfield 139, 3) := by decide +kernel
theorem dX6_letter_211 : decode cX6_letter 211 = .ok (.ireturn, 1) := by decide +kernel
theorem dX6_purses_0 : decode cX6_purses 0 = .ok (.lconst 0, 1) := by decide +kernel
theorem dX6_purses_1 : decode cX6_purses 1 = .ok (.lstore_n 1, 1) := by decide +kernel
theorem dX6_purses_2 : decode cX6_purses 2 = .ok (.iconst 0, 1) := by decide +kernel
theorem dX6_purses_3 : decode cX6_purses 3 = .ok (.istore_n 3, 1) := by decide +kernel
theorem dX6_purses_4 : decode cX6_purses 4 = .ok (.iload_n 3, 1) := by decide +kernel
theorem dX6_purses_5 : decode cX6_purses 5 = .ok (.aload_n 0, 1) := by decide +kernel
theorem dX6_purses_6 : decode cX6_purses 6 = .ok (.getfield 228, 3) := by decide +kernel
theorem dX6_purses_9 : decode cX6_purses 9 = .ok (.if_icmp .ge 39, 3) := by decide +kernel
theorem dX6_purses_12 : decode cX6_purses 12 = .ok (.aload_n 0, 1) := by decide +kernel
theorem dX6_purses_13 : decode cX6_purses 13 = .ok (.iload_n 3, 1) := by decide +kernel
theorem dX6_purses_14 : decode cX6_purses 14 = .ok (.invokevirtual 55, 3) := by decide +kernel
theorem dX6_purses_17 : decode cX6_purses 17 = .ok (.astore 4, 2) := by decide +kernel
theorem dX6_purses_19 : decode cX6_purses 19 = .ok (.aload 4, 2) := by decide +kernel
theorem dX6_purses_21 : decode cX6_purses 21 = .ok (.ifnull 21, 3) := by decide +kernel
theorem dX6_purses_24 : decode cX6_purses 24 = .ok (.aload 4, 2) := by decide +kernel
theorem dX6_purses_26 : decode cX6_purses 26 = .ok (.getfield 59, 3) := by decide +kernel
theorem dX6_purses_29 : decode cX6_purses 29 = .ok (.iconst 1, 1) := by decide +kernel
theorem dX6_purses_30 : decode cX6_purses 30 = .ok (.if_icmp .ne 12, 3) := by decide +kernel
theorem dX6_purses_33 : decode cX6_purses 33 = .ok (.lload_n 1, 1) := by decide +kernel
theorem dX6_purses_34 : decode cX6_purses 34 = .ok (.aload 4, 2) := by decide +kernel
theorem dX6_purses_36 : decode cX6_purses 36 = .ok (.getfield 84, 3) := by decide +kernel
theorem dX6_purses_39 : decode cX6_purses 39 = .ok (.i2l, 1) := by decide +kernel
theorem dX6_purses_40 : decode cX6_purses 40 = .ok (.ladd, 1) := by decide +kernel
theorem dX6_purses_41 : decode cX6_purses 41 = .ok (.lstore_n 1, 1) := by decide +kernel
theorem dX6_purses_42 : decode cX6_purses 42 = .ok (.iinc 3 1, 3) := by decide +kernel
theorem dX6_purses_45 : decode cX6_purses 45 = .ok (.goto (-41), 3) := by decide +kernel
theorem dX6_purses_48 : decode cX6_purses 48 = .ok (.iconst 0, 1) := by decide +kernel
theorem dX6_purses_49 : decode cX6_purses 49 = .ok (.istore_n 3, 1) := by decide +kernel
theorem dX6_purses_50 : decode cX6_purses 50 = .ok (.iload_n 3, 1) := by decide +kernel
theorem dX6_purses_51 : decode cX6_purses 51 = .ok (.aload_n 0, 1) := by decide +kernel
theorem dX6_purses_52 : decode cX6_purses 52 = .ok (.getfield 29, 3) := by decide +kernel
theorem dX6_purses_55 : decode cX6_purses 55 = .ok (.arraylength, 1) := by decide +kernel
theorem dX6_purses_56 : decode cX6_purses 56 = .ok (.if_icmp .ge 34, 3) := by decide +kernel
theorem dX6_purses_59 : decode cX6_purses 59 = .ok (.lload_n 1, 1) := by decide +kernel
theorem dX6_purses_60 : decode cX6_purses 60 = .ok (.aload_n 0, 1) := by decide +kernel
theorem dX6_purses_61 : decode cX6_purses 61 = .ok (.getfield 29, 3) := by decide +kernel
theorem dX6_purses_64 : decode cX6_purses 64 = .ok (.iload_n 3, 1) := by decide +kernel
theorem dX6_purses_65 : decode cX6_purses 65 = .ok (.aaload, 1) := by decide +kernel
theorem dX6_purses_66 : decode cX6_purses 66 = .ok (.ifnonnull 7, 3) := by decide +kernel
theorem dX6_purses_69 : decode cX6_purses 69 = .ok (.lconst 0, 1) := by decide +kernel
theorem dX6_purses_70 : decode cX6_purses 70 = .ok (.goto 12, 3) := by decide +kernel
theorem dX6_purses_73 : decode cX6_purses 73 = .ok (.aload_n 0, 1) := by decide +kernel
theorem dX6_purses_74 : decode cX6_purses 74 = .ok (.getfield 29, 3) := by decide +kernel
theorem dX6_purses_77 : decode cX6_purses 77 = .ok (.iload_n 3, 1) := by decide +kernel
theorem dX6_purses_78 : decode cX6_purses 78 = .ok (.aaload, 1) := by decide +kernel
theorem dX6_purses_79 : decode cX6_purses 79 = .ok (.invokestatic 231, 3) := by decide +kernel
theorem dX6_purses_82 : decode cX6_purses 82 = .ok (.ladd, 1) := by decide +kernel
theorem dX6_purses_83 : decode cX6_purses 83 = .ok (.lstore_n 1, 1) := by decide +kernel
theorem dX6_purses_84 : decode cX6_purses 84 = .ok (.iinc 3 1, 3) := by decide +kernel
theorem dX6_purses_87 : decode cX6_purses 87 = .ok (.goto (-37), 3) := by decide +kernel
theorem dX6_purses_90 : decode cX6_purses 90 = .ok (.lload_n 1, 1) := by decide +kernel
theorem dX6_purses_91 : decode cX6_purses 91 = .ok (.lreturn, 1) := by decide +kernel
theorem dX6_count_0 : decode cX6_count 0 = .ok (.iload_n 1, 1) := by decide +kernel
theorem dX6_count_1 : decode cX6_count 1 = .ok (.tableswitch 96 0 8 #[51, 56, 61, 66, 71, 76, 81, 86, 91], 51) := by decide +kernel
theorem dX6_count_52 : decode cX6_count 52 = .ok (.aload_n 0, 1) := by decide +kernel
theorem dX6_count_53 : decode cX6_count 53 = .ok (.getfield 228, 3) := by decide +kernel
theorem dX6_count_56 : decode cX6_count 56 = .ok (.ireturn, 1) := by decide +kernel
theorem dX6_count_57 : decode cX6_count 57 = .ok (.aload_n 0, 1) := by decide +kernel
theorem dX6_count_58 : decode cX6_count 58 = .ok (.getfield 110, 3) := by decide +kernel
theorem dX6_count_61 : decode cX6_count 61 = .ok (.ireturn, 1) := by decide +kernel
theorem dX6_count_62 : decode cX6_count 62 = .ok (.aload_n 0, 1) := by decide +kernel
theorem dX6_count_63 : decode cX6_count 63 = .ok (.invokevirtual 235, 3) := by decide +kernel
theorem dX6_count_66 : decode cX6_count 66 = .ok (.ireturn, 1) := by decide +kernel
theorem dX6_count_67 : decode cX6_count 67 = .ok (.aload_n 0, 1) := by decide +kernel
theorem dX6_count_68 : decode cX6_count 68 = .ok (.invokevirtual 238, 3) := by decide +kernel
theorem dX6_count_71 : decode cX6_count 71 = .ok (.ireturn, 1) := by decide +kernel
theorem dX6_count_72 : decode cX6_count 72 = .ok (.aload_n 0, 1) := by decide +kernel
theorem dX6_count_73 : decode cX6_count 73 = .ok (.getfield 140, 3) := by decide +kernel
theorem dX6_count_76 : decode cX6_count 76 = .ok (.ireturn, 1) := by decide +kernel
theorem dX6_count_77 : decode cX6_count 77 = .ok (.aload_n 0, 1) := by decide +kernel
theorem dX6_count_78 : decode cX6_count 78 = .ok (.invokevirtual 241, 3) := by decide +kernel
theorem dX6_count_81 : decode cX6_count 81 = .ok (.ireturn, 1) := by decide +kernel
theorem dX6_count_82 : decode cX6_count 82 = .ok (.aload_n 0, 1) := by decide +kernel
theorem dX6_count_83 : decode cX6_count 83 = .ok (.invokevirtual 244, 3) := by decide +kernel
theorem dX6_count_86 : decode cX6_count 86 = .ok (.ireturn, 1) := by decide +kernel
theorem dX6_count_87 : decode cX6_count 87 = .ok (.aload_n 0, 1) := by decide +kernel
theorem dX6_count_88 : decode cX6_count 88 = .ok (.invokevirtual 247, 3) := by decide +kernel
theorem dX6_count_91 : decode cX6_count 91 = .ok (.ireturn, 1) := by decide +kernel
theorem dX6_count_92 : decode cX6_count 92 = .ok (.aload_n 0, 1) := by decide +kernel
theorem dX6_count_93 : decode cX6_count 93 = .ok (.getfield 250, 3) := by decide +kernel
theorem dX6_count_96 : decode cX6_count 96 = .ok (.ireturn, 1) := by decide +kernel
theorem dX6_count_97 : decode cX6_count 97 = .ok (.iconst (-1), 1) := by decide +kernel
theorem dX6_count_98 : decode cX6_count 98 = .ok (.ireturn, 1) := by decide +kernel
theorem dX6_trace_0 : decode cX6_trace 0 = .ok (.aload_n 0, 1) := by decide +kernel
theorem dX6_trace_1 : decode cX6_trace 1 = .ok (.getfield 253, 3) := by decide +kernel
theorem dX6_trace_4 : decode cX6_trace 4 = .ok (.lreturn, 1) := by decide +kernel
theorem dX6_isHouse_0 : decode cX6_isHouse 0 = .ok (.iload_n 0, 1) := by decide +kernel
theorem dX6_isHouse_1 : decode cX6_isHouse 1 = .ok (.ifCond .lt 12, 3) := by decide +kernel
theorem dX6_isHouse_4 : decode cX6_isHouse 4 = .ok (.iload_n 0, 1) := by decide +kernel
theorem dX6_isHouse_5 : decode cX6_isHouse 5 = .ok (.iconst 4, 1) := by decide +kernel
theorem dX6_isHouse_6 : decode cX6_isHouse 6 = .ok (.if_icmp .ge 7, 3) := by decide +kernel
theorem dX6_isHouse_9 : decode cX6_isHouse 9 = .ok (.iconst 1, 1) := by decide +kernel
theorem dX6_isHouse_10 : decode cX6_isHouse 10 = .ok (.goto 4, 3) := by decide +kernel
theorem dX6_isHouse_13 : decode cX6_isHouse 13 = .ok (.iconst 0, 1) := by decide +kernel
theorem dX6_isHouse_14 : decode cX6_isHouse 14 = .ok (.ireturn, 1) := by decide +kernel
theorem dX6_oneIf_0 : decode cX6_oneIf 0 = .ok (.iload_n 0, 1) := by decide +kernel
theorem dX6_oneIf_1 : decode cX6_oneIf 1 = .ok (.ifCond .eq 7, 3) := by decide +kernel
theorem dX6_oneIf_4 : decode cX6_oneIf 4 = .ok (.iconst 1, 1) := by decide +kernel
theorem dX6_oneIf_5 : decode cX6_oneIf 5 = .ok (.goto 4, 3) := by decide +kernel
theorem dX6_oneIf_8 : decode cX6_oneIf 8 = .ok (.iconst 0, 1) := by decide +kernel
theorem dX6_oneIf_9 : decode cX6_oneIf 9 = .ok (.ireturn, 1) := by decide +kernel
theorem dX6_thingAt_0 : decode cX6_thingAt 0 = .ok (.iload_n 1, 1) := by decide +kernel
theorem dX6_thingAt_1 : decode cX6_thingAt 1 = .ok (.ifCond .lt 20, 3) := by decide +kernel
theorem dX6_thingAt_4 : decode cX6_thingAt 4 = .ok (.iload_n 1, 1) := by decide +kernel
theorem dX6_thingAt_5 : decode cX6_thingAt 5 = .ok (.aload_n 0, 1) := by decide +kernel
theorem dX6_thingAt_6 : decode cX6_thingAt 6 = .ok (.getfield 228, 3) := by decide +kernel
theorem dX6_thingAt_9 : decode cX6_thingAt 9 = .ok (.if_icmp .ge 12, 3) := by decide +kernel
theorem dX6_thingAt_12 : decode cX6_thingAt 12 = .ok (.iload_n 1, 1) := by decide +kernel
theorem dX6_thingAt_13 : decode cX6_thingAt 13 = .ok (.aload_n 0, 1) := by decide +kernel
theorem dX6_thingAt_14 : decode cX6_thingAt 14 = .ok (.getfield 11, 3) := by decide +kernel
theorem dX6_thingAt_17 : decode cX6_thingAt 17 = .ok (.arraylength, 1) := by decide +kernel
theorem dX6_thingAt_18 : decode cX6_thingAt 18 = .ok (.if_icmp .lt 7, 3) := by decide +kernel
theorem dX6_thingAt_21 : decode cX6_thingAt 21 = .ok (.aconst_null, 1) := by decide +kernel
theorem dX6_thingAt_22 : decode cX6_thingAt 22 = .ok (.goto 9, 3) := by decide +kernel
theorem dX6_thingAt_25 : decode cX6_thingAt 25 = .ok (.aload_n 0, 1) := by decide +kernel
theorem dX6_thingAt_26 : decode cX6_thingAt 26 = .ok (.getfield 11, 3) := by decide +kernel
theorem dX6_thingAt_29 : decode cX6_thingAt 29 = .ok (.iload_n 1, 1) := by decide +kernel
theorem dX6_thingAt_30 : decode cX6_thingAt 30 = .ok (.aaload, 1) := by decide +kernel
theorem dX6_thingAt_31 : decode cX6_thingAt 31 = .ok (.areturn, 1) := by decide +kernel
theorem dX6_promiseAt_0 : decode cX6_promiseAt 0 = .ok (.iload_n 1, 1) := by decide +kernel
theorem dX6_promiseAt_1 : decode cX6_promiseAt 1 = .ok (.ifCond .lt 20, 3) := by decide +kernel
theorem dX6_promiseAt_4 : decode cX6_promiseAt 4 = .ok (.iload_n 1, 1) := by decide +kernel
theorem dX6_promiseAt_5 : decode cX6_promiseAt 5 = .ok (.aload_n 0, 1) := by decide +kernel
theorem dX6_promiseAt_6 : decode cX6_promiseAt 6 = .ok (.getfield 110, 3) := by decide +kernel
theorem dX6_promiseAt_9 : decode cX6_promiseAt 9 = .ok (.if_icmp .ge 12, 3) := by decide +kernel
theorem dX6_promiseAt_12 : decode cX6_promiseAt 12 = .ok (.iload_n 1, 1) := by decide +kernel
theorem dX6_promiseAt_13 : decode cX6_promiseAt 13 = .ok (.aload_n 0, 1) := by decide +kernel
theorem dX6_promiseAt_14 : decode cX6_promiseAt 14 = .ok (.getfield 17, 3) := by decide +kernel
theorem dX6_promiseAt_17 : decode cX6_promiseAt 17 = .ok (.arraylength, 1) := by decide +kernel
theorem dX6_promiseAt_18 : decode cX6_promiseAt 18 = .ok (.if_icmp .lt 7, 3) := by decide +kernel
theorem dX6_promiseAt_21 : decode cX6_promiseAt 21 = .ok (.aconst_null, 1) := by decide +kernel
theorem dX6_promiseAt_22 : decode cX6_promiseAt 22 = .ok (.goto 9, 3) := by decide +kernel
theorem dX6_promiseAt_25 : decode cX6_promiseAt 25 = .ok (.aload_n 0, 1) := by decide +kernel
theorem dX6_promiseAt_26 : decode cX6_promiseAt 26 = .ok (.getfield 17, 3) := by decide +kernel
theorem dX6_promiseAt_29 : decode cX6_promiseAt 29 = .ok (.iload_n 1, 1) := by decide +kernel
theorem dX6_promiseAt_30 : decode cX6_promiseAt 30 = .ok (.aaload, 1) := by decide +kernel
theorem dX6_promiseAt_31 : decode cX6_promiseAt 31 = .ok (.areturn, 1) := by decide +kernel
theorem dX6_wireAt_0 : decode cX6_wireAt 0 = .ok (.iload_n 1, 1) := by decide +kernel
theorem dX6_wireAt_1 : decode cX6_wireAt 1 = .ok (.ifCond .lt 17, 3) := by decide +kernel
theorem dX6_wireAt_4 : decode cX6_wireAt 4 = .ok (.iload_n 1, 1) := by decide +kernel
theorem dX6_wireAt_5 : decode cX6_wireAt 5 = .ok (.iconst 4, 1) := by decide +kernel
theorem dX6_wireAt_6 : decode cX6_wireAt 6 = .ok (.if_icmp .ge 12, 3) := by decide +kernel
theorem dX6_wireAt_9 : decode cX6_wireAt 9 = .ok (.iload_n 2, 1) := by decide +kernel
theorem dX6_wireAt_10 : decode cX6_wireAt 10 = .ok (.ifCond .lt 8, 3) := by decide +kernel
theorem dX6_wireAt_13 : decode cX6_wireAt 13 = .ok (.iload_n 2, 1) := by decide +kernel
theorem dX6_wireAt_14 : decode cX6_wireAt 14 = .ok (.iconst 4, 1) := by decide +kernel
theorem dX6_wireAt_15 : decode cX6_wireAt 15 = .ok (.if_icmp .lt 5, 3) := by decide +kernel
theorem dX6_wireAt_18 : decode cX6_wireAt 18 = .ok (.aconst_null, 1) := by decide +kernel
theorem dX6_wireAt_19 : decode cX6_wireAt 19 = .ok (.areturn, 1) := by decide +kernel
theorem dX6_wireAt_20 : decode cX6_wireAt 20 = .ok (.aload_n 0, 1) := by decide +kernel
theorem dX6_wireAt_21 : decode cX6_wireAt 21 = .ok (.getfield 29, 3) := by decide +kernel
theorem dX6_wireAt_24 : decode cX6_wireAt 24 = .ok (.iload_n 1, 1) := by decide +kernel
theorem dX6_wireAt_25 : decode cX6_wireAt 25 = .ok (.iconst 4, 1) := by decide +kernel
theorem dX6_wireAt_26 : decode cX6_wireAt 26 = .ok (.imul, 1) := by decide +kernel
theorem dX6_wireAt_27 : decode cX6_wireAt 27 = .ok (.iload_n 2, 1) := by decide +kernel
theorem dX6_wireAt_28 : decode cX6_wireAt 28 = .ok (.iadd, 1) := by decide +kernel
theorem dX6_wireAt_29 : decode cX6_wireAt 29 = .ok (.aaload, 1) := by decide +kernel
theorem dX6_wireAt_30 : decode cX6_wireAt 30 = .ok (.areturn, 1) := by decide +kernel
theorem dX6_firstWireWithLetters_0 : decode cX6_firstWireWithLetters 0 = .ok (.iconst 0, 1) := by decide +kernel
theorem dX6_firstWireWithLetters_1 : decode cX6_firstWireWithLetters 1 = .ok (.istore_n 1, 1) := by decide +kernel
theorem dX6_firstWireWithLetters_2 : decode cX6_firstWireWithLetters 2 = .ok (.iload_n 1, 1) := by decide +kernel
theorem dX6_firstWireWithLetters_3 : decode cX6_firstWireWithLetters 3 = .ok (.aload_n 0, 1) := by decide +kernel
theorem dX6_firstWireWithLetters_4 : decode cX6_firstWireWithLetters 4 = .ok (.getfield 29, 3) := by decide +kernel
theorem dX6_firstWireWithLetters_7 : decode cX6_firstWireWithLetters 7 = .ok (.arraylength, 1) := by decide +kernel
theorem dX6_firstWireWithLetters_8 : decode cX6_firstWireWithLetters 8 = .ok (.if_icmp .ge 32, 3) := by decide +kernel
theorem dX6_firstWireWithLetters_11 : decode cX6_firstWireWithLetters 11 = .ok (.aload_n 0, 1) := by decide +kernel
theorem dX6_firstWireWithLetters_12 : decode cX6_firstWireWithLetters 12 = .ok (.getfield 29, 3) := by decide +kernel
theorem dX6_firstWireWithLetters_15 : decode cX6_firstWireWithLetters 15 = .ok (.iload_n 1, 1) := by decide +kernel
theorem dX6_firstWireWithLetters_16 : decode cX6_firstWireWithLetters 16 = .ok (.aaload, 1) := by decide +kernel
theorem dX6_firstWireWithLetters_17 : decode cX6_firstWireWithLetters 17 = .ok (.astore_n 2, 1) := by decide +kernel
theorem dX6_firstWireWithLetters_18 : decode cX6_firstWireWithLetters 18 = .ok (.aload_n 2, 1) := by decide +kernel
theorem dX6_firstWireWithLetters_19 : decode cX6_firstWireWithLetters 19 = .ok (.ifnull 15, 3) := by decide +kernel
theorem dX6_firstWireWithLetters_22 : decode cX6_firstWireWithLetters 22 = .ok (.aload_n 2, 1) := by decide +kernel
theorem dX6_firstWireWithLetters_23 : decode cX6_firstWireWithLetters 23 = .ok (.getfield 200, 3) := by decide +kernel
theorem dX6_firstWireWithLetters_26 : decode cX6_firstWireWithLetters 26 = .ok (.getfield 100, 3) := by decide +kernel
theorem dX6_firstWireWithLetters_29 : decode cX6_firstWireWithLetters 29 = .ok (.ifCond .le 5, 3) := by decide +kernel
theorem dX6_firstWireWithLetters_32 : decode cX6_firstWireWithLetters 32 = .ok (.aload_n 2, 1) := by decide +kernel
theorem dX6_firstWireWithLetters_33 : decode cX6_firstWireWithLetters 33 = .ok (.areturn, 1) := by decide +kernel
theorem dX6_firstWireWithLetters_34 : decode cX6_firstWireWithLetters 34 = .ok (.iinc 1 1, 3) := by decide +kernel
theorem dX6_firstWireWithLetters_37 : decode cX6_firstWireWithLetters 37 = .ok (.goto (-35), 3) := by decide +kernel
theorem dX6_firstWireWithLetters_40 : decode cX6_firstWireWithLetters 40 = .ok (.aconst_null, 1) := by decide +kernel
theorem dX6_firstWireWithLetters_41 : decode cX6_firstWireWithLetters 41 = .ok (.areturn, 1) := by decide +kernel
theorem dX6_mayBegin_0 : decode cX6_mayBegin 0 = .ok (.iload_n 0, 1) := by decide +kernel
theorem dX6_mayBegin_1 : decode cX6_mayBegin 1 = .ok (.tableswitch 72 0 6 #[43, 45, 43, 72, 72, 55, 55], 43) := by decide +kernel
theorem dX6_mayBegin_44 : decode cX6_mayBegin 44 = .ok (.iconst 1, 1) := by decide +kernel
theorem dX6_mayBegin_45 : decode cX6_mayBegin 45 = .ok (.ireturn, 1) := by decide +kernel
theorem dX6_mayBegin_46 : decode cX6_mayBegin 46 = .ok (.iload_n 1, 1) := by decide +kernel
theorem dX6_mayBegin_47 : decode cX6_mayBegin 47 = .ok (.ifCond .lt 7, 3) := by decide +kernel
theorem dX6_mayBegin_50 : decode cX6_mayBegin 50 = .ok (.iconst 1, 1) := by decide +kernel
theorem dX6_mayBegin_51 : decode cX6_mayBegin 51 = .ok (.goto 4, 3) := by decide +kernel
theorem dX6_mayBegin_54 : decode cX6_mayBegin 54 = .ok (.iconst 0, 1) := by decide +kernel
theorem dX6_mayBegin_55 : decode cX6_mayBegin 55 = .ok (.ireturn, 1) := by decide +kernel
theorem dX6_mayBegin_56 : decode cX6_mayBegin 56 = .ok (.iload_n 1, 1) := by decide +kernel
theorem dX6_mayBegin_57 : decode cX6_mayBegin 57 = .ok (.iconst 1, 1) := by decide +kernel
theorem dX6_mayBegin_58 : decode cX6_mayBegin 58 = .ok (.if_icmp .lt 13, 3) := by decide +kernel
theorem dX6_mayBegin_61 : decode cX6_mayBegin 61 = .ok (.iload_n 1, 1) := by decide +kernel
theorem dX6_mayBegin_62 : decode cX6_mayBegin 62 = .ok (.bipush 20, 2) := by decide +kernel
theorem dX6_mayBegin_64 : decode cX6_mayBegin 64 = .ok (.if_icmp .gt 7, 3) := by decide +kernel
theorem dX6_mayBegin_67 : decode cX6_mayBegin 67 = .ok (.iconst 1, 1) := by decide +kernel
theorem dX6_mayBegin_68 : decode cX6_mayBegin 68 = .ok (.goto 4, 3) := by decide +kernel
theorem dX6_mayBegin_71 : decode cX6_mayBegin 71 = .ok (.iconst 0, 1) := by decide +kernel
theorem dX6_mayBegin_72 : decode cX6_mayBegin 72 = .ok (.ireturn, 1) := by decide +kernel
theorem dX6_mayBegin_73 : decode cX6_mayBegin 73 = .ok (.iconst 0, 1) := by decide +kernel
theorem dX6_mayBegin_74 : decode cX6_mayBegin 74 = .ok (.ireturn, 1) := by decide +kernel
theorem dX6_addThing_0 : decode cX6_addThing 0 = .ok (.aload_n 0, 1) := by decide +kernel
theorem dX6_addThing_1 : decode cX6_addThing 1 = .ok (.getfield 228, 3) := by decide +kernel
theorem dX6_addThing_4 : decode cX6_addThing 4 = .ok (.istore 6, 2) := by decide +kernel
theorem dX6_addThing_6 : decode cX6_addThing 6 = .ok (.iload 6, 2) := by decide +kernel
theorem dX6_addThing_8 : decode cX6_addThing 8 = .ok (.aload_n 0, 1) := by decide +kernel
theorem dX6_addThing_9 : decode cX6_addThing 9 = .ok (.getfield 11, 3) := by decide +kernel
theorem dX6_addThing_12 : decode cX6_addThing 12 = .ok (.arraylength, 1) := by decide +kernel
theorem dX6_addThing_13 : decode cX6_addThing 13 = .ok (.if_icmp .lt 6, 3) := by decide +kernel
theorem dX6_addThing_16 : decode cX6_addThing 16 = .ok (.bipush (-3), 2) := by decide +kernel
theorem dX6_addThing_18 : decode cX6_addThing 18 = .ok (.ireturn, 1) := by decide +kernel
theorem dX6_addThing_19 : decode cX6_addThing 19 = .ok (.aload_n 0, 1) := by decide +kernel
theorem dX6_addThing_20 : decode cX6_addThing 20 = .ok (.getfield 11, 3) := by decide +kernel
theorem dX6_addThing_23 : decode cX6_addThing 23 = .ok (.iload 6, 2) := by decide +kernel
theorem dX6_addThing_25 : decode cX6_addThing 25 = .ok (.new 9, 3) := by decide +kernel
theorem dX6_addThing_28 : decode cX6_addThing 28 = .ok (.dup, 1) := by decide +kernel
theorem dX6_addThing_29 : decode cX6_addThing 29 = .ok (.iload 6, 2) := by decide +kernel
theorem dX6_addThing_31 : decode cX6_addThing 31 = .ok (.iload_n 1, 1) := by decide +kernel
theorem dX6_addThing_32 : decode cX6_addThing 32 = .ok (.iload_n 2, 1) := by decide +kernel
theorem dX6_addThing_33 : decode cX6_addThing 33 = .ok (.iload_n 3, 1) := by decide +kernel
theorem dX6_addThing_34 : decode cX6_addThing 34 = .ok (.aload 4, 2) := by decide +kernel
theorem dX6_addThing_36 : decode cX6_addThing 36 = .ok (.iload 5, 2) := by decide +kernel
theorem dX6_addThing_38 : decode cX6_addThing 38 = .ok (.invokespecial 257, 3) := by decide +kernel
theorem dX6_addThing_41 : decode cX6_addThing 41 = .ok (.aastore, 1) := by decide +kernel
theorem dX6_addThing_42 : decode cX6_addThing 42 = .ok (.aload_n 0, 1) := by decide +kernel
theorem dX6_addThing_43 : decode cX6_addThing 43 = .ok (.dup, 1) := by decide +kernel
theorem dX6_addThing_44 : decode cX6_addThing 44 = .ok (.getfield 228, 3) := by decide +kernel
theorem dX6_addThing_47 : decode cX6_addThing 47 = .ok (.iconst 1, 1) := by decide +kernel
theorem dX6_addThing_48 : decode cX6_addThing 48 = .ok (.iadd, 1) := by decide +kernel
theorem dX6_addThing_49 : decode cX6_addThing 49 = .ok (.putfield 228, 3) := by decide +kernel
theorem dX6_addThing_52 : decode cX6_addThing 52 = .ok (.iload 6, 2) := by decide +kernel
theorem dX6_addThing_54 : decode cX6_addThing 54 = .ok (.ireturn, 1) := by decide +kernel
theorem dX6_hear_0 : decode cX6_hear 0 = .ok (.aload_n 1, 1) := by decide +kernel
theorem dX6_hear_1 : decode cX6_hear 1 = .ok (.getfield 59, 3) := by decide +kernel
theorem dX6_hear_4 : decode cX6_hear 4 = .ok (.tableswitch 82 1 6 #[40, 47, 54, 61, 68, 75], 40) := by decide +kernel
theorem dX6_hear_44 : decode cX6_hear 44 = .ok (.aload_n 0, 1) := by decide +kernel
theorem dX6_hear_45 : decode cX6_hear 45 = .ok (.aload_n 1, 1) := by decide +kernel
theorem dX6_hear_46 : decode cX6_hear 46 = .ok (.aload_n 2, 1) := by decide +kernel
theorem dX6_hear_47 : decode cX6_hear 47 = .ok (.invokevirtual 260, 3) := by decide +kernel
theorem dX6_hear_50 : decode cX6_hear 50 = .ok (.ireturn, 1) := by decide +kernel
theorem dX6_hear_51 : decode cX6_hear 51 = .ok (.aload_n 0, 1) := by decide +kernel
theorem dX6_hear_52 : decode cX6_hear 52 = .ok (.aload_n 1, 1) := by decide +kernel
theorem dX6_hear_53 : decode cX6_hear 53 = .ok (.aload_n 2, 1) := by decide +kernel
theorem dX6_hear_54 : decode cX6_hear 54 = .ok (.invokevirtual 264, 3) := by decide +kernel
theorem dX6_hear_57 : decode cX6_hear 57 = .ok (.ireturn, 1) := by decide +kernel
theorem dX6_hear_58 : decode cX6_hear 58 = .ok (.aload_n 0, 1) := by decide +kernel
theorem dX6_hear_59 : decode cX6_hear 59 = .ok (.aload_n 1, 1) := by decide +kernel
theorem dX6_hear_60 : decode cX6_hear 60 = .ok (.aload_n 2, 1) := by decide +kernel
theorem dX6_hear_61 : decode cX6_hear 61 = .ok (.invokevirtual 267, 3) := by decide +kernel
theorem dX6_hear_64 : decode cX6_hear 64 = .ok (.ireturn, 1) := by decide +kernel
theorem dX6_hear_65 : decode cX6_hear 65 = .ok (.aload_n 0, 1) := by decide +kernel
theorem dX6_hear_66 : decode cX6_hear 66 = .ok (.aload_n 1, 1) := by decide +kernel
theorem dX6_hear_67 : decode cX6_hear 67 = .ok (.aload_n 2, 1) := by decide +kernel
theorem dX6_hear_68 : decode cX6_hear 68 = .ok (.invokevirtual 270, 3) := by decide +kernel
theorem dX6_hear_71 : decode cX6_hear 71 = .ok (.ireturn, 1) := by decide +kernel
theorem dX6_hear_72 : decode cX6_hear 72 = .ok (.aload_n 0, 1) := by decide +kernel
theorem dX6_hear_73 : decode cX6_hear 73 = .ok (.aload_n 1, 1) := by decide +kernel
theorem dX6_hear_74 : decode cX6_hear 74 = .ok (.aload_n 2, 1) := by decide +kernel
theorem dX6_hear_75 : decode cX6_hear 75 = .ok (.invokevirtual 273, 3) := by decide +kernel
theorem dX6_hear_78 : decode cX6_hear 78 = .ok (.ireturn, 1) := by decide +kernel
theorem dX6_hear_79 : decode cX6_hear 79 = .ok (.aload_n 0, 1) := by decide +kernel
theorem dX6_hear_80 : decode cX6_hear 80 = .ok (.aload_n 1, 1) := by decide +kernel
theorem dX6_hear_81 : decode cX6_hear 81 = .ok (.aload_n 2, 1) := by decide +kernel
theorem dX6_hear_82 : decode cX6_hear 82 = .ok (.invokevirtual 276, 3) := by decide +kernel
theorem dX6_hear_85 : decode cX6_hear 85 = .ok (.ireturn, 1) := by decide +kernel
theorem dX6_hear_86 : decode cX6_hear 86 = .ok (.aload_n 0, 1) := by decide +kernel
theorem dX6_hear_87 : decode cX6_hear 87 = .ok (.aload_n 1, 1) := by decide +kernel
theorem dX6_hear_88 : decode cX6_hear 88 = .ok (.aload_n 2, 1) := by decide +kernel
theorem dX6_hear_89 : decode cX6_hear 89 = .ok (.invokevirtual 279, 3) := by decide +kernel
theorem dX6_hear_92 : decode cX6_hear 92 = .ok (.ireturn, 1) := by decide +kernel
theorem dX6_hearAsCell_0 : decode cX6_hearAsCell 0 = .ok (.aload_n 0, 1) := by decide +kernel
theorem dX6_hearAsCell_1 : decode cX6_hearAsCell 1 = .ok (.dup, 1) := by decide +kernel
theorem dX6_hearAsCell_2 : decode cX6_hearAsCell 2 = .ok (.getfield 253, 3) := by decide +kernel
theorem dX6_hearAsCell_5 : decode cX6_hearAsCell 5 = .ok (.lconst 1, 1) := by decide +kernel
theorem dX6_hearAsCell_6 : decode cX6_hearAsCell 6 = .ok (.ladd, 1) := by decide +kernel
theorem dX6_hearAsCell_7 : decode cX6_hearAsCell 7 = .ok (.putfield 253, 3) := by decide +kernel
theorem dX6_hearAsCell_10 : decode cX6_hearAsCell 10 = .ok (.aload_n 1, 1) := by decide +kernel
theorem dX6_hearAsCell_11 : decode cX6_hearAsCell 11 = .ok (.getfield 84, 3) := by decide +kernel
theorem dX6_hearAsCell_14 : decode cX6_hearAsCell 14 = .ok (.istore_n 3, 1) := by decide +kernel
theorem dX6_hearAsCell_15 : decode cX6_hearAsCell 15 = .ok (.aload_n 2, 1) := by decide +kernel
theorem dX6_hearAsCell_16 : decode cX6_hearAsCell 16 = .ok (.getfield 219, 3) := by decide +kernel
theorem dX6_hearAsCell_19 : decode cX6_hearAsCell 19 = .ok (.tableswitch 117 0 7 #[45, 52, 67, 87, 117, 117, 117, 107], 45) := by decide +kernel
theorem dX6_hearAsCell_64 : decode cX6_hearAsCell 64 = .ok (.aload_n 2, 1) := by decide +kernel
theorem dX6_hearAsCell_65 : decode cX6_hearAsCell 65 = .ok (.iconst 1, 1) := by decide +kernel
theorem dX6_hearAsCell_66 : decode cX6_hearAsCell 66 = .ok (.iload_n 3, 1) := by decide +kernel
theorem dX6_hearAsCell_67 : decode cX6_hearAsCell 67 = .ok (.invokevirtual 282, 3) := by decide +kernel
theorem dX6_hearAsCell_70 : decode cX6_hearAsCell 70 = .ok (.ireturn, 1) := by decide +kernel
theorem dX6_hearAsCell_71 : decode cX6_hearAsCell 71 = .ok (.aload_n 1, 1) := by decide +kernel
theorem dX6_hearAsCell_72 : decode cX6_hearAsCell 72 = .ok (.aload_n 2, 1) := by decide +kernel
theorem dX6_hearAsCell_73 : decode cX6_hearAsCell 73 = .ok (.getfield 225, 3) := by decide +kernel
theorem dX6_hearAsCell_76 : decode cX6_hearAsCell 76 = .ok (.putfield 84, 3) := by decide +kernel
theorem dX6_hearAsCell_79 : decode cX6_hearAsCell 79 = .ok (.aload_n 2, 1) := by decide +kernel
theorem dX6_hearAsCell_80 : decode cX6_hearAsCell 80 = .ok (.iconst 1, 1) := by decide +kernel
theorem dX6_hearAsCell_81 : decode cX6_hearAsCell 81 = .ok (.iload_n 3, 1) := by decide +kernel
theorem dX6_hearAsCell_82 : decode cX6_hearAsCell 82 = .ok (.invokevirtual 282, 3) := by decide +kernel
theorem dX6_hearAsCell_85 : decode cX6_hearAsCell 85 = .ok (.ireturn, 1) := by decide +kernel
theorem dX6_hearAsCell_86 : decode cX6_hearAsCell 86 = .ok (.aload_n 1, 1) := by decide +kernel
theorem dX6_hearAsCell_87 : decode cX6_hearAsCell 87 = .ok (.iload_n 3, 1) := by decide +kernel
theorem dX6_hearAsCell_88 : decode cX6_hearAsCell 88 = .ok (.aload_n 2, 1) := by decide +kernel
theorem dX6_hearAsCell_89 : decode cX6_hearAsCell 89 = .ok (.getfield 225, 3) := by decide +kernel
theorem dX6_hearAsCell_92 : decode cX6_hearAsCell 92 = .ok (.iadd, 1) := by decide +kernel
theorem dX6_hearAsCell_93 : decode cX6_hearAsCell 93 = .ok (.putfield 84, 3) := by decide +kernel
theorem dX6_hearAsCell_96 : decode cX6_hearAsCell 96 = .ok (.aload_n 2, 1) := by decide +kernel
theorem dX6_hearAsCell_97 : decode cX6_hearAsCell 97 = .ok (.iconst 1, 1) := by decide +kernel
theorem dX6_hearAsCell_98 : decode cX6_hearAsCell 98 = .ok (.aload_n 1, 1) := by decide +kernel
theorem dX6_hearAsCell_99 : decode cX6_hearAsCell 99 = .ok (.getfield 84, 3) := by decide +kernel
theorem dX6_hearAsCell_102 : decode cX6_hearAsCell 102 = .ok (.invokevirtual 282, 3) := by decide +kernel
theorem dX6_hearAsCell_105 : decode cX6_hearAsCell 105 = .ok (.ireturn, 1) := by decide +kernel
theorem dX6_hearAsCell_106 : decode cX6_hearAsCell 106 = .ok (.aload_n 1, 1) := by decide +kernel
theorem dX6_hearAsCell_107 : decode cX6_hearAsCell 107 = .ok (.iload_n 3, 1) := by decide +kernel
theorem dX6_hearAsCell_108 : decode cX6_hearAsCell 108 = .ok (.aload_n 2, 1) := by decide +kernel
theorem dX6_hearAsCell_109 : decode cX6_hearAsCell 109 = .ok (.getfield 225, 3) := by decide +kernel
theorem dX6_hearAsCell_112 : decode cX6_hearAsCell 112 = .ok (.isub, 1) := by decide +kernel
theorem dX6_hearAsCell_113 : decode cX6_hearAsCell 113 = .ok (.putfield 84, 3) := by decide +kernel
theorem dX6_hearAsCell_116 : decode cX6_hearAsCell 116 = .ok (.aload_n 2, 1) := by decide +kernel
theorem dX6_hearAsCell_117 : decode cX6_hearAsCell 117 = .ok (.iconst 1, 1) := by decide +kernel
theorem dX6_hearAsCell_118 : decode cX6_hearAsCell 118 = .ok (.aload_n 1, 1) := by decide +kernel
theorem dX6_hearAsCell_119 : decode cX6_hearAsCell 119 = .ok (.getfield 84, 3) := by decide +kernel
theorem dX6_hearAsCell_122 : decode cX6_hearAsCell 122 = .ok (.invokevirtual 282, 3) := by decide +kernel
theorem dX6_hearAsCell_125 : decode cX6_hearAsCell 125 = .ok (.ireturn, 1) := by decide +kernel
theorem dX6_hearAsCell_126 : decode cX6_hearAsCell 126 = .ok (.aload_n 2, 1) := by decide +kernel
theorem dX6_hearAsCell_127 : decode cX6_hearAsCell 127 = .ok (.iconst 2, 1) := by decide +kernel
theorem dX6_hearAsCell_128 : decode cX6_hearAsCell 128 = .ok (.aload_n 1, 1) := by decide +kernel
theorem dX6_hearAsCell_129 : decode cX6_hearAsCell 129 = .ok (.getfield 91, 3) := by decide +kernel
theorem dX6_hearAsCell_132 : decode cX6_hearAsCell 132 = .ok (.invokevirtual 282, 3) := by decide +kernel
theorem dX6_hearAsCell_135 : decode cX6_hearAsCell 135 = .ok (.ireturn, 1) := by decide +kernel
theorem dX6_hearAsCell_136 : decode cX6_hearAsCell 136 = .ok (.aload_n 2, 1) := by decide +kernel
theorem dX6_hearAsCell_137 : decode cX6_hearAsCell 137 = .ok (.iconst 3, 1) := by decide +kernel
theorem dX6_hearAsCell_138 : decode cX6_hearAsCell 138 = .ok (.iconst 3, 1) := by decide +kernel
theorem dX6_hearAsCell_139 : decode cX6_hearAsCell 139 = .ok (.invokevirtual 282, 3) := by decide +kernel
theorem dX6_hearAsCell_142 : decode cX6_hearAsCell 142 = .ok (.ireturn, 1) := by decide +kernel
theorem dX6_hearAsPurse_0 : decode cX6_hearAsPurse 0 = .ok (.aload_n 0, 1) := by decide +kernel
theorem dX6_hearAsPurse_1 : decode cX6_hearAsPurse 1 = .ok (.dup, 1) := by decide +kernel
theorem dX6_hearAsPurse_2 : decode cX6_hearAsPurse 2 = .ok (.getfield 253, 3) := by decide +kernel
theorem dX6_hearAsPurse_5 : decode cX6_hearAsPurse 5 = .ok (.ldc2_w 285, 3) := by decide +kernel
theorem dX6_hearAsPurse_8 : decode cX6_hearAsPurse 8 = .ok (.ladd, 1) := by decide +kernel
theorem dX6_hearAsPurse_9 : decode cX6_hearAsPurse 9 = .ok (.putfield 253, 3) := by decide +kernel
theorem dX6_hearAsPurse_12 : decode cX6_hearAsPurse 12 = .ok (.aload_n 2, 1) := by decide +kernel
theorem dX6_hearAsPurse_13 : decode cX6_hearAsPurse 13 = .ok (.getfield 219, 3) := by decide +kernel
theorem dX6_hearAsPurse_16 : decode cX6_hearAsPurse 16 = .ok (.istore_n 3, 1) := by decide +kernel
theorem dX6_hearAsPurse_17 : decode cX6_hearAsPurse 17 = .ok (.iload_n 3, 1) := by decide +kernel
theorem dX6_hearAsPurse_18 : decode cX6_hearAsPurse 18 = .ok (.iconst 2, 1) := by decide +kernel
theorem dX6_hearAsPurse_19 : decode cX6_hearAsPurse 19 = .ok (.if_icmp .eq 13, 3) := by decide +kernel
theorem dX6_hearAsPurse_22 : decode cX6_hearAsPurse 22 = .ok (.iload_n 3, 1) := by decide +kernel
theorem dX6_hearAsPurse_23 : decode cX6_hearAsPurse 23 = .ok (.iconst 3, 1) := by decide +kernel
theorem dX6_hearAsPurse_24 : decode cX6_hearAsPurse 24 = .ok (.if_icmp .eq 8, 3) := by decide +kernel
theorem dX6_hearAsPurse_27 : decode cX6_hearAsPurse 27 = .ok (.iload_n 3, 1) := by decide +kernel
theorem dX6_hearAsPurse_28 : decode cX6_hearAsPurse 28 = .ok (.iconst 4, 1) := by decide +kernel
theorem dX6_hearAsPurse_29 : decode cX6_hearAsPurse 29 = .ok (.if_icmp .ne 7, 3) := by decide +kernel
theorem dX6_hearAsPurse_32 : decode cX6_hearAsPurse 32 = .ok (.iconst 1, 1) := by decide +kernel
theorem dX6_hearAsPurse_33 : decode cX6_hearAsPurse 33 = .ok (.goto 4, 3) := by decide +kernel
theorem dX6_hearAsPurse_36 : decode cX6_hearAsPurse 36 = .ok (.iconst 0, 1) := by decide +kernel
theorem dX6_hearAsPurse_37 : decode cX6_hearAsPurse 37 = .ok (.istore 4, 2) := by decide +kernel
theorem dX6_hearAsPurse_39 : decode cX6_hearAsPurse 39 = .ok (.iload_n 3, 1) := by decide +kernel
theorem dX6_hearAsPurse_40 : decode cX6_hearAsPurse 40 = .ok (.iconst 1, 1) := by decide +kernel
theorem dX6_hearAsPurse_41 : decode cX6_hearAsPurse 41 = .ok (.if_icmp .eq 15, 3) := by decide +kernel
theorem dX6_hearAsPurse_44 : decode cX6_hearAsPurse 44 = .ok (.iload 4, 2) := by decide +kernel
theorem dX6_hearAsPurse_46 : decode cX6_hearAsPurse 46 = .ok (.ifCond .eq 17, 3) := by decide +kernel
theorem dX6_hearAsPurse_49 : decode cX6_hearAsPurse 49 = .ok (.aload_n 2, 1) := by decide +kernel
theorem dX6_hearAsPurse_50 : decode cX6_hearAsPurse 50 = .ok (.getfield 225, 3) := by decide +kernel
theorem dX6_hearAsPurse_53 : decode cX6_hearAsPurse 53 = .ok (.ifCond .ge 10, 3) := by decide +kernel
theorem dX6_hearAsPurse_56 : decode cX6_hearAsPurse 56 = .ok (.aload_n 2, 1) := by decide +kernel
theorem dX6_hearAsPurse_57 : decode cX6_hearAsPurse 57 = .ok (.iconst 3, 1) := by decide +kernel
theorem dX6_hearAsPurse_58 : decode cX6_hearAsPurse 58 = .ok (.iconst 3, 1) := by decide +kernel
theorem dX6_hearAsPurse_59 : decode cX6_hearAsPurse 59 = .ok (.invokevirtual 282, 3) := by decide +kernel
theorem dX6_hearAsPurse_62 : decode cX6_hearAsPurse 62 = .ok (.ireturn, 1) := by decide +kernel
theorem dX6_hearAsPurse_63 : decode cX6_hearAsPurse 63 = .ok (.iload_n 3, 1) := by decide +kernel
theorem dX6_hearAsPurse_64 : decode cX6_hearAsPurse 64 = .ok (.iconst 4, 1) := by decide +kernel
theorem dX6_hearAsPurse_65 : decode cX6_hearAsPurse 65 = .ok (.if_icmp .ne 28, 3) := by decide +kernel
theorem dX6_hearAsPurse_68 : decode cX6_hearAsPurse 68 = .ok (.aload_n 2, 1) := by decide +kernel
theorem dX6_hearAsPurse_69 : decode cX6_hearAsPurse 69 = .ok (.getfield 287, 3) := by decide +kernel
theorem dX6_hearAsPurse_72 : decode cX6_hearAsPurse 72 = .ok (.ifnull 14, 3) := by decide +kernel
theorem dX6_hearAsPurse_75 : decode cX6_hearAsPurse 75 = .ok (.aload_n 2, 1) := by decide +kernel
theorem dX6_hearAsPurse_76 : decode cX6_hearAsPurse 76 = .ok (.getfield 287, 3) := by decide +kernel
theorem dX6_hearAsPurse_79 : decode cX6_hearAsPurse 79 = .ok (.getfield 59, 3) := by decide +kernel
theorem dX6_hearAsPurse_82 : decode cX6_hearAsPurse 82 = .ok (.iconst 1, 1) := by decide +kernel
theorem dX6_hearAsPurse_83 : decode cX6_hearAsPurse 83 = .ok (.if_icmp .eq 10, 3) := by decide +kernel
theorem dX6_hearAsPurse_86 : decode cX6_hearAsPurse 86 = .ok (.aload_n 2, 1) := by decide +kernel
theorem dX6_hearAsPurse_87 : decode cX6_hearAsPurse 87 = .ok (.iconst 3, 1) := by decide +kernel
theorem dX6_hearAsPurse_88 : decode cX6_hearAsPurse 88 = .ok (.iconst 3, 1) := by decide +kernel
theorem dX6_hearAsPurse_89 : decode cX6_hearAsPurse 89 = .ok (.invokevirtual 282, 3) := by decide +kernel
theorem dX6_hearAsPurse_92 : decode cX6_hearAsPurse 92 = .ok (.ireturn, 1) := by decide +kernel
theorem dX6_hearAsPurse_93 : decode cX6_hearAsPurse 93 = .ok (.iload_n 3, 1) := by decide +kernel
theorem dX6_hearAsPurse_94 : decode cX6_hearAsPurse 94 = .ok (.iconst 3, 1) := by decide +kernel
theorem dX6_hearAsPurse_95 : decode cX6_hearAsPurse 95 = .ok (.if_icmp .eq 8, 3) := by decide +kernel
theorem dX6_hearAsPurse_98 : decode cX6_hearAsPurse 98 = .ok (.iload_n 3, 1) := by decide +kernel
theorem dX6_hearAsPurse_99 : decode cX6_hearAsPurse 99 = .ok (.iconst 4, 1) := by decide +kernel
theorem dX6_hearAsPurse_100 : decode cX6_hearAsPurse 100 = .ok (.if_icmp .ne 21, 3) := by decide +kernel
theorem dX6_hearAsPurse_103 : decode cX6_hearAsPurse 103 = .ok (.aload_n 2, 1) := by decide +kernel
theorem dX6_hearAsPurse_104 : decode cX6_hearAsPurse 104 = .ok (.getfield 225, 3) := by decide +kernel
theorem dX6_hearAsPurse_107 : decode cX6_hearAsPurse 107 = .ok (.aload_n 1, 1) := by decide +kernel
theorem dX6_hearAsPurse_108 : decode cX6_hearAsPurse 108 = .ok (.getfield 84, 3) := by decide +kernel
theorem dX6_hearAsPurse_111 : decode cX6_hearAsPurse 111 = .ok (.if_icmp .le 10, 3) := by decide +kernel
theorem dX6_hearAsPurse_114 : decode cX6_hearAsPurse 114 = .ok (.aload_n 2, 1) := by decide +kernel
theorem dX6_hearAsPurse_115 : decode cX6_hearAsPurse 115 = .ok (.iconst 3, 1) := by decide +kernel
theorem dX6_hearAsPurse_116 : decode cX6_hearAsPurse 116 = .ok (.iconst 2, 1) := by decide +kernel
theorem dX6_hearAsPurse_117 : decode cX6_hearAsPurse 117 = .ok (.invokevirtual 282, 3) := by decide +kernel
theorem dX6_hearAsPurse_120 : decode cX6_hearAsPurse 120 = .ok (.ireturn, 1) := by decide +kernel
theorem dX6_hearAsPurse_121 : decode cX6_hearAsPurse 121 = .ok (.iload_n 3, 1) := by decide +kernel
theorem dX6_hearAsPurse_122 : decode cX6_hearAsPurse 122 = .ok (.iconst 4, 1) := by decide +kernel
theorem dX6_hearAsPurse_123 : decode cX6_hearAsPurse 123 = .ok (.if_icmp .eq 10, 3) := by decide +kernel
theorem dX6_hearAsPurse_126 : decode cX6_hearAsPurse 126 = .ok (.aload_n 0, 1) := by decide +kernel
theorem dX6_hearAsPurse_127 : decode cX6_hearAsPurse 127 = .ok (.aload_n 1, 1) := by decide +kernel
theorem dX6_hearAsPurse_128 : decode cX6_hearAsPurse 128 = .ok (.aload_n 2, 1) := by decide +kernel
theorem dX6_hearAsPurse_129 : decode cX6_hearAsPurse 129 = .ok (.invokevirtual 279, 3) := by decide +kernel
theorem dX6_hearAsPurse_132 : decode cX6_hearAsPurse 132 = .ok (.ireturn, 1) := by decide +kernel
theorem dX6_hearAsPurse_133 : decode cX6_hearAsPurse 133 = .ok (.aload_n 1, 1) := by decide +kernel
theorem dX6_hearAsPurse_134 : decode cX6_hearAsPurse 134 = .ok (.dup, 1) := by decide +kernel
theorem dX6_hearAsPurse_135 : decode cX6_hearAsPurse 135 = .ok (.getfield 84, 3) := by decide +kernel
theorem dX6_hearAsPurse_138 : decode cX6_hearAsPurse 138 = .ok (.aload_n 2, 1) := by decide +kernel
theorem dX6_hearAsPurse_139 : decode cX6_hearAsPurse 139 = .ok (.getfield 225, 3) := by decide +kernel
theorem dX6_hearAsPurse_142 : decode cX6_hearAsPurse 142 = .ok (.isub, 1) := by decide +kernel
theorem dX6_hearAsPurse_143 : decode cX6_hearAsPurse 143 = .ok (.putfield 84, 3) := by decide +kernel
theorem dX6_hearAsPurse_146 : decode cX6_hearAsPurse 146 = .ok (.aload_n 2, 1) := by decide +kernel
theorem dX6_hearAsPurse_147 : decode cX6_hearAsPurse 147 = .ok (.iconst 2, 1) := by decide +kernel
theorem dX6_hearAsPurse_148 : decode cX6_hearAsPurse 148 = .ok (.putfield 219, 3) := by decide +kernel
theorem dX6_hearAsPurse_151 : decode cX6_hearAsPurse 151 = .ok (.aload_n 2, 1) := by decide +kernel
theorem dX6_hearAsPurse_152 : decode cX6_hearAsPurse 152 = .ok (.aload_n 2, 1) := by decide +kernel
theorem dX6_hearAsPurse_153 : decode cX6_hearAsPurse 153 = .ok (.getfield 287, 3) := by decide +kernel
theorem dX6_hearAsPurse_156 : decode cX6_hearAsPurse 156 = .ok (.putfield 118, 3) := by decide +kernel
theorem dX6_hearAsPurse_159 : decode cX6_hearAsPurse 159 = .ok (.aload_n 2, 1) := by decide +kernel
theorem dX6_hearAsPurse_160 : decode cX6_hearAsPurse 160 = .ok (.aload_n 1, 1) := by decide +kernel
theorem dX6_hearAsPurse_161 : decode cX6_hearAsPurse 161 = .ok (.putfield 290, 3) := by decide +kernel
theorem dX6_hearAsPurse_164 : decode cX6_hearAsPurse 164 = .ok (.iconst 3, 1) := by decide +kernel
theorem dX6_hearAsPurse_165 : decode cX6_hearAsPurse 165 = .ok (.ireturn, 1) := by decide +kernel
theorem dX6_hearAsMaker_0 : decode cX6_hearAsMaker 0 = .ok (.aload_n 0, 1) := by decide +kernel
theorem dX6_hearAsMaker_1 : decode cX6_hearAsMaker 1 = .ok (.dup, 1) := by decide +kernel
theorem dX6_hearAsMaker_2 : decode cX6_hearAsMaker 2 = .ok (.getfield 253, 3) := by decide +kernel
theorem dX6_hearAsMaker_5 : decode cX6_hearAsMaker 5 = .ok (.ldc2_w 293, 3) := by decide +kernel
theorem dX6_hearAsMaker_8 : decode cX6_hearAsMaker 8 = .ok (.ladd, 1) := by decide +kernel
theorem dX6_hearAsMaker_9 : decode cX6_hearAsMaker 9 = .ok (.putfield 253, 3) := by decide +kernel
theorem dX6_hearAsMaker_12 : decode cX6_hearAsMaker 12 = .ok (.aload_n 2, 1) := by decide +kernel
theorem dX6_hearAsMaker_13 : decode cX6_hearAsMaker 13 = .ok (.getfield 219, 3) := by decide +kernel
theorem dX6_hearAsMaker_16 : decode cX6_hearAsMaker 16 = .ok (.ifCond .ne 13, 3) := by decide +kernel
theorem dX6_hearAsMaker_19 : decode cX6_hearAsMaker 19 = .ok (.aload_n 2, 1) := by decide +kernel
theorem dX6_hearAsMaker_20 : decode cX6_hearAsMaker 20 = .ok (.iconst 1, 1) := by decide +kernel
theorem dX6_hearAsMaker_21 : decode cX6_hearAsMaker 21 = .ok (.aload_n 1, 1) := by decide +kernel
theorem dX6_hearAsMaker_22 : decode cX6_hearAsMaker 22 = .ok (.getfield 84, 3) := by decide +kernel
theorem dX6_hearAsMaker_25 : decode cX6_hearAsMaker 25 = .ok (.invokevirtual 282, 3) := by decide +kernel
theorem dX6_hearAsMaker_28 : decode cX6_hearAsMaker 28 = .ok (.ireturn, 1) := by decide +kernel
theorem dX6_hearAsMaker_29 : decode cX6_hearAsMaker 29 = .ok (.aload_n 2, 1) := by decide +kernel
theorem dX6_hearAsMaker_30 : decode cX6_hearAsMaker 30 = .ok (.getfield 219, 3) := by decide +kernel
theorem dX6_hearAsMaker_33 : decode cX6_hearAsMaker 33 = .ok (.bipush 7, 2) := by decide +kernel
theorem dX6_hearAsMaker_35 : decode cX6_hearAsMaker 35 = .ok (.if_icmp .ne 13, 3) := by decide +kernel
theorem dX6_hearAsMaker_38 : decode cX6_hearAsMaker 38 = .ok (.aload_n 2, 1) := by decide +kernel
theorem dX6_hearAsMaker_39 : decode cX6_hearAsMaker 39 = .ok (.iconst 2, 1) := by decide +kernel
theorem dX6_hearAsMaker_40 : decode cX6_hearAsMaker 40 = .ok (.aload_n 1, 1) := by decide +kernel
theorem dX6_hearAsMaker_41 : decode cX6_hearAsMaker 41 = .ok (.getfield 91, 3) := by decide +kernel
theorem dX6_hearAsMaker_44 : decode cX6_hearAsMaker 44 = .ok (.invokevirtual 282, 3) := by decide +kernel
theorem dX6_hearAsMaker_47 : decode cX6_hearAsMaker 47 = .ok (.ireturn, 1) := by decide +kernel
theorem dX6_hearAsMaker_48 : decode cX6_hearAsMaker 48 = .ok (.aload_n 2, 1) := by decide +kernel
theorem dX6_hearAsMaker_49 : decode cX6_hearAsMaker 49 = .ok (.getfield 219, 3) := by decide +kernel
theorem dX6_hearAsMaker_52 : decode cX6_hearAsMaker 52 = .ok (.iconst 5, 1) := by decide +kernel
theorem dX6_hearAsMaker_53 : decode cX6_hearAsMaker 53 = .ok (.if_icmp .ne 18, 3) := by decide +kernel
theorem dX6_hearAsMaker_56 : decode cX6_hearAsMaker 56 = .ok (.aload_n 2, 1) := by decide +kernel
theorem dX6_hearAsMaker_57 : decode cX6_hearAsMaker 57 = .ok (.getfield 225, 3) := by decide +kernel
theorem dX6_hearAsMaker_60 : decode cX6_hearAsMaker 60 = .ok (.ifCond .lt 11, 3) := by decide +kernel
theorem dX6_hearAsMaker_63 : decode cX6_hearAsMaker 63 = .ok (.aload_n 2, 1) := by decide +kernel
theorem dX6_hearAsMaker_64 : decode cX6_hearAsMaker 64 = .ok (.getfield 225, 3) := by decide +kernel
theorem dX6_hearAsMaker_67 : decode cX6_hearAsMaker 67 = .ok (.iconst 2, 1) := by decide +kernel
theorem dX6_hearAsMaker_68 : decode cX6_hearAsMaker 68 = .ok (.if_icmp .le 10, 3) := by decide +kernel
theorem dX6_hearAsMaker_71 : decode cX6_hearAsMaker 71 = .ok (.aload_n 2, 1) := by decide +kernel
theorem dX6_hearAsMaker_72 : decode cX6_hearAsMaker 72 = .ok (.iconst 3, 1) := by decide +kernel
theorem dX6_hearAsMaker_73 : decode cX6_hearAsMaker 73 = .ok (.iconst 3, 1) := by decide +kernel
theorem dX6_hearAsMaker_74 : decode cX6_hearAsMaker 74 = .ok (.invokevirtual 282, 3) := by decide +kernel
theorem dX6_hearAsMaker_77 : decode cX6_hearAsMaker 77 = .ok (.ireturn, 1) := by decide +kernel
theorem dX6_hearAsMaker_78 : decode cX6_hearAsMaker 78 = .ok (.aload_n 0, 1) := by decide +kernel
theorem dX6_hearAsMaker_79 : decode cX6_hearAsMaker 79 = .ok (.aload_n 1, 1) := by decide +kernel
theorem dX6_hearAsMaker_80 : decode cX6_hearAsMaker 80 = .ok (.getfield 81, 3) := by decide +kernel
theorem dX6_hearAsMaker_83 : decode cX6_hearAsMaker 83 = .ok (.aload_n 2, 1) := by decide +kernel
theorem dX6_hearAsMaker_84 : decode cX6_hearAsMaker 84 = .ok (.getfield 225, 3) := by decide +kernel
theorem dX6_hearAsMaker_87 : decode cX6_hearAsMaker 87 = .ok (.iconst 0, 1) := by decide +kernel
theorem dX6_hearAsMaker_88 : decode cX6_hearAsMaker 88 = .ok (.aconst_null, 1) := by decide +kernel
theorem dX6_hearAsMaker_89 : decode cX6_hearAsMaker 89 = .ok (.iconst 0, 1) := by decide +kernel
theorem dX6_hearAsMaker_90 : decode cX6_hearAsMaker 90 = .ok (.invokevirtual 51, 3) := by decide +kernel
theorem dX6_hearAsMaker_93 : decode cX6_hearAsMaker 93 = .ok (.istore_n 3, 1) := by decide +kernel
theorem dX6_hearAsMaker_94 : decode cX6_hearAsMaker 94 = .ok (.iload_n 3, 1) := by decide +kernel
theorem dX6_hearAsMaker_95 : decode cX6_hearAsMaker 95 = .ok (.bipush (-3), 2) := by decide +kernel
theorem dX6_hearAsMaker_97 : decode cX6_hearAsMaker 97 = .ok (.if_icmp .ne 10, 3) := by decide +kernel
theorem dX6_hearAsMaker_100 : decode cX6_hearAsMaker 100 = .ok (.aload_n 2, 1) := by decide +kernel
theorem dX6_hearAsMaker_101 : decode cX6_hearAsMaker 101 = .ok (.iconst 3, 1) := by decide +kernel
theorem dX6_hearAsMaker_102 : decode cX6_hearAsMaker 102 = .ok (.iconst 5, 1) := by decide +kernel
theorem dX6_hearAsMaker_103 : decode cX6_hearAsMaker 103 = .ok (.invokevirtual 282, 3) := by decide +kernel
theorem dX6_hearAsMaker_106 : decode cX6_hearAsMaker 106 = .ok (.ireturn, 1) := by decide +kernel
theorem dX6_hearAsMaker_107 : decode cX6_hearAsMaker 107 = .ok (.aload_n 1, 1) := by decide +kernel
theorem dX6_hearAsMaker_108 : decode cX6_hearAsMaker 108 = .ok (.dup, 1) := by decide +kernel
theorem dX6_hearAsMaker_109 : decode cX6_hearAsMaker 109 = .ok (.getfield 84, 3) := by decide +kernel
theorem dX6_hearAsMaker_112 : decode cX6_hearAsMaker 112 = .ok (.iconst 1, 1) := by decide +kernel
theorem dX6_hearAsMaker_113 : decode cX6_hearAsMaker 113 = .ok (.iadd, 1) := by decide +kernel
theorem dX6_hearAsMaker_114 : decode cX6_hearAsMaker 114 = .ok (.putfield 84, 3) := by decide +kernel
theorem dX6_hearAsMaker_117 : decode cX6_hearAsMaker 117 = .ok (.aload_n 2, 1) := by decide +kernel
theorem dX6_hearAsMaker_118 : decode cX6_hearAsMaker 118 = .ok (.iconst 2, 1) := by decide +kernel
theorem dX6_hearAsMaker_119 : decode cX6_hearAsMaker 119 = .ok (.iload_n 3, 1) := by decide +kernel
theorem dX6_hearAsMaker_120 : decode cX6_hearAsMaker 120 = .ok (.invokevirtual 282, 3) := by decide +kernel
theorem dX6_hearAsMaker_123 : decode cX6_hearAsMaker 123 = .ok (.ireturn, 1) := by decide +kernel
theorem dX6_hearAsGuard_0 : decode cX6_hearAsGuard 0 = .ok (.aload_n 0, 1) := by decide +kernel
theorem dX6_hearAsGuard_1 : decode cX6_hearAsGuard 1 = .ok (.dup, 1) := by decide +kernel
theorem dX6_hearAsGuard_2 : decode cX6_hearAsGuard 2 = .ok (.getfield 253, 3) := by decide +kernel
theorem dX6_hearAsGuard_5 : decode cX6_hearAsGuard 5 = .ok (.ldc2_w 295, 3) := by decide +kernel
theorem dX6_hearAsGuard_8 : decode cX6_hearAsGuard 8 = .ok (.ladd, 1) := by decide +kernel
theorem dX6_hearAsGuard_9 : decode cX6_hearAsGuard 9 = .ok (.putfield 253, 3) := by decide +kernel
theorem dX6_hearAsGuard_12 : decode cX6_hearAsGuard 12 = .ok (.aload_n 1, 1) := by decide +kernel
theorem dX6_hearAsGuard_13 : decode cX6_hearAsGuard 13 = .ok (.getfield 63, 3) := by decide +kernel
theorem dX6_hearAsGuard_16 : decode cX6_hearAsGuard 16 = .ok (.ifCond .eq 10, 3) := by decide +kernel
theorem dX6_hearAsGuard_19 : decode cX6_hearAsGuard 19 = .ok (.aload_n 2, 1) := by decide +kernel
theorem dX6_hearAsGuard_20 : decode cX6_hearAsGuard 20 = .ok (.iconst 3, 1) := by decide +kernel
theorem dX6_hearAsGuard_21 : decode cX6_hearAsGuard 21 = .ok (.iconst 4, 1) := by decide +kernel
theorem dX6_hearAsGuard_22 : decode cX6_hearAsGuard 22 = .ok (.invokevirtual 282, 3) := by decide +kernel
theorem dX6_hearAsGuard_25 : decode cX6_hearAsGuard 25 = .ok (.ireturn, 1) := by decide +kernel
theorem dX6_hearAsGuard_26 : decode cX6_hearAsGuard 26 = .ok (.aload_n 1, 1) := by decide +kernel
theorem dX6_hearAsGuard_27 : decode cX6_hearAsGuard 27 = .ok (.getfield 94, 3) := by decide +kernel
theorem dX6_hearAsGuard_30 : decode cX6_hearAsGuard 30 = .ok (.aload_n 2, 1) := by decide +kernel
theorem dX6_hearAsGuard_31 : decode cX6_hearAsGuard 31 = .ok (.getfield 219, 3) := by decide +kernel
theorem dX6_hearAsGuard_34 : decode cX6_hearAsGuard 34 = .ok (.ishr, 1) := by decide +kernel
theorem dX6_hearAsGuard_35 : decode cX6_hearAsGuard 35 = .ok (.iconst 1, 1) := by decide +kernel
theorem dX6_hearAsGuard_36 : decode cX6_hearAsGuard 36 = .ok (.iand, 1) := by decide +kernel
theorem dX6_hearAsGuard_37 : decode cX6_hearAsGuard 37 = .ok (.ifCond .ne 10, 3) := by decide +kernel
theorem dX6_hearAsGuard_40 : decode cX6_hearAsGuard 40 = .ok (.aload_n 2, 1) := by decide +kernel
theorem dX6_hearAsGuard_41 : decode cX6_hearAsGuard 41 = .ok (.iconst 3, 1) := by decide +kernel
theorem dX6_hearAsGuard_42 : decode cX6_hearAsGuard 42 = .ok (.iconst 3, 1) := by decide +kernel
theorem dX6_hearAsGuard_43 : decode cX6_hearAsGuard 43 = .ok (.invokevirtual 282, 3) := by decide +kernel
theorem dX6_hearAsGuard_46 : decode cX6_hearAsGuard 46 = .ok (.ireturn, 1) := by decide +kernel
theorem dX6_hearAsGuard_47 : decode cX6_hearAsGuard 47 = .ok (.aload_n 2, 1) := by decide +kernel
theorem dX6_hearAsGuard_48 : decode cX6_hearAsGuard 48 = .ok (.aload_n 1, 1) := by decide +kernel
theorem dX6_hearAsGuard_49 : decode cX6_hearAsGuard 49 = .ok (.getfield 87, 3) := by decide +kernel
theorem dX6_hearAsGuard_52 : decode cX6_hearAsGuard 52 = .ok (.putfield 118, 3) := by decide +kernel
theorem dX6_hearAsGuard_55 : decode cX6_hearAsGuard 55 = .ok (.iconst 3, 1) := by decide +kernel
theorem dX6_hearAsGuard_56 : decode cX6_hearAsGuard 56 = .ok (.ireturn, 1) := by decide +kernel
theorem dX6_hearAsSwitch_0 : decode cX6_hearAsSwitch 0 = .ok (.aload_n 0, 1) := by decide +kernel
theorem dX6_hearAsSwitch_1 : decode cX6_hearAsSwitch 1 = .ok (.dup, 1) := by decide +kernel
theorem dX6_hearAsSwitch_2 : decode cX6_hearAsSwitch 2 = .ok (.getfield 253, 3) := by decide +kernel
theorem dX6_hearAsSwitch_5 : decode cX6_hearAsSwitch 5 = .ok (.ldc2_w 297, 3) := by decide +kernel
theorem dX6_hearAsSwitch_8 : decode cX6_hearAsSwitch 8 = .ok (.ladd, 1) := by decide +kernel
theorem dX6_hearAsSwitch_9 : decode cX6_hearAsSwitch 9 = .ok (.putfield 253, 3) := by decide +kernel
theorem dX6_hearAsSwitch_12 : decode cX6_hearAsSwitch 12 = .ok (.aload_n 1, 1) := by decide +kernel
theorem dX6_hearAsSwitch_13 : decode cX6_hearAsSwitch 13 = .ok (.getfield 71, 3) := by decide +kernel
theorem dX6_hearAsSwitch_16 : decode cX6_hearAsSwitch 16 = .ok (.ifCond .eq 12, 3) := by decide +kernel
theorem dX6_hearAsSwitch_19 : decode cX6_hearAsSwitch 19 = .ok (.aload_n 2, 1) := by decide +kernel
theorem dX6_hearAsSwitch_20 : decode cX6_hearAsSwitch 20 = .ok (.iconst 3, 1) := by decide +kernel
theorem dX6_hearAsSwitch_21 : decode cX6_hearAsSwitch 21 = .ok (.iconst 4, 1) := by decide +kernel
theorem dX6_hearAsSwitch_22 : decode cX6_hearAsSwitch 22 = .ok (.invokevirtual 282, 3) := by decide +kernel
theorem dX6_hearAsSwitch_25 : decode cX6_hearAsSwitch 25 = .ok (.goto 9, 3) := by decide +kernel
theorem dX6_hearAsSwitch_28 : decode cX6_hearAsSwitch 28 = .ok (.aload_n 0, 1) := by decide +kernel
theorem dX6_hearAsSwitch_29 : decode cX6_hearAsSwitch 29 = .ok (.aload_n 1, 1) := by decide +kernel
theorem dX6_hearAsSwitch_30 : decode cX6_hearAsSwitch 30 = .ok (.aload_n 2, 1) := by decide +kernel
theorem dX6_hearAsSwitch_31 : decode cX6_hearAsSwitch 31 = .ok (.invokevirtual 267, 3) := by decide +kernel
theorem dX6_hearAsSwitch_34 : decode cX6_hearAsSwitch 34 = .ok (.ireturn, 1) := by decide +kernel
theorem dX6_hearAsJoiner_0 : decode cX6_hearAsJoiner 0 = .ok (.aload_n 0, 1) := by decide +kernel
theorem dX6_hearAsJoiner_1 : decode cX6_hearAsJoiner 1 = .ok (.dup, 1) := by decide +kernel
theorem dX6_hearAsJoiner_2 : decode cX6_hearAsJoiner 2 = .ok (.getfield 253, 3) := by decide +kernel
theorem dX6_hearAsJoiner_5 : decode cX6_hearAsJoiner 5 = .ok (.ldc2_w 299, 3) := by decide +kernel
theorem dX6_hearAsJoiner_8 : decode cX6_hearAsJoiner 8 = .ok (.ladd, 1) := by decide +kernel
theorem dX6_hearAsJoiner_9 : decode cX6_hearAsJoiner 9 = .ok (.putfield 253, 3) := by decide +kernel
theorem dX6_hearAsJoiner_12 : decode cX6_hearAsJoiner 12 = .ok (.aload_n 2, 1) := by decide +kernel
theorem dX6_hearAsJoiner_13 : decode cX6_hearAsJoiner 13 = .ok (.getfield 219, 3) := by decide +kernel
theorem dX6_hearAsJoiner_16 : decode cX6_hearAsJoiner 16 = .ok (.lookupswitch 61 #[(0, 36), (6, 59), (7, 49)], 36) := by decide +kernel
theorem dX6_hearAsJoiner_52 : decode cX6_hearAsJoiner 52 = .ok (.aload_n 2, 1) := by decide +kernel
theorem dX6_hearAsJoiner_53 : decode cX6_hearAsJoiner 53 = .ok (.iconst 1, 1) := by decide +kernel
theorem dX6_hearAsJoiner_54 : decode cX6_hearAsJoiner 54 = .ok (.aload_n 1, 1) := by decide +kernel
theorem dX6_hearAsJoiner_55 : decode cX6_hearAsJoiner 55 = .ok (.getfield 97, 3) := by decide +kernel
theorem dX6_hearAsJoiner_58 : decode cX6_hearAsJoiner 58 = .ok (.getfield 100, 3) := by decide +kernel
theorem dX6_hearAsJoiner_61 : decode cX6_hearAsJoiner 61 = .ok (.invokevirtual 282, 3) := by decide +kernel
theorem dX6_hearAsJoiner_64 : decode cX6_hearAsJoiner 64 = .ok (.ireturn, 1) := by decide +kernel
theorem dX6_hearAsJoiner_65 : decode cX6_hearAsJoiner 65 = .ok (.aload_n 2, 1) := by decide +kernel
theorem dX6_hearAsJoiner_66 : decode cX6_hearAsJoiner 66 = .ok (.iconst 2, 1) := by decide +kernel
theorem dX6_hearAsJoiner_67 : decode cX6_hearAsJoiner 67 = .ok (.aload_n 1, 1) := by decide +kernel
theorem dX6_hearAsJoiner_68 : decode cX6_hearAsJoiner 68 = .ok (.getfield 91, 3) := by decide +kernel
theorem dX6_hearAsJoiner_71 : decode cX6_hearAsJoiner 71 = .ok (.invokevirtual 282, 3) := by decide +kernel
theorem dX6_hearAsJoiner_74 : decode cX6_hearAsJoiner 74 = .ok (.ireturn, 1) := by decide +kernel
theorem dX6_hearAsJoiner_75 : decode cX6_hearAsJoiner 75 = .ok (.iconst 1, 1) := by decide +kernel
theorem dX6_hearAsJoiner_76 : decode cX6_hearAsJoiner 76 = .ok (.ireturn, 1) := by decide +kernel
theorem dX6_hearAsJoiner_77 : decode cX6_hearAsJoiner 77 = .ok (.aload_n 2, 1) := by decide +kernel
theorem dX6_hearAsJoiner_78 : decode cX6_hearAsJoiner 78 = .ok (.iconst 3, 1) := by decide +kernel
theorem dX6_hearAsJoiner_79 : decode cX6_hearAsJoiner 79 = .ok (.iconst 3, 1) := by decide +kernel
theorem dX6_hearAsJoiner_80 : decode cX6_hearAsJoiner 80 = .ok (.invokevirtual 282, 3) := by decide +kernel
theorem dX6_hearAsJoiner_83 : decode cX6_hearAsJoiner 83 = .ok (.ireturn, 1) := by decide +kernel
theorem dX6_hearAsSleeper_0 : decode cX6_hearAsSleeper 0 = .ok (.aload_n 0, 1) := by decide +kernel
theorem dX6_hearAsSleeper_1 : decode cX6_hearAsSleeper 1 = .ok (.dup, 1) := by decide +kernel
theorem dX6_hearAsSleeper_2 : decode cX6_hearAsSleeper 2 = .ok (.getfield 253, 3) := by decide +kernel
theorem dX6_hearAsSleeper_5 : decode cX6_hearAsSleeper 5 = .ok (.ldc2_w 301, 3) := by decide +kernel
theorem dX6_hearAsSleeper_8 : decode cX6_hearAsSleeper 8 = .ok (.ladd, 1) := by decide +kernel
theorem dX6_hearAsSleeper_9 : decode cX6_hearAsSleeper 9 = .ok (.putfield 253, 3) := by decide +kernel
theorem dX6_hearAsSleeper_12 : decode cX6_hearAsSleeper 12 = .ok (.aload_n 2, 1) := by decide +kernel
theorem dX6_hearAsSleeper_13 : decode cX6_hearAsSleeper 13 = .ok (.getfield 219, 3) := by decide +kernel
theorem dX6_hearAsSleeper_16 : decode cX6_hearAsSleeper 16 = .ok (.bipush 6, 2) := by decide +kernel
theorem dX6_hearAsSleeper_18 : decode cX6_hearAsSleeper 18 = .ok (.if_icmp .ne 7, 3) := by decide +kernel
theorem dX6_hearAsSleeper_21 : decode cX6_hearAsSleeper 21 = .ok (.iconst 1, 1) := by decide +kernel
theorem dX6_hearAsSleeper_22 : decode cX6_hearAsSleeper 22 = .ok (.goto 9, 3) := by decide +kernel
theorem dX6_hearAsSleeper_25 : decode cX6_hearAsSleeper 25 = .ok (.aload_n 0, 1) := by decide +kernel
theorem dX6_hearAsSleeper_26 : decode cX6_hearAsSleeper 26 = .ok (.aload_n 1, 1) := by decide +kernel
theorem dX6_hearAsSleeper_27 : decode cX6_hearAsSleeper 27 = .ok (.aload_n 2, 1) := by decide +kernel
theorem dX6_hearAsSleeper_28 : decode cX6_hearAsSleeper 28 = .ok (.invokevirtual 273, 3) := by decide +kernel
theorem dX6_hearAsSleeper_31 : decode cX6_hearAsSleeper 31 = .ok (.ireturn, 1) := by decide +kernel
theorem dX6_takeTurn_0 : decode cX6_takeTurn 0 = .ok (.aload_n 0, 1) := by decide +kernel
theorem dX6_takeTurn_1 : decode cX6_takeTurn 1 = .ok (.dup, 1) := by decide +kernel
theorem dX6_takeTurn_2 : decode cX6_takeTurn 2 = .ok (.getfield 250, 3) := by decide +kernel
theorem dX6_takeTurn_5 : decode cX6_takeTurn 5 = .ok (.iconst 1, 1) := by decide +kernel
theorem dX6_takeTurn_6 : decode cX6_takeTurn 6 = .ok (.iadd, 1) := by decide +kernel
theorem dX6_takeTurn_7 : decode cX6_takeTurn 7 = .ok (.putfield 250, 3) := by decide +kernel
theorem dX6_takeTurn_10 : decode cX6_takeTurn 10 = .ok (.aload_n 0, 1) := by decide +kernel
theorem dX6_takeTurn_11 : decode cX6_takeTurn 11 = .ok (.aload_n 1, 1) := by decide +kernel
theorem dX6_takeTurn_12 : decode cX6_takeTurn 12 = .ok (.aload_n 2, 1) := by decide +kernel
theorem dX6_takeTurn_13 : decode cX6_takeTurn 13 = .ok (.invokevirtual 303, 3) := by decide +kernel
theorem dX6_takeTurn_16 : decode cX6_takeTurn 16 = .ok (.lookupswitch 49 #[(1, 40), (3, 28)], 28) := by decide +kernel
theorem dX6_takeTurn_44 : decode cX6_takeTurn 44 = .ok (.aload_n 0, 1) := by decide +kernel
theorem dX6_takeTurn_45 : decode cX6_takeTurn 45 = .ok (.aload_n 2, 1) := by decide +kernel
theorem dX6_takeTurn_46 : decode cX6_takeTurn 46 = .ok (.aload_n 1, 1) := by decide +kernel
theorem dX6_takeTurn_47 : decode cX6_takeTurn 47 = .ok (.getfield 81, 3) := by decide +kernel
theorem dX6_takeTurn_50 : decode cX6_takeTurn 50 = .ok (.invokevirtual 135, 3) := by decide +kernel
theorem dX6_takeTurn_53 : decode cX6_takeTurn 53 = .ok (.goto 21, 3) := by decide +kernel
theorem dX6_takeTurn_56 : decode cX6_takeTurn 56 = .ok (.aload_n 0, 1) := by decide +kernel
theorem dX6_takeTurn_57 : decode cX6_takeTurn 57 = .ok (.aload_n 1, 1) := by decide +kernel
theorem dX6_takeTurn_58 : decode cX6_takeTurn 58 = .ok (.aload_n 2, 1) := by decide +kernel
theorem dX6_takeTurn_59 : decode cX6_takeTurn 59 = .ok (.invokevirtual 306, 3) := by decide +kernel
theorem dX6_takeTurn_62 : decode cX6_takeTurn 62 = .ok (.goto 12, 3) := by decide +kernel
theorem dX6_takeTurn_65 : decode cX6_takeTurn 65 = .ok (.aload_n 0, 1) := by decide +kernel
theorem dX6_takeTurn_66 : decode cX6_takeTurn 66 = .ok (.aload_n 2, 1) := by decide +kernel
theorem dX6_takeTurn_67 : decode cX6_takeTurn 67 = .ok (.aload_n 1, 1) := by decide +kernel
theorem dX6_takeTurn_68 : decode cX6_takeTurn 68 = .ok (.getfield 81, 3) := by decide +kernel
theorem dX6_takeTurn_71 : decode cX6_takeTurn 71 = .ok (.invokevirtual 310, 3) := by decide +kernel
theorem dX6_takeTurn_74 : decode cX6_takeTurn 74 = .ok (.return_, 1) := by decide +kernel
theorem dX6_hold_0 : decode cX6_hold 0 = .ok (.aload_n 2, 1) := by decide +kernel
theorem dX6_hold_1 : decode cX6_hold 1 = .ok (.iconst 1, 1) := by decide +kernel
theorem dX6_hold_2 : decode cX6_hold 2 = .ok (.putfield 173, 3) := by decide +kernel
theorem dX6_hold_5 : decode cX6_hold 5 = .ok (.aload_n 1, 1) := by decide +kernel
theorem dX6_hold_6 : decode cX6_hold 6 = .ok (.getfield 97, 3) := by decide +kernel
theorem dX6_hold_9 : decode cX6_hold 9 = .ok (.aload_n 2, 1) := by decide +kernel
theorem dX6_hold_10 : decode cX6_hold 10 = .ok (.invokevirtual 313, 3) := by decide +kernel
theorem dX6_hold_13 : decode cX6_hold 13 = .ok (.aload_n 1, 1) := by decide +kernel
theorem dX6_hold_14 : decode cX6_hold 14 = .ok (.getfield 59, 3) := by decide +kernel
theorem dX6_hold_17 : decode cX6_hold 17 = .ok (.iconst 5, 1) := by decide +kernel
theorem dX6_hold_18 : decode cX6_hold 18 = .ok (.if_icmp .ne 30, 3) := by decide +kernel
theorem dX6_hold_21 : decode cX6_hold 21 = .ok (.aload_n 1, 1) := by decide +kernel
theorem dX6_hold_22 : decode cX6_hold 22 = .ok (.getfield 97, 3) := by decide +kernel
theorem dX6_hold_25 : decode cX6_hold 25 = .ok (.getfield 100, 3) := by decide +kernel
theorem dX6_hold_28 : decode cX6_hold 28 = .ok (.aload_n 1, 1) := by decide +kernel
theorem dX6_hold_29 : decode cX6_hold 29 = .ok (.getfield 84, 3) := by decide +kernel
theorem dX6_hold_32 : decode cX6_hold 32 = .ok (.if_icmp .lt 16, 3) := by decide +kernel
theorem dX6_hold_35 : decode cX6_hold 35 = .ok (.aload_n 0, 1) := by decide +kernel
theorem dX6_hold_36 : decode cX6_hold 36 = .ok (.aload_n 1, 1) := by decide +kernel
theorem dX6_hold_37 : decode cX6_hold 37 = .ok (.aload_n 1, 1) := by decide +kernel
theorem dX6_hold_38 : decode cX6_hold 38 = .ok (.getfield 97, 3) := by decide +kernel
theorem dX6_hold_41 : decode cX6_hold 41 = .ok (.invokevirtual 317, 3) := by decide +kernel
theorem dX6_hold_44 : decode cX6_hold 44 = .ok (.invokevirtual 74, 3) := by decide +kernel
theorem dX6_hold_47 : decode cX6_hold 47 = .ok (.pop, 1) := by decide +kernel
theorem dX6_hold_48 : decode cX6_hold 48 = .ok (.return_, 1) := by decide +kernel
theorem dX6_answerHeld_0 : decode cX6_answerHeld 0 = .ok (.aload_n 1, 1) := by decide +kernel
theorem dX6_answerHeld_1 : decode cX6_answerHeld 1 = .ok (.getfield 97, 3) := by decide +kernel
theorem dX6_answerHeld_4 : decode cX6_answerHeld 4 = .ok (.getfield 100, 3) := by decide +kernel
theorem dX6_answerHeld_7 : decode cX6_answerHeld 7 = .ok (.istore_n 3, 1) := by decide +kernel
theorem dX6_answerHeld_8 : decode cX6_answerHeld 8 = .ok (.iconst 0, 1) := by decide +kernel
theorem dX6_answerHeld_9 : decode cX6_answerHeld 9 = .ok (.istore 4, 2) := by decide +kernel
theorem dX6_answerHeld_11 : decode cX6_answerHeld 11 = .ok (.iload 4, 2) := by decide +kernel
theorem dX6_answerHeld_13 : decode cX6_answerHeld 13 = .ok (.iload_n 3, 1) := by decide +kernel
theorem dX6_answerHeld_14 : decode cX6_answerHeld 14 = .ok (.if_icmp .ge 41, 3) := by decide +kernel
theorem dX6_answerHeld_17 : decode cX6_answerHeld 17 = .ok (.aload_n 1, 1) := by decide +kernel
theorem dX6_answerHeld_18 : decode cX6_answerHeld 18 = .ok (.getfield 97, 3) := by decide +kernel
theorem dX6_answerHeld_21 : decode cX6_answerHeld 21 = .ok (.invokevirtual 320, 3) := by decide +kernel
theorem dX6_answerHeld_24 : decode cX6_answerHeld 24 = .ok (.astore 5, 2) := by decide +kernel
theorem dX6_answerHeld_26 : decode cX6_answerHeld 26 = .ok (.aload 5, 2) := by decide +kernel
theorem dX6_answerHeld_28 : decode cX6_answerHeld 28 = .ok (.ifnull 21, 3) := by decide +kernel
theorem dX6_answerHeld_31 : decode cX6_answerHeld 31 = .ok (.aload 5, 2) := by decide +kernel
theorem dX6_answerHeld_33 : decode cX6_answerHeld 33 = .ok (.iconst 1, 1) := by decide +kernel
theorem dX6_answerHeld_34 : decode cX6_answerHeld 34 = .ok (.iload_n 2, 1) := by decide +kernel
theorem dX6_answerHeld_35 : decode cX6_answerHeld 35 = .ok (.invokevirtual 282, 3) := by decide +kernel
theorem dX6_answerHeld_38 : decode cX6_answerHeld 38 = .ok (.pop, 1) := by decide +kernel
theorem dX6_answerHeld_39 : decode cX6_answerHeld 39 = .ok (.aload_n 0, 1) := by decide +kernel
theorem dX6_answerHeld_40 : decode cX6_answerHeld 40 = .ok (.aload 5, 2) := by decide +kernel
theorem dX6_answerHeld_42 : decode cX6_answerHeld 42 = .ok (.aload_n 1, 1) := by decide +kernel
theorem dX6_answerHeld_43 : decode cX6_answerHeld 43 = .ok (.getfield 81, 3) := by decide +kernel
theorem dX6_answerHeld_46 : decode cX6_answerHeld 46 = .ok (.invokevirtual 310, 3) := by decide +kernel
theorem dX6_answerHeld_49 : decode cX6_answerHeld 49 = .ok (.iinc 4 1, 3) := by decide +kernel
theorem dX6_answerHeld_52 : decode cX6_answerHeld 52 = .ok (.goto (-41), 3) := by decide +kernel
theorem dX6_answerHeld_55 : decode cX6_answerHeld 55 = .ok (.iload_n 3, 1) := by decide +kernel
theorem dX6_answerHeld_56 : decode cX6_answerHeld 56 = .ok (.ireturn, 1) := by decide +kernel
theorem dX6_post_0 : decode cX6_post 0 = .ok (.aload_n 1, 1) := by decide +kernel
theorem dX6_post_1 : decode cX6_post 1 = .ok (.dup, 1) := by decide +kernel
theorem dX6_post_2 : decode cX6_post 2 = .ok (.getfield 170, 3) := by decide +kernel
theorem dX6_post_5 : decode cX6_post 5 = .ok (.iconst 1, 1) := by decide +kernel
theorem dX6_post_6 : decode cX6_post 6 = .ok (.iadd, 1) := by decide +kernel
theorem dX6_post_7 : decode cX6_post 7 = .ok (.putfield 170, 3) := by decide +kernel
theorem dX6_post_10 : decode cX6_post 10 = .ok (.aload_n 0, 1) := by decide +kernel
theorem dX6_post_11 : decode cX6_post 11 = .ok (.iload_n 2, 1) := by decide +kernel
theorem dX6_post_12 : decode cX6_post 12 = .ok (.iload_n 3, 1) := by decide +kernel
theorem dX6_post_13 : decode cX6_post 13 = .ok (.invokevirtual 176, 3) := by decide +kernel
theorem dX6_post_16 : decode cX6_post 16 = .ok (.astore 4, 2) := by decide +kernel
theorem dX6_post_18 : decode cX6_post 18 = .ok (.aload 4, 2) := by decide +kernel
theorem dX6_post_20 : decode cX6_post 20 = .ok (.ifnull 11, 3) := by decide +kernel
theorem dX6_post_23 : decode cX6_post 23 = .ok (.aload 4, 2) := by decide +kernel
theorem dX6_post_25 : decode cX6_post 25 = .ok (.getfield 197, 3) := by decide +kernel
theorem dX6_post_28 : decode cX6_post 28 = .ok (.ifCond .eq 5, 3) := by decide +kernel
theorem dX6_post_31 : decode cX6_post 31 = .ok (.iconst 0, 1) := by decide +kernel
theorem dX6_post_32 : decode cX6_post 32 = .ok (.ireturn, 1) := by decide +kernel
theorem dX6_post_33 : decode cX6_post 33 = .ok (.aload 4, 2) := by decide +kernel
theorem dX6_post_35 : decode cX6_post 35 = .ok (.getfield 200, 3) := by decide +kernel
theorem dX6_post_38 : decode cX6_post 38 = .ok (.aload_n 1, 1) := by decide +kernel
theorem dX6_post_39 : decode cX6_post 39 = .ok (.invokevirtual 313, 3) := by decide +kernel
theorem dX6_post_42 : decode cX6_post 42 = .ok (.iconst 1, 1) := by decide +kernel
theorem dX6_post_43 : decode cX6_post 43 = .ok (.ireturn, 1) := by decide +kernel
theorem dX6_send_0 : decode cX6_send 0 = .ok (.aload_n 1, 1) := by decide +kernel
theorem dX6_send_1 : decode cX6_send 1 = .ok (.iconst 3, 1) := by decide +kernel
theorem dX6_send_2 : decode cX6_send 2 = .ok (.putfield 173, 3) := by decide +kernel
theorem dX6_send_5 : decode cX6_send 5 = .ok (.aload_n 0, 1) := by decide +kernel
theorem dX6_send_6 : decode cX6_send 6 = .ok (.aload_n 1, 1) := by decide +kernel
theorem dX6_send_7 : decode cX6_send 7 = .ok (.iload_n 2, 1) := by decide +kernel
theorem dX6_send_8 : decode cX6_send 8 = .ok (.aload_n 1, 1) := by decide +kernel
theorem dX6_send_9 : decode cX6_send 9 = .ok (.invokevirtual 125, 3) := by decide +kernel
theorem dX6_send_12 : decode cX6_send 12 = .ok (.invokevirtual 324, 3) := by decide +kernel
theorem dX6_send_15 : decode cX6_send 15 = .ok (.ifCond .ne 13, 3) := by decide +kernel
theorem dX6_send_18 : decode cX6_send 18 = .ok (.aload_n 1, 1) := by decide +kernel
theorem dX6_send_19 : decode cX6_send 19 = .ok (.invokevirtual 328, 3) := by decide +kernel
theorem dX6_send_22 : decode cX6_send 22 = .ok (.aload_n 0, 1) := by decide +kernel
theorem dX6_send_23 : decode cX6_send 23 = .ok (.aload_n 1, 1) := by decide +kernel
theorem dX6_send_24 : decode cX6_send 24 = .ok (.iload_n 2, 1) := by decide +kernel
theorem dX6_send_25 : decode cX6_send 25 = .ok (.invokevirtual 310, 3) := by decide +kernel
theorem dX6_send_28 : decode cX6_send 28 = .ok (.return_, 1) := by decide +kernel
theorem dX6_settle_0 : decode cX6_settle 0 = .ok (.aload_n 1, 1) := by decide +kernel
theorem dX6_settle_1 : decode cX6_settle 1 = .ok (.iconst 0, 1) := by decide +kernel
theorem dX6_settle_2 : decode cX6_settle 2 = .ok (.putfield 173, 3) := by decide +kernel
theorem dX6_settle_5 : decode cX6_settle 5 = .ok (.aload_n 1, 1) := by decide +kernel
theorem dX6_settle_6 : decode cX6_settle 6 = .ok (.getfield 132, 3) := by decide +kernel
theorem dX6_settle_9 : decode cX6_settle 9 = .ok (.astore_n 3, 1) := by decide +kernel
theorem dX6_settle_10 : decode cX6_settle 10 = .ok (.aload_n 3, 1) := by decide +kernel
theorem dX6_settle_11 : decode cX6_settle 11 = .ok (.ifnonnull 4, 3) := by decide +kernel
theorem dX6_settle_14 : decode cX6_settle 14 = .ok (.return_, 1) := by decide +kernel
theorem dX6_settle_15 : decode cX6_settle 15 = .ok (.aload_n 1, 1) := by decide +kernel
theorem dX6_settle_16 : decode cX6_settle 16 = .ok (.iconst 1, 1) := by decide +kernel
theorem dX6_settle_17 : decode cX6_settle 17 = .ok (.putfield 213, 3) := by decide +kernel
theorem dX6_settle_20 : decode cX6_settle 20 = .ok (.iload_n 2, 1) := by decide +kernel
theorem dX6_settle_21 : decode cX6_settle 21 = .ok (.aload_n 3, 1) := by decide +kernel
theorem dX6_settle_22 : decode cX6_settle 22 = .ok (.getfield 160, 3) := by decide +kernel
theorem dX6_settle_25 : decode cX6_settle 25 = .ok (.if_icmp .ne 14, 3) := by decide +kernel
theorem dX6_settle_28 : decode cX6_settle 28 = .ok (.aload_n 0, 1) := by decide +kernel
theorem dX6_settle_29 : decode cX6_settle 29 = .ok (.getfield 36, 3) := by decide +kernel
theorem dX6_settle_32 : decode cX6_settle 32 = .ok (.aload_n 1, 1) := by decide +kernel
theorem dX6_settle_33 : decode cX6_settle 33 = .ok (.invokevirtual 313, 3) := by decide +kernel
theorem dX6_settle_36 : decode cX6_settle 36 = .ok (.goto 28, 3) := by decide +kernel
theorem dX6_settle_39 : decode cX6_settle 39 = .ok (.aload_n 0, 1) := by decide +kernel
theorem dX6_settle_40 : decode cX6_settle 40 = .ok (.aload_n 1, 1) := by decide +kernel
theorem dX6_settle_41 : decode cX6_settle 41 = .ok (.iload_n 2, 1) := by decide +kernel
theorem dX6_settle_42 : decode cX6_settle 42 = .ok (.aload_n 3, 1) := by decide +kernel
theorem dX6_settle_43 : decode cX6_settle 43 = .ok (.getfield 160, 3) := by decide +kernel
theorem dX6_settle_46 : decode cX6_settle 46 = .ok (.invokevirtual 324, 3) := by decide +kernel
theorem dX6_settle_49 : decode cX6_settle 49 = .ok (.ifCond .ne 15, 3) := by decide +kernel
theorem dX6_settle_52 : decode cX6_settle 52 = .ok (.aload_n 1, 1) := by decide +kernel
theorem dX6_settle_53 : decode cX6_settle 53 = .ok (.invokevirtual 328, 3) := by decide +kernel
theorem dX6_settle_56 : decode cX6_settle 56 = .ok (.aload_n 0, 1) := by decide +kernel
theorem dX6_settle_57 : decode cX6_settle 57 = .ok (.getfield 36, 3) := by decide +kernel
theorem dX6_settle_60 : decode cX6_settle 60 = .ok (.aload_n 1, 1) := by decide +kernel
theorem dX6_settle_61 : decode cX6_settle 61 = .ok (.invokevirtual 313, 3) := by decide +kernel
theorem dX6_settle_64 : decode cX6_settle 64 = .ok (.return_, 1) := by decide +kernel
theorem dX6_doAll_0 : decode cX6_doAll 0 = .ok (.iconst 0, 1) := by decide +kernel
theorem dX6_doAll_1 : decode cX6_doAll 1 = .ok (.istore_n 1, 1) := by decide +kernel
theorem dX6_doAll_2 : decode cX6_doAll 2 = .ok (.iload_n 1, 1) := by decide +kernel
theorem dX6_doAll_3 : decode cX6_doAll 3 = .ok (.sipush 1000, 3) := by decide +kernel
theorem dX6_doAll_6 : decode cX6_doAll 6 = .ok (.if_icmp .ge 47, 3) := by decide +kernel
theorem dX6_doAll_9 : decode cX6_doAll 9 = .ok (.aload_n 0, 1) := by decide +kernel
theorem dX6_doAll_10 : decode cX6_doAll 10 = .ok (.getfield 36, 3) := by decide +kernel
theorem dX6_doAll_13 : decode cX6_doAll 13 = .ok (.getfield 100, 3) := by decide +kernel
theorem dX6_doAll_16 : decode cX6_doAll 16 = .ok (.ifCond .le 37, 3) := by decide +kernel
theorem dX6_doAll_19 : decode cX6_doAll 19 = .ok (.aload_n 0, 1) := by decide +kernel
theorem dX6_doAll_20 : decode cX6_doAll 20 = .ok (.getfield 36, 3) := by decide +kernel
theorem dX6_doAll_23 : decode cX6_doAll 23 = .ok (.invokevirtual 320, 3) := by decide +kernel
theorem dX6_doAll_26 : decode cX6_doAll 26 = .ok (.astore_n 2, 1) := by decide +kernel
theorem dX6_doAll_27 : decode cX6_doAll 27 = .ok (.aload_n 2, 1) := by decide +kernel
theorem dX6_doAll_28 : decode cX6_doAll 28 = .ok (.ifnull 19, 3) := by decide +kernel
theorem dX6_doAll_31 : decode cX6_doAll 31 = .ok (.aload_n 2, 1) := by decide +kernel
theorem dX6_doAll_32 : decode cX6_doAll 32 = .ok (.getfield 132, 3) := by decide +kernel
theorem dX6_doAll_35 : decode cX6_doAll 35 = .ok (.ifnull 12, 3) := by decide +kernel
theorem dX6_doAll_38 : decode cX6_doAll 38 = .ok (.aload_n 0, 1) := by decide +kernel
theorem dX6_doAll_39 : decode cX6_doAll 39 = .ok (.aload_n 2, 1) := by decide +kernel
theorem dX6_doAll_40 : decode cX6_doAll 40 = .ok (.getfield 132, 3) := by decide +kernel
theorem dX6_doAll_43 : decode cX6_doAll 43 = .ok (.aload_n 2, 1) := by decide +kernel
theorem dX6_doAll_44 : decode cX6_doAll 44 = .ok (.invokevirtual 331, 3) := by decide +kernel
theorem dX6_doAll_47 : decode cX6_doAll 47 = .ok (.iinc 1 1, 3) := by decide +kernel
theorem dX6_doAll_50 : decode cX6_doAll 50 = .ok (.goto (-48), 3) := by decide +kernel
theorem dX6_doAll_53 : decode cX6_doAll 53 = .ok (.return_, 1) := by decide +kernel
theorem dX6_fulfil_0 : decode cX6_fulfil 0 = .ok (.aload_n 1, 1) := by decide +kernel
theorem dX6_fulfil_1 : decode cX6_fulfil 1 = .ok (.aload_n 2, 1) := by decide +kernel
theorem dX6_fulfil_2 : decode cX6_fulfil 2 = .ok (.getfield 216, 3) := by decide +kernel
theorem dX6_fulfil_5 : decode cX6_fulfil 5 = .ok (.putfield 335, 3) := by decide +kernel
theorem dX6_fulfil_8 : decode cX6_fulfil 8 = .ok (.aload_n 1, 1) := by decide +kernel
theorem dX6_fulfil_9 : decode cX6_fulfil 9 = .ok (.aload_n 2, 1) := by decide +kernel
theorem dX6_fulfil_10 : decode cX6_fulfil 10 = .ok (.getfield 222, 3) := by decide +kernel
theorem dX6_fulfil_13 : decode cX6_fulfil 13 = .ok (.putfield 338, 3) := by decide +kernel
theorem dX6_fulfil_16 : decode cX6_fulfil 16 = .ok (.aload_n 1, 1) := by decide +kernel
theorem dX6_fulfil_17 : decode cX6_fulfil 17 = .ok (.getfield 163, 3) := by decide +kernel
theorem dX6_fulfil_20 : decode cX6_fulfil 20 = .ok (.getfield 100, 3) := by decide +kernel
theorem dX6_fulfil_23 : decode cX6_fulfil 23 = .ok (.istore_n 3, 1) := by decide +kernel
theorem dX6_fulfil_24 : decode cX6_fulfil 24 = .ok (.iconst 0, 1) := by decide +kernel
theorem dX6_fulfil_25 : decode cX6_fulfil 25 = .ok (.istore 4, 2) := by decide +kernel
theorem dX6_fulfil_27 : decode cX6_fulfil 27 = .ok (.iload 4, 2) := by decide +kernel
theorem dX6_fulfil_29 : decode cX6_fulfil 29 = .ok (.iload_n 3, 1) := by decide +kernel
theorem dX6_fulfil_30 : decode cX6_fulfil 30 = .ok (.if_icmp .ge 30, 3) := by decide +kernel
theorem dX6_fulfil_33 : decode cX6_fulfil 33 = .ok (.aload_n 1, 1) := by decide +kernel
theorem dX6_fulfil_34 : decode cX6_fulfil 34 = .ok (.getfield 163, 3) := by decide +kernel
theorem dX6_fulfil_37 : decode cX6_fulfil 37 = .ok (.invokevirtual 320, 3) := by decide +kernel
theorem dX6_fulfil_40 : decode cX6_fulfil 40 = .ok (.astore 5, 2) := by decide +kernel
theorem dX6_fulfil_42 : decode cX6_fulfil 42 = .ok (.aload 5, 2) := by decide +kernel
theorem dX6_fulfil_44 : decode cX6_fulfil 44 = .ok (.ifnull 10, 3) := by decide +kernel
theorem dX6_fulfil_47 : decode cX6_fulfil 47 = .ok (.aload_n 0, 1) := by decide +kernel
theorem dX6_fulfil_48 : decode cX6_fulfil 48 = .ok (.aload 5, 2) := by decide +kernel
theorem dX6_fulfil_50 : decode cX6_fulfil 50 = .ok (.aload_n 1, 1) := by decide +kernel
theorem dX6_fulfil_51 : decode cX6_fulfil 51 = .ok (.invokevirtual 341, 3) := by decide +kernel
theorem dX6_fulfil_54 : decode cX6_fulfil 54 = .ok (.iinc 4 1, 3) := by decide +kernel
theorem dX6_fulfil_57 : decode cX6_fulfil 57 = .ok (.goto (-30), 3) := by decide +kernel
theorem dX6_fulfil_60 : decode cX6_fulfil 60 = .ok (.aload_n 1, 1) := by decide +kernel
theorem dX6_fulfil_61 : decode cX6_fulfil 61 = .ok (.getfield 157, 3) := by decide +kernel
theorem dX6_fulfil_64 : decode cX6_fulfil 64 = .ok (.aload_n 1, 1) := by decide +kernel
theorem dX6_fulfil_65 : decode cX6_fulfil 65 = .ok (.getfield 160, 3) := by decide +kernel
theorem dX6_fulfil_68 : decode cX6_fulfil 68 = .ok (.if_icmp .eq 29, 3) := by decide +kernel
theorem dX6_fulfil_71 : decode cX6_fulfil 71 = .ok (.aload_n 0, 1) := by decide +kernel
theorem dX6_fulfil_72 : decode cX6_fulfil 72 = .ok (.aload_n 2, 1) := by decide +kernel
theorem dX6_fulfil_73 : decode cX6_fulfil 73 = .ok (.aload_n 1, 1) := by decide +kernel
theorem dX6_fulfil_74 : decode cX6_fulfil 74 = .ok (.getfield 160, 3) := by decide +kernel
theorem dX6_fulfil_77 : decode cX6_fulfil 77 = .ok (.aload_n 1, 1) := by decide +kernel
theorem dX6_fulfil_78 : decode cX6_fulfil 78 = .ok (.getfield 157, 3) := by decide +kernel
theorem dX6_fulfil_81 : decode cX6_fulfil 81 = .ok (.invokevirtual 324, 3) := by decide +kernel
theorem dX6_fulfil_84 : decode cX6_fulfil 84 = .ok (.ifCond .ne 13, 3) := by decide +kernel
theorem dX6_fulfil_87 : decode cX6_fulfil 87 = .ok (.aload_n 2, 1) := by decide +kernel
theorem dX6_fulfil_88 : decode cX6_fulfil 88 = .ok (.invokevirtual 328, 3) := by decide +kernel
theorem dX6_fulfil_91 : decode cX6_fulfil 91 = .ok (.aload_n 0, 1) := by decide +kernel
theorem dX6_fulfil_92 : decode cX6_fulfil 92 = .ok (.aload_n 1, 1) := by decide +kernel
theorem dX6_fulfil_93 : decode cX6_fulfil 93 = .ok (.aload_n 2, 1) := by decide +kernel
theorem dX6_fulfil_94 : decode cX6_fulfil 94 = .ok (.invokevirtual 345, 3) := by decide +kernel
theorem dX6_fulfil_97 : decode cX6_fulfil 97 = .ok (.aload_n 0, 1) := by decide +kernel
theorem dX6_fulfil_98 : decode cX6_fulfil 98 = .ok (.aload_n 1, 1) := by decide +kernel
theorem dX6_fulfil_99 : decode cX6_fulfil 99 = .ok (.aload_n 1, 1) := by decide +kernel
theorem dX6_fulfil_100 : decode cX6_fulfil 100 = .ok (.getfield 160, 3) := by decide +kernel
theorem dX6_fulfil_103 : decode cX6_fulfil 103 = .ok (.invokevirtual 348, 3) := by decide +kernel
theorem dX6_fulfil_106 : decode cX6_fulfil 106 = .ok (.return_, 1) := by decide +kernel
theorem dX6_tellAsker_0 : decode cX6_tellAsker 0 = .ok (.aload_n 1, 1) := by decide +kernel
theorem dX6_tellAsker_1 : decode cX6_tellAsker 1 = .ok (.aload_n 2, 1) := by decide +kernel
theorem dX6_tellAsker_2 : decode cX6_tellAsker 2 = .ok (.getfield 216, 3) := by decide +kernel
theorem dX6_tellAsker_5 : decode cX6_tellAsker 5 = .ok (.putfield 352, 3) := by decide +kernel
theorem dX6_tellAsker_8 : decode cX6_tellAsker 8 = .ok (.aload_n 1, 1) := by decide +kernel
theorem dX6_tellAsker_9 : decode cX6_tellAsker 9 = .ok (.aload_n 2, 1) := by decide +kernel
theorem dX6_tellAsker_10 : decode cX6_tellAsker 10 = .ok (.getfield 222, 3) := by decide +kernel
theorem dX6_tellAsker_13 : decode cX6_tellAsker 13 = .ok (.putfield 355, 3) := by decide +kernel
theorem dX6_tellAsker_16 : decode cX6_tellAsker 16 = .ok (.aload_n 0, 1) := by decide +kernel
theorem dX6_tellAsker_17 : decode cX6_tellAsker 17 = .ok (.aload_n 1, 1) := by decide +kernel
theorem dX6_tellAsker_18 : decode cX6_tellAsker 18 = .ok (.aload_n 1, 1) := by decide +kernel
theorem dX6_tellAsker_19 : decode cX6_tellAsker 19 = .ok (.getfield 157, 3) := by decide +kernel
theorem dX6_tellAsker_22 : decode cX6_tellAsker 22 = .ok (.invokevirtual 348, 3) := by decide +kernel
theorem dX6_tellAsker_25 : decode cX6_tellAsker 25 = .ok (.return_, 1) := by decide +kernel
theorem dX6_sendOn_0 : decode cX6_sendOn 0 = .ok (.aload_n 2, 1) := by decide +kernel
theorem dX6_sendOn_1 : decode cX6_sendOn 1 = .ok (.getfield 335, 3) := by decide +kernel
theorem dX6_sendOn_4 : decode cX6_sendOn 4 = .ok (.iconst 2, 1) := by decide +kernel
theorem dX6_sendOn_5 : decode cX6_sendOn 5 = .ok (.if_icmp .ne 14, 3) := by decide +kernel
theorem dX6_sendOn_8 : decode cX6_sendOn 8 = .ok (.aload_n 0, 1) := by decide +kernel
theorem dX6_sendOn_9 : decode cX6_sendOn 9 = .ok (.aload_n 2, 1) := by decide +kernel
theorem dX6_sendOn_10 : decode cX6_sendOn 10 = .ok (.getfield 338, 3) := by decide +kernel
theorem dX6_sendOn_13 : decode cX6_sendOn 13 = .ok (.invokevirtual 55, 3) := by decide +kernel
theorem dX6_sendOn_16 : decode cX6_sendOn 16 = .ok (.goto 4, 3) := by decide +kernel
theorem dX6_sendOn_19 : decode cX6_sendOn 19 = .ok (.aconst_null, 1) := by decide +kernel
theorem dX6_sendOn_20 : decode cX6_sendOn 20 = .ok (.astore_n 3, 1) := by decide +kernel
theorem dX6_sendOn_21 : decode cX6_sendOn 21 = .ok (.aload_n 3, 1) := by decide +kernel
theorem dX6_sendOn_22 : decode cX6_sendOn 22 = .ok (.ifnull 25, 3) := by decide +kernel
theorem dX6_sendOn_25 : decode cX6_sendOn 25 = .ok (.aload_n 1, 1) := by decide +kernel
theorem dX6_sendOn_26 : decode cX6_sendOn 26 = .ok (.aconst_null, 1) := by decide +kernel
theorem dX6_sendOn_27 : decode cX6_sendOn 27 = .ok (.putfield 121, 3) := by decide +kernel
theorem dX6_sendOn_30 : decode cX6_sendOn 30 = .ok (.aload_n 1, 1) := by decide +kernel
theorem dX6_sendOn_31 : decode cX6_sendOn 31 = .ok (.aload_n 3, 1) := by decide +kernel
theorem dX6_sendOn_32 : decode cX6_sendOn 32 = .ok (.putfield 118, 3) := by decide +kernel
theorem dX6_sendOn_35 : decode cX6_sendOn 35 = .ok (.aload_n 0, 1) := by decide +kernel
theorem dX6_sendOn_36 : decode cX6_sendOn 36 = .ok (.aload_n 1, 1) := by decide +kernel
theorem dX6_sendOn_37 : decode cX6_sendOn 37 = .ok (.aload_n 2, 1) := by decide +kernel
theorem dX6_sendOn_38 : decode cX6_sendOn 38 = .ok (.getfield 160, 3) := by decide +kernel
theorem dX6_sendOn_41 : decode cX6_sendOn 41 = .ok (.invokevirtual 135, 3) := by decide +kernel
theorem dX6_sendOn_44 : decode cX6_sendOn 44 = .ok (.goto 34, 3) := by decide +kernel
theorem dX6_sendOn_47 : decode cX6_sendOn 47 = .ok (.aload_n 1, 1) := by decide +kernel
theorem dX6_sendOn_48 : decode cX6_sendOn 48 = .ok (.iconst 3, 1) := by decide +kernel
theorem dX6_sendOn_49 : decode cX6_sendOn 49 = .ok (.aload_n 2, 1) := by decide +kernel
theorem dX6_sendOn_50 : decode cX6_sendOn 50 = .ok (.getfield 335, 3) := by decide +kernel
theorem dX6_sendOn_53 : decode cX6_sendOn 53 = .ok (.iconst 3, 1) := by decide +kernel
theorem dX6_sendOn_54 : decode cX6_sendOn 54 = .ok (.if_icmp .ne 10, 3) := by decide +kernel
theorem dX6_sendOn_57 : decode cX6_sendOn 57 = .ok (.aload_n 2, 1) := by decide +kernel
theorem dX6_sendOn_58 : decode cX6_sendOn 58 = .ok (.getfield 338, 3) := by decide +kernel
theorem dX6_sendOn_61 : decode cX6_sendOn 61 = .ok (.goto 4, 3) := by decide +kernel
theorem dX6_sendOn_64 : decode cX6_sendOn 64 = .ok (.iconst 3, 1) := by decide +kernel
theorem dX6_sendOn_65 : decode cX6_sendOn 65 = .ok (.invokevirtual 282, 3) := by decide +kernel
theorem dX6_sendOn_68 : decode cX6_sendOn 68 = .ok (.pop, 1) := by decide +kernel
theorem dX6_sendOn_69 : decode cX6_sendOn 69 = .ok (.aload_n 0, 1) := by decide +kernel
theorem dX6_sendOn_70 : decode cX6_sendOn 70 = .ok (.aload_n 1, 1) := by decide +kernel
theorem dX6_sendOn_71 : decode cX6_sendOn 71 = .ok (.aload_n 2, 1) := by decide +kernel
theorem dX6_sendOn_72 : decode cX6_sendOn 72 = .ok (.getfield 160, 3) := by decide +kernel
theorem dX6_sendOn_75 : decode cX6_sendOn 75 = .ok (.invokevirtual 310, 3) := by decide +kernel
theorem dX6_sendOn_78 : decode cX6_sendOn 78 = .ok (.return_, 1) := by decide +kernel
theorem dX6_postWhens_0 : decode cX6_postWhens 0 = .ok (.iconst 0, 1) := by decide +kernel
theorem dX6_postWhens_1 : decode cX6_postWhens 1 = .ok (.istore_n 3, 1) := by decide +kernel
theorem dX6_postWhens_2 : decode cX6_postWhens 2 = .ok (.iload_n 3, 1) := by decide +kernel
theorem dX6_postWhens_3 : decode cX6_postWhens 3 = .ok (.aload_n 0, 1) := by decide +kernel
theorem dX6_postWhens_4 : decode cX6_postWhens 4 = .ok (.getfield 140, 3) := by decide +kernel
theorem dX6_postWhens_7 : decode cX6_postWhens 7 = .ok (.if_icmp .ge 55, 3) := by decide +kernel
theorem dX6_postWhens_10 : decode cX6_postWhens 10 = .ok (.iload_n 3, 1) := by decide +kernel
theorem dX6_postWhens_11 : decode cX6_postWhens 11 = .ok (.aload_n 0, 1) := by decide +kernel
theorem dX6_postWhens_12 : decode cX6_postWhens 12 = .ok (.getfield 23, 3) := by decide +kernel
theorem dX6_postWhens_15 : decode cX6_postWhens 15 = .ok (.arraylength, 1) := by decide +kernel
theorem dX6_postWhens_16 : decode cX6_postWhens 16 = .ok (.if_icmp .ge 46, 3) := by decide +kernel
theorem dX6_postWhens_19 : decode cX6_postWhens 19 = .ok (.aload_n 0, 1) := by decide +kernel
theorem dX6_postWhens_20 : decode cX6_postWhens 20 = .ok (.getfield 23, 3) := by decide +kernel
theorem dX6_postWhens_23 : decode cX6_postWhens 23 = .ok (.iload_n 3, 1) := by decide +kernel
theorem dX6_postWhens_24 : decode cX6_postWhens 24 = .ok (.aaload, 1) := by decide +kernel
theorem dX6_postWhens_25 : decode cX6_postWhens 25 = .ok (.astore 4, 2) := by decide +kernel
theorem dX6_postWhens_27 : decode cX6_postWhens 27 = .ok (.aload 4, 2) := by decide +kernel
theorem dX6_postWhens_29 : decode cX6_postWhens 29 = .ok (.ifnull 27, 3) := by decide +kernel
theorem dX6_postWhens_32 : decode cX6_postWhens 32 = .ok (.aload 4, 2) := by decide +kernel
theorem dX6_postWhens_34 : decode cX6_postWhens 34 = .ok (.getfield 358, 3) := by decide +kernel
theorem dX6_postWhens_37 : decode cX6_postWhens 37 = .ok (.aload_n 1, 1) := by decide +kernel
theorem dX6_postWhens_38 : decode cX6_postWhens 38 = .ok (.if_acmp .ne 18, 3) := by decide +kernel
theorem dX6_postWhens_41 : decode cX6_postWhens 41 = .ok (.aload 4, 2) := by decide +kernel
theorem dX6_postWhens_43 : decode cX6_postWhens 43 = .ok (.getfield 359, 3) := by decide +kernel
theorem dX6_postWhens_46 : decode cX6_postWhens 46 = .ok (.iload_n 2, 1) := by decide +kernel
theorem dX6_postWhens_47 : decode cX6_postWhens 47 = .ok (.if_icmp .ne 9, 3) := by decide +kernel
theorem dX6_postWhens_50 : decode cX6_postWhens 50 = .ok (.aload_n 0, 1) := by decide +kernel
theorem dX6_postWhens_51 : decode cX6_postWhens 51 = .ok (.aload 4, 2) := by decide +kernel
theorem dX6_postWhens_53 : decode cX6_postWhens 53 = .ok (.invokevirtual 150, 3) := by decide +kernel
theorem dX6_postWhens_56 : decode cX6_postWhens 56 = .ok (.iinc 3 1, 3) := by decide +kernel
theorem dX6_postWhens_59 : decode cX6_postWhens 59 = .ok (.goto (-57), 3) := by decide +kernel
theorem dX6_postWhens_62 : decode cX6_postWhens 62 = .ok (.return_, 1) := by decide +kernel
theorem dX6_postWhen_0 : decode cX6_postWhen 0 = .ok (.aload_n 1, 1) := by decide +kernel
theorem dX6_postWhen_1 : decode cX6_postWhen 1 = .ok (.getfield 358, 3) := by decide +kernel
theorem dX6_postWhen_4 : decode cX6_postWhen 4 = .ok (.aload_n 1, 1) := by decide +kernel
theorem dX6_postWhen_5 : decode cX6_postWhen 5 = .ok (.getfield 359, 3) := by decide +kernel
theorem dX6_postWhen_8 : decode cX6_postWhen 8 = .ok (.invokevirtual 154, 3) := by decide +kernel
theorem dX6_postWhen_11 : decode cX6_postWhen 11 = .ok (.istore_n 2, 1) := by decide +kernel
theorem dX6_postWhen_12 : decode cX6_postWhen 12 = .ok (.aload_n 1, 1) := by decide +kernel
theorem dX6_postWhen_13 : decode cX6_postWhen 13 = .ok (.getfield 358, 3) := by decide +kernel
theorem dX6_postWhen_16 : decode cX6_postWhen 16 = .ok (.aload_n 1, 1) := by decide +kernel
theorem dX6_postWhen_17 : decode cX6_postWhen 17 = .ok (.getfield 359, 3) := by decide +kernel
theorem dX6_postWhen_20 : decode cX6_postWhen 20 = .ok (.invokevirtual 146, 3) := by decide +kernel
theorem dX6_postWhen_23 : decode cX6_postWhen 23 = .ok (.iconst 3, 1) := by decide +kernel
theorem dX6_postWhen_24 : decode cX6_postWhen 24 = .ok (.if_icmp .ne 7, 3) := by decide +kernel
theorem dX6_postWhen_27 : decode cX6_postWhen 27 = .ok (.iconst 1, 1) := by decide +kernel
theorem dX6_postWhen_28 : decode cX6_postWhen 28 = .ok (.goto 4, 3) := by decide +kernel
theorem dX6_postWhen_31 : decode cX6_postWhen 31 = .ok (.iconst 0, 1) := by decide +kernel
theorem dX6_postWhen_32 : decode cX6_postWhen 32 = .ok (.istore_n 3, 1) := by decide +kernel
theorem dX6_postWhen_33 : decode cX6_postWhen 33 = .ok (.new 113, 3) := by decide +kernel
theorem dX6_postWhen_36 : decode cX6_postWhen 36 = .ok (.dup, 1) := by decide +kernel
theorem dX6_postWhen_37 : decode cX6_postWhen 37 = .ok (.iconst 2, 1) := by decide +kernel
theorem dX6_postWhen_38 : decode cX6_postWhen 38 = .ok (.iload_n 3, 1) := by decide +kernel
theorem dX6_postWhen_39 : decode cX6_postWhen 39 = .ok (.ifCond .eq 8, 3) := by decide +kernel
theorem dX6_postWhen_42 : decode cX6_postWhen 42 = .ok (.iload_n 2, 1) := by decide +kernel
theorem dX6_postWhen_43 : decode cX6_postWhen 43 = .ok (.ineg, 1) := by decide +kernel
theorem dX6_postWhen_44 : decode cX6_postWhen 44 = .ok (.goto 4, 3) := by decide +kernel
theorem dX6_postWhen_47 : decode cX6_postWhen 47 = .ok (.iload_n 2, 1) := by decide +kernel
theorem dX6_postWhen_48 : decode cX6_postWhen 48 = .ok (.aconst_null, 1) := by decide +kernel
theorem dX6_postWhen_49 : decode cX6_postWhen 49 = .ok (.invokespecial 115, 3) := by decide +kernel
theorem dX6_postWhen_52 : decode cX6_postWhen 52 = .ok (.astore 4, 2) := by decide +kernel
theorem dX6_postWhen_54 : decode cX6_postWhen 54 = .ok (.aload 4, 2) := by decide +kernel
theorem dX6_postWhen_56 : decode cX6_postWhen 56 = .ok (.aload_n 1, 1) := by decide +kernel
theorem dX6_postWhen_57 : decode cX6_postWhen 57 = .ok (.getfield 360, 3) := by decide +kernel
theorem dX6_postWhen_60 : decode cX6_postWhen 60 = .ok (.putfield 118, 3) := by decide +kernel
theorem dX6_postWhen_63 : decode cX6_postWhen 63 = .ok (.aload_n 0, 1) := by decide +kernel
theorem dX6_postWhen_64 : decode cX6_postWhen 64 = .ok (.aload 4, 2) := by decide +kernel
theorem dX6_postWhen_66 : decode cX6_postWhen 66 = .ok (.aload_n 1, 1) := by decide +kernel
theorem dX6_postWhen_67 : decode cX6_postWhen 67 = .ok (.getfield 359, 3) := by decide +kernel
theorem dX6_postWhen_70 : decode cX6_postWhen 70 = .ok (.aload_n 1, 1) := by decide +kernel
theorem dX6_postWhen_71 : decode cX6_postWhen 71 = .ok (.getfield 359, 3) := by decide +kernel
theorem dX6_postWhen_74 : decode cX6_postWhen 74 = .ok (.invokevirtual 324, 3) := by decide +kernel
theorem dX6_postWhen_77 : decode cX6_postWhen 77 = .ok (.pop, 1) := by decide +kernel
theorem dX6_postWhen_78 : decode cX6_postWhen 78 = .ok (.return_, 1) := by decide +kernel
theorem dX6_deliverFirst_0 : decode cX6_deliverFirst 0 = .ok (.aload_n 1, 1) := by decide +kernel
theorem dX6_deliverFirst_1 : decode cX6_deliverFirst 1 = .ok (.getfield 200, 3) := by decide +kernel
theorem dX6_deliverFirst_4 : decode cX6_deliverFirst 4 = .ok (.invokevirtual 320, 3) := by decide +kernel
theorem dX6_deliverFirst_7 : decode cX6_deliverFirst 7 = .ok (.astore_n 2, 1) := by decide +kernel
theorem dX6_deliverFirst_8 : decode cX6_deliverFirst 8 = .ok (.aload_n 2, 1) := by decide +kernel
theorem dX6_deliverFirst_9 : decode cX6_deliverFirst 9 = .ok (.ifnonnull 6, 3) := by decide +kernel
theorem dX6_deliverFirst_12 : decode cX6_deliverFirst 12 = .ok (.bipush (-9), 2) := by decide +kernel
theorem dX6_deliverFirst_14 : decode cX6_deliverFirst 14 = .ok (.ireturn, 1) := by decide +kernel
theorem dX6_deliverFirst_15 : decode cX6_deliverFirst 15 = .ok (.aload_n 2, 1) := by decide +kernel
theorem dX6_deliverFirst_16 : decode cX6_deliverFirst 16 = .ok (.invokevirtual 210, 3) := by decide +kernel
theorem dX6_deliverFirst_19 : decode cX6_deliverFirst 19 = .ok (.istore_n 3, 1) := by decide +kernel
theorem dX6_deliverFirst_20 : decode cX6_deliverFirst 20 = .ok (.aload_n 2, 1) := by decide +kernel
theorem dX6_deliverFirst_21 : decode cX6_deliverFirst 21 = .ok (.getfield 213, 3) := by decide +kernel
theorem dX6_deliverFirst_24 : decode cX6_deliverFirst 24 = .ok (.ifCond .eq 14, 3) := by decide +kernel
theorem dX6_deliverFirst_27 : decode cX6_deliverFirst 27 = .ok (.aload_n 0, 1) := by decide +kernel
theorem dX6_deliverFirst_28 : decode cX6_deliverFirst 28 = .ok (.aload_n 2, 1) := by decide +kernel
theorem dX6_deliverFirst_29 : decode cX6_deliverFirst 29 = .ok (.aload_n 1, 1) := by decide +kernel
theorem dX6_deliverFirst_30 : decode cX6_deliverFirst 30 = .ok (.getfield 363, 3) := by decide +kernel
theorem dX6_deliverFirst_33 : decode cX6_deliverFirst 33 = .ok (.invokevirtual 366, 3) := by decide +kernel
theorem dX6_deliverFirst_36 : decode cX6_deliverFirst 36 = .ok (.iload_n 3, 1) := by decide +kernel
theorem dX6_deliverFirst_37 : decode cX6_deliverFirst 37 = .ok (.ireturn, 1) := by decide +kernel
theorem dX6_deliverFirst_38 : decode cX6_deliverFirst 38 = .ok (.aload_n 2, 1) := by decide +kernel
theorem dX6_deliverFirst_39 : decode cX6_deliverFirst 39 = .ok (.aconst_null, 1) := by decide +kernel
theorem dX6_deliverFirst_40 : decode cX6_deliverFirst 40 = .ok (.putfield 290, 3) := by decide +kernel
theorem dX6_deliverFirst_43 : decode cX6_deliverFirst 43 = .ok (.aload_n 2, 1) := by decide +kernel
theorem dX6_deliverFirst_44 : decode cX6_deliverFirst 44 = .ok (.getfield 121, 3) := by decide +kernel
theorem dX6_deliverFirst_47 : decode cX6_deliverFirst 47 = .ok (.ifnull 15, 3) := by decide +kernel
theorem dX6_deliverFirst_50 : decode cX6_deliverFirst 50 = .ok (.aload_n 0, 1) := by decide +kernel
theorem dX6_deliverFirst_51 : decode cX6_deliverFirst 51 = .ok (.aload_n 2, 1) := by decide +kernel
theorem dX6_deliverFirst_52 : decode cX6_deliverFirst 52 = .ok (.aload_n 2, 1) := by decide +kernel
theorem dX6_deliverFirst_53 : decode cX6_deliverFirst 53 = .ok (.getfield 121, 3) := by decide +kernel
theorem dX6_deliverFirst_56 : decode cX6_deliverFirst 56 = .ok (.invokevirtual 369, 3) := by decide +kernel
theorem dX6_deliverFirst_59 : decode cX6_deliverFirst 59 = .ok (.goto 19, 3) := by decide +kernel
theorem dX6_deliverFirst_62 : decode cX6_deliverFirst 62 = .ok (.aload_n 2, 1) := by decide +kernel
theorem dX6_deliverFirst_63 : decode cX6_deliverFirst 63 = .ok (.getfield 118, 3) := by decide +kernel
theorem dX6_deliverFirst_66 : decode cX6_deliverFirst 66 = .ok (.ifnull 12, 3) := by decide +kernel
theorem dX6_deliverFirst_69 : decode cX6_deliverFirst 69 = .ok (.aload_n 0, 1) := by decide +kernel
theorem dX6_deliverFirst_70 : decode cX6_deliverFirst 70 = .ok (.aload_n 2, 1) := by decide +kernel
theorem dX6_deliverFirst_71 : decode cX6_deliverFirst 71 = .ok (.getfield 118, 3) := by decide +kernel
theorem dX6_deliverFirst_74 : decode cX6_deliverFirst 74 = .ok (.aload_n 2, 1) := by decide +kernel
theorem dX6_deliverFirst_75 : decode cX6_deliverFirst 75 = .ok (.invokevirtual 372, 3) := by decide +kernel
theorem dX6_deliverFirst_78 : decode cX6_deliverFirst 78 = .ok (.iload_n 3, 1) := by decide +kernel
theorem dX6_deliverFirst_79 : decode cX6_deliverFirst 79 = .ok (.ireturn, 1) := by decide +kernel
theorem dX6_reachPromise_0 : decode cX6_reachPromise 0 = .ok (.aload_n 2, 1) := by decide +kernel
theorem dX6_reachPromise_1 : decode cX6_reachPromise 1 = .ok (.getfield 335, 3) := by decide +kernel
theorem dX6_reachPromise_4 : decode cX6_reachPromise 4 = .ok (.ifCond .ne 19, 3) := by decide +kernel
theorem dX6_reachPromise_7 : decode cX6_reachPromise 7 = .ok (.aload_n 1, 1) := by decide +kernel
theorem dX6_reachPromise_8 : decode cX6_reachPromise 8 = .ok (.iconst 2, 1) := by decide +kernel
theorem dX6_reachPromise_9 : decode cX6_reachPromise 9 = .ok (.putfield 173, 3) := by decide +kernel
theorem dX6_reachPromise_12 : decode cX6_reachPromise 12 = .ok (.aload_n 2, 1) := by decide +kernel
theorem dX6_reachPromise_13 : decode cX6_reachPromise 13 = .ok (.getfield 163, 3) := by decide +kernel
theorem dX6_reachPromise_16 : decode cX6_reachPromise 16 = .ok (.aload_n 1, 1) := by decide +kernel
theorem dX6_reachPromise_17 : decode cX6_reachPromise 17 = .ok (.invokevirtual 313, 3) := by decide +kernel
theorem dX6_reachPromise_20 : decode cX6_reachPromise 20 = .ok (.goto 9, 3) := by decide +kernel
theorem dX6_reachPromise_23 : decode cX6_reachPromise 23 = .ok (.aload_n 0, 1) := by decide +kernel
theorem dX6_reachPromise_24 : decode cX6_reachPromise 24 = .ok (.aload_n 1, 1) := by decide +kernel
theorem dX6_reachPromise_25 : decode cX6_reachPromise 25 = .ok (.aload_n 2, 1) := by decide +kernel
theorem dX6_reachPromise_26 : decode cX6_reachPromise 26 = .ok (.invokevirtual 341, 3) := by decide +kernel
theorem dX6_reachPromise_29 : decode cX6_reachPromise 29 = .ok (.return_, 1) := by decide +kernel
theorem dX6_receiveAnswer_0 : decode cX6_receiveAnswer 0 = .ok (.aload_n 1, 1) := by decide +kernel
theorem dX6_receiveAnswer_1 : decode cX6_receiveAnswer 1 = .ok (.getfield 132, 3) := by decide +kernel
theorem dX6_receiveAnswer_4 : decode cX6_receiveAnswer 4 = .ok (.astore_n 3, 1) := by decide +kernel
theorem dX6_receiveAnswer_5 : decode cX6_receiveAnswer 5 = .ok (.aload_n 3, 1) := by decide +kernel
theorem dX6_receiveAnswer_6 : decode cX6_receiveAnswer 6 = .ok (.ifnonnull 4, 3) := by decide +kernel
theorem dX6_receiveAnswer_9 : decode cX6_receiveAnswer 9 = .ok (.return_, 1) := by decide +kernel
theorem dX6_receiveAnswer_10 : decode cX6_receiveAnswer 10 = .ok (.iload_n 2, 1) := by decide +kernel
theorem dX6_receiveAnswer_11 : decode cX6_receiveAnswer 11 = .ok (.aload_n 3, 1) := by decide +kernel
theorem dX6_receiveAnswer_12 : decode cX6_receiveAnswer 12 = .ok (.getfield 160, 3) := by decide +kernel
theorem dX6_receiveAnswer_15 : decode cX6_receiveAnswer 15 = .ok (.if_icmp .ne 14, 3) := by decide +kernel
theorem dX6_receiveAnswer_18 : decode cX6_receiveAnswer 18 = .ok (.aload_n 0, 1) := by decide +kernel
theorem dX6_receiveAnswer_19 : decode cX6_receiveAnswer 19 = .ok (.getfield 36, 3) := by decide +kernel
theorem dX6_receiveAnswer_22 : decode cX6_receiveAnswer 22 = .ok (.aload_n 1, 1) := by decide +kernel
theorem dX6_receiveAnswer_23 : decode cX6_receiveAnswer 23 = .ok (.invokevirtual 313, 3) := by decide +kernel
theorem dX6_receiveAnswer_26 : decode cX6_receiveAnswer 26 = .ok (.goto 9, 3) := by decide +kernel
theorem dX6_receiveAnswer_29 : decode cX6_receiveAnswer 29 = .ok (.aload_n 0, 1) := by decide +kernel
theorem dX6_receiveAnswer_30 : decode cX6_receiveAnswer 30 = .ok (.aload_n 3, 1) := by decide +kernel
theorem dX6_receiveAnswer_31 : decode cX6_receiveAnswer 31 = .ok (.aload_n 1, 1) := by decide +kernel
theorem dX6_receiveAnswer_32 : decode cX6_receiveAnswer 32 = .ok (.invokevirtual 345, 3) := by decide +kernel
theorem dX6_receiveAnswer_35 : decode cX6_receiveAnswer 35 = .ok (.return_, 1) := by decide +kernel
theorem dX6_loseFirst_0 : decode cX6_loseFirst 0 = .ok (.aload_n 1, 1) := by decide +kernel
theorem dX6_loseFirst_1 : decode cX6_loseFirst 1 = .ok (.getfield 200, 3) := by decide +kernel
theorem dX6_loseFirst_4 : decode cX6_loseFirst 4 = .ok (.invokevirtual 320, 3) := by decide +kernel
theorem dX6_loseFirst_7 : decode cX6_loseFirst 7 = .ok (.astore_n 2, 1) := by decide +kernel
theorem dX6_loseFirst_8 : decode cX6_loseFirst 8 = .ok (.aload_n 2, 1) := by decide +kernel
theorem dX6_loseFirst_9 : decode cX6_loseFirst 9 = .ok (.ifnonnull 4, 3) := by decide +kernel
theorem dX6_loseFirst_12 : decode cX6_loseFirst 12 = .ok (.return_, 1) := by decide +kernel
theorem dX6_loseFirst_13 : decode cX6_loseFirst 13 = .ok (.aload_n 2, 1) := by decide +kernel
theorem dX6_loseFirst_14 : decode cX6_loseFirst 14 = .ok (.invokevirtual 328, 3) := by decide +kernel
theorem dX6_loseFirst_17 : decode cX6_loseFirst 17 = .ok (.aload_n 2, 1) := by decide +kernel
theorem dX6_loseFirst_18 : decode cX6_loseFirst 18 = .ok (.getfield 213, 3) := by decide +kernel
theorem dX6_loseFirst_21 : decode cX6_loseFirst 21 = .ok (.ifCond .eq 15, 3) := by decide +kernel
theorem dX6_loseFirst_24 : decode cX6_loseFirst 24 = .ok (.aload_n 0, 1) := by decide +kernel
theorem dX6_loseFirst_25 : decode cX6_loseFirst 25 = .ok (.aload_n 2, 1) := by decide +kernel
theorem dX6_loseFirst_26 : decode cX6_loseFirst 26 = .ok (.aload_n 1, 1) := by decide +kernel
theorem dX6_loseFirst_27 : decode cX6_loseFirst 27 = .ok (.getfield 363, 3) := by decide +kernel
theorem dX6_loseFirst_30 : decode cX6_loseFirst 30 = .ok (.invokevirtual 366, 3) := by decide +kernel
theorem dX6_loseFirst_33 : decode cX6_loseFirst 33 = .ok (.goto 12, 3) := by decide +kernel
theorem dX6_loseFirst_36 : decode cX6_loseFirst 36 = .ok (.aload_n 0, 1) := by decide +kernel
theorem dX6_loseFirst_37 : decode cX6_loseFirst 37 = .ok (.aload_n 2, 1) := by decide +kernel
theorem dX6_loseFirst_38 : decode cX6_loseFirst 38 = .ok (.aload_n 1, 1) := by decide +kernel
theorem dX6_loseFirst_39 : decode cX6_loseFirst 39 = .ok (.getfield 375, 3) := by decide +kernel
theorem dX6_loseFirst_42 : decode cX6_loseFirst 42 = .ok (.invokevirtual 310, 3) := by decide +kernel
theorem dX6_loseFirst_45 : decode cX6_loseFirst 45 = .ok (.return_, 1) := by decide +kernel
theorem dX6_movedBy_0 : decode cX6_movedBy 0 = .ok (.lconst 0, 1) := by decide +kernel
theorem dX6_movedBy_1 : decode cX6_movedBy 1 = .ok (.lstore_n 1, 1) := by decide +kernel
theorem dX6_movedBy_2 : decode cX6_movedBy 2 = .ok (.aload_n 0, 1) := by decide +kernel
theorem dX6_movedBy_3 : decode cX6_movedBy 3 = .ok (.getfield 200, 3) := by decide +kernel
theorem dX6_movedBy_6 : decode cX6_movedBy 6 = .ok (.getfield 378, 3) := by decide +kernel
theorem dX6_movedBy_9 : decode cX6_movedBy 9 = .ok (.astore_n 3, 1) := by decide +kernel
theorem dX6_movedBy_10 : decode cX6_movedBy 10 = .ok (.iconst 0, 1) := by decide +kernel
theorem dX6_movedBy_11 : decode cX6_movedBy 11 = .ok (.istore 4, 2) := by decide +kernel
theorem dX6_movedBy_13 : decode cX6_movedBy 13 = .ok (.iload 4, 2) := by decide +kernel
theorem dX6_movedBy_15 : decode cX6_movedBy 15 = .ok (.aload_n 0, 1) := by decide +kernel
theorem dX6_movedBy_16 : decode cX6_movedBy 16 = .ok (.getfield 200, 3) := by decide +kernel
theorem dX6_movedBy_19 : decode cX6_movedBy 19 = .ok (.getfield 100, 3) := by decide +kernel
theorem dX6_movedBy_22 : decode cX6_movedBy 22 = .ok (.if_icmp .ge 37, 3) := by decide +kernel
theorem dX6_movedBy_25 : decode cX6_movedBy 25 = .ok (.aload_n 3, 1) := by decide +kernel
theorem dX6_movedBy_26 : decode cX6_movedBy 26 = .ok (.ifnull 33, 3) := by decide +kernel
theorem dX6_movedBy_29 : decode cX6_movedBy 29 = .ok (.lload_n 1, 1) := by decide +kernel
theorem dX6_movedBy_30 : decode cX6_movedBy 30 = .ok (.aload_n 3, 1) := by decide +kernel
theorem dX6_movedBy_31 : decode cX6_movedBy 31 = .ok (.getfield 290, 3) := by decide +kernel
theorem dX6_movedBy_34 : decode cX6_movedBy 34 = .ok (.ifnonnull 7, 3) := by decide +kernel
theorem dX6_movedBy_37 : decode cX6_movedBy 37 = .ok (.lconst 0, 1) := by decide +kernel
theorem dX6_movedBy_38 : decode cX6_movedBy 38 = .ok (.goto 8, 3) := by decide +kernel
theorem dX6_movedBy_41 : decode cX6_movedBy 41 = .ok (.aload_n 3, 1) := by decide +kernel
theorem dX6_movedBy_42 : decode cX6_movedBy 42 = .ok (.getfield 225, 3) := by decide +kernel
theorem dX6_movedBy_45 : decode cX6_movedBy 45 = .ok (.i2l, 1) := by decide +kernel
theorem dX6_movedBy_46 : decode cX6_movedBy 46 = .ok (.ladd, 1) := by decide +kernel
theorem dX6_movedBy_47 : decode cX6_movedBy 47 = .ok (.lstore_n 1, 1) := by decide +kernel
theorem dX6_movedBy_48 : decode cX6_movedBy 48 = .ok (.aload_n 3, 1) := by decide +kernel
theorem dX6_movedBy_49 : decode cX6_movedBy 49 = .ok (.getfield 381, 3) := by decide +kernel
theorem dX6_movedBy_52 : decode cX6_movedBy 52 = .ok (.astore_n 3, 1) := by decide +kernel
theorem dX6_movedBy_53 : decode cX6_movedBy 53 = .ok (.iinc 4 1, 3) := by decide +kernel
theorem dX6_movedBy_56 : decode cX6_movedBy 56 = .ok (.goto (-43), 3) := by decide +kernel
theorem dX6_movedBy_59 : decode cX6_movedBy 59 = .ok (.lload_n 1, 1) := by decide +kernel
theorem dX6_movedBy_60 : decode cX6_movedBy 60 = .ok (.lreturn, 1) := by decide +kernel
theorem dX6_openAtHome_0 : decode cX6_openAtHome 0 = .ok (.iconst 0, 1) := by decide +kernel
theorem dX6_openAtHome_1 : decode cX6_openAtHome 1 = .ok (.istore_n 1, 1) := by decide +kernel
theorem dX6_openAtHome_2 : decode cX6_openAtHome 2 = .ok (.iconst 0, 1) := by decide +kernel
theorem dX6_openAtHome_3 : decode cX6_openAtHome 3 = .ok (.istore_n 2, 1) := by decide +kernel
theorem dX6_openAtHome_4 : decode cX6_openAtHome 4 = .ok (.iload_n 2, 1) := by decide +kernel
theorem dX6_openAtHome_5 : decode cX6_openAtHome 5 = .ok (.aload_n 0, 1) := by decide +kernel
theorem dX6_openAtHome_6 : decode cX6_openAtHome 6 = .ok (.getfield 110, 3) := by decide +kernel
theorem dX6_openAtHome_9 : decode cX6_openAtHome 9 = .ok (.if_icmp .ge 37, 3) := by decide +kernel
theorem dX6_openAtHome_12 : decode cX6_openAtHome 12 = .ok (.aload_n 0, 1) := by decide +kernel
theorem dX6_openAtHome_13 : decode cX6_openAtHome 13 = .ok (.iload_n 2, 1) := by decide +kernel
theorem dX6_openAtHome_14 : decode cX6_openAtHome 14 = .ok (.invokevirtual 103, 3) := by decide +kernel
theorem dX6_openAtHome_17 : decode cX6_openAtHome 17 = .ok (.astore_n 3, 1) := by decide +kernel
theorem dX6_openAtHome_18 : decode cX6_openAtHome 18 = .ok (.iload_n 1, 1) := by decide +kernel
theorem dX6_openAtHome_19 : decode cX6_openAtHome 19 = .ok (.aload_n 3, 1) := by decide +kernel
theorem dX6_openAtHome_20 : decode cX6_openAtHome 20 = .ok (.ifnull 14, 3) := by decide +kernel
theorem dX6_openAtHome_23 : decode cX6_openAtHome 23 = .ok (.aload_n 3, 1) := by decide +kernel
theorem dX6_openAtHome_24 : decode cX6_openAtHome 24 = .ok (.getfield 335, 3) := by decide +kernel
theorem dX6_openAtHome_27 : decode cX6_openAtHome 27 = .ok (.ifCond .ne 7, 3) := by decide +kernel
theorem dX6_openAtHome_30 : decode cX6_openAtHome 30 = .ok (.iconst 1, 1) := by decide +kernel
theorem dX6_openAtHome_31 : decode cX6_openAtHome 31 = .ok (.goto 4, 3) := by decide +kernel
theorem dX6_openAtHome_34 : decode cX6_openAtHome 34 = .ok (.iconst 0, 1) := by decide +kernel
theorem dX6_openAtHome_35 : decode cX6_openAtHome 35 = .ok (.invokestatic 67, 3) := by decide +kernel
theorem dX6_openAtHome_38 : decode cX6_openAtHome 38 = .ok (.iadd, 1) := by decide +kernel
theorem dX6_openAtHome_39 : decode cX6_openAtHome 39 = .ok (.istore_n 1, 1) := by decide +kernel
theorem dX6_openAtHome_40 : decode cX6_openAtHome 40 = .ok (.iinc 2 1, 3) := by decide +kernel
theorem dX6_openAtHome_43 : decode cX6_openAtHome 43 = .ok (.goto (-39), 3) := by decide +kernel
theorem dX6_openAtHome_46 : decode cX6_openAtHome 46 = .ok (.iload_n 1, 1) := by decide +kernel
theorem dX6_openAtHome_47 : decode cX6_openAtHome 47 = .ok (.ireturn, 1) := by decide +kernel
theorem dX6_lettersUnderWay_0 : decode cX6_lettersUnderWay 0 = .ok (.iconst 0, 1) := by decide +kernel
theorem dX6_lettersUnderWay_1 : decode cX6_lettersUnderWay 1 = .ok (.istore_n 1, 1) := by decide +kernel
theorem dX6_lettersUnderWay_2 : decode cX6_lettersUnderWay 2 = .ok (.iconst 0, 1) := by decide +kernel
theorem dX6_lettersUnderWay_3 : decode cX6_lettersUnderWay 3 = .ok (.istore_n 2, 1) := by decide +kernel
theorem dX6_lettersUnderWay_4 : decode cX6_lettersUnderWay 4 = .ok (.iload_n 2, 1) := by decide +kernel
theorem dX6_lettersUnderWay_5 : decode cX6_lettersUnderWay 5 = .ok (.aload_n 0, 1) := by decide +kernel
theorem dX6_lettersUnderWay_6 : decode cX6_lettersUnderWay 6 = .ok (.getfield 29, 3) := by decide +kernel
theorem dX6_lettersUnderWay_9 : decode cX6_lettersUnderWay 9 = .ok (.arraylength, 1) := by decide +kernel
theorem dX6_lettersUnderWay_10 : decode cX6_lettersUnderWay 10 = .ok (.if_icmp .ge 37, 3) := by decide +kernel
theorem dX6_lettersUnderWay_13 : decode cX6_lettersUnderWay 13 = .ok (.iload_n 1, 1) := by decide +kernel
theorem dX6_lettersUnderWay_14 : decode cX6_lettersUnderWay 14 = .ok (.aload_n 0, 1) := by decide +kernel
theorem dX6_lettersUnderWay_15 : decode cX6_lettersUnderWay 15 = .ok (.getfield 29, 3) := by decide +kernel
theorem dX6_lettersUnderWay_18 : decode cX6_lettersUnderWay 18 = .ok (.iload_n 2, 1) := by decide +kernel
theorem dX6_lettersUnderWay_19 : decode cX6_lettersUnderWay 19 = .ok (.aaload, 1) := by decide +kernel
theorem dX6_lettersUnderWay_20 : decode cX6_lettersUnderWay 20 = .ok (.ifnonnull 7, 3) := by decide +kernel
theorem dX6_lettersUnderWay_23 : decode cX6_lettersUnderWay 23 = .ok (.iconst 0, 1) := by decide +kernel
theorem dX6_lettersUnderWay_24 : decode cX6_lettersUnderWay 24 = .ok (.goto 15, 3) := by decide +kernel
theorem dX6_lettersUnderWay_27 : decode cX6_lettersUnderWay 27 = .ok (.aload_n 0, 1) := by decide +kernel
theorem dX6_lettersUnderWay_28 : decode cX6_lettersUnderWay 28 = .ok (.getfield 29, 3) := by decide +kernel
theorem dX6_lettersUnderWay_31 : decode cX6_lettersUnderWay 31 = .ok (.iload_n 2, 1) := by decide +kernel
theorem dX6_lettersUnderWay_32 : decode cX6_lettersUnderWay 32 = .ok (.aaload, 1) := by decide +kernel
theorem dX6_lettersUnderWay_33 : decode cX6_lettersUnderWay 33 = .ok (.getfield 200, 3) := by decide +kernel
theorem dX6_lettersUnderWay_36 : decode cX6_lettersUnderWay 36 = .ok (.getfield 100, 3) := by decide +kernel
theorem dX6_lettersUnderWay_39 : decode cX6_lettersUnderWay 39 = .ok (.iadd, 1) := by decide +kernel
theorem dX6_lettersUnderWay_40 : decode cX6_lettersUnderWay 40 = .ok (.istore_n 1, 1) := by decide +kernel
theorem dX6_lettersUnderWay_41 : decode cX6_lettersUnderWay 41 = .ok (.iinc 2 1, 3) := by decide +kernel
theorem dX6_lettersUnderWay_44 : decode cX6_lettersUnderWay 44 = .ok (.goto (-40), 3) := by decide +kernel
theorem dX6_lettersUnderWay_47 : decode cX6_lettersUnderWay 47 = .ok (.iload_n 1, 1) := by decide +kernel
theorem dX6_lettersUnderWay_48 : decode cX6_lettersUnderWay 48 = .ok (.ireturn, 1) := by decide +kernel
theorem dX6_wiresCut_0 : decode cX6_wiresCut 0 = .ok (.iconst 0, 1) := by decide +kernel
theorem dX6_wiresCut_1 : decode cX6_wiresCut 1 = .ok (.istore_n 1, 1) := by decide +kernel
theorem dX6_wiresCut_2 : decode cX6_wiresCut 2 = .ok (.iconst 0, 1) := by decide +kernel
theorem dX6_wiresCut_3 : decode cX6_wiresCut 3 = .ok (.istore_n 2, 1) := by decide +kernel
theorem dX6_wiresCut_4 : decode cX6_wiresCut 4 = .ok (.iload_n 2, 1) := by decide +kernel
theorem dX6_wiresCut_5 : decode cX6_wiresCut 5 = .ok (.aload_n 0, 1) := by decide +kernel
theorem dX6_wiresCut_6 : decode cX6_wiresCut 6 = .ok (.getfield 29, 3) := by decide +kernel
theorem dX6_wiresCut_9 : decode cX6_wiresCut 9 = .ok (.arraylength, 1) := by decide +kernel
theorem dX6_wiresCut_10 : decode cX6_wiresCut 10 = .ok (.if_icmp .ge 49, 3) := by decide +kernel
theorem dX6_wiresCut_13 : decode cX6_wiresCut 13 = .ok (.aload_n 0, 1) := by decide +kernel
theorem dX6_wiresCut_14 : decode cX6_wiresCut 14 = .ok (.getfield 29, 3) := by decide +kernel
theorem dX6_wiresCut_17 : decode cX6_wiresCut 17 = .ok (.iload_n 2, 1) := by decide +kernel
theorem dX6_wiresCut_18 : decode cX6_wiresCut 18 = .ok (.aaload, 1) := by decide +kernel
theorem dX6_wiresCut_19 : decode cX6_wiresCut 19 = .ok (.astore_n 3, 1) := by decide +kernel
theorem dX6_wiresCut_20 : decode cX6_wiresCut 20 = .ok (.iload_n 1, 1) := by decide +kernel
theorem dX6_wiresCut_21 : decode cX6_wiresCut 21 = .ok (.aload_n 3, 1) := by decide +kernel
theorem dX6_wiresCut_22 : decode cX6_wiresCut 22 = .ok (.ifnull 25, 3) := by decide +kernel
theorem dX6_wiresCut_25 : decode cX6_wiresCut 25 = .ok (.aload_n 3, 1) := by decide +kernel
theorem dX6_wiresCut_26 : decode cX6_wiresCut 26 = .ok (.getfield 197, 3) := by decide +kernel
theorem dX6_wiresCut_29 : decode cX6_wiresCut 29 = .ok (.ifCond .eq 18, 3) := by decide +kernel
theorem dX6_wiresCut_32 : decode cX6_wiresCut 32 = .ok (.aload_n 3, 1) := by decide +kernel
theorem dX6_wiresCut_33 : decode cX6_wiresCut 33 = .ok (.getfield 375, 3) := by decide +kernel
theorem dX6_wiresCut_36 : decode cX6_wiresCut 36 = .ok (.aload_n 3, 1) := by decide +kernel
theorem dX6_wiresCut_37 : decode cX6_wiresCut 37 = .ok (.getfield 363, 3) := by decide +kernel
theorem dX6_wiresCut_40 : decode cX6_wiresCut 40 = .ok (.if_icmp .ge 7, 3) := by decide +kernel
theorem dX6_wiresCut_43 : decode cX6_wiresCut 43 = .ok (.iconst 1, 1) := by decide +kernel
theorem dX6_wiresCut_44 : decode cX6_wiresCut 44 = .ok (.goto 4, 3) := by decide +kernel
theorem dX6_wiresCut_47 : decode cX6_wiresCut 47 = .ok (.iconst 0, 1) := by decide +kernel
theorem dX6_wiresCut_48 : decode cX6_wiresCut 48 = .ok (.invokestatic 67, 3) := by decide +kernel
theorem dX6_wiresCut_51 : decode cX6_wiresCut 51 = .ok (.iadd, 1) := by decide +kernel
theorem dX6_wiresCut_52 : decode cX6_wiresCut 52 = .ok (.istore_n 1, 1) := by decide +kernel
theorem dX6_wiresCut_53 : decode cX6_wiresCut 53 = .ok (.iinc 2 1, 3) := by decide +kernel
theorem dX6_wiresCut_56 : decode cX6_wiresCut 56 = .ok (.goto (-52), 3) := by decide +kernel
theorem dX6_wiresCut_59 : decode cX6_wiresCut 59 = .ok (.iload_n 1, 1) := by decide +kernel
theorem dX6_wiresCut_60 : decode cX6_wiresCut 60 = .ok (.ireturn, 1) := by decide +kernel
theorem dX6_messagesHeld_0 : decode cX6_messagesHeld 0 = .ok (.iconst 0, 1) := by decide +kernel
theorem dX6_messagesHeld_1 : decode cX6_messagesHeld 1 = .ok (.istore_n 1, 1) := by decide +kernel
theorem dX6_messagesHeld_2 : decode cX6_messagesHeld 2 = .ok (.iconst 0, 1) := by decide +kernel
theorem dX6_messagesHeld_3 : decode cX6_messagesHeld 3 = .ok (.istore_n 2, 1) := by decide +kernel
theorem dX6_messagesHeld_4 : decode cX6_messagesHeld 4 = .ok (.iload_n 2, 1) := by decide +kernel
theorem dX6_messagesHeld_5 : decode cX6_messagesHeld 5 = .ok (.aload_n 0, 1) := by decide +kernel
theorem dX6_messagesHeld_6 : decode cX6_messagesHeld 6 = .ok (.getfield 228, 3) := by decide +kernel
theorem dX6_messagesHeld_9 : decode cX6_messagesHeld 9 = .ok (.if_icmp .ge 33, 3) := by decide +kernel
theorem dX6_messagesHeld_12 : decode cX6_messagesHeld 12 = .ok (.aload_n 0, 1) := by decide +kernel
theorem dX6_messagesHeld_13 : decode cX6_messagesHeld 13 = .ok (.iload_n 2, 1) := by decide +kernel
theorem dX6_messagesHeld_14 : decode cX6_messagesHeld 14 = .ok (.invokevirtual 55, 3) := by decide +kernel
theorem dX6_messagesHeld_17 : decode cX6_messagesHeld 17 = .ok (.astore_n 3, 1) := by decide +kernel
theorem dX6_messagesHeld_18 : decode cX6_messagesHeld 18 = .ok (.iload_n 1, 1) := by decide +kernel
theorem dX6_messagesHeld_19 : decode cX6_messagesHeld 19 = .ok (.aload_n 3, 1) := by decide +kernel
theorem dX6_messagesHeld_20 : decode cX6_messagesHeld 20 = .ok (.ifnonnull 7, 3) := by decide +kernel
theorem dX6_messagesHeld_23 : decode cX6_messagesHeld 23 = .ok (.iconst 0, 1) := by decide +kernel
theorem dX6_messagesHeld_24 : decode cX6_messagesHeld 24 = .ok (.goto 10, 3) := by decide +kernel
theorem dX6_messagesHeld_27 : decode cX6_messagesHeld 27 = .ok (.aload_n 3, 1) := by decide +kernel
theorem dX6_messagesHeld_28 : decode cX6_messagesHeld 28 = .ok (.getfield 97, 3) := by decide +kernel
theorem dX6_messagesHeld_31 : decode cX6_messagesHeld 31 = .ok (.getfield 100, 3) := by decide +kernel
theorem dX6_messagesHeld_34 : decode cX6_messagesHeld 34 = .ok (.iadd, 1) := by decide +kernel
theorem dX6_messagesHeld_35 : decode cX6_messagesHeld 35 = .ok (.istore_n 1, 1) := by decide +kernel
theorem dX6_messagesHeld_36 : decode cX6_messagesHeld 36 = .ok (.iinc 2 1, 3) := by decide +kernel
theorem dX6_messagesHeld_39 : decode cX6_messagesHeld 39 = .ok (.goto (-35), 3) := by decide +kernel
theorem dX6_messagesHeld_42 : decode cX6_messagesHeld 42 = .ok (.iload_n 1, 1) := by decide +kernel
theorem dX6_messagesHeld_43 : decode cX6_messagesHeld 43 = .ok (.ireturn, 1) := by decide +kernel
theorem dX6_messagesWaiting_0 : decode cX6_messagesWaiting 0 = .ok (.iconst 0, 1) := by decide +kernel
theorem dX6_messagesWaiting_1 : decode cX6_messagesWaiting 1 = .ok (.istore_n 1, 1) := by decide +kernel
theorem dX6_messagesWaiting_2 : decode cX6_messagesWaiting 2 = .ok (.iconst 0, 1) := by decide +kernel
theorem dX6_messagesWaiting_3 : decode cX6_messagesWaiting 3 = .ok (.istore_n 2, 1) := by decide +kernel
theorem dX6_messagesWaiting_4 : decode cX6_messagesWaiting 4 = .ok (.iload_n 2, 1) := by decide +kernel
theorem dX6_messagesWaiting_5 : decode cX6_messagesWaiting 5 = .ok (.aload_n 0, 1) := by decide +kernel
theorem dX6_messagesWaiting_6 : decode cX6_messagesWaiting 6 = .ok (.getfield 110, 3) := by decide +kernel
theorem dX6_messagesWaiting_9 : decode cX6_messagesWaiting 9 = .ok (.if_icmp .ge 33, 3) := by decide +kernel
theorem dX6_messagesWaiting_12 : decode cX6_messagesWaiting 12 = .ok (.aload_n 0, 1) := by decide +kernel
theorem dX6_messagesWaiting_13 : decode cX6_messagesWaiting 13 = .ok (.iload_n 2, 1) := by decide +kernel
theorem dX6_messagesWaiting_14 : decode cX6_messagesWaiting 14 = .ok (.invokevirtual 103, 3) := by decide +kernel
theorem dX6_messagesWaiting_17 : decode cX6_messagesWaiting 17 = .ok (.astore_n 3, 1) := by decide +kernel
theorem dX6_messagesWaiting_18 : decode cX6_messagesWaiting 18 = .ok (.iload_n 1, 1) := by decide +kernel
theorem dX6_messagesWaiting_19 : decode cX6_messagesWaiting 19 = .ok (.aload_n 3, 1) := by decide +kernel
theorem dX6_messagesWaiting_20 : decode cX6_messagesWaiting 20 = .ok (.ifnonnull 7, 3) := by decide +kernel
theorem dX6_messagesWaiting_23 : decode cX6_messagesWaiting 23 = .ok (.iconst 0, 1) := by decide +kernel
theorem dX6_messagesWaiting_24 : decode cX6_messagesWaiting 24 = .ok (.goto 10, 3) := by decide +kernel
theorem dX6_messagesWaiting_27 : decode cX6_messagesWaiting 27 = .ok (.aload_n 3, 1) := by decide +kernel
theorem dX6_messagesWaiting_28 : decode cX6_messagesWaiting 28 = .ok (.getfield 163, 3) := by decide +kernel
theorem dX6_messagesWaiting_31 : decode cX6_messagesWaiting 31 = .ok (.getfield 100, 3) := by decide +kernel
theorem dX6_messagesWaiting_34 : decode cX6_messagesWaiting 34 = .ok (.iadd, 1) := by decide +kernel
theorem dX6_messagesWaiting_35 : decode cX6_messagesWaiting 35 = .ok (.istore_n 1, 1) := by decide +kernel
theorem dX6_messagesWaiting_36 : decode cX6_messagesWaiting 36 = .ok (.iinc 2 1, 3) := by decide +kernel
theorem dX6_messagesWaiting_39 : decode cX6_messagesWaiting 39 = .ok (.goto (-35), 3) := by decide +kernel
theorem dX6_messagesWaiting_42 : decode cX6_messagesWaiting 42 = .ok (.iload_n 1, 1) := by decide +kernel
theorem dX6_messagesWaiting_43 : decode cX6_messagesWaiting 43 = .ok (.ireturn, 1) := by decide +kernel
