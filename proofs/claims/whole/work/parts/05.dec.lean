theorem dX4_init_0 : decode cX4_init 0 = .ok (.aload_n 0, 1) := by decide +kernel
theorem dX4_init_1 : decode cX4_init 1 = .ok (.invokespecial 1, 3) := by decide +kernel
theorem dX4_init_4 : decode cX4_init 4 = .ok (.aload_n 0, 1) := by decide +kernel
theorem dX4_init_5 : decode cX4_init 5 = .ok (.sipush 283, 3) := by decide +kernel
theorem dX4_init_8 : decode cX4_init 8 = .ok (.newarray .int, 2) := by decide +kernel
theorem dX4_init_10 : decode cX4_init 10 = .ok (.putfield 7, 3) := by decide +kernel
theorem dX4_init_13 : decode cX4_init 13 = .ok (.aload_n 0, 1) := by decide +kernel
theorem dX4_init_14 : decode cX4_init 14 = .ok (.sipush 1698, 3) := by decide +kernel
theorem dX4_init_17 : decode cX4_init 17 = .ok (.newarray .int, 2) := by decide +kernel
theorem dX4_init_19 : decode cX4_init 19 = .ok (.putfield 13, 3) := by decide +kernel
theorem dX4_init_22 : decode cX4_init 22 = .ok (.aload_n 0, 1) := by decide +kernel
theorem dX4_init_23 : decode cX4_init 23 = .ok (.bipush 60, 2) := by decide +kernel
theorem dX4_init_25 : decode cX4_init 25 = .ok (.newarray .int, 2) := by decide +kernel
theorem dX4_init_27 : decode cX4_init 27 = .ok (.putfield 16, 3) := by decide +kernel
theorem dX4_init_30 : decode cX4_init 30 = .ok (.aload_n 0, 1) := by decide +kernel
theorem dX4_init_31 : decode cX4_init 31 = .ok (.bipush 66, 2) := by decide +kernel
theorem dX4_init_33 : decode cX4_init 33 = .ok (.newarray .int, 2) := by decide +kernel
theorem dX4_init_35 : decode cX4_init 35 = .ok (.putfield 19, 3) := by decide +kernel
theorem dX4_init_38 : decode cX4_init 38 = .ok (.aload_n 0, 1) := by decide +kernel
theorem dX4_init_39 : decode cX4_init 39 = .ok (.iconst 4, 1) := by decide +kernel
theorem dX4_init_40 : decode cX4_init 40 = .ok (.newarray .int, 2) := by decide +kernel
theorem dX4_init_42 : decode cX4_init 42 = .ok (.putfield 22, 3) := by decide +kernel
theorem dX4_init_45 : decode cX4_init 45 = .ok (.aload_n 0, 1) := by decide +kernel
theorem dX4_init_46 : decode cX4_init 46 = .ok (.getfield 7, 3) := by decide +kernel
theorem dX4_init_49 : decode cX4_init 49 = .ok (.iconst 0, 1) := by decide +kernel
theorem dX4_init_50 : decode cX4_init 50 = .ok (.bipush 14, 2) := by decide +kernel
theorem dX4_init_52 : decode cX4_init 52 = .ok (.iastore, 1) := by decide +kernel
theorem dX4_init_53 : decode cX4_init 53 = .ok (.aload_n 0, 1) := by decide +kernel
theorem dX4_init_54 : decode cX4_init 54 = .ok (.getfield 7, 3) := by decide +kernel
theorem dX4_init_57 : decode cX4_init 57 = .ok (.iconst 1, 1) := by decide +kernel
theorem dX4_init_58 : decode cX4_init 58 = .ok (.iconst 3, 1) := by decide +kernel
theorem dX4_init_59 : decode cX4_init 59 = .ok (.iastore, 1) := by decide +kernel
theorem dX4_init_60 : decode cX4_init 60 = .ok (.return_, 1) := by decide +kernel
theorem dX4_thrown_0 : decode cX4_thrown 0 = .ok (.aload_n 0, 1) := by decide +kernel
theorem dX4_thrown_1 : decode cX4_thrown 1 = .ok (.getfield 25, 3) := by decide +kernel
theorem dX4_thrown_4 : decode cX4_thrown 4 = .ok (.ireturn, 1) := by decide +kernel
theorem dX4_within_0 : decode cX4_within 0 = .ok (.iload_n 0, 1) := by decide +kernel
theorem dX4_within_1 : decode cX4_within 1 = .ok (.iload_n 1, 1) := by decide +kernel
theorem dX4_within_2 : decode cX4_within 2 = .ok (.if_icmp .lt 12, 3) := by decide +kernel
theorem dX4_within_5 : decode cX4_within 5 = .ok (.iload_n 0, 1) := by decide +kernel
theorem dX4_within_6 : decode cX4_within 6 = .ok (.iload_n 2, 1) := by decide +kernel
theorem dX4_within_7 : decode cX4_within 7 = .ok (.if_icmp .gt 7, 3) := by decide +kernel
theorem dX4_within_10 : decode cX4_within 10 = .ok (.iconst 1, 1) := by decide +kernel
theorem dX4_within_11 : decode cX4_within 11 = .ok (.goto 4, 3) := by decide +kernel
theorem dX4_within_14 : decode cX4_within 14 = .ok (.iconst 0, 1) := by decide +kernel
theorem dX4_within_15 : decode cX4_within 15 = .ok (.ireturn, 1) := by decide +kernel
theorem dX4_save_0 : decode cX4_save 0 = .ok (.aload_n 0, 1) := by decide +kernel
theorem dX4_save_1 : decode cX4_save 1 = .ok (.getfield 29, 3) := by decide +kernel
theorem dX4_save_4 : decode cX4_save 4 = .ok (.bipush 6, 2) := by decide +kernel
theorem dX4_save_6 : decode cX4_save 6 = .ok (.if_icmp .ne 46, 3) := by decide +kernel
theorem dX4_save_9 : decode cX4_save 9 = .ok (.sipush 283, 3) := by decide +kernel
theorem dX4_save_12 : decode cX4_save 12 = .ok (.istore_n 1, 1) := by decide +kernel
theorem dX4_save_13 : decode cX4_save 13 = .ok (.iload_n 1, 1) := by decide +kernel
theorem dX4_save_14 : decode cX4_save 14 = .ok (.sipush 1698, 3) := by decide +kernel
theorem dX4_save_17 : decode cX4_save 17 = .ok (.if_icmp .ge 25, 3) := by decide +kernel
theorem dX4_save_20 : decode cX4_save 20 = .ok (.aload_n 0, 1) := by decide +kernel
theorem dX4_save_21 : decode cX4_save 21 = .ok (.getfield 13, 3) := by decide +kernel
theorem dX4_save_24 : decode cX4_save 24 = .ok (.iload_n 1, 1) := by decide +kernel
theorem dX4_save_25 : decode cX4_save 25 = .ok (.sipush 283, 3) := by decide +kernel
theorem dX4_save_28 : decode cX4_save 28 = .ok (.isub, 1) := by decide +kernel
theorem dX4_save_29 : decode cX4_save 29 = .ok (.aload_n 0, 1) := by decide +kernel
theorem dX4_save_30 : decode cX4_save 30 = .ok (.getfield 13, 3) := by decide +kernel
theorem dX4_save_33 : decode cX4_save 33 = .ok (.iload_n 1, 1) := by decide +kernel
theorem dX4_save_34 : decode cX4_save 34 = .ok (.iaload, 1) := by decide +kernel
theorem dX4_save_35 : decode cX4_save 35 = .ok (.iastore, 1) := by decide +kernel
theorem dX4_save_36 : decode cX4_save 36 = .ok (.iinc 1 1, 3) := by decide +kernel
theorem dX4_save_39 : decode cX4_save 39 = .ok (.goto (-26), 3) := by decide +kernel
theorem dX4_save_42 : decode cX4_save 42 = .ok (.aload_n 0, 1) := by decide +kernel
theorem dX4_save_43 : decode cX4_save 43 = .ok (.dup, 1) := by decide +kernel
theorem dX4_save_44 : decode cX4_save 44 = .ok (.getfield 29, 3) := by decide +kernel
theorem dX4_save_47 : decode cX4_save 47 = .ok (.iconst 1, 1) := by decide +kernel
theorem dX4_save_48 : decode cX4_save 48 = .ok (.isub, 1) := by decide +kernel
theorem dX4_save_49 : decode cX4_save 49 = .ok (.putfield 29, 3) := by decide +kernel
theorem dX4_save_52 : decode cX4_save 52 = .ok (.iconst 0, 1) := by decide +kernel
theorem dX4_save_53 : decode cX4_save 53 = .ok (.istore_n 1, 1) := by decide +kernel
theorem dX4_save_54 : decode cX4_save 54 = .ok (.iload_n 1, 1) := by decide +kernel
theorem dX4_save_55 : decode cX4_save 55 = .ok (.sipush 283, 3) := by decide +kernel
theorem dX4_save_58 : decode cX4_save 58 = .ok (.if_icmp .ge 30, 3) := by decide +kernel
theorem dX4_save_61 : decode cX4_save 61 = .ok (.aload_n 0, 1) := by decide +kernel
theorem dX4_save_62 : decode cX4_save 62 = .ok (.getfield 13, 3) := by decide +kernel
theorem dX4_save_65 : decode cX4_save 65 = .ok (.sipush 283, 3) := by decide +kernel
theorem dX4_save_68 : decode cX4_save 68 = .ok (.aload_n 0, 1) := by decide +kernel
theorem dX4_save_69 : decode cX4_save 69 = .ok (.getfield 29, 3) := by decide +kernel
theorem dX4_save_72 : decode cX4_save 72 = .ok (.imul, 1) := by decide +kernel
theorem dX4_save_73 : decode cX4_save 73 = .ok (.iload_n 1, 1) := by decide +kernel
theorem dX4_save_74 : decode cX4_save 74 = .ok (.iadd, 1) := by decide +kernel
theorem dX4_save_75 : decode cX4_save 75 = .ok (.aload_n 0, 1) := by decide +kernel
theorem dX4_save_76 : decode cX4_save 76 = .ok (.getfield 7, 3) := by decide +kernel
theorem dX4_save_79 : decode cX4_save 79 = .ok (.iload_n 1, 1) := by decide +kernel
theorem dX4_save_80 : decode cX4_save 80 = .ok (.iaload, 1) := by decide +kernel
theorem dX4_save_81 : decode cX4_save 81 = .ok (.iastore, 1) := by decide +kernel
theorem dX4_save_82 : decode cX4_save 82 = .ok (.iinc 1 1, 3) := by decide +kernel
theorem dX4_save_85 : decode cX4_save 85 = .ok (.goto (-31), 3) := by decide +kernel
theorem dX4_save_88 : decode cX4_save 88 = .ok (.aload_n 0, 1) := by decide +kernel
theorem dX4_save_89 : decode cX4_save 89 = .ok (.dup, 1) := by decide +kernel
theorem dX4_save_90 : decode cX4_save 90 = .ok (.getfield 29, 3) := by decide +kernel
theorem dX4_save_93 : decode cX4_save 93 = .ok (.iconst 1, 1) := by decide +kernel
theorem dX4_save_94 : decode cX4_save 94 = .ok (.iadd, 1) := by decide +kernel
theorem dX4_save_95 : decode cX4_save 95 = .ok (.putfield 29, 3) := by decide +kernel
theorem dX4_save_98 : decode cX4_save 98 = .ok (.return_, 1) := by decide +kernel
theorem dX4_wholeOf_0 : decode cX4_wholeOf 0 = .ok (.iload_n 0, 1) := by decide +kernel
theorem dX4_wholeOf_1 : decode cX4_wholeOf 1 = .ok (.ifCond .ne 7, 3) := by decide +kernel
theorem dX4_wholeOf_4 : decode cX4_wholeOf 4 = .ok (.iconst 2, 1) := by decide +kernel
theorem dX4_wholeOf_5 : decode cX4_wholeOf 5 = .ok (.goto 22, 3) := by decide +kernel
theorem dX4_wholeOf_8 : decode cX4_wholeOf 8 = .ok (.iload_n 0, 1) := by decide +kernel
theorem dX4_wholeOf_9 : decode cX4_wholeOf 9 = .ok (.iconst 1, 1) := by decide +kernel
theorem dX4_wholeOf_10 : decode cX4_wholeOf 10 = .ok (.if_icmp .ne 7, 3) := by decide +kernel
theorem dX4_wholeOf_13 : decode cX4_wholeOf 13 = .ok (.iconst 4, 1) := by decide +kernel
theorem dX4_wholeOf_14 : decode cX4_wholeOf 14 = .ok (.goto 13, 3) := by decide +kernel
theorem dX4_wholeOf_17 : decode cX4_wholeOf 17 = .ok (.iload_n 0, 1) := by decide +kernel
theorem dX4_wholeOf_18 : decode cX4_wholeOf 18 = .ok (.iconst 2, 1) := by decide +kernel
theorem dX4_wholeOf_19 : decode cX4_wholeOf 19 = .ok (.if_icmp .ne 7, 3) := by decide +kernel
theorem dX4_wholeOf_22 : decode cX4_wholeOf 22 = .ok (.iconst 3, 1) := by decide +kernel
theorem dX4_wholeOf_23 : decode cX4_wholeOf 23 = .ok (.goto 4, 3) := by decide +kernel
theorem dX4_wholeOf_26 : decode cX4_wholeOf 26 = .ok (.iconst 1, 1) := by decide +kernel
theorem dX4_wholeOf_27 : decode cX4_wholeOf 27 = .ok (.ireturn, 1) := by decide +kernel
theorem dX4_costOf_0 : decode cX4_costOf 0 = .ok (.iload_n 0, 1) := by decide +kernel
theorem dX4_costOf_1 : decode cX4_costOf 1 = .ok (.ifCond .ne 8, 3) := by decide +kernel
theorem dX4_costOf_4 : decode cX4_costOf 4 = .ok (.bipush 40, 2) := by decide +kernel
theorem dX4_costOf_6 : decode cX4_costOf 6 = .ok (.goto 24, 3) := by decide +kernel
theorem dX4_costOf_9 : decode cX4_costOf 9 = .ok (.iload_n 0, 1) := by decide +kernel
theorem dX4_costOf_10 : decode cX4_costOf 10 = .ok (.iconst 1, 1) := by decide +kernel
theorem dX4_costOf_11 : decode cX4_costOf 11 = .ok (.if_icmp .ne 8, 3) := by decide +kernel
theorem dX4_costOf_14 : decode cX4_costOf 14 = .ok (.bipush 15, 2) := by decide +kernel
theorem dX4_costOf_16 : decode cX4_costOf 16 = .ok (.goto 14, 3) := by decide +kernel
theorem dX4_costOf_19 : decode cX4_costOf 19 = .ok (.iload_n 0, 1) := by decide +kernel
theorem dX4_costOf_20 : decode cX4_costOf 20 = .ok (.iconst 2, 1) := by decide +kernel
theorem dX4_costOf_21 : decode cX4_costOf 21 = .ok (.if_icmp .ne 8, 3) := by decide +kernel
theorem dX4_costOf_24 : decode cX4_costOf 24 = .ok (.bipush 20, 2) := by decide +kernel
theorem dX4_costOf_26 : decode cX4_costOf 26 = .ok (.goto 4, 3) := by decide +kernel
theorem dX4_costOf_29 : decode cX4_costOf 29 = .ok (.iconst 5, 1) := by decide +kernel
theorem dX4_costOf_30 : decode cX4_costOf 30 = .ok (.ireturn, 1) := by decide +kernel
theorem dX4_of_0 : decode cX4_of 0 = .ok (.aload_n 0, 1) := by decide +kernel
theorem dX4_of_1 : decode cX4_of 1 = .ok (.getfield 7, 3) := by decide +kernel
theorem dX4_of_4 : decode cX4_of 4 = .ok (.bipush 43, 2) := by decide +kernel
theorem dX4_of_6 : decode cX4_of 6 = .ok (.bipush 10, 2) := by decide +kernel
theorem dX4_of_8 : decode cX4_of 8 = .ok (.iload_n 1, 1) := by decide +kernel
theorem dX4_of_9 : decode cX4_of 9 = .ok (.imul, 1) := by decide +kernel
theorem dX4_of_10 : decode cX4_of 10 = .ok (.iadd, 1) := by decide +kernel
theorem dX4_of_11 : decode cX4_of 11 = .ok (.iload_n 2, 1) := by decide +kernel
theorem dX4_of_12 : decode cX4_of 12 = .ok (.iadd, 1) := by decide +kernel
theorem dX4_of_13 : decode cX4_of 13 = .ok (.iaload, 1) := by decide +kernel
theorem dX4_of_14 : decode cX4_of 14 = .ok (.ireturn, 1) := by decide +kernel
theorem dX4_put_0 : decode cX4_put 0 = .ok (.aload_n 0, 1) := by decide +kernel
theorem dX4_put_1 : decode cX4_put 1 = .ok (.getfield 7, 3) := by decide +kernel
theorem dX4_put_4 : decode cX4_put 4 = .ok (.bipush 43, 2) := by decide +kernel
theorem dX4_put_6 : decode cX4_put 6 = .ok (.bipush 10, 2) := by decide +kernel
theorem dX4_put_8 : decode cX4_put 8 = .ok (.iload_n 1, 1) := by decide +kernel
theorem dX4_put_9 : decode cX4_put 9 = .ok (.imul, 1) := by decide +kernel
theorem dX4_put_10 : decode cX4_put 10 = .ok (.iadd, 1) := by decide +kernel
theorem dX4_put_11 : decode cX4_put 11 = .ok (.iload_n 2, 1) := by decide +kernel
theorem dX4_put_12 : decode cX4_put 12 = .ok (.iadd, 1) := by decide +kernel
theorem dX4_put_13 : decode cX4_put 13 = .ok (.iload_n 3, 1) := by decide +kernel
theorem dX4_put_14 : decode cX4_put 14 = .ok (.iastore, 1) := by decide +kernel
theorem dX4_put_15 : decode cX4_put 15 = .ok (.return_, 1) := by decide +kernel
theorem dX4_ofSite_0 : decode cX4_ofSite 0 = .ok (.aload_n 0, 1) := by decide +kernel
theorem dX4_ofSite_1 : decode cX4_ofSite 1 = .ok (.getfield 7, 3) := by decide +kernel
theorem dX4_ofSite_4 : decode cX4_ofSite 4 = .ok (.bipush 19, 2) := by decide +kernel
theorem dX4_ofSite_6 : decode cX4_ofSite 6 = .ok (.iconst 4, 1) := by decide +kernel
theorem dX4_ofSite_7 : decode cX4_ofSite 7 = .ok (.iload_n 1, 1) := by decide +kernel
theorem dX4_ofSite_8 : decode cX4_ofSite 8 = .ok (.imul, 1) := by decide +kernel
theorem dX4_ofSite_9 : decode cX4_ofSite 9 = .ok (.iadd, 1) := by decide +kernel
theorem dX4_ofSite_10 : decode cX4_ofSite 10 = .ok (.iload_n 2, 1) := by decide +kernel
theorem dX4_ofSite_11 : decode cX4_ofSite 11 = .ok (.iadd, 1) := by decide +kernel
theorem dX4_ofSite_12 : decode cX4_ofSite 12 = .ok (.iaload, 1) := by decide +kernel
theorem dX4_ofSite_13 : decode cX4_ofSite 13 = .ok (.ireturn, 1) := by decide +kernel
theorem dX4_bill_0 : decode cX4_bill 0 = .ok (.aload_n 0, 1) := by decide +kernel
theorem dX4_bill_1 : decode cX4_bill 1 = .ok (.getfield 7, 3) := by decide +kernel
theorem dX4_bill_4 : decode cX4_bill 4 = .ok (.bipush 19, 2) := by decide +kernel
theorem dX4_bill_6 : decode cX4_bill 6 = .ok (.iconst 4, 1) := by decide +kernel
theorem dX4_bill_7 : decode cX4_bill 7 = .ok (.iload_n 1, 1) := by decide +kernel
theorem dX4_bill_8 : decode cX4_bill 8 = .ok (.imul, 1) := by decide +kernel
theorem dX4_bill_9 : decode cX4_bill 9 = .ok (.iadd, 1) := by decide +kernel
theorem dX4_bill_10 : decode cX4_bill 10 = .ok (.iload_n 2, 1) := by decide +kernel
theorem dX4_bill_11 : decode cX4_bill 11 = .ok (.iadd, 1) := by decide +kernel
theorem dX4_bill_12 : decode cX4_bill 12 = .ok (.dup2, 1) := by decide +kernel
theorem dX4_bill_13 : decode cX4_bill 13 = .ok (.iaload, 1) := by decide +kernel
theorem dX4_bill_14 : decode cX4_bill 14 = .ok (.iload_n 3, 1) := by decide +kernel
theorem dX4_bill_15 : decode cX4_bill 15 = .ok (.iadd, 1) := by decide +kernel
theorem dX4_bill_16 : decode cX4_bill 16 = .ok (.iastore, 1) := by decide +kernel
theorem dX4_bill_17 : decode cX4_bill 17 = .ok (.return_, 1) := by decide +kernel
theorem dX4_isSet_0 : decode cX4_isSet 0 = .ok (.iload_n 1, 1) := by decide +kernel
theorem dX4_isSet_1 : decode cX4_isSet 1 = .ok (.iconst 0, 1) := by decide +kernel
theorem dX4_isSet_2 : decode cX4_isSet 2 = .ok (.aload_n 0, 1) := by decide +kernel
theorem dX4_isSet_3 : decode cX4_isSet 3 = .ok (.getfield 7, 3) := by decide +kernel
theorem dX4_isSet_6 : decode cX4_isSet 6 = .ok (.iconst 3, 1) := by decide +kernel
theorem dX4_isSet_7 : decode cX4_isSet 7 = .ok (.iaload, 1) := by decide +kernel
theorem dX4_isSet_8 : decode cX4_isSet 8 = .ok (.iconst 1, 1) := by decide +kernel
theorem dX4_isSet_9 : decode cX4_isSet 9 = .ok (.isub, 1) := by decide +kernel
theorem dX4_isSet_10 : decode cX4_isSet 10 = .ok (.invokestatic 32, 3) := by decide +kernel
theorem dX4_isSet_13 : decode cX4_isSet 13 = .ok (.ireturn, 1) := by decide +kernel
theorem dX4_isSite_0 : decode cX4_isSite 0 = .ok (.iload_n 0, 1) := by decide +kernel
theorem dX4_isSite_1 : decode cX4_isSite 1 = .ok (.iconst 0, 1) := by decide +kernel
theorem dX4_isSite_2 : decode cX4_isSite 2 = .ok (.iconst 5, 1) := by decide +kernel
theorem dX4_isSite_3 : decode cX4_isSite 3 = .ok (.invokestatic 32, 3) := by decide +kernel
theorem dX4_isSite_6 : decode cX4_isSite 6 = .ok (.ireturn, 1) := by decide +kernel
theorem dX4_isKind_0 : decode cX4_isKind 0 = .ok (.iload_n 0, 1) := by decide +kernel
theorem dX4_isKind_1 : decode cX4_isKind 1 = .ok (.iconst 0, 1) := by decide +kernel
theorem dX4_isKind_2 : decode cX4_isKind 2 = .ok (.iconst 3, 1) := by decide +kernel
theorem dX4_isKind_3 : decode cX4_isKind 3 = .ok (.invokestatic 32, 3) := by decide +kernel
theorem dX4_isKind_6 : decode cX4_isKind 6 = .ok (.ireturn, 1) := by decide +kernel
theorem dX4_isInYard_0 : decode cX4_isInYard 0 = .ok (.aload_n 0, 1) := by decide +kernel
theorem dX4_isInYard_1 : decode cX4_isInYard 1 = .ok (.iload_n 1, 1) := by decide +kernel
theorem dX4_isInYard_2 : decode cX4_isInYard 2 = .ok (.iconst 0, 1) := by decide +kernel
theorem dX4_isInYard_3 : decode cX4_isInYard 3 = .ok (.invokevirtual 36, 3) := by decide +kernel
theorem dX4_isInYard_6 : decode cX4_isInYard 6 = .ok (.iconst (-1), 1) := by decide +kernel
theorem dX4_isInYard_7 : decode cX4_isInYard 7 = .ok (.if_icmp .ne 7, 3) := by decide +kernel
theorem dX4_isInYard_10 : decode cX4_isInYard 10 = .ok (.iconst 1, 1) := by decide +kernel
theorem dX4_isInYard_11 : decode cX4_isInYard 11 = .ok (.goto 4, 3) := by decide +kernel
theorem dX4_isInYard_14 : decode cX4_isInYard 14 = .ok (.iconst 0, 1) := by decide +kernel
theorem dX4_isInYard_15 : decode cX4_isInYard 15 = .ok (.ireturn, 1) := by decide +kernel
theorem dX4_isWhole_0 : decode cX4_isWhole 0 = .ok (.iconst 1, 1) := by decide +kernel
theorem dX4_isWhole_1 : decode cX4_isWhole 1 = .ok (.istore_n 2, 1) := by decide +kernel
theorem dX4_isWhole_2 : decode cX4_isWhole 2 = .ok (.iconst 0, 1) := by decide +kernel
theorem dX4_isWhole_3 : decode cX4_isWhole 3 = .ok (.istore_n 3, 1) := by decide +kernel
theorem dX4_isWhole_4 : decode cX4_isWhole 4 = .ok (.iload_n 3, 1) := by decide +kernel
theorem dX4_isWhole_5 : decode cX4_isWhole 5 = .ok (.iconst 4, 1) := by decide +kernel
theorem dX4_isWhole_6 : decode cX4_isWhole 6 = .ok (.if_icmp .ge 34, 3) := by decide +kernel
theorem dX4_isWhole_9 : decode cX4_isWhole 9 = .ok (.iload_n 2, 1) := by decide +kernel
theorem dX4_isWhole_10 : decode cX4_isWhole 10 = .ok (.ifCond .eq 22, 3) := by decide +kernel
theorem dX4_isWhole_13 : decode cX4_isWhole 13 = .ok (.aload_n 0, 1) := by decide +kernel
theorem dX4_isWhole_14 : decode cX4_isWhole 14 = .ok (.iload_n 1, 1) := by decide +kernel
theorem dX4_isWhole_15 : decode cX4_isWhole 15 = .ok (.iconst 2, 1) := by decide +kernel
theorem dX4_isWhole_16 : decode cX4_isWhole 16 = .ok (.iload_n 3, 1) := by decide +kernel
theorem dX4_isWhole_17 : decode cX4_isWhole 17 = .ok (.iadd, 1) := by decide +kernel
theorem dX4_isWhole_18 : decode cX4_isWhole 18 = .ok (.invokevirtual 36, 3) := by decide +kernel
theorem dX4_isWhole_21 : decode cX4_isWhole 21 = .ok (.iload_n 3, 1) := by decide +kernel
theorem dX4_isWhole_22 : decode cX4_isWhole 22 = .ok (.invokestatic 40, 3) := by decide +kernel
theorem dX4_isWhole_25 : decode cX4_isWhole 25 = .ok (.if_icmp .ne 7, 3) := by decide +kernel
theorem dX4_isWhole_28 : decode cX4_isWhole 28 = .ok (.iconst 1, 1) := by decide +kernel
theorem dX4_isWhole_29 : decode cX4_isWhole 29 = .ok (.goto 4, 3) := by decide +kernel
theorem dX4_isWhole_32 : decode cX4_isWhole 32 = .ok (.iconst 0, 1) := by decide +kernel
theorem dX4_isWhole_33 : decode cX4_isWhole 33 = .ok (.istore_n 2, 1) := by decide +kernel
theorem dX4_isWhole_34 : decode cX4_isWhole 34 = .ok (.iinc 3 1, 3) := by decide +kernel
theorem dX4_isWhole_37 : decode cX4_isWhole 37 = .ok (.goto (-33), 3) := by decide +kernel
theorem dX4_isWhole_40 : decode cX4_isWhole 40 = .ok (.iload_n 2, 1) := by decide +kernel
theorem dX4_isWhole_41 : decode cX4_isWhole 41 = .ok (.ireturn, 1) := by decide +kernel
theorem dX4_partsOf_0 : decode cX4_partsOf 0 = .ok (.iconst 0, 1) := by decide +kernel
theorem dX4_partsOf_1 : decode cX4_partsOf 1 = .ok (.istore_n 2, 1) := by decide +kernel
theorem dX4_partsOf_2 : decode cX4_partsOf 2 = .ok (.iconst 0, 1) := by decide +kernel
theorem dX4_partsOf_3 : decode cX4_partsOf 3 = .ok (.istore_n 3, 1) := by decide +kernel
theorem dX4_partsOf_4 : decode cX4_partsOf 4 = .ok (.iload_n 3, 1) := by decide +kernel
theorem dX4_partsOf_5 : decode cX4_partsOf 5 = .ok (.iconst 4, 1) := by decide +kernel
theorem dX4_partsOf_6 : decode cX4_partsOf 6 = .ok (.if_icmp .ge 20, 3) := by decide +kernel
theorem dX4_partsOf_9 : decode cX4_partsOf 9 = .ok (.iload_n 2, 1) := by decide +kernel
theorem dX4_partsOf_10 : decode cX4_partsOf 10 = .ok (.aload_n 0, 1) := by decide +kernel
theorem dX4_partsOf_11 : decode cX4_partsOf 11 = .ok (.iload_n 1, 1) := by decide +kernel
theorem dX4_partsOf_12 : decode cX4_partsOf 12 = .ok (.iconst 2, 1) := by decide +kernel
theorem dX4_partsOf_13 : decode cX4_partsOf 13 = .ok (.iload_n 3, 1) := by decide +kernel
theorem dX4_partsOf_14 : decode cX4_partsOf 14 = .ok (.iadd, 1) := by decide +kernel
theorem dX4_partsOf_15 : decode cX4_partsOf 15 = .ok (.invokevirtual 36, 3) := by decide +kernel
theorem dX4_partsOf_18 : decode cX4_partsOf 18 = .ok (.iadd, 1) := by decide +kernel
theorem dX4_partsOf_19 : decode cX4_partsOf 19 = .ok (.istore_n 2, 1) := by decide +kernel
theorem dX4_partsOf_20 : decode cX4_partsOf 20 = .ok (.iinc 3 1, 3) := by decide +kernel
theorem dX4_partsOf_23 : decode cX4_partsOf 23 = .ok (.goto (-19), 3) := by decide +kernel
theorem dX4_partsOf_26 : decode cX4_partsOf 26 = .ok (.iload_n 2, 1) := by decide +kernel
theorem dX4_partsOf_27 : decode cX4_partsOf 27 = .ok (.ireturn, 1) := by decide +kernel
theorem dX4_inYard_0 : decode cX4_inYard 0 = .ok (.iconst 0, 1) := by decide +kernel
theorem dX4_inYard_1 : decode cX4_inYard 1 = .ok (.istore_n 2, 1) := by decide +kernel
theorem dX4_inYard_2 : decode cX4_inYard 2 = .ok (.iconst 0, 1) := by decide +kernel
theorem dX4_inYard_3 : decode cX4_inYard 3 = .ok (.istore_n 3, 1) := by decide +kernel
theorem dX4_inYard_4 : decode cX4_inYard 4 = .ok (.iload_n 3, 1) := by decide +kernel
theorem dX4_inYard_5 : decode cX4_inYard 5 = .ok (.aload_n 0, 1) := by decide +kernel
theorem dX4_inYard_6 : decode cX4_inYard 6 = .ok (.getfield 7, 3) := by decide +kernel
theorem dX4_inYard_9 : decode cX4_inYard 9 = .ok (.iconst 3, 1) := by decide +kernel
theorem dX4_inYard_10 : decode cX4_inYard 10 = .ok (.iaload, 1) := by decide +kernel
theorem dX4_inYard_11 : decode cX4_inYard 11 = .ok (.if_icmp .ge 37, 3) := by decide +kernel
theorem dX4_inYard_14 : decode cX4_inYard 14 = .ok (.iload_n 2, 1) := by decide +kernel
theorem dX4_inYard_15 : decode cX4_inYard 15 = .ok (.aload_n 0, 1) := by decide +kernel
theorem dX4_inYard_16 : decode cX4_inYard 16 = .ok (.iload_n 3, 1) := by decide +kernel
theorem dX4_inYard_17 : decode cX4_inYard 17 = .ok (.invokevirtual 44, 3) := by decide +kernel
theorem dX4_inYard_20 : decode cX4_inYard 20 = .ok (.ifCond .eq 19, 3) := by decide +kernel
theorem dX4_inYard_23 : decode cX4_inYard 23 = .ok (.iload_n 1, 1) := by decide +kernel
theorem dX4_inYard_24 : decode cX4_inYard 24 = .ok (.ifCond .eq 11, 3) := by decide +kernel
theorem dX4_inYard_27 : decode cX4_inYard 27 = .ok (.aload_n 0, 1) := by decide +kernel
theorem dX4_inYard_28 : decode cX4_inYard 28 = .ok (.iload_n 3, 1) := by decide +kernel
theorem dX4_inYard_29 : decode cX4_inYard 29 = .ok (.invokevirtual 48, 3) := by decide +kernel
theorem dX4_inYard_32 : decode cX4_inYard 32 = .ok (.ifCond .eq 7, 3) := by decide +kernel
theorem dX4_inYard_35 : decode cX4_inYard 35 = .ok (.iconst 1, 1) := by decide +kernel
theorem dX4_inYard_36 : decode cX4_inYard 36 = .ok (.goto 4, 3) := by decide +kernel
theorem dX4_inYard_39 : decode cX4_inYard 39 = .ok (.iconst 0, 1) := by decide +kernel
theorem dX4_inYard_40 : decode cX4_inYard 40 = .ok (.iadd, 1) := by decide +kernel
theorem dX4_inYard_41 : decode cX4_inYard 41 = .ok (.istore_n 2, 1) := by decide +kernel
theorem dX4_inYard_42 : decode cX4_inYard 42 = .ok (.iinc 3 1, 3) := by decide +kernel
theorem dX4_inYard_45 : decode cX4_inYard 45 = .ok (.goto (-41), 3) := by decide +kernel
theorem dX4_inYard_48 : decode cX4_inYard 48 = .ok (.iload_n 2, 1) := by decide +kernel
theorem dX4_inYard_49 : decode cX4_inYard 49 = .ok (.ireturn, 1) := by decide +kernel
theorem dX4_areSets_0 : decode cX4_areSets 0 = .ok (.iload_n 0, 1) := by decide +kernel
theorem dX4_areSets_1 : decode cX4_areSets 1 = .ok (.iconst 1, 1) := by decide +kernel
theorem dX4_areSets_2 : decode cX4_areSets 2 = .ok (.bipush 24, 2) := by decide +kernel
theorem dX4_areSets_4 : decode cX4_areSets 4 = .ok (.invokestatic 32, 3) := by decide +kernel
theorem dX4_areSets_7 : decode cX4_areSets 7 = .ok (.ireturn, 1) := by decide +kernel
theorem dX4_buySets_0 : decode cX4_buySets 0 = .ok (.aload_n 0, 1) := by decide +kernel
theorem dX4_buySets_1 : decode cX4_buySets 1 = .ok (.iload_n 1, 1) := by decide +kernel
theorem dX4_buySets_2 : decode cX4_buySets 2 = .ok (.invokestatic 51, 3) := by decide +kernel
theorem dX4_buySets_5 : decode cX4_buySets 5 = .ok (.ifCond .ne 7, 3) := by decide +kernel
theorem dX4_buySets_8 : decode cX4_buySets 8 = .ok (.iconst 1, 1) := by decide +kernel
theorem dX4_buySets_9 : decode cX4_buySets 9 = .ok (.goto 21, 3) := by decide +kernel
theorem dX4_buySets_12 : decode cX4_buySets 12 = .ok (.aload_n 0, 1) := by decide +kernel
theorem dX4_buySets_13 : decode cX4_buySets 13 = .ok (.getfield 7, 3) := by decide +kernel
theorem dX4_buySets_16 : decode cX4_buySets 16 = .ok (.iconst 3, 1) := by decide +kernel
theorem dX4_buySets_17 : decode cX4_buySets 17 = .ok (.iaload, 1) := by decide +kernel
theorem dX4_buySets_18 : decode cX4_buySets 18 = .ok (.iload_n 1, 1) := by decide +kernel
theorem dX4_buySets_19 : decode cX4_buySets 19 = .ok (.iadd, 1) := by decide +kernel
theorem dX4_buySets_20 : decode cX4_buySets 20 = .ok (.bipush 24, 2) := by decide +kernel
theorem dX4_buySets_22 : decode cX4_buySets 22 = .ok (.if_icmp .le 7, 3) := by decide +kernel
theorem dX4_buySets_25 : decode cX4_buySets 25 = .ok (.iconst 2, 1) := by decide +kernel
theorem dX4_buySets_26 : decode cX4_buySets 26 = .ok (.goto 4, 3) := by decide +kernel
theorem dX4_buySets_29 : decode cX4_buySets 29 = .ok (.iconst 0, 1) := by decide +kernel
theorem dX4_buySets_30 : decode cX4_buySets 30 = .ok (.putfield 25, 3) := by decide +kernel
theorem dX4_buySets_33 : decode cX4_buySets 33 = .ok (.aload_n 0, 1) := by decide +kernel
theorem dX4_buySets_34 : decode cX4_buySets 34 = .ok (.getfield 25, 3) := by decide +kernel
theorem dX4_buySets_37 : decode cX4_buySets 37 = .ok (.ifCond .le 5, 3) := by decide +kernel
theorem dX4_buySets_40 : decode cX4_buySets 40 = .ok (.iconst 0, 1) := by decide +kernel
theorem dX4_buySets_41 : decode cX4_buySets 41 = .ok (.ireturn, 1) := by decide +kernel
theorem dX4_buySets_42 : decode cX4_buySets 42 = .ok (.aload_n 0, 1) := by decide +kernel
theorem dX4_buySets_43 : decode cX4_buySets 43 = .ok (.invokevirtual 54, 3) := by decide +kernel
theorem dX4_buySets_46 : decode cX4_buySets 46 = .ok (.iconst 0, 1) := by decide +kernel
theorem dX4_buySets_47 : decode cX4_buySets 47 = .ok (.istore_n 2, 1) := by decide +kernel
theorem dX4_buySets_48 : decode cX4_buySets 48 = .ok (.iload_n 2, 1) := by decide +kernel
theorem dX4_buySets_49 : decode cX4_buySets 49 = .ok (.iload_n 1, 1) := by decide +kernel
theorem dX4_buySets_50 : decode cX4_buySets 50 = .ok (.if_icmp .ge 142, 3) := by decide +kernel
theorem dX4_buySets_53 : decode cX4_buySets 53 = .ok (.aload_n 0, 1) := by decide +kernel
theorem dX4_buySets_54 : decode cX4_buySets 54 = .ok (.getfield 7, 3) := by decide +kernel
theorem dX4_buySets_57 : decode cX4_buySets 57 = .ok (.iconst 3, 1) := by decide +kernel
theorem dX4_buySets_58 : decode cX4_buySets 58 = .ok (.iaload, 1) := by decide +kernel
theorem dX4_buySets_59 : decode cX4_buySets 59 = .ok (.istore_n 3, 1) := by decide +kernel
theorem dX4_buySets_60 : decode cX4_buySets 60 = .ok (.aload_n 0, 1) := by decide +kernel
theorem dX4_buySets_61 : decode cX4_buySets 61 = .ok (.getfield 7, 3) := by decide +kernel
theorem dX4_buySets_64 : decode cX4_buySets 64 = .ok (.iconst 3, 1) := by decide +kernel
theorem dX4_buySets_65 : decode cX4_buySets 65 = .ok (.dup2, 1) := by decide +kernel
theorem dX4_buySets_66 : decode cX4_buySets 66 = .ok (.iaload, 1) := by decide +kernel
theorem dX4_buySets_67 : decode cX4_buySets 67 = .ok (.iconst 1, 1) := by decide +kernel
theorem dX4_buySets_68 : decode cX4_buySets 68 = .ok (.iadd, 1) := by decide +kernel
theorem dX4_buySets_69 : decode cX4_buySets 69 = .ok (.iastore, 1) := by decide +kernel
theorem dX4_buySets_70 : decode cX4_buySets 70 = .ok (.aload_n 0, 1) := by decide +kernel
theorem dX4_buySets_71 : decode cX4_buySets 71 = .ok (.iload_n 3, 1) := by decide +kernel
theorem dX4_buySets_72 : decode cX4_buySets 72 = .ok (.iconst 0, 1) := by decide +kernel
theorem dX4_buySets_73 : decode cX4_buySets 73 = .ok (.iconst (-1), 1) := by decide +kernel
theorem dX4_buySets_74 : decode cX4_buySets 74 = .ok (.invokevirtual 57, 3) := by decide +kernel
theorem dX4_buySets_77 : decode cX4_buySets 77 = .ok (.aload_n 0, 1) := by decide +kernel
theorem dX4_buySets_78 : decode cX4_buySets 78 = .ok (.iload_n 3, 1) := by decide +kernel
theorem dX4_buySets_79 : decode cX4_buySets 79 = .ok (.iconst 1, 1) := by decide +kernel
theorem dX4_buySets_80 : decode cX4_buySets 80 = .ok (.iconst 0, 1) := by decide +kernel
theorem dX4_buySets_81 : decode cX4_buySets 81 = .ok (.invokevirtual 57, 3) := by decide +kernel
theorem dX4_buySets_84 : decode cX4_buySets 84 = .ok (.aload_n 0, 1) := by decide +kernel
theorem dX4_buySets_85 : decode cX4_buySets 85 = .ok (.iload_n 3, 1) := by decide +kernel
theorem dX4_buySets_86 : decode cX4_buySets 86 = .ok (.bipush 9, 2) := by decide +kernel
theorem dX4_buySets_88 : decode cX4_buySets 88 = .ok (.iconst 0, 1) := by decide +kernel
theorem dX4_buySets_89 : decode cX4_buySets 89 = .ok (.invokevirtual 57, 3) := by decide +kernel
theorem dX4_buySets_92 : decode cX4_buySets 92 = .ok (.iconst 0, 1) := by decide +kernel
theorem dX4_buySets_93 : decode cX4_buySets 93 = .ok (.istore 4, 2) := by decide +kernel
theorem dX4_buySets_95 : decode cX4_buySets 95 = .ok (.iload 4, 2) := by decide +kernel
theorem dX4_buySets_97 : decode cX4_buySets 97 = .ok (.iconst 4, 1) := by decide +kernel
theorem dX4_buySets_98 : decode cX4_buySets 98 = .ok (.if_icmp .ge 62, 3) := by decide +kernel
theorem dX4_buySets_101 : decode cX4_buySets 101 = .ok (.aload_n 0, 1) := by decide +kernel
theorem dX4_buySets_102 : decode cX4_buySets 102 = .ok (.iload_n 3, 1) := by decide +kernel
theorem dX4_buySets_103 : decode cX4_buySets 103 = .ok (.iconst 2, 1) := by decide +kernel
theorem dX4_buySets_104 : decode cX4_buySets 104 = .ok (.iload 4, 2) := by decide +kernel
theorem dX4_buySets_106 : decode cX4_buySets 106 = .ok (.iadd, 1) := by decide +kernel
theorem dX4_buySets_107 : decode cX4_buySets 107 = .ok (.iload 4, 2) := by decide +kernel
theorem dX4_buySets_109 : decode cX4_buySets 109 = .ok (.invokestatic 40, 3) := by decide +kernel
theorem dX4_buySets_112 : decode cX4_buySets 112 = .ok (.invokevirtual 57, 3) := by decide +kernel
theorem dX4_buySets_115 : decode cX4_buySets 115 = .ok (.aload_n 0, 1) := by decide +kernel
theorem dX4_buySets_116 : decode cX4_buySets 116 = .ok (.getfield 7, 3) := by decide +kernel
theorem dX4_buySets_119 : decode cX4_buySets 119 = .ok (.bipush 15, 2) := by decide +kernel
theorem dX4_buySets_121 : decode cX4_buySets 121 = .ok (.iload 4, 2) := by decide +kernel
theorem dX4_buySets_123 : decode cX4_buySets 123 = .ok (.iadd, 1) := by decide +kernel
theorem dX4_buySets_124 : decode cX4_buySets 124 = .ok (.dup2, 1) := by decide +kernel
theorem dX4_buySets_125 : decode cX4_buySets 125 = .ok (.iaload, 1) := by decide +kernel
theorem dX4_buySets_126 : decode cX4_buySets 126 = .ok (.iload 4, 2) := by decide +kernel
theorem dX4_buySets_128 : decode cX4_buySets 128 = .ok (.invokestatic 40, 3) := by decide +kernel
theorem dX4_buySets_131 : decode cX4_buySets 131 = .ok (.iadd, 1) := by decide +kernel
theorem dX4_buySets_132 : decode cX4_buySets 132 = .ok (.iastore, 1) := by decide +kernel
theorem dX4_buySets_133 : decode cX4_buySets 133 = .ok (.aload_n 0, 1) := by decide +kernel
theorem dX4_buySets_134 : decode cX4_buySets 134 = .ok (.getfield 7, 3) := by decide +kernel
theorem dX4_buySets_137 : decode cX4_buySets 137 = .ok (.bipush 6, 2) := by decide +kernel
theorem dX4_buySets_139 : decode cX4_buySets 139 = .ok (.dup2, 1) := by decide +kernel
theorem dX4_buySets_140 : decode cX4_buySets 140 = .ok (.iaload, 1) := by decide +kernel
theorem dX4_buySets_141 : decode cX4_buySets 141 = .ok (.iload 4, 2) := by decide +kernel
theorem dX4_buySets_143 : decode cX4_buySets 143 = .ok (.invokestatic 40, 3) := by decide +kernel
theorem dX4_buySets_146 : decode cX4_buySets 146 = .ok (.iload 4, 2) := by decide +kernel
theorem dX4_buySets_148 : decode cX4_buySets 148 = .ok (.invokestatic 61, 3) := by decide +kernel
theorem dX4_buySets_151 : decode cX4_buySets 151 = .ok (.imul, 1) := by decide +kernel
theorem dX4_buySets_152 : decode cX4_buySets 152 = .ok (.iadd, 1) := by decide +kernel
theorem dX4_buySets_153 : decode cX4_buySets 153 = .ok (.iastore, 1) := by decide +kernel
theorem dX4_buySets_154 : decode cX4_buySets 154 = .ok (.iinc 4 1, 3) := by decide +kernel
theorem dX4_buySets_157 : decode cX4_buySets 157 = .ok (.goto (-62), 3) := by decide +kernel
theorem dX4_buySets_160 : decode cX4_buySets 160 = .ok (.iconst 0, 1) := by decide +kernel
theorem dX4_buySets_161 : decode cX4_buySets 161 = .ok (.istore 4, 2) := by decide +kernel
theorem dX4_buySets_163 : decode cX4_buySets 163 = .ok (.iload 4, 2) := by decide +kernel
theorem dX4_buySets_165 : decode cX4_buySets 165 = .ok (.iconst 3, 1) := by decide +kernel
theorem dX4_buySets_166 : decode cX4_buySets 166 = .ok (.if_icmp .ge 20, 3) := by decide +kernel
theorem dX4_buySets_169 : decode cX4_buySets 169 = .ok (.aload_n 0, 1) := by decide +kernel
theorem dX4_buySets_170 : decode cX4_buySets 170 = .ok (.iload_n 3, 1) := by decide +kernel
theorem dX4_buySets_171 : decode cX4_buySets 171 = .ok (.bipush 6, 2) := by decide +kernel
theorem dX4_buySets_173 : decode cX4_buySets 173 = .ok (.iload 4, 2) := by decide +kernel
theorem dX4_buySets_175 : decode cX4_buySets 175 = .ok (.iadd, 1) := by decide +kernel
theorem dX4_buySets_176 : decode cX4_buySets 176 = .ok (.iconst (-1), 1) := by decide +kernel
theorem dX4_buySets_177 : decode cX4_buySets 177 = .ok (.invokevirtual 57, 3) := by decide +kernel
theorem dX4_buySets_180 : decode cX4_buySets 180 = .ok (.iinc 4 1, 3) := by decide +kernel
theorem dX4_buySets_183 : decode cX4_buySets 183 = .ok (.goto (-20), 3) := by decide +kernel
theorem dX4_buySets_186 : decode cX4_buySets 186 = .ok (.iinc 2 1, 3) := by decide +kernel
theorem dX4_buySets_189 : decode cX4_buySets 189 = .ok (.goto (-141), 3) := by decide +kernel
theorem dX4_buySets_192 : decode cX4_buySets 192 = .ok (.aload_n 0, 1) := by decide +kernel
theorem dX4_buySets_193 : decode cX4_buySets 193 = .ok (.getfield 7, 3) := by decide +kernel
theorem dX4_buySets_196 : decode cX4_buySets 196 = .ok (.iconst 3, 1) := by decide +kernel
theorem dX4_buySets_197 : decode cX4_buySets 197 = .ok (.iaload, 1) := by decide +kernel
theorem dX4_buySets_198 : decode cX4_buySets 198 = .ok (.ireturn, 1) := by decide +kernel
theorem dX4_buySpare_0 : decode cX4_buySpare 0 = .ok (.aload_n 0, 1) := by decide +kernel
theorem dX4_buySpare_1 : decode cX4_buySpare 1 = .ok (.iload_n 1, 1) := by decide +kernel
theorem dX4_buySpare_2 : decode cX4_buySpare 2 = .ok (.invokestatic 64, 3) := by decide +kernel
theorem dX4_buySpare_5 : decode cX4_buySpare 5 = .ok (.ifCond .ne 7, 3) := by decide +kernel
theorem dX4_buySpare_8 : decode cX4_buySpare 8 = .ok (.iconst 1, 1) := by decide +kernel
theorem dX4_buySpare_9 : decode cX4_buySpare 9 = .ok (.goto 40, 3) := by decide +kernel
theorem dX4_buySpare_12 : decode cX4_buySpare 12 = .ok (.iload_n 2, 1) := by decide +kernel
theorem dX4_buySpare_13 : decode cX4_buySpare 13 = .ok (.iconst 1, 1) := by decide +kernel
theorem dX4_buySpare_14 : decode cX4_buySpare 14 = .ok (.sipush 200, 3) := by decide +kernel
theorem dX4_buySpare_17 : decode cX4_buySpare 17 = .ok (.invokestatic 32, 3) := by decide +kernel
theorem dX4_buySpare_20 : decode cX4_buySpare 20 = .ok (.ifCond .ne 7, 3) := by decide +kernel
theorem dX4_buySpare_23 : decode cX4_buySpare 23 = .ok (.iconst 2, 1) := by decide +kernel
theorem dX4_buySpare_24 : decode cX4_buySpare 24 = .ok (.goto 25, 3) := by decide +kernel
theorem dX4_buySpare_27 : decode cX4_buySpare 27 = .ok (.aload_n 0, 1) := by decide +kernel
theorem dX4_buySpare_28 : decode cX4_buySpare 28 = .ok (.getfield 7, 3) := by decide +kernel
theorem dX4_buySpare_31 : decode cX4_buySpare 31 = .ok (.bipush 7, 2) := by decide +kernel
theorem dX4_buySpare_33 : decode cX4_buySpare 33 = .ok (.iload_n 1, 1) := by decide +kernel
theorem dX4_buySpare_34 : decode cX4_buySpare 34 = .ok (.iadd, 1) := by decide +kernel
theorem dX4_buySpare_35 : decode cX4_buySpare 35 = .ok (.iaload, 1) := by decide +kernel
theorem dX4_buySpare_36 : decode cX4_buySpare 36 = .ok (.iload_n 2, 1) := by decide +kernel
theorem dX4_buySpare_37 : decode cX4_buySpare 37 = .ok (.iadd, 1) := by decide +kernel
theorem dX4_buySpare_38 : decode cX4_buySpare 38 = .ok (.sipush 999, 3) := by decide +kernel
theorem dX4_buySpare_41 : decode cX4_buySpare 41 = .ok (.if_icmp .le 7, 3) := by decide +kernel
theorem dX4_buySpare_44 : decode cX4_buySpare 44 = .ok (.iconst 3, 1) := by decide +kernel
theorem dX4_buySpare_45 : decode cX4_buySpare 45 = .ok (.goto 4, 3) := by decide +kernel
theorem dX4_buySpare_48 : decode cX4_buySpare 48 = .ok (.iconst 0, 1) := by decide +kernel
theorem dX4_buySpare_49 : decode cX4_buySpare 49 = .ok (.putfield 25, 3) := by decide +kernel
theorem dX4_buySpare_52 : decode cX4_buySpare 52 = .ok (.aload_n 0, 1) := by decide +kernel
theorem dX4_buySpare_53 : decode cX4_buySpare 53 = .ok (.getfield 25, 3) := by decide +kernel
theorem dX4_buySpare_56 : decode cX4_buySpare 56 = .ok (.ifCond .le 5, 3) := by decide +kernel
theorem dX4_buySpare_59 : decode cX4_buySpare 59 = .ok (.iconst 0, 1) := by decide +kernel
theorem dX4_buySpare_60 : decode cX4_buySpare 60 = .ok (.ireturn, 1) := by decide +kernel
theorem dX4_buySpare_61 : decode cX4_buySpare 61 = .ok (.aload_n 0, 1) := by decide +kernel
theorem dX4_buySpare_62 : decode cX4_buySpare 62 = .ok (.invokevirtual 54, 3) := by decide +kernel
theorem dX4_buySpare_65 : decode cX4_buySpare 65 = .ok (.aload_n 0, 1) := by decide +kernel
theorem dX4_buySpare_66 : decode cX4_buySpare 66 = .ok (.getfield 7, 3) := by decide +kernel
theorem dX4_buySpare_69 : decode cX4_buySpare 69 = .ok (.bipush 7, 2) := by decide +kernel
theorem dX4_buySpare_71 : decode cX4_buySpare 71 = .ok (.iload_n 1, 1) := by decide +kernel
theorem dX4_buySpare_72 : decode cX4_buySpare 72 = .ok (.iadd, 1) := by decide +kernel
theorem dX4_buySpare_73 : decode cX4_buySpare 73 = .ok (.dup2, 1) := by decide +kernel
theorem dX4_buySpare_74 : decode cX4_buySpare 74 = .ok (.iaload, 1) := by decide +kernel
theorem dX4_buySpare_75 : decode cX4_buySpare 75 = .ok (.iload_n 2, 1) := by decide +kernel
theorem dX4_buySpare_76 : decode cX4_buySpare 76 = .ok (.iadd, 1) := by decide +kernel
theorem dX4_buySpare_77 : decode cX4_buySpare 77 = .ok (.iastore, 1) := by decide +kernel
theorem dX4_buySpare_78 : decode cX4_buySpare 78 = .ok (.aload_n 0, 1) := by decide +kernel
theorem dX4_buySpare_79 : decode cX4_buySpare 79 = .ok (.getfield 7, 3) := by decide +kernel
theorem dX4_buySpare_82 : decode cX4_buySpare 82 = .ok (.bipush 15, 2) := by decide +kernel
theorem dX4_buySpare_84 : decode cX4_buySpare 84 = .ok (.iload_n 1, 1) := by decide +kernel
theorem dX4_buySpare_85 : decode cX4_buySpare 85 = .ok (.iadd, 1) := by decide +kernel
theorem dX4_buySpare_86 : decode cX4_buySpare 86 = .ok (.dup2, 1) := by decide +kernel
theorem dX4_buySpare_87 : decode cX4_buySpare 87 = .ok (.iaload, 1) := by decide +kernel
theorem dX4_buySpare_88 : decode cX4_buySpare 88 = .ok (.iload_n 2, 1) := by decide +kernel
theorem dX4_buySpare_89 : decode cX4_buySpare 89 = .ok (.iadd, 1) := by decide +kernel
theorem dX4_buySpare_90 : decode cX4_buySpare 90 = .ok (.iastore, 1) := by decide +kernel
theorem dX4_buySpare_91 : decode cX4_buySpare 91 = .ok (.aload_n 0, 1) := by decide +kernel
theorem dX4_buySpare_92 : decode cX4_buySpare 92 = .ok (.getfield 7, 3) := by decide +kernel
theorem dX4_buySpare_95 : decode cX4_buySpare 95 = .ok (.bipush 6, 2) := by decide +kernel
theorem dX4_buySpare_97 : decode cX4_buySpare 97 = .ok (.dup2, 1) := by decide +kernel
theorem dX4_buySpare_98 : decode cX4_buySpare 98 = .ok (.iaload, 1) := by decide +kernel
theorem dX4_buySpare_99 : decode cX4_buySpare 99 = .ok (.iload_n 2, 1) := by decide +kernel
theorem dX4_buySpare_100 : decode cX4_buySpare 100 = .ok (.iload_n 1, 1) := by decide +kernel
theorem dX4_buySpare_101 : decode cX4_buySpare 101 = .ok (.invokestatic 61, 3) := by decide +kernel
theorem dX4_buySpare_104 : decode cX4_buySpare 104 = .ok (.imul, 1) := by decide +kernel
theorem dX4_buySpare_105 : decode cX4_buySpare 105 = .ok (.iadd, 1) := by decide +kernel
theorem dX4_buySpare_106 : decode cX4_buySpare 106 = .ok (.iastore, 1) := by decide +kernel
theorem dX4_buySpare_107 : decode cX4_buySpare 107 = .ok (.aload_n 0, 1) := by decide +kernel
theorem dX4_buySpare_108 : decode cX4_buySpare 108 = .ok (.getfield 7, 3) := by decide +kernel
theorem dX4_buySpare_111 : decode cX4_buySpare 111 = .ok (.bipush 7, 2) := by decide +kernel
theorem dX4_buySpare_113 : decode cX4_buySpare 113 = .ok (.iload_n 1, 1) := by decide +kernel
theorem dX4_buySpare_114 : decode cX4_buySpare 114 = .ok (.iadd, 1) := by decide +kernel
theorem dX4_buySpare_115 : decode cX4_buySpare 115 = .ok (.iaload, 1) := by decide +kernel
theorem dX4_buySpare_116 : decode cX4_buySpare 116 = .ok (.ireturn, 1) := by decide +kernel
theorem dX4_repair_0 : decode cX4_repair 0 = .ok (.aload_n 0, 1) := by decide +kernel
theorem dX4_repair_1 : decode cX4_repair 1 = .ok (.aload_n 0, 1) := by decide +kernel
theorem dX4_repair_2 : decode cX4_repair 2 = .ok (.iload_n 1, 1) := by decide +kernel
theorem dX4_repair_3 : decode cX4_repair 3 = .ok (.invokevirtual 67, 3) := by decide +kernel
theorem dX4_repair_6 : decode cX4_repair 6 = .ok (.ifCond .ne 7, 3) := by decide +kernel
theorem dX4_repair_9 : decode cX4_repair 9 = .ok (.iconst 1, 1) := by decide +kernel
theorem dX4_repair_10 : decode cX4_repair 10 = .ok (.goto 16, 3) := by decide +kernel
theorem dX4_repair_13 : decode cX4_repair 13 = .ok (.aload_n 0, 1) := by decide +kernel
theorem dX4_repair_14 : decode cX4_repair 14 = .ok (.iload_n 1, 1) := by decide +kernel
theorem dX4_repair_15 : decode cX4_repair 15 = .ok (.invokevirtual 44, 3) := by decide +kernel
theorem dX4_repair_18 : decode cX4_repair 18 = .ok (.ifCond .eq 7, 3) := by decide +kernel
theorem dX4_repair_21 : decode cX4_repair 21 = .ok (.iconst 0, 1) := by decide +kernel
theorem dX4_repair_22 : decode cX4_repair 22 = .ok (.goto 4, 3) := by decide +kernel
theorem dX4_repair_25 : decode cX4_repair 25 = .ok (.iconst 2, 1) := by decide +kernel
theorem dX4_repair_26 : decode cX4_repair 26 = .ok (.putfield 25, 3) := by decide +kernel
theorem dX4_repair_29 : decode cX4_repair 29 = .ok (.aload_n 0, 1) := by decide +kernel
theorem dX4_repair_30 : decode cX4_repair 30 = .ok (.getfield 25, 3) := by decide +kernel
theorem dX4_repair_33 : decode cX4_repair 33 = .ok (.ifCond .le 5, 3) := by decide +kernel
theorem dX4_repair_36 : decode cX4_repair 36 = .ok (.iconst 0, 1) := by decide +kernel
theorem dX4_repair_37 : decode cX4_repair 37 = .ok (.ireturn, 1) := by decide +kernel
theorem dX4_repair_38 : decode cX4_repair 38 = .ok (.aload_n 0, 1) := by decide +kernel
theorem dX4_repair_39 : decode cX4_repair 39 = .ok (.invokevirtual 54, 3) := by decide +kernel
theorem dX4_repair_42 : decode cX4_repair 42 = .ok (.iconst 0, 1) := by decide +kernel
theorem dX4_repair_43 : decode cX4_repair 43 = .ok (.istore_n 2, 1) := by decide +kernel
theorem dX4_repair_44 : decode cX4_repair 44 = .ok (.iconst 0, 1) := by decide +kernel
theorem dX4_repair_45 : decode cX4_repair 45 = .ok (.istore_n 3, 1) := by decide +kernel
theorem dX4_repair_46 : decode cX4_repair 46 = .ok (.iload_n 3, 1) := by decide +kernel
theorem dX4_repair_47 : decode cX4_repair 47 = .ok (.iconst 4, 1) := by decide +kernel
theorem dX4_repair_48 : decode cX4_repair 48 = .ok (.if_icmp .ge 92, 3) := by decide +kernel
theorem dX4_repair_51 : decode cX4_repair 51 = .ok (.iload_n 3, 1) := by decide +kernel
theorem dX4_repair_52 : decode cX4_repair 52 = .ok (.invokestatic 40, 3) := by decide +kernel
theorem dX4_repair_55 : decode cX4_repair 55 = .ok (.aload_n 0, 1) := by decide +kernel
theorem dX4_repair_56 : decode cX4_repair 56 = .ok (.iload_n 1, 1) := by decide +kernel
theorem dX4_repair_57 : decode cX4_repair 57 = .ok (.iconst 2, 1) := by decide +kernel
theorem dX4_repair_58 : decode cX4_repair 58 = .ok (.iload_n 3, 1) := by decide +kernel
theorem dX4_repair_59 : decode cX4_repair 59 = .ok (.iadd, 1) := by decide +kernel
theorem dX4_repair_60 : decode cX4_repair 60 = .ok (.invokevirtual 36, 3) := by decide +kernel
theorem dX4_repair_63 : decode cX4_repair 63 = .ok (.isub, 1) := by decide +kernel
theorem dX4_repair_64 : decode cX4_repair 64 = .ok (.istore 4, 2) := by decide +kernel
theorem dX4_repair_66 : decode cX4_repair 66 = .ok (.iload 4, 2) := by decide +kernel
theorem dX4_repair_68 : decode cX4_repair 68 = .ok (.aload_n 0, 1) := by decide +kernel
theorem dX4_repair_69 : decode cX4_repair 69 = .ok (.getfield 7, 3) := by decide +kernel
theorem dX4_repair_72 : decode cX4_repair 72 = .ok (.bipush 7, 2) := by decide +kernel
theorem dX4_repair_74 : decode cX4_repair 74 = .ok (.iload_n 3, 1) := by decide +kernel
theorem dX4_repair_75 : decode cX4_repair 75 = .ok (.iadd, 1) := by decide +kernel
theorem dX4_repair_76 : decode cX4_repair 76 = .ok (.iaload, 1) := by decide +kernel
theorem dX4_repair_77 : decode cX4_repair 77 = .ok (.if_icmp .ge 8, 3) := by decide +kernel
theorem dX4_repair_80 : decode cX4_repair 80 = .ok (.iload 4, 2) := by decide +kernel
theorem dX4_repair_82 : decode cX4_repair 82 = .ok (.goto 12, 3) := by decide +kernel
theorem dX4_repair_85 : decode cX4_repair 85 = .ok (.aload_n 0, 1) := by decide +kernel
theorem dX4_repair_86 : decode cX4_repair 86 = .ok (.getfield 7, 3) := by decide +kernel
theorem dX4_repair_89 : decode cX4_repair 89 = .ok (.bipush 7, 2) := by decide +kernel
theorem dX4_repair_91 : decode cX4_repair 91 = .ok (.iload_n 3, 1) := by decide +kernel
theorem dX4_repair_92 : decode cX4_repair 92 = .ok (.iadd, 1) := by decide +kernel
theorem dX4_repair_93 : decode cX4_repair 93 = .ok (.iaload, 1) := by decide +kernel
theorem dX4_repair_94 : decode cX4_repair 94 = .ok (.istore 5, 2) := by decide +kernel
theorem dX4_repair_96 : decode cX4_repair 96 = .ok (.aload_n 0, 1) := by decide +kernel
theorem dX4_repair_97 : decode cX4_repair 97 = .ok (.getfield 7, 3) := by decide +kernel
theorem dX4_repair_100 : decode cX4_repair 100 = .ok (.bipush 7, 2) := by decide +kernel
theorem dX4_repair_102 : decode cX4_repair 102 = .ok (.iload_n 3, 1) := by decide +kernel
theorem dX4_repair_103 : decode cX4_repair 103 = .ok (.iadd, 1) := by decide +kernel
theorem dX4_repair_104 : decode cX4_repair 104 = .ok (.dup2, 1) := by decide +kernel
theorem dX4_repair_105 : decode cX4_repair 105 = .ok (.iaload, 1) := by decide +kernel
theorem dX4_repair_106 : decode cX4_repair 106 = .ok (.iload 5, 2) := by decide +kernel
theorem dX4_repair_108 : decode cX4_repair 108 = .ok (.isub, 1) := by decide +kernel
theorem dX4_repair_109 : decode cX4_repair 109 = .ok (.iastore, 1) := by decide +kernel
theorem dX4_repair_110 : decode cX4_repair 110 = .ok (.aload_n 0, 1) := by decide +kernel
theorem dX4_repair_111 : decode cX4_repair 111 = .ok (.iload_n 1, 1) := by decide +kernel
theorem dX4_repair_112 : decode cX4_repair 112 = .ok (.iconst 2, 1) := by decide +kernel
theorem dX4_repair_113 : decode cX4_repair 113 = .ok (.iload_n 3, 1) := by decide +kernel
theorem dX4_repair_114 : decode cX4_repair 114 = .ok (.iadd, 1) := by decide +kernel
theorem dX4_repair_115 : decode cX4_repair 115 = .ok (.aload_n 0, 1) := by decide +kernel
theorem dX4_repair_116 : decode cX4_repair 116 = .ok (.iload_n 1, 1) := by decide +kernel
theorem dX4_repair_117 : decode cX4_repair 117 = .ok (.iconst 2, 1) := by decide +kernel
theorem dX4_repair_118 : decode cX4_repair 118 = .ok (.iload_n 3, 1) := by decide +kernel
theorem dX4_repair_119 : decode cX4_repair 119 = .ok (.iadd, 1) := by decide +kernel
theorem dX4_repair_120 : decode cX4_repair 120 = .ok (.invokevirtual 36, 3) := by decide +kernel
theorem dX4_repair_123 : decode cX4_repair 123 = .ok (.iload 5, 2) := by decide +kernel
theorem dX4_repair_125 : decode cX4_repair 125 = .ok (.iadd, 1) := by decide +kernel
theorem dX4_repair_126 : decode cX4_repair 126 = .ok (.invokevirtual 57, 3) := by decide +kernel
theorem dX4_repair_129 : decode cX4_repair 129 = .ok (.iload_n 2, 1) := by decide +kernel
theorem dX4_repair_130 : decode cX4_repair 130 = .ok (.iload 5, 2) := by decide +kernel
theorem dX4_repair_132 : decode cX4_repair 132 = .ok (.iadd, 1) := by decide +kernel
theorem dX4_repair_133 : decode cX4_repair 133 = .ok (.istore_n 2, 1) := by decide +kernel
theorem dX4_repair_134 : decode cX4_repair 134 = .ok (.iinc 3 1, 3) := by decide +kernel
theorem dX4_repair_137 : decode cX4_repair 137 = .ok (.goto (-91), 3) := by decide +kernel
theorem dX4_repair_140 : decode cX4_repair 140 = .ok (.iload_n 2, 1) := by decide +kernel
theorem dX4_repair_141 : decode cX4_repair 141 = .ok (.ireturn, 1) := by decide +kernel
theorem dX4_usersOf_0 : decode cX4_usersOf 0 = .ok (.iconst 0, 1) := by decide +kernel
theorem dX4_usersOf_1 : decode cX4_usersOf 1 = .ok (.istore_n 2, 1) := by decide +kernel
theorem dX4_usersOf_2 : decode cX4_usersOf 2 = .ok (.iconst 0, 1) := by decide +kernel
theorem dX4_usersOf_3 : decode cX4_usersOf 3 = .ok (.istore_n 3, 1) := by decide +kernel
theorem dX4_usersOf_4 : decode cX4_usersOf 4 = .ok (.iload_n 3, 1) := by decide +kernel
theorem dX4_usersOf_5 : decode cX4_usersOf 5 = .ok (.iconst 3, 1) := by decide +kernel
theorem dX4_usersOf_6 : decode cX4_usersOf 6 = .ok (.if_icmp .ge 30, 3) := by decide +kernel
theorem dX4_usersOf_9 : decode cX4_usersOf 9 = .ok (.iload_n 2, 1) := by decide +kernel
theorem dX4_usersOf_10 : decode cX4_usersOf 10 = .ok (.aload_n 0, 1) := by decide +kernel
theorem dX4_usersOf_11 : decode cX4_usersOf 11 = .ok (.iload_n 1, 1) := by decide +kernel
theorem dX4_usersOf_12 : decode cX4_usersOf 12 = .ok (.bipush 6, 2) := by decide +kernel
theorem dX4_usersOf_14 : decode cX4_usersOf 14 = .ok (.iload_n 3, 1) := by decide +kernel
theorem dX4_usersOf_15 : decode cX4_usersOf 15 = .ok (.iadd, 1) := by decide +kernel
theorem dX4_usersOf_16 : decode cX4_usersOf 16 = .ok (.invokevirtual 36, 3) := by decide +kernel
theorem dX4_usersOf_19 : decode cX4_usersOf 19 = .ok (.iconst (-1), 1) := by decide +kernel
theorem dX4_usersOf_20 : decode cX4_usersOf 20 = .ok (.if_icmp .ne 7, 3) := by decide +kernel
theorem dX4_usersOf_23 : decode cX4_usersOf 23 = .ok (.iconst 0, 1) := by decide +kernel
theorem dX4_usersOf_24 : decode cX4_usersOf 24 = .ok (.goto 4, 3) := by decide +kernel
theorem dX4_usersOf_27 : decode cX4_usersOf 27 = .ok (.iconst 1, 1) := by decide +kernel
theorem dX4_usersOf_28 : decode cX4_usersOf 28 = .ok (.iadd, 1) := by decide +kernel
theorem dX4_usersOf_29 : decode cX4_usersOf 29 = .ok (.istore_n 2, 1) := by decide +kernel
theorem dX4_usersOf_30 : decode cX4_usersOf 30 = .ok (.iinc 3 1, 3) := by decide +kernel
theorem dX4_usersOf_33 : decode cX4_usersOf 33 = .ok (.goto (-29), 3) := by decide +kernel
theorem dX4_usersOf_36 : decode cX4_usersOf 36 = .ok (.iload_n 2, 1) := by decide +kernel
theorem dX4_usersOf_37 : decode cX4_usersOf 37 = .ok (.ireturn, 1) := by decide +kernel
theorem dX4_shareOf_0 : decode cX4_shareOf 0 = .ok (.aload_n 0, 1) := by decide +kernel
theorem dX4_shareOf_1 : decode cX4_shareOf 1 = .ok (.iload_n 1, 1) := by decide +kernel
theorem dX4_shareOf_2 : decode cX4_shareOf 2 = .ok (.invokevirtual 70, 3) := by decide +kernel
theorem dX4_shareOf_5 : decode cX4_shareOf 5 = .ok (.istore 4, 2) := by decide +kernel
theorem dX4_shareOf_7 : decode cX4_shareOf 7 = .ok (.iload_n 2, 1) := by decide +kernel
theorem dX4_shareOf_8 : decode cX4_shareOf 8 = .ok (.iload 4, 2) := by decide +kernel
theorem dX4_shareOf_10 : decode cX4_shareOf 10 = .ok (.if_icmp .ge 10, 3) := by decide +kernel
theorem dX4_shareOf_13 : decode cX4_shareOf 13 = .ok (.iload_n 3, 1) := by decide +kernel
theorem dX4_shareOf_14 : decode cX4_shareOf 14 = .ok (.iload 4, 2) := by decide +kernel
theorem dX4_shareOf_16 : decode cX4_shareOf 16 = .ok (.idiv, 1) := by decide +kernel
theorem dX4_shareOf_17 : decode cX4_shareOf 17 = .ok (.goto 4, 3) := by decide +kernel
theorem dX4_shareOf_20 : decode cX4_shareOf 20 = .ok (.iconst 0, 1) := by decide +kernel
theorem dX4_shareOf_21 : decode cX4_shareOf 21 = .ok (.istore 5, 2) := by decide +kernel
theorem dX4_shareOf_23 : decode cX4_shareOf 23 = .ok (.iload 5, 2) := by decide +kernel
theorem dX4_shareOf_25 : decode cX4_shareOf 25 = .ok (.iload_n 2, 1) := by decide +kernel
theorem dX4_shareOf_26 : decode cX4_shareOf 26 = .ok (.ifCond .ne 15, 3) := by decide +kernel
theorem dX4_shareOf_29 : decode cX4_shareOf 29 = .ok (.iload 4, 2) := by decide +kernel
theorem dX4_shareOf_31 : decode cX4_shareOf 31 = .ok (.ifCond .le 10, 3) := by decide +kernel
theorem dX4_shareOf_34 : decode cX4_shareOf 34 = .ok (.iload_n 3, 1) := by decide +kernel
theorem dX4_shareOf_35 : decode cX4_shareOf 35 = .ok (.iload 4, 2) := by decide +kernel
theorem dX4_shareOf_37 : decode cX4_shareOf 37 = .ok (.irem, 1) := by decide +kernel
theorem dX4_shareOf_38 : decode cX4_shareOf 38 = .ok (.goto 4, 3) := by decide +kernel
theorem dX4_shareOf_41 : decode cX4_shareOf 41 = .ok (.iconst 0, 1) := by decide +kernel
theorem dX4_shareOf_42 : decode cX4_shareOf 42 = .ok (.iadd, 1) := by decide +kernel
theorem dX4_shareOf_43 : decode cX4_shareOf 43 = .ok (.ireturn, 1) := by decide +kernel
theorem dX4_charge_0 : decode cX4_charge 0 = .ok (.aload_n 0, 1) := by decide +kernel
theorem dX4_charge_1 : decode cX4_charge 1 = .ok (.iload_n 1, 1) := by decide +kernel
theorem dX4_charge_2 : decode cX4_charge 2 = .ok (.iconst 2, 1) := by decide +kernel
theorem dX4_charge_3 : decode cX4_charge 3 = .ok (.iload_n 2, 1) := by decide +kernel
theorem dX4_charge_4 : decode cX4_charge 4 = .ok (.iadd, 1) := by decide +kernel
theorem dX4_charge_5 : decode cX4_charge 5 = .ok (.aload_n 0, 1) := by decide +kernel
theorem dX4_charge_6 : decode cX4_charge 6 = .ok (.iload_n 1, 1) := by decide +kernel
theorem dX4_charge_7 : decode cX4_charge 7 = .ok (.iconst 2, 1) := by decide +kernel
theorem dX4_charge_8 : decode cX4_charge 8 = .ok (.iload_n 2, 1) := by decide +kernel
theorem dX4_charge_9 : decode cX4_charge 9 = .ok (.iadd, 1) := by decide +kernel
theorem dX4_charge_10 : decode cX4_charge 10 = .ok (.invokevirtual 36, 3) := by decide +kernel
theorem dX4_charge_13 : decode cX4_charge 13 = .ok (.iload_n 3, 1) := by decide +kernel
theorem dX4_charge_14 : decode cX4_charge 14 = .ok (.isub, 1) := by decide +kernel
theorem dX4_charge_15 : decode cX4_charge 15 = .ok (.invokevirtual 57, 3) := by decide +kernel
theorem dX4_charge_18 : decode cX4_charge 18 = .ok (.aload_n 0, 1) := by decide +kernel
theorem dX4_charge_19 : decode cX4_charge 19 = .ok (.getfield 7, 3) := by decide +kernel
theorem dX4_charge_22 : decode cX4_charge 22 = .ok (.bipush 11, 2) := by decide +kernel
theorem dX4_charge_24 : decode cX4_charge 24 = .ok (.iload_n 2, 1) := by decide +kernel
theorem dX4_charge_25 : decode cX4_charge 25 = .ok (.iadd, 1) := by decide +kernel
theorem dX4_charge_26 : decode cX4_charge 26 = .ok (.dup2, 1) := by decide +kernel
theorem dX4_charge_27 : decode cX4_charge 27 = .ok (.iaload, 1) := by decide +kernel
theorem dX4_charge_28 : decode cX4_charge 28 = .ok (.iload_n 3, 1) := by decide +kernel
theorem dX4_charge_29 : decode cX4_charge 29 = .ok (.iadd, 1) := by decide +kernel
theorem dX4_charge_30 : decode cX4_charge 30 = .ok (.iastore, 1) := by decide +kernel
theorem dX4_charge_31 : decode cX4_charge 31 = .ok (.return_, 1) := by decide +kernel
theorem dX4_hasSo_0 : decode cX4_hasSo 0 = .ok (.aload_n 0, 1) := by decide +kernel
theorem dX4_hasSo_1 : decode cX4_hasSo 1 = .ok (.iload_n 1, 1) := by decide +kernel
theorem dX4_hasSo_2 : decode cX4_hasSo 2 = .ok (.iconst 2, 1) := by decide +kernel
theorem dX4_hasSo_3 : decode cX4_hasSo 3 = .ok (.iload_n 2, 1) := by decide +kernel
theorem dX4_hasSo_4 : decode cX4_hasSo 4 = .ok (.iadd, 1) := by decide +kernel
theorem dX4_hasSo_5 : decode cX4_hasSo 5 = .ok (.invokevirtual 36, 3) := by decide +kernel
theorem dX4_hasSo_8 : decode cX4_hasSo 8 = .ok (.iload_n 3, 1) := by decide +kernel
theorem dX4_hasSo_9 : decode cX4_hasSo 9 = .ok (.if_icmp .lt 7, 3) := by decide +kernel
theorem dX4_hasSo_12 : decode cX4_hasSo 12 = .ok (.iconst 1, 1) := by decide +kernel
theorem dX4_hasSo_13 : decode cX4_hasSo 13 = .ok (.goto 4, 3) := by decide +kernel
theorem dX4_hasSo_16 : decode cX4_hasSo 16 = .ok (.iconst 0, 1) := by decide +kernel
theorem dX4_hasSo_17 : decode cX4_hasSo 17 = .ok (.ireturn, 1) := by decide +kernel
theorem dX4_damage_0 : decode cX4_damage 0 = .ok (.aload_n 0, 1) := by decide +kernel
theorem dX4_damage_1 : decode cX4_damage 1 = .ok (.aload_n 0, 1) := by decide +kernel
theorem dX4_damage_2 : decode cX4_damage 2 = .ok (.iload_n 1, 1) := by decide +kernel
theorem dX4_damage_3 : decode cX4_damage 3 = .ok (.invokevirtual 67, 3) := by decide +kernel
theorem dX4_damage_6 : decode cX4_damage 6 = .ok (.ifCond .eq 10, 3) := by decide +kernel
theorem dX4_damage_9 : decode cX4_damage 9 = .ok (.iload_n 2, 1) := by decide +kernel
theorem dX4_damage_10 : decode cX4_damage 10 = .ok (.invokestatic 64, 3) := by decide +kernel
theorem dX4_damage_13 : decode cX4_damage 13 = .ok (.ifCond .ne 7, 3) := by decide +kernel
theorem dX4_damage_16 : decode cX4_damage 16 = .ok (.iconst 1, 1) := by decide +kernel
theorem dX4_damage_17 : decode cX4_damage 17 = .ok (.goto 35, 3) := by decide +kernel
theorem dX4_damage_20 : decode cX4_damage 20 = .ok (.iload_n 3, 1) := by decide +kernel
theorem dX4_damage_21 : decode cX4_damage 21 = .ok (.iconst 1, 1) := by decide +kernel
theorem dX4_damage_22 : decode cX4_damage 22 = .ok (.if_icmp .ge 7, 3) := by decide +kernel
theorem dX4_damage_25 : decode cX4_damage 25 = .ok (.iconst 2, 1) := by decide +kernel
theorem dX4_damage_26 : decode cX4_damage 26 = .ok (.goto 26, 3) := by decide +kernel
theorem dX4_damage_29 : decode cX4_damage 29 = .ok (.aload_n 0, 1) := by decide +kernel
theorem dX4_damage_30 : decode cX4_damage 30 = .ok (.iload_n 1, 1) := by decide +kernel
theorem dX4_damage_31 : decode cX4_damage 31 = .ok (.invokevirtual 44, 3) := by decide +kernel
theorem dX4_damage_34 : decode cX4_damage 34 = .ok (.ifCond .eq 17, 3) := by decide +kernel
theorem dX4_damage_37 : decode cX4_damage 37 = .ok (.aload_n 0, 1) := by decide +kernel
theorem dX4_damage_38 : decode cX4_damage 38 = .ok (.iload_n 1, 1) := by decide +kernel
theorem dX4_damage_39 : decode cX4_damage 39 = .ok (.iload_n 2, 1) := by decide +kernel
theorem dX4_damage_40 : decode cX4_damage 40 = .ok (.iload_n 3, 1) := by decide +kernel
theorem dX4_damage_41 : decode cX4_damage 41 = .ok (.invokevirtual 73, 3) := by decide +kernel
theorem dX4_damage_44 : decode cX4_damage 44 = .ok (.ifCond .eq 7, 3) := by decide +kernel
theorem dX4_damage_47 : decode cX4_damage 47 = .ok (.iconst 0, 1) := by decide +kernel
theorem dX4_damage_48 : decode cX4_damage 48 = .ok (.goto 4, 3) := by decide +kernel
theorem dX4_damage_51 : decode cX4_damage 51 = .ok (.iconst 3, 1) := by decide +kernel
theorem dX4_damage_52 : decode cX4_damage 52 = .ok (.putfield 25, 3) := by decide +kernel
theorem dX4_damage_55 : decode cX4_damage 55 = .ok (.aload_n 0, 1) := by decide +kernel
theorem dX4_damage_56 : decode cX4_damage 56 = .ok (.getfield 25, 3) := by decide +kernel
theorem dX4_damage_59 : decode cX4_damage 59 = .ok (.ifCond .le 5, 3) := by decide +kernel
theorem dX4_damage_62 : decode cX4_damage 62 = .ok (.iconst 0, 1) := by decide +kernel
theorem dX4_damage_63 : decode cX4_damage 63 = .ok (.ireturn, 1) := by decide +kernel
theorem dX4_damage_64 : decode cX4_damage 64 = .ok (.aload_n 0, 1) := by decide +kernel
theorem dX4_damage_65 : decode cX4_damage 65 = .ok (.invokevirtual 54, 3) := by decide +kernel
theorem dX4_damage_68 : decode cX4_damage 68 = .ok (.iload_n 3, 1) := by decide +kernel
theorem dX4_damage_69 : decode cX4_damage 69 = .ok (.iload_n 2, 1) := by decide +kernel
theorem dX4_damage_70 : decode cX4_damage 70 = .ok (.invokestatic 61, 3) := by decide +kernel
theorem dX4_damage_73 : decode cX4_damage 73 = .ok (.imul, 1) := by decide +kernel
theorem dX4_damage_74 : decode cX4_damage 74 = .ok (.istore 4, 2) := by decide +kernel
theorem dX4_damage_76 : decode cX4_damage 76 = .ok (.aload_n 0, 1) := by decide +kernel
theorem dX4_damage_77 : decode cX4_damage 77 = .ok (.iload_n 1, 1) := by decide +kernel
theorem dX4_damage_78 : decode cX4_damage 78 = .ok (.iload_n 2, 1) := by decide +kernel
theorem dX4_damage_79 : decode cX4_damage 79 = .ok (.iload_n 3, 1) := by decide +kernel
theorem dX4_damage_80 : decode cX4_damage 80 = .ok (.invokevirtual 76, 3) := by decide +kernel
theorem dX4_damage_83 : decode cX4_damage 83 = .ok (.iconst 0, 1) := by decide +kernel
theorem dX4_damage_84 : decode cX4_damage 84 = .ok (.istore 5, 2) := by decide +kernel
theorem dX4_damage_86 : decode cX4_damage 86 = .ok (.iload 5, 2) := by decide +kernel
theorem dX4_damage_88 : decode cX4_damage 88 = .ok (.aload_n 0, 1) := by decide +kernel
theorem dX4_damage_89 : decode cX4_damage 89 = .ok (.iload_n 1, 1) := by decide +kernel
theorem dX4_damage_90 : decode cX4_damage 90 = .ok (.invokevirtual 70, 3) := by decide +kernel
theorem dX4_damage_93 : decode cX4_damage 93 = .ok (.if_icmp .ge 33, 3) := by decide +kernel
theorem dX4_damage_96 : decode cX4_damage 96 = .ok (.aload_n 0, 1) := by decide +kernel
theorem dX4_damage_97 : decode cX4_damage 97 = .ok (.aload_n 0, 1) := by decide +kernel
theorem dX4_damage_98 : decode cX4_damage 98 = .ok (.iload_n 1, 1) := by decide +kernel
theorem dX4_damage_99 : decode cX4_damage 99 = .ok (.bipush 6, 2) := by decide +kernel
theorem dX4_damage_101 : decode cX4_damage 101 = .ok (.iload 5, 2) := by decide +kernel
theorem dX4_damage_103 : decode cX4_damage 103 = .ok (.iadd, 1) := by decide +kernel
theorem dX4_damage_104 : decode cX4_damage 104 = .ok (.invokevirtual 36, 3) := by decide +kernel
theorem dX4_damage_107 : decode cX4_damage 107 = .ok (.iconst 2, 1) := by decide +kernel
theorem dX4_damage_108 : decode cX4_damage 108 = .ok (.aload_n 0, 1) := by decide +kernel
theorem dX4_damage_109 : decode cX4_damage 109 = .ok (.iload_n 1, 1) := by decide +kernel
theorem dX4_damage_110 : decode cX4_damage 110 = .ok (.iload 5, 2) := by decide +kernel
theorem dX4_damage_112 : decode cX4_damage 112 = .ok (.iload 4, 2) := by decide +kernel
theorem dX4_damage_114 : decode cX4_damage 114 = .ok (.invokevirtual 79, 3) := by decide +kernel
theorem dX4_damage_117 : decode cX4_damage 117 = .ok (.invokevirtual 83, 3) := by decide +kernel
theorem dX4_damage_120 : decode cX4_damage 120 = .ok (.iinc 5 1, 3) := by decide +kernel
theorem dX4_damage_123 : decode cX4_damage 123 = .ok (.goto (-37), 3) := by decide +kernel
theorem dX4_damage_126 : decode cX4_damage 126 = .ok (.aload_n 0, 1) := by decide +kernel
theorem dX4_damage_127 : decode cX4_damage 127 = .ok (.getfield 7, 3) := by decide +kernel
theorem dX4_damage_130 : decode cX4_damage 130 = .ok (.iconst 5, 1) := by decide +kernel
theorem dX4_damage_131 : decode cX4_damage 131 = .ok (.dup2, 1) := by decide +kernel
theorem dX4_damage_132 : decode cX4_damage 132 = .ok (.iaload, 1) := by decide +kernel
theorem dX4_damage_133 : decode cX4_damage 133 = .ok (.aload_n 0, 1) := by decide +kernel
theorem dX4_damage_134 : decode cX4_damage 134 = .ok (.iload_n 1, 1) := by decide +kernel
theorem dX4_damage_135 : decode cX4_damage 135 = .ok (.invokevirtual 70, 3) := by decide +kernel
theorem dX4_damage_138 : decode cX4_damage 138 = .ok (.ifCond .ne 8, 3) := by decide +kernel
theorem dX4_damage_141 : decode cX4_damage 141 = .ok (.iload 4, 2) := by decide +kernel
theorem dX4_damage_143 : decode cX4_damage 143 = .ok (.goto 4, 3) := by decide +kernel
theorem dX4_damage_146 : decode cX4_damage 146 = .ok (.iconst 0, 1) := by decide +kernel
theorem dX4_damage_147 : decode cX4_damage 147 = .ok (.iadd, 1) := by decide +kernel
theorem dX4_damage_148 : decode cX4_damage 148 = .ok (.iastore, 1) := by decide +kernel
theorem dX4_damage_149 : decode cX4_damage 149 = .ok (.iload 4, 2) := by decide +kernel
theorem dX4_damage_151 : decode cX4_damage 151 = .ok (.ireturn, 1) := by decide +kernel
theorem dX4_swap_0 : decode cX4_swap 0 = .ok (.aload_n 0, 1) := by decide +kernel
theorem dX4_swap_1 : decode cX4_swap 1 = .ok (.aload_n 0, 1) := by decide +kernel
theorem dX4_swap_2 : decode cX4_swap 2 = .ok (.iload_n 1, 1) := by decide +kernel
theorem dX4_swap_3 : decode cX4_swap 3 = .ok (.invokevirtual 67, 3) := by decide +kernel
theorem dX4_swap_6 : decode cX4_swap 6 = .ok (.ifCond .eq 11, 3) := by decide +kernel
theorem dX4_swap_9 : decode cX4_swap 9 = .ok (.aload_n 0, 1) := by decide +kernel
theorem dX4_swap_10 : decode cX4_swap 10 = .ok (.iload_n 2, 1) := by decide +kernel
theorem dX4_swap_11 : decode cX4_swap 11 = .ok (.invokevirtual 67, 3) := by decide +kernel
theorem dX4_swap_14 : decode cX4_swap 14 = .ok (.ifCond .ne 7, 3) := by decide +kernel
theorem dX4_swap_17 : decode cX4_swap 17 = .ok (.iconst 1, 1) := by decide +kernel
theorem dX4_swap_18 : decode cX4_swap 18 = .ok (.goto 24, 3) := by decide +kernel
theorem dX4_swap_21 : decode cX4_swap 21 = .ok (.aload_n 0, 1) := by decide +kernel
theorem dX4_swap_22 : decode cX4_swap 22 = .ok (.iload_n 1, 1) := by decide +kernel
theorem dX4_swap_23 : decode cX4_swap 23 = .ok (.invokevirtual 44, 3) := by decide +kernel
theorem dX4_swap_26 : decode cX4_swap 26 = .ok (.ifCond .eq 15, 3) := by decide +kernel
theorem dX4_swap_29 : decode cX4_swap 29 = .ok (.aload_n 0, 1) := by decide +kernel
theorem dX4_swap_30 : decode cX4_swap 30 = .ok (.iload_n 2, 1) := by decide +kernel
theorem dX4_swap_31 : decode cX4_swap 31 = .ok (.invokevirtual 44, 3) := by decide +kernel
theorem dX4_swap_34 : decode cX4_swap 34 = .ok (.ifCond .eq 7, 3) := by decide +kernel
theorem dX4_swap_37 : decode cX4_swap 37 = .ok (.iconst 0, 1) := by decide +kernel
theorem dX4_swap_38 : decode cX4_swap 38 = .ok (.goto 4, 3) := by decide +kernel
theorem dX4_swap_41 : decode cX4_swap 41 = .ok (.iconst 2, 1) := by decide +kernel
theorem dX4_swap_42 : decode cX4_swap 42 = .ok (.putfield 25, 3) := by decide +kernel
theorem dX4_swap_45 : decode cX4_swap 45 = .ok (.aload_n 0, 1) := by decide +kernel
theorem dX4_swap_46 : decode cX4_swap 46 = .ok (.getfield 25, 3) := by decide +kernel
theorem dX4_swap_49 : decode cX4_swap 49 = .ok (.ifCond .le 5, 3) := by decide +kernel
theorem dX4_swap_52 : decode cX4_swap 52 = .ok (.iconst 0, 1) := by decide +kernel
theorem dX4_swap_53 : decode cX4_swap 53 = .ok (.ireturn, 1) := by decide +kernel
theorem dX4_swap_54 : decode cX4_swap 54 = .ok (.aload_n 0, 1) := by decide +kernel
theorem dX4_swap_55 : decode cX4_swap 55 = .ok (.invokevirtual 54, 3) := by decide +kernel
theorem dX4_swap_58 : decode cX4_swap 58 = .ok (.iconst 0, 1) := by decide +kernel
theorem dX4_swap_59 : decode cX4_swap 59 = .ok (.istore_n 3, 1) := by decide +kernel
theorem dX4_swap_60 : decode cX4_swap 60 = .ok (.iload_n 3, 1) := by decide +kernel
theorem dX4_swap_61 : decode cX4_swap 61 = .ok (.iconst 4, 1) := by decide +kernel
theorem dX4_swap_62 : decode cX4_swap 62 = .ok (.if_icmp .ge 45, 3) := by decide +kernel
theorem dX4_swap_65 : decode cX4_swap 65 = .ok (.aload_n 0, 1) := by decide +kernel
theorem dX4_swap_66 : decode cX4_swap 66 = .ok (.iload_n 1, 1) := by decide +kernel
theorem dX4_swap_67 : decode cX4_swap 67 = .ok (.iconst 2, 1) := by decide +kernel
theorem dX4_swap_68 : decode cX4_swap 68 = .ok (.iload_n 3, 1) := by decide +kernel
theorem dX4_swap_69 : decode cX4_swap 69 = .ok (.iadd, 1) := by decide +kernel
theorem dX4_swap_70 : decode cX4_swap 70 = .ok (.invokevirtual 36, 3) := by decide +kernel
theorem dX4_swap_73 : decode cX4_swap 73 = .ok (.istore 4, 2) := by decide +kernel
theorem dX4_swap_75 : decode cX4_swap 75 = .ok (.aload_n 0, 1) := by decide +kernel
theorem dX4_swap_76 : decode cX4_swap 76 = .ok (.iload_n 1, 1) := by decide +kernel
theorem dX4_swap_77 : decode cX4_swap 77 = .ok (.iconst 2, 1) := by decide +kernel
theorem dX4_swap_78 : decode cX4_swap 78 = .ok (.iload_n 3, 1) := by decide +kernel
theorem dX4_swap_79 : decode cX4_swap 79 = .ok (.iadd, 1) := by decide +kernel
theorem dX4_swap_80 : decode cX4_swap 80 = .ok (.aload_n 0, 1) := by decide +kernel
theorem dX4_swap_81 : decode cX4_swap 81 = .ok (.iload_n 2, 1) := by decide +kernel
theorem dX4_swap_82 : decode cX4_swap 82 = .ok (.iconst 2, 1) := by decide +kernel
theorem dX4_swap_83 : decode cX4_swap 83 = .ok (.iload_n 3, 1) := by decide +kernel
theorem dX4_swap_84 : decode cX4_swap 84 = .ok (.iadd, 1) := by decide +kernel
theorem dX4_swap_85 : decode cX4_swap 85 = .ok (.invokevirtual 36, 3) := by decide +kernel
theorem dX4_swap_88 : decode cX4_swap 88 = .ok (.invokevirtual 57, 3) := by decide +kernel
theorem dX4_swap_91 : decode cX4_swap 91 = .ok (.aload_n 0, 1) := by decide +kernel
theorem dX4_swap_92 : decode cX4_swap 92 = .ok (.iload_n 2, 1) := by decide +kernel
theorem dX4_swap_93 : decode cX4_swap 93 = .ok (.iconst 2, 1) := by decide +kernel
theorem dX4_swap_94 : decode cX4_swap 94 = .ok (.iload_n 3, 1) := by decide +kernel
theorem dX4_swap_95 : decode cX4_swap 95 = .ok (.iadd, 1) := by decide +kernel
theorem dX4_swap_96 : decode cX4_swap 96 = .ok (.iload 4, 2) := by decide +kernel
theorem dX4_swap_98 : decode cX4_swap 98 = .ok (.invokevirtual 57, 3) := by decide +kernel
theorem dX4_swap_101 : decode cX4_swap 101 = .ok (.iinc 3 1, 3) := by decide +kernel
theorem dX4_swap_104 : decode cX4_swap 104 = .ok (.goto (-44), 3) := by decide +kernel
theorem dX4_swap_107 : decode cX4_swap 107 = .ok (.aload_n 0, 1) := by decide +kernel
theorem dX4_swap_108 : decode cX4_swap 108 = .ok (.iload_n 1, 1) := by decide +kernel
theorem dX4_swap_109 : decode cX4_swap 109 = .ok (.invokevirtual 86, 3) := by decide +kernel
theorem dX4_swap_112 : decode cX4_swap 112 = .ok (.ireturn, 1) := by decide +kernel
theorem dX4_dueIn_0 : decode cX4_dueIn 0 = .ok (.aload_n 0, 1) := by decide +kernel
theorem dX4_dueIn_1 : decode cX4_dueIn 1 = .ok (.getfield 7, 3) := by decide +kernel
theorem dX4_dueIn_4 : decode cX4_dueIn 4 = .ok (.iconst 2, 1) := by decide +kernel
theorem dX4_dueIn_5 : decode cX4_dueIn 5 = .ok (.iaload, 1) := by decide +kernel
theorem dX4_dueIn_6 : decode cX4_dueIn 6 = .ok (.iload_n 2, 1) := by decide +kernel
theorem dX4_dueIn_7 : decode cX4_dueIn 7 = .ok (.iadd, 1) := by decide +kernel
theorem dX4_dueIn_8 : decode cX4_dueIn 8 = .ok (.aload_n 0, 1) := by decide +kernel
theorem dX4_dueIn_9 : decode cX4_dueIn 9 = .ok (.iload_n 1, 1) := by decide +kernel
theorem dX4_dueIn_10 : decode cX4_dueIn 10 = .ok (.iconst 1, 1) := by decide +kernel
theorem dX4_dueIn_11 : decode cX4_dueIn 11 = .ok (.invokevirtual 36, 3) := by decide +kernel
theorem dX4_dueIn_14 : decode cX4_dueIn 14 = .ok (.isub, 1) := by decide +kernel
theorem dX4_dueIn_15 : decode cX4_dueIn 15 = .ok (.istore_n 3, 1) := by decide +kernel
theorem dX4_dueIn_16 : decode cX4_dueIn 16 = .ok (.aload_n 0, 1) := by decide +kernel
theorem dX4_dueIn_17 : decode cX4_dueIn 17 = .ok (.iload_n 1, 1) := by decide +kernel
theorem dX4_dueIn_18 : decode cX4_dueIn 18 = .ok (.invokevirtual 44, 3) := by decide +kernel
theorem dX4_dueIn_21 : decode cX4_dueIn 21 = .ok (.ifCond .eq 7, 3) := by decide +kernel
theorem dX4_dueIn_24 : decode cX4_dueIn 24 = .ok (.iconst 0, 1) := by decide +kernel
theorem dX4_dueIn_25 : decode cX4_dueIn 25 = .ok (.goto 30, 3) := by decide +kernel
theorem dX4_dueIn_28 : decode cX4_dueIn 28 = .ok (.iload_n 3, 1) := by decide +kernel
theorem dX4_dueIn_29 : decode cX4_dueIn 29 = .ok (.aload_n 0, 1) := by decide +kernel
theorem dX4_dueIn_30 : decode cX4_dueIn 30 = .ok (.getfield 7, 3) := by decide +kernel
theorem dX4_dueIn_33 : decode cX4_dueIn 33 = .ok (.iconst 0, 1) := by decide +kernel
theorem dX4_dueIn_34 : decode cX4_dueIn 34 = .ok (.iaload, 1) := by decide +kernel
theorem dX4_dueIn_35 : decode cX4_dueIn 35 = .ok (.if_icmp .ge 12, 3) := by decide +kernel
theorem dX4_dueIn_38 : decode cX4_dueIn 38 = .ok (.aload_n 0, 1) := by decide +kernel
theorem dX4_dueIn_39 : decode cX4_dueIn 39 = .ok (.getfield 7, 3) := by decide +kernel
theorem dX4_dueIn_42 : decode cX4_dueIn 42 = .ok (.iconst 0, 1) := by decide +kernel
theorem dX4_dueIn_43 : decode cX4_dueIn 43 = .ok (.iaload, 1) := by decide +kernel
theorem dX4_dueIn_44 : decode cX4_dueIn 44 = .ok (.goto 4, 3) := by decide +kernel
theorem dX4_dueIn_47 : decode cX4_dueIn 47 = .ok (.iload_n 3, 1) := by decide +kernel
theorem dX4_dueIn_48 : decode cX4_dueIn 48 = .ok (.aload_n 0, 1) := by decide +kernel
theorem dX4_dueIn_49 : decode cX4_dueIn 49 = .ok (.getfield 7, 3) := by decide +kernel
theorem dX4_dueIn_52 : decode cX4_dueIn 52 = .ok (.iconst 1, 1) := by decide +kernel
theorem dX4_dueIn_53 : decode cX4_dueIn 53 = .ok (.iaload, 1) := by decide +kernel
theorem dX4_dueIn_54 : decode cX4_dueIn 54 = .ok (.imul, 1) := by decide +kernel
theorem dX4_dueIn_55 : decode cX4_dueIn 55 = .ok (.ireturn, 1) := by decide +kernel
theorem dX4_comes_0 : decode cX4_comes 0 = .ok (.aload_n 0, 1) := by decide +kernel
theorem dX4_comes_1 : decode cX4_comes 1 = .ok (.iload_n 1, 1) := by decide +kernel
theorem dX4_comes_2 : decode cX4_comes 2 = .ok (.iconst 0, 1) := by decide +kernel
theorem dX4_comes_3 : decode cX4_comes 3 = .ok (.iload_n 2, 1) := by decide +kernel
theorem dX4_comes_4 : decode cX4_comes 4 = .ok (.invokevirtual 57, 3) := by decide +kernel
theorem dX4_comes_7 : decode cX4_comes 7 = .ok (.aload_n 0, 1) := by decide +kernel
theorem dX4_comes_8 : decode cX4_comes 8 = .ok (.iload_n 1, 1) := by decide +kernel
theorem dX4_comes_9 : decode cX4_comes 9 = .ok (.iconst 1, 1) := by decide +kernel
theorem dX4_comes_10 : decode cX4_comes 10 = .ok (.aload_n 0, 1) := by decide +kernel
theorem dX4_comes_11 : decode cX4_comes 11 = .ok (.getfield 7, 3) := by decide +kernel
theorem dX4_comes_14 : decode cX4_comes 14 = .ok (.iconst 2, 1) := by decide +kernel
theorem dX4_comes_15 : decode cX4_comes 15 = .ok (.iaload, 1) := by decide +kernel
theorem dX4_comes_16 : decode cX4_comes 16 = .ok (.invokevirtual 57, 3) := by decide +kernel
theorem dX4_comes_19 : decode cX4_comes 19 = .ok (.aload_n 0, 1) := by decide +kernel
theorem dX4_comes_20 : decode cX4_comes 20 = .ok (.iload_n 1, 1) := by decide +kernel
theorem dX4_comes_21 : decode cX4_comes 21 = .ok (.bipush 9, 2) := by decide +kernel
theorem dX4_comes_23 : decode cX4_comes 23 = .ok (.aload_n 0, 1) := by decide +kernel
theorem dX4_comes_24 : decode cX4_comes 24 = .ok (.iload_n 1, 1) := by decide +kernel
theorem dX4_comes_25 : decode cX4_comes 25 = .ok (.bipush 9, 2) := by decide +kernel
theorem dX4_comes_27 : decode cX4_comes 27 = .ok (.invokevirtual 36, 3) := by decide +kernel
theorem dX4_comes_30 : decode cX4_comes 30 = .ok (.iconst 1, 1) := by decide +kernel
theorem dX4_comes_31 : decode cX4_comes 31 = .ok (.iadd, 1) := by decide +kernel
theorem dX4_comes_32 : decode cX4_comes 32 = .ok (.invokevirtual 57, 3) := by decide +kernel
theorem dX4_comes_35 : decode cX4_comes 35 = .ok (.iconst 2, 1) := by decide +kernel
theorem dX4_comes_36 : decode cX4_comes 36 = .ok (.istore_n 3, 1) := by decide +kernel
theorem dX4_comes_37 : decode cX4_comes 37 = .ok (.iload_n 3, 1) := by decide +kernel
theorem dX4_comes_38 : decode cX4_comes 38 = .ok (.ifCond .le 29, 3) := by decide +kernel
theorem dX4_comes_41 : decode cX4_comes 41 = .ok (.aload_n 0, 1) := by decide +kernel
theorem dX4_comes_42 : decode cX4_comes 42 = .ok (.iload_n 1, 1) := by decide +kernel
theorem dX4_comes_43 : decode cX4_comes 43 = .ok (.bipush 6, 2) := by decide +kernel
theorem dX4_comes_45 : decode cX4_comes 45 = .ok (.iload_n 3, 1) := by decide +kernel
theorem dX4_comes_46 : decode cX4_comes 46 = .ok (.iadd, 1) := by decide +kernel
theorem dX4_comes_47 : decode cX4_comes 47 = .ok (.aload_n 0, 1) := by decide +kernel
theorem dX4_comes_48 : decode cX4_comes 48 = .ok (.iload_n 1, 1) := by decide +kernel
theorem dX4_comes_49 : decode cX4_comes 49 = .ok (.bipush 6, 2) := by decide +kernel
theorem dX4_comes_51 : decode cX4_comes 51 = .ok (.iload_n 3, 1) := by decide +kernel
theorem dX4_comes_52 : decode cX4_comes 52 = .ok (.iadd, 1) := by decide +kernel
theorem dX4_comes_53 : decode cX4_comes 53 = .ok (.iconst 1, 1) := by decide +kernel
theorem dX4_comes_54 : decode cX4_comes 54 = .ok (.isub, 1) := by decide +kernel
theorem dX4_comes_55 : decode cX4_comes 55 = .ok (.invokevirtual 36, 3) := by decide +kernel
theorem dX4_comes_58 : decode cX4_comes 58 = .ok (.invokevirtual 57, 3) := by decide +kernel
theorem dX4_comes_61 : decode cX4_comes 61 = .ok (.iinc 3 (-1), 3) := by decide +kernel
theorem dX4_comes_64 : decode cX4_comes 64 = .ok (.goto (-27), 3) := by decide +kernel
theorem dX4_comes_67 : decode cX4_comes 67 = .ok (.aload_n 0, 1) := by decide +kernel
theorem dX4_comes_68 : decode cX4_comes 68 = .ok (.iload_n 1, 1) := by decide +kernel
theorem dX4_comes_69 : decode cX4_comes 69 = .ok (.bipush 6, 2) := by decide +kernel
theorem dX4_comes_71 : decode cX4_comes 71 = .ok (.iload_n 2, 1) := by decide +kernel
theorem dX4_comes_72 : decode cX4_comes 72 = .ok (.invokevirtual 57, 3) := by decide +kernel
theorem dX4_comes_75 : decode cX4_comes 75 = .ok (.aload_n 0, 1) := by decide +kernel
theorem dX4_comes_76 : decode cX4_comes 76 = .ok (.getfield 7, 3) := by decide +kernel
theorem dX4_comes_79 : decode cX4_comes 79 = .ok (.iconst 4, 1) := by decide +kernel
theorem dX4_comes_80 : decode cX4_comes 80 = .ok (.dup2, 1) := by decide +kernel
theorem dX4_comes_81 : decode cX4_comes 81 = .ok (.iaload, 1) := by decide +kernel
theorem dX4_comes_82 : decode cX4_comes 82 = .ok (.iconst 1, 1) := by decide +kernel
theorem dX4_comes_83 : decode cX4_comes 83 = .ok (.iadd, 1) := by decide +kernel
theorem dX4_comes_84 : decode cX4_comes 84 = .ok (.iastore, 1) := by decide +kernel
theorem dX4_comes_85 : decode cX4_comes 85 = .ok (.return_, 1) := by decide +kernel
theorem dX4_leaves_0 : decode cX4_leaves 0 = .ok (.aload_n 0, 1) := by decide +kernel
theorem dX4_leaves_1 : decode cX4_leaves 1 = .ok (.iload_n 1, 1) := by decide +kernel
theorem dX4_leaves_2 : decode cX4_leaves 2 = .ok (.iconst 0, 1) := by decide +kernel
theorem dX4_leaves_3 : decode cX4_leaves 3 = .ok (.invokevirtual 89, 3) := by decide +kernel
theorem dX4_leaves_6 : decode cX4_leaves 6 = .ok (.istore_n 2, 1) := by decide +kernel
theorem dX4_leaves_7 : decode cX4_leaves 7 = .ok (.aload_n 0, 1) := by decide +kernel
theorem dX4_leaves_8 : decode cX4_leaves 8 = .ok (.aload_n 0, 1) := by decide +kernel
theorem dX4_leaves_9 : decode cX4_leaves 9 = .ok (.iload_n 1, 1) := by decide +kernel
theorem dX4_leaves_10 : decode cX4_leaves 10 = .ok (.iconst 0, 1) := by decide +kernel
theorem dX4_leaves_11 : decode cX4_leaves 11 = .ok (.invokevirtual 36, 3) := by decide +kernel
theorem dX4_leaves_14 : decode cX4_leaves 14 = .ok (.iconst 0, 1) := by decide +kernel
theorem dX4_leaves_15 : decode cX4_leaves 15 = .ok (.iload_n 2, 1) := by decide +kernel
theorem dX4_leaves_16 : decode cX4_leaves 16 = .ok (.invokevirtual 83, 3) := by decide +kernel
theorem dX4_leaves_19 : decode cX4_leaves 19 = .ok (.aload_n 0, 1) := by decide +kernel
theorem dX4_leaves_20 : decode cX4_leaves 20 = .ok (.iload_n 1, 1) := by decide +kernel
theorem dX4_leaves_21 : decode cX4_leaves 21 = .ok (.iconst 0, 1) := by decide +kernel
theorem dX4_leaves_22 : decode cX4_leaves 22 = .ok (.iconst (-1), 1) := by decide +kernel
theorem dX4_leaves_23 : decode cX4_leaves 23 = .ok (.invokevirtual 57, 3) := by decide +kernel
theorem dX4_leaves_26 : decode cX4_leaves 26 = .ok (.aload_n 0, 1) := by decide +kernel
theorem dX4_leaves_27 : decode cX4_leaves 27 = .ok (.iload_n 1, 1) := by decide +kernel
theorem dX4_leaves_28 : decode cX4_leaves 28 = .ok (.iconst 1, 1) := by decide +kernel
theorem dX4_leaves_29 : decode cX4_leaves 29 = .ok (.aload_n 0, 1) := by decide +kernel
theorem dX4_leaves_30 : decode cX4_leaves 30 = .ok (.getfield 7, 3) := by decide +kernel
theorem dX4_leaves_33 : decode cX4_leaves 33 = .ok (.iconst 2, 1) := by decide +kernel
theorem dX4_leaves_34 : decode cX4_leaves 34 = .ok (.iaload, 1) := by decide +kernel
theorem dX4_leaves_35 : decode cX4_leaves 35 = .ok (.invokevirtual 57, 3) := by decide +kernel
theorem dX4_leaves_38 : decode cX4_leaves 38 = .ok (.iload_n 2, 1) := by decide +kernel
theorem dX4_leaves_39 : decode cX4_leaves 39 = .ok (.ireturn, 1) := by decide +kernel
theorem dX4_canHire_0 : decode cX4_canHire 0 = .ok (.aload_n 0, 1) := by decide +kernel
theorem dX4_canHire_1 : decode cX4_canHire 1 = .ok (.iconst 1, 1) := by decide +kernel
theorem dX4_canHire_2 : decode cX4_canHire 2 = .ok (.invokevirtual 92, 3) := by decide +kernel
theorem dX4_canHire_5 : decode cX4_canHire 5 = .ok (.iload_n 1, 1) := by decide +kernel
theorem dX4_canHire_6 : decode cX4_canHire 6 = .ok (.if_icmp .lt 7, 3) := by decide +kernel
theorem dX4_canHire_9 : decode cX4_canHire 9 = .ok (.iconst 1, 1) := by decide +kernel
theorem dX4_canHire_10 : decode cX4_canHire 10 = .ok (.goto 4, 3) := by decide +kernel
theorem dX4_canHire_13 : decode cX4_canHire 13 = .ok (.iconst 0, 1) := by decide +kernel
theorem dX4_canHire_14 : decode cX4_canHire 14 = .ok (.ireturn, 1) := by decide +kernel
theorem dX4_hires_0 : decode cX4_hires 0 = .ok (.iload_n 2, 1) := by decide +kernel
theorem dX4_hires_1 : decode cX4_hires 1 = .ok (.istore_n 3, 1) := by decide +kernel
theorem dX4_hires_2 : decode cX4_hires 2 = .ok (.iconst 0, 1) := by decide +kernel
theorem dX4_hires_3 : decode cX4_hires 3 = .ok (.istore 4, 2) := by decide +kernel
theorem dX4_hires_5 : decode cX4_hires 5 = .ok (.iload 4, 2) := by decide +kernel
theorem dX4_hires_7 : decode cX4_hires 7 = .ok (.aload_n 0, 1) := by decide +kernel
theorem dX4_hires_8 : decode cX4_hires 8 = .ok (.getfield 7, 3) := by decide +kernel
theorem dX4_hires_11 : decode cX4_hires 11 = .ok (.iconst 3, 1) := by decide +kernel
theorem dX4_hires_12 : decode cX4_hires 12 = .ok (.iaload, 1) := by decide +kernel
theorem dX4_hires_13 : decode cX4_hires 13 = .ok (.if_icmp .ge 41, 3) := by decide +kernel
theorem dX4_hires_16 : decode cX4_hires 16 = .ok (.iload_n 3, 1) := by decide +kernel
theorem dX4_hires_17 : decode cX4_hires 17 = .ok (.ifCond .le 37, 3) := by decide +kernel
theorem dX4_hires_20 : decode cX4_hires 20 = .ok (.aload_n 0, 1) := by decide +kernel
theorem dX4_hires_21 : decode cX4_hires 21 = .ok (.iload 4, 2) := by decide +kernel
theorem dX4_hires_23 : decode cX4_hires 23 = .ok (.invokevirtual 44, 3) := by decide +kernel
theorem dX4_hires_26 : decode cX4_hires 26 = .ok (.ifCond .eq 22, 3) := by decide +kernel
theorem dX4_hires_29 : decode cX4_hires 29 = .ok (.aload_n 0, 1) := by decide +kernel
theorem dX4_hires_30 : decode cX4_hires 30 = .ok (.iload 4, 2) := by decide +kernel
theorem dX4_hires_32 : decode cX4_hires 32 = .ok (.invokevirtual 48, 3) := by decide +kernel
theorem dX4_hires_35 : decode cX4_hires 35 = .ok (.ifCond .eq 13, 3) := by decide +kernel
theorem dX4_hires_38 : decode cX4_hires 38 = .ok (.aload_n 0, 1) := by decide +kernel
theorem dX4_hires_39 : decode cX4_hires 39 = .ok (.iload 4, 2) := by decide +kernel
theorem dX4_hires_41 : decode cX4_hires 41 = .ok (.iload_n 1, 1) := by decide +kernel
theorem dX4_hires_42 : decode cX4_hires 42 = .ok (.invokevirtual 96, 3) := by decide +kernel
theorem dX4_hires_45 : decode cX4_hires 45 = .ok (.iinc 3 (-1), 3) := by decide +kernel
theorem dX4_hires_48 : decode cX4_hires 48 = .ok (.iinc 4 1, 3) := by decide +kernel
theorem dX4_hires_51 : decode cX4_hires 51 = .ok (.goto (-46), 3) := by decide +kernel
theorem dX4_hires_54 : decode cX4_hires 54 = .ok (.aload_n 0, 1) := by decide +kernel
theorem dX4_hires_55 : decode cX4_hires 55 = .ok (.iconst 1, 1) := by decide +kernel
theorem dX4_hires_56 : decode cX4_hires 56 = .ok (.invokevirtual 92, 3) := by decide +kernel
theorem dX4_hires_59 : decode cX4_hires 59 = .ok (.ireturn, 1) := by decide +kernel
theorem dX4_hire_0 : decode cX4_hire 0 = .ok (.aload_n 0, 1) := by decide +kernel
theorem dX4_hire_1 : decode cX4_hire 1 = .ok (.iload_n 1, 1) := by decide +kernel
theorem dX4_hire_2 : decode cX4_hire 2 = .ok (.invokestatic 100, 3) := by decide +kernel
theorem dX4_hire_5 : decode cX4_hire 5 = .ok (.ifCond .ne 7, 3) := by decide +kernel
theorem dX4_hire_8 : decode cX4_hire 8 = .ok (.iconst 1, 1) := by decide +kernel
theorem dX4_hire_9 : decode cX4_hire 9 = .ok (.goto 27, 3) := by decide +kernel
theorem dX4_hire_12 : decode cX4_hire 12 = .ok (.iload_n 2, 1) := by decide +kernel
theorem dX4_hire_13 : decode cX4_hire 13 = .ok (.invokestatic 51, 3) := by decide +kernel
theorem dX4_hire_16 : decode cX4_hire 16 = .ok (.ifCond .ne 7, 3) := by decide +kernel
theorem dX4_hire_19 : decode cX4_hire 19 = .ok (.iconst 2, 1) := by decide +kernel
theorem dX4_hire_20 : decode cX4_hire 20 = .ok (.goto 16, 3) := by decide +kernel
theorem dX4_hire_23 : decode cX4_hire 23 = .ok (.aload_n 0, 1) := by decide +kernel
theorem dX4_hire_24 : decode cX4_hire 24 = .ok (.iload_n 2, 1) := by decide +kernel
theorem dX4_hire_25 : decode cX4_hire 25 = .ok (.invokevirtual 103, 3) := by decide +kernel
theorem dX4_hire_28 : decode cX4_hire 28 = .ok (.ifCond .eq 7, 3) := by decide +kernel
theorem dX4_hire_31 : decode cX4_hire 31 = .ok (.iconst 0, 1) := by decide +kernel
theorem dX4_hire_32 : decode cX4_hire 32 = .ok (.goto 4, 3) := by decide +kernel
theorem dX4_hire_35 : decode cX4_hire 35 = .ok (.iconst 3, 1) := by decide +kernel
theorem dX4_hire_36 : decode cX4_hire 36 = .ok (.putfield 25, 3) := by decide +kernel
theorem dX4_hire_39 : decode cX4_hire 39 = .ok (.aload_n 0, 1) := by decide +kernel
theorem dX4_hire_40 : decode cX4_hire 40 = .ok (.getfield 25, 3) := by decide +kernel
theorem dX4_hire_43 : decode cX4_hire 43 = .ok (.ifCond .le 5, 3) := by decide +kernel
theorem dX4_hire_46 : decode cX4_hire 46 = .ok (.iconst 0, 1) := by decide +kernel
theorem dX4_hire_47 : decode cX4_hire 47 = .ok (.ireturn, 1) := by decide +kernel
theorem dX4_hire_48 : decode cX4_hire 48 = .ok (.aload_n 0, 1) := by decide +kernel
theorem dX4_hire_49 : decode cX4_hire 49 = .ok (.invokevirtual 54, 3) := by decide +kernel
theorem dX4_hire_52 : decode cX4_hire 52 = .ok (.aload_n 0, 1) := by decide +kernel
theorem dX4_hire_53 : decode cX4_hire 53 = .ok (.iload_n 1, 1) := by decide +kernel
theorem dX4_hire_54 : decode cX4_hire 54 = .ok (.iload_n 2, 1) := by decide +kernel
theorem dX4_hire_55 : decode cX4_hire 55 = .ok (.invokevirtual 106, 3) := by decide +kernel
theorem dX4_hire_58 : decode cX4_hire 58 = .ok (.ireturn, 1) := by decide +kernel
theorem dX4_canMove_0 : decode cX4_canMove 0 = .ok (.aload_n 0, 1) := by decide +kernel
theorem dX4_canMove_1 : decode cX4_canMove 1 = .ok (.iload_n 1, 1) := by decide +kernel
theorem dX4_canMove_2 : decode cX4_canMove 2 = .ok (.invokevirtual 44, 3) := by decide +kernel
theorem dX4_canMove_5 : decode cX4_canMove 5 = .ok (.ifCond .ne 17, 3) := by decide +kernel
theorem dX4_canMove_8 : decode cX4_canMove 8 = .ok (.aload_n 0, 1) := by decide +kernel
theorem dX4_canMove_9 : decode cX4_canMove 9 = .ok (.iload_n 1, 1) := by decide +kernel
theorem dX4_canMove_10 : decode cX4_canMove 10 = .ok (.iconst 0, 1) := by decide +kernel
theorem dX4_canMove_11 : decode cX4_canMove 11 = .ok (.invokevirtual 36, 3) := by decide +kernel
theorem dX4_canMove_14 : decode cX4_canMove 14 = .ok (.iload_n 2, 1) := by decide +kernel
theorem dX4_canMove_15 : decode cX4_canMove 15 = .ok (.if_icmp .eq 7, 3) := by decide +kernel
theorem dX4_canMove_18 : decode cX4_canMove 18 = .ok (.iconst 1, 1) := by decide +kernel
theorem dX4_canMove_19 : decode cX4_canMove 19 = .ok (.goto 4, 3) := by decide +kernel
theorem dX4_canMove_22 : decode cX4_canMove 22 = .ok (.iconst 0, 1) := by decide +kernel
theorem dX4_canMove_23 : decode cX4_canMove 23 = .ok (.ireturn, 1) := by decide +kernel
theorem dX4_moves_0 : decode cX4_moves 0 = .ok (.aload_n 0, 1) := by decide +kernel
theorem dX4_moves_1 : decode cX4_moves 1 = .ok (.iload_n 1, 1) := by decide +kernel
theorem dX4_moves_2 : decode cX4_moves 2 = .ok (.invokevirtual 109, 3) := by decide +kernel
theorem dX4_moves_5 : decode cX4_moves 5 = .ok (.istore_n 3, 1) := by decide +kernel
theorem dX4_moves_6 : decode cX4_moves 6 = .ok (.aload_n 0, 1) := by decide +kernel
theorem dX4_moves_7 : decode cX4_moves 7 = .ok (.iload_n 1, 1) := by decide +kernel
theorem dX4_moves_8 : decode cX4_moves 8 = .ok (.iload_n 2, 1) := by decide +kernel
theorem dX4_moves_9 : decode cX4_moves 9 = .ok (.invokevirtual 96, 3) := by decide +kernel
theorem dX4_moves_12 : decode cX4_moves 12 = .ok (.iload_n 3, 1) := by decide +kernel
theorem dX4_moves_13 : decode cX4_moves 13 = .ok (.ireturn, 1) := by decide +kernel
theorem dX4_moveOn_0 : decode cX4_moveOn 0 = .ok (.aload_n 0, 1) := by decide +kernel
theorem dX4_moveOn_1 : decode cX4_moveOn 1 = .ok (.aload_n 0, 1) := by decide +kernel
theorem dX4_moveOn_2 : decode cX4_moveOn 2 = .ok (.iload_n 1, 1) := by decide +kernel
theorem dX4_moveOn_3 : decode cX4_moveOn 3 = .ok (.invokevirtual 67, 3) := by decide +kernel
theorem dX4_moveOn_6 : decode cX4_moveOn 6 = .ok (.ifCond .eq 10, 3) := by decide +kernel
theorem dX4_moveOn_9 : decode cX4_moveOn 9 = .ok (.iload_n 2, 1) := by decide +kernel
theorem dX4_moveOn_10 : decode cX4_moveOn 10 = .ok (.invokestatic 100, 3) := by decide +kernel
theorem dX4_moveOn_13 : decode cX4_moveOn 13 = .ok (.ifCond .ne 7, 3) := by decide +kernel
theorem dX4_moveOn_16 : decode cX4_moveOn 16 = .ok (.iconst 1, 1) := by decide +kernel
theorem dX4_moveOn_17 : decode cX4_moveOn 17 = .ok (.goto 17, 3) := by decide +kernel
theorem dX4_moveOn_20 : decode cX4_moveOn 20 = .ok (.aload_n 0, 1) := by decide +kernel
theorem dX4_moveOn_21 : decode cX4_moveOn 21 = .ok (.iload_n 1, 1) := by decide +kernel
theorem dX4_moveOn_22 : decode cX4_moveOn 22 = .ok (.iload_n 2, 1) := by decide +kernel
theorem dX4_moveOn_23 : decode cX4_moveOn 23 = .ok (.invokevirtual 112, 3) := by decide +kernel
theorem dX4_moveOn_26 : decode cX4_moveOn 26 = .ok (.ifCond .eq 7, 3) := by decide +kernel
theorem dX4_moveOn_29 : decode cX4_moveOn 29 = .ok (.iconst 0, 1) := by decide +kernel
theorem dX4_moveOn_30 : decode cX4_moveOn 30 = .ok (.goto 4, 3) := by decide +kernel
theorem dX4_moveOn_33 : decode cX4_moveOn 33 = .ok (.iconst 2, 1) := by decide +kernel
theorem dX4_moveOn_34 : decode cX4_moveOn 34 = .ok (.putfield 25, 3) := by decide +kernel
theorem dX4_moveOn_37 : decode cX4_moveOn 37 = .ok (.aload_n 0, 1) := by decide +kernel
theorem dX4_moveOn_38 : decode cX4_moveOn 38 = .ok (.getfield 25, 3) := by decide +kernel
theorem dX4_moveOn_41 : decode cX4_moveOn 41 = .ok (.ifCond .le 5, 3) := by decide +kernel
theorem dX4_moveOn_44 : decode cX4_moveOn 44 = .ok (.iconst 0, 1) := by decide +kernel
theorem dX4_moveOn_45 : decode cX4_moveOn 45 = .ok (.ireturn, 1) := by decide +kernel
theorem dX4_moveOn_46 : decode cX4_moveOn 46 = .ok (.aload_n 0, 1) := by decide +kernel
theorem dX4_moveOn_47 : decode cX4_moveOn 47 = .ok (.invokevirtual 54, 3) := by decide +kernel
theorem dX4_moveOn_50 : decode cX4_moveOn 50 = .ok (.aload_n 0, 1) := by decide +kernel
theorem dX4_moveOn_51 : decode cX4_moveOn 51 = .ok (.iload_n 1, 1) := by decide +kernel
theorem dX4_moveOn_52 : decode cX4_moveOn 52 = .ok (.iload_n 2, 1) := by decide +kernel
theorem dX4_moveOn_53 : decode cX4_moveOn 53 = .ok (.invokevirtual 116, 3) := by decide +kernel
theorem dX4_moveOn_56 : decode cX4_moveOn 56 = .ok (.ireturn, 1) := by decide +kernel
theorem dX4_bring_0 : decode cX4_bring 0 = .ok (.aload_n 0, 1) := by decide +kernel
theorem dX4_bring_1 : decode cX4_bring 1 = .ok (.aload_n 0, 1) := by decide +kernel
theorem dX4_bring_2 : decode cX4_bring 2 = .ok (.iload_n 1, 1) := by decide +kernel
theorem dX4_bring_3 : decode cX4_bring 3 = .ok (.invokevirtual 67, 3) := by decide +kernel
theorem dX4_bring_6 : decode cX4_bring 6 = .ok (.ifCond .ne 7, 3) := by decide +kernel
theorem dX4_bring_9 : decode cX4_bring 9 = .ok (.iconst 1, 1) := by decide +kernel
theorem dX4_bring_10 : decode cX4_bring 10 = .ok (.goto 16, 3) := by decide +kernel
theorem dX4_bring_13 : decode cX4_bring 13 = .ok (.aload_n 0, 1) := by decide +kernel
theorem dX4_bring_14 : decode cX4_bring 14 = .ok (.iload_n 1, 1) := by decide +kernel
theorem dX4_bring_15 : decode cX4_bring 15 = .ok (.invokevirtual 44, 3) := by decide +kernel
theorem dX4_bring_18 : decode cX4_bring 18 = .ok (.ifCond .eq 7, 3) := by decide +kernel
theorem dX4_bring_21 : decode cX4_bring 21 = .ok (.iconst 2, 1) := by decide +kernel
theorem dX4_bring_22 : decode cX4_bring 22 = .ok (.goto 4, 3) := by decide +kernel
theorem dX4_bring_25 : decode cX4_bring 25 = .ok (.iconst 0, 1) := by decide +kernel
theorem dX4_bring_26 : decode cX4_bring 26 = .ok (.putfield 25, 3) := by decide +kernel
theorem dX4_bring_29 : decode cX4_bring 29 = .ok (.aload_n 0, 1) := by decide +kernel
theorem dX4_bring_30 : decode cX4_bring 30 = .ok (.getfield 25, 3) := by decide +kernel
theorem dX4_bring_33 : decode cX4_bring 33 = .ok (.ifCond .le 5, 3) := by decide +kernel
theorem dX4_bring_36 : decode cX4_bring 36 = .ok (.iconst 0, 1) := by decide +kernel
theorem dX4_bring_37 : decode cX4_bring 37 = .ok (.ireturn, 1) := by decide +kernel
theorem dX4_bring_38 : decode cX4_bring 38 = .ok (.aload_n 0, 1) := by decide +kernel
theorem dX4_bring_39 : decode cX4_bring 39 = .ok (.invokevirtual 54, 3) := by decide +kernel
theorem dX4_bring_42 : decode cX4_bring 42 = .ok (.aload_n 0, 1) := by decide +kernel
theorem dX4_bring_43 : decode cX4_bring 43 = .ok (.iload_n 1, 1) := by decide +kernel
theorem dX4_bring_44 : decode cX4_bring 44 = .ok (.invokevirtual 109, 3) := by decide +kernel
theorem dX4_bring_47 : decode cX4_bring 47 = .ok (.ireturn, 1) := by decide +kernel
theorem dX4_bringShort_0 : decode cX4_bringShort 0 = .ok (.aload_n 0, 1) := by decide +kernel
theorem dX4_bringShort_1 : decode cX4_bringShort 1 = .ok (.aload_n 0, 1) := by decide +kernel
theorem dX4_bringShort_2 : decode cX4_bringShort 2 = .ok (.iload_n 1, 1) := by decide +kernel
theorem dX4_bringShort_3 : decode cX4_bringShort 3 = .ok (.invokevirtual 67, 3) := by decide +kernel
theorem dX4_bringShort_6 : decode cX4_bringShort 6 = .ok (.ifCond .eq 10, 3) := by decide +kernel
theorem dX4_bringShort_9 : decode cX4_bringShort 9 = .ok (.iload_n 2, 1) := by decide +kernel
theorem dX4_bringShort_10 : decode cX4_bringShort 10 = .ok (.invokestatic 64, 3) := by decide +kernel
theorem dX4_bringShort_13 : decode cX4_bringShort 13 = .ok (.ifCond .ne 7, 3) := by decide +kernel
theorem dX4_bringShort_16 : decode cX4_bringShort 16 = .ok (.iconst 1, 1) := by decide +kernel
theorem dX4_bringShort_17 : decode cX4_bringShort 17 = .ok (.goto 35, 3) := by decide +kernel
theorem dX4_bringShort_20 : decode cX4_bringShort 20 = .ok (.iload_n 3, 1) := by decide +kernel
theorem dX4_bringShort_21 : decode cX4_bringShort 21 = .ok (.iconst 1, 1) := by decide +kernel
theorem dX4_bringShort_22 : decode cX4_bringShort 22 = .ok (.if_icmp .ge 7, 3) := by decide +kernel
theorem dX4_bringShort_25 : decode cX4_bringShort 25 = .ok (.iconst 2, 1) := by decide +kernel
theorem dX4_bringShort_26 : decode cX4_bringShort 26 = .ok (.goto 26, 3) := by decide +kernel
theorem dX4_bringShort_29 : decode cX4_bringShort 29 = .ok (.aload_n 0, 1) := by decide +kernel
theorem dX4_bringShort_30 : decode cX4_bringShort 30 = .ok (.iload_n 1, 1) := by decide +kernel
theorem dX4_bringShort_31 : decode cX4_bringShort 31 = .ok (.invokevirtual 44, 3) := by decide +kernel
theorem dX4_bringShort_34 : decode cX4_bringShort 34 = .ok (.ifCond .ne 13, 3) := by decide +kernel
theorem dX4_bringShort_37 : decode cX4_bringShort 37 = .ok (.aload_n 0, 1) := by decide +kernel
theorem dX4_bringShort_38 : decode cX4_bringShort 38 = .ok (.iload_n 1, 1) := by decide +kernel
theorem dX4_bringShort_39 : decode cX4_bringShort 39 = .ok (.iload_n 2, 1) := by decide +kernel
theorem dX4_bringShort_40 : decode cX4_bringShort 40 = .ok (.iload_n 3, 1) := by decide +kernel
theorem dX4_bringShort_41 : decode cX4_bringShort 41 = .ok (.invokevirtual 73, 3) := by decide +kernel
theorem dX4_bringShort_44 : decode cX4_bringShort 44 = .ok (.ifCond .ne 7, 3) := by decide +kernel
theorem dX4_bringShort_47 : decode cX4_bringShort 47 = .ok (.iconst 3, 1) := by decide +kernel
theorem dX4_bringShort_48 : decode cX4_bringShort 48 = .ok (.goto 4, 3) := by decide +kernel
theorem dX4_bringShort_51 : decode cX4_bringShort 51 = .ok (.iconst 0, 1) := by decide +kernel
theorem dX4_bringShort_52 : decode cX4_bringShort 52 = .ok (.putfield 25, 3) := by decide +kernel
theorem dX4_bringShort_55 : decode cX4_bringShort 55 = .ok (.aload_n 0, 1) := by decide +kernel
theorem dX4_bringShort_56 : decode cX4_bringShort 56 = .ok (.getfield 25, 3) := by decide +kernel
theorem dX4_bringShort_59 : decode cX4_bringShort 59 = .ok (.ifCond .le 5, 3) := by decide +kernel
theorem dX4_bringShort_62 : decode cX4_bringShort 62 = .ok (.iconst 0, 1) := by decide +kernel
theorem dX4_bringShort_63 : decode cX4_bringShort 63 = .ok (.ireturn, 1) := by decide +kernel
theorem dX4_bringShort_64 : decode cX4_bringShort 64 = .ok (.aload_n 0, 1) := by decide +kernel
theorem dX4_bringShort_65 : decode cX4_bringShort 65 = .ok (.invokevirtual 54, 3) := by decide +kernel
theorem dX4_bringShort_68 : decode cX4_bringShort 68 = .ok (.iload_n 3, 1) := by decide +kernel
theorem dX4_bringShort_69 : decode cX4_bringShort 69 = .ok (.iload_n 2, 1) := by decide +kernel
theorem dX4_bringShort_70 : decode cX4_bringShort 70 = .ok (.invokestatic 61, 3) := by decide +kernel
theorem dX4_bringShort_73 : decode cX4_bringShort 73 = .ok (.imul, 1) := by decide +kernel
theorem dX4_bringShort_74 : decode cX4_bringShort 74 = .ok (.istore 4, 2) := by decide +kernel
theorem dX4_bringShort_76 : decode cX4_bringShort 76 = .ok (.aload_n 0, 1) := by decide +kernel
theorem dX4_bringShort_77 : decode cX4_bringShort 77 = .ok (.aload_n 0, 1) := by decide +kernel
theorem dX4_bringShort_78 : decode cX4_bringShort 78 = .ok (.iload_n 1, 1) := by decide +kernel
theorem dX4_bringShort_79 : decode cX4_bringShort 79 = .ok (.iconst 0, 1) := by decide +kernel
theorem dX4_bringShort_80 : decode cX4_bringShort 80 = .ok (.invokevirtual 36, 3) := by decide +kernel
theorem dX4_bringShort_83 : decode cX4_bringShort 83 = .ok (.iconst 1, 1) := by decide +kernel
theorem dX4_bringShort_84 : decode cX4_bringShort 84 = .ok (.iload 4, 2) := by decide +kernel
theorem dX4_bringShort_86 : decode cX4_bringShort 86 = .ok (.invokevirtual 83, 3) := by decide +kernel
theorem dX4_bringShort_89 : decode cX4_bringShort 89 = .ok (.aload_n 0, 1) := by decide +kernel
theorem dX4_bringShort_90 : decode cX4_bringShort 90 = .ok (.iload_n 1, 1) := by decide +kernel
theorem dX4_bringShort_91 : decode cX4_bringShort 91 = .ok (.iload_n 2, 1) := by decide +kernel
theorem dX4_bringShort_92 : decode cX4_bringShort 92 = .ok (.iload_n 3, 1) := by decide +kernel
theorem dX4_bringShort_93 : decode cX4_bringShort 93 = .ok (.invokevirtual 76, 3) := by decide +kernel
theorem dX4_bringShort_96 : decode cX4_bringShort 96 = .ok (.aload_n 0, 1) := by decide +kernel
theorem dX4_bringShort_97 : decode cX4_bringShort 97 = .ok (.iload_n 1, 1) := by decide +kernel
theorem dX4_bringShort_98 : decode cX4_bringShort 98 = .ok (.invokevirtual 109, 3) := by decide +kernel
theorem dX4_bringShort_101 : decode cX4_bringShort 101 = .ok (.iload 4, 2) := by decide +kernel
theorem dX4_bringShort_103 : decode cX4_bringShort 103 = .ok (.iadd, 1) := by decide +kernel
theorem dX4_bringShort_104 : decode cX4_bringShort 104 = .ok (.ireturn, 1) := by decide +kernel
theorem dX4_billedTo_0 : decode cX4_billedTo 0 = .ok (.aload_n 0, 1) := by decide +kernel
theorem dX4_billedTo_1 : decode cX4_billedTo 1 = .ok (.iload_n 1, 1) := by decide +kernel
theorem dX4_billedTo_2 : decode cX4_billedTo 2 = .ok (.iconst 0, 1) := by decide +kernel
theorem dX4_billedTo_3 : decode cX4_billedTo 3 = .ok (.invokevirtual 119, 3) := by decide +kernel
theorem dX4_billedTo_6 : decode cX4_billedTo 6 = .ok (.aload_n 0, 1) := by decide +kernel
theorem dX4_billedTo_7 : decode cX4_billedTo 7 = .ok (.iload_n 1, 1) := by decide +kernel
theorem dX4_billedTo_8 : decode cX4_billedTo 8 = .ok (.iconst 1, 1) := by decide +kernel
theorem dX4_billedTo_9 : decode cX4_billedTo 9 = .ok (.invokevirtual 119, 3) := by decide +kernel
theorem dX4_billedTo_12 : decode cX4_billedTo 12 = .ok (.iadd, 1) := by decide +kernel
theorem dX4_billedTo_13 : decode cX4_billedTo 13 = .ok (.aload_n 0, 1) := by decide +kernel
theorem dX4_billedTo_14 : decode cX4_billedTo 14 = .ok (.iload_n 1, 1) := by decide +kernel
theorem dX4_billedTo_15 : decode cX4_billedTo 15 = .ok (.iconst 2, 1) := by decide +kernel
theorem dX4_billedTo_16 : decode cX4_billedTo 16 = .ok (.invokevirtual 119, 3) := by decide +kernel
theorem dX4_billedTo_19 : decode cX4_billedTo 19 = .ok (.iadd, 1) := by decide +kernel
theorem dX4_billedTo_20 : decode cX4_billedTo 20 = .ok (.ireturn, 1) := by decide +kernel
theorem dX4_owedBy_0 : decode cX4_owedBy 0 = .ok (.aload_n 0, 1) := by decide +kernel
theorem dX4_owedBy_1 : decode cX4_owedBy 1 = .ok (.iload_n 1, 1) := by decide +kernel
theorem dX4_owedBy_2 : decode cX4_owedBy 2 = .ok (.invokevirtual 122, 3) := by decide +kernel
theorem dX4_owedBy_5 : decode cX4_owedBy 5 = .ok (.aload_n 0, 1) := by decide +kernel
theorem dX4_owedBy_6 : decode cX4_owedBy 6 = .ok (.iload_n 1, 1) := by decide +kernel
theorem dX4_owedBy_7 : decode cX4_owedBy 7 = .ok (.iconst 3, 1) := by decide +kernel
theorem dX4_owedBy_8 : decode cX4_owedBy 8 = .ok (.invokevirtual 119, 3) := by decide +kernel
theorem dX4_owedBy_11 : decode cX4_owedBy 11 = .ok (.isub, 1) := by decide +kernel
theorem dX4_owedBy_12 : decode cX4_owedBy 12 = .ok (.ireturn, 1) := by decide +kernel
theorem dX4_pay_0 : decode cX4_pay 0 = .ok (.aload_n 0, 1) := by decide +kernel
theorem dX4_pay_1 : decode cX4_pay 1 = .ok (.iload_n 1, 1) := by decide +kernel
theorem dX4_pay_2 : decode cX4_pay 2 = .ok (.invokestatic 100, 3) := by decide +kernel
theorem dX4_pay_5 : decode cX4_pay 5 = .ok (.ifCond .ne 7, 3) := by decide +kernel
theorem dX4_pay_8 : decode cX4_pay 8 = .ok (.iconst 1, 1) := by decide +kernel
theorem dX4_pay_9 : decode cX4_pay 9 = .ok (.goto 32, 3) := by decide +kernel
theorem dX4_pay_12 : decode cX4_pay 12 = .ok (.iload_n 2, 1) := by decide +kernel
theorem dX4_pay_13 : decode cX4_pay 13 = .ok (.iconst 1, 1) := by decide +kernel
theorem dX4_pay_14 : decode cX4_pay 14 = .ok (.sipush 9999, 3) := by decide +kernel
theorem dX4_pay_17 : decode cX4_pay 17 = .ok (.invokestatic 32, 3) := by decide +kernel
theorem dX4_pay_20 : decode cX4_pay 20 = .ok (.ifCond .ne 7, 3) := by decide +kernel
theorem dX4_pay_23 : decode cX4_pay 23 = .ok (.iconst 2, 1) := by decide +kernel
theorem dX4_pay_24 : decode cX4_pay 24 = .ok (.goto 17, 3) := by decide +kernel
theorem dX4_pay_27 : decode cX4_pay 27 = .ok (.aload_n 0, 1) := by decide +kernel
theorem dX4_pay_28 : decode cX4_pay 28 = .ok (.iload_n 1, 1) := by decide +kernel
theorem dX4_pay_29 : decode cX4_pay 29 = .ok (.invokevirtual 125, 3) := by decide +kernel
theorem dX4_pay_32 : decode cX4_pay 32 = .ok (.iload_n 2, 1) := by decide +kernel
theorem dX4_pay_33 : decode cX4_pay 33 = .ok (.if_icmp .ge 7, 3) := by decide +kernel
theorem dX4_pay_36 : decode cX4_pay 36 = .ok (.iconst 3, 1) := by decide +kernel
theorem dX4_pay_37 : decode cX4_pay 37 = .ok (.goto 4, 3) := by decide +kernel
theorem dX4_pay_40 : decode cX4_pay 40 = .ok (.iconst 0, 1) := by decide +kernel
theorem dX4_pay_41 : decode cX4_pay 41 = .ok (.putfield 25, 3) := by decide +kernel
theorem dX4_pay_44 : decode cX4_pay 44 = .ok (.aload_n 0, 1) := by decide +kernel
theorem dX4_pay_45 : decode cX4_pay 45 = .ok (.getfield 25, 3) := by decide +kernel
theorem dX4_pay_48 : decode cX4_pay 48 = .ok (.ifCond .le 5, 3) := by decide +kernel
theorem dX4_pay_51 : decode cX4_pay 51 = .ok (.iconst 0, 1) := by decide +kernel
theorem dX4_pay_52 : decode cX4_pay 52 = .ok (.ireturn, 1) := by decide +kernel
theorem dX4_pay_53 : decode cX4_pay 53 = .ok (.aload_n 0, 1) := by decide +kernel
theorem dX4_pay_54 : decode cX4_pay 54 = .ok (.invokevirtual 54, 3) := by decide +kernel
theorem dX4_pay_57 : decode cX4_pay 57 = .ok (.aload_n 0, 1) := by decide +kernel
theorem dX4_pay_58 : decode cX4_pay 58 = .ok (.iload_n 1, 1) := by decide +kernel
theorem dX4_pay_59 : decode cX4_pay 59 = .ok (.iconst 3, 1) := by decide +kernel
theorem dX4_pay_60 : decode cX4_pay 60 = .ok (.iload_n 2, 1) := by decide +kernel
theorem dX4_pay_61 : decode cX4_pay 61 = .ok (.invokevirtual 83, 3) := by decide +kernel
theorem dX4_pay_64 : decode cX4_pay 64 = .ok (.aload_n 0, 1) := by decide +kernel
theorem dX4_pay_65 : decode cX4_pay 65 = .ok (.iload_n 1, 1) := by decide +kernel
theorem dX4_pay_66 : decode cX4_pay 66 = .ok (.invokevirtual 125, 3) := by decide +kernel
theorem dX4_pay_69 : decode cX4_pay 69 = .ok (.ireturn, 1) := by decide +kernel
theorem dX4_areDays_0 : decode cX4_areDays 0 = .ok (.iload_n 0, 1) := by decide +kernel
theorem dX4_areDays_1 : decode cX4_areDays 1 = .ok (.iconst 1, 1) := by decide +kernel
theorem dX4_areDays_2 : decode cX4_areDays 2 = .ok (.bipush 99, 2) := by decide +kernel
theorem dX4_areDays_4 : decode cX4_areDays 4 = .ok (.invokestatic 32, 3) := by decide +kernel
theorem dX4_areDays_7 : decode cX4_areDays 7 = .ok (.ireturn, 1) := by decide +kernel
theorem dX4_canPass_0 : decode cX4_canPass 0 = .ok (.aload_n 0, 1) := by decide +kernel
theorem dX4_canPass_1 : decode cX4_canPass 1 = .ok (.getfield 7, 3) := by decide +kernel
theorem dX4_canPass_4 : decode cX4_canPass 4 = .ok (.iconst 2, 1) := by decide +kernel
theorem dX4_canPass_5 : decode cX4_canPass 5 = .ok (.iaload, 1) := by decide +kernel
theorem dX4_canPass_6 : decode cX4_canPass 6 = .ok (.iload_n 1, 1) := by decide +kernel
theorem dX4_canPass_7 : decode cX4_canPass 7 = .ok (.iadd, 1) := by decide +kernel
theorem dX4_canPass_8 : decode cX4_canPass 8 = .ok (.sipush 9999, 3) := by decide +kernel
theorem dX4_canPass_11 : decode cX4_canPass 11 = .ok (.if_icmp .gt 7, 3) := by decide +kernel
theorem dX4_canPass_14 : decode cX4_canPass 14 = .ok (.iconst 1, 1) := by decide +kernel
theorem dX4_canPass_15 : decode cX4_canPass 15 = .ok (.goto 4, 3) := by decide +kernel
theorem dX4_canPass_18 : decode cX4_canPass 18 = .ok (.iconst 0, 1) := by decide +kernel
theorem dX4_canPass_19 : decode cX4_canPass 19 = .ok (.ireturn, 1) := by decide +kernel
theorem dX4_pass_0 : decode cX4_pass 0 = .ok (.aload_n 0, 1) := by decide +kernel
theorem dX4_pass_1 : decode cX4_pass 1 = .ok (.iload_n 1, 1) := by decide +kernel
theorem dX4_pass_2 : decode cX4_pass 2 = .ok (.invokestatic 128, 3) := by decide +kernel
theorem dX4_pass_5 : decode cX4_pass 5 = .ok (.ifCond .ne 7, 3) := by decide +kernel
theorem dX4_pass_8 : decode cX4_pass 8 = .ok (.iconst 1, 1) := by decide +kernel
theorem dX4_pass_9 : decode cX4_pass 9 = .ok (.goto 16, 3) := by decide +kernel
theorem dX4_pass_12 : decode cX4_pass 12 = .ok (.aload_n 0, 1) := by decide +kernel
theorem dX4_pass_13 : decode cX4_pass 13 = .ok (.iload_n 1, 1) := by decide +kernel
theorem dX4_pass_14 : decode cX4_pass 14 = .ok (.invokevirtual 131, 3) := by decide +kernel
theorem dX4_pass_17 : decode cX4_pass 17 = .ok (.ifCond .eq 7, 3) := by decide +kernel
theorem dX4_pass_20 : decode cX4_pass 20 = .ok (.iconst 0, 1) := by decide +kernel
theorem dX4_pass_21 : decode cX4_pass 21 = .ok (.goto 4, 3) := by decide +kernel
theorem dX4_pass_24 : decode cX4_pass 24 = .ok (.iconst 2, 1) := by decide +kernel
theorem dX4_pass_25 : decode cX4_pass 25 = .ok (.putfield 25, 3) := by decide +kernel
theorem dX4_pass_28 : decode cX4_pass 28 = .ok (.aload_n 0, 1) := by decide +kernel
theorem dX4_pass_29 : decode cX4_pass 29 = .ok (.getfield 25, 3) := by decide +kernel
theorem dX4_pass_32 : decode cX4_pass 32 = .ok (.ifCond .le 5, 3) := by decide +kernel
theorem dX4_pass_35 : decode cX4_pass 35 = .ok (.iconst 0, 1) := by decide +kernel
theorem dX4_pass_36 : decode cX4_pass 36 = .ok (.ireturn, 1) := by decide +kernel
theorem dX4_pass_37 : decode cX4_pass 37 = .ok (.aload_n 0, 1) := by decide +kernel
theorem dX4_pass_38 : decode cX4_pass 38 = .ok (.invokevirtual 54, 3) := by decide +kernel
theorem dX4_pass_41 : decode cX4_pass 41 = .ok (.aload_n 0, 1) := by decide +kernel
theorem dX4_pass_42 : decode cX4_pass 42 = .ok (.getfield 7, 3) := by decide +kernel
theorem dX4_pass_45 : decode cX4_pass 45 = .ok (.iconst 2, 1) := by decide +kernel
theorem dX4_pass_46 : decode cX4_pass 46 = .ok (.dup2, 1) := by decide +kernel
theorem dX4_pass_47 : decode cX4_pass 47 = .ok (.iaload, 1) := by decide +kernel
theorem dX4_pass_48 : decode cX4_pass 48 = .ok (.iload_n 1, 1) := by decide +kernel
theorem dX4_pass_49 : decode cX4_pass 49 = .ok (.iadd, 1) := by decide +kernel
theorem dX4_pass_50 : decode cX4_pass 50 = .ok (.iastore, 1) := by decide +kernel
theorem dX4_pass_51 : decode cX4_pass 51 = .ok (.aload_n 0, 1) := by decide +kernel
theorem dX4_pass_52 : decode cX4_pass 52 = .ok (.getfield 7, 3) := by decide +kernel
theorem dX4_pass_55 : decode cX4_pass 55 = .ok (.iconst 2, 1) := by decide +kernel
theorem dX4_pass_56 : decode cX4_pass 56 = .ok (.iaload, 1) := by decide +kernel
theorem dX4_pass_57 : decode cX4_pass 57 = .ok (.ireturn, 1) := by decide +kernel
theorem dX4_isSetting_0 : decode cX4_isSetting 0 = .ok (.iload_n 0, 1) := by decide +kernel
theorem dX4_isSetting_1 : decode cX4_isSetting 1 = .ok (.iconst 0, 1) := by decide +kernel
theorem dX4_isSetting_2 : decode cX4_isSetting 2 = .ok (.iconst 1, 1) := by decide +kernel
theorem dX4_isSetting_3 : decode cX4_isSetting 3 = .ok (.invokestatic 32, 3) := by decide +kernel
theorem dX4_isSetting_6 : decode cX4_isSetting 6 = .ok (.ireturn, 1) := by decide +kernel
theorem dX4_set_0 : decode cX4_set 0 = .ok (.aload_n 0, 1) := by decide +kernel
theorem dX4_set_1 : decode cX4_set 1 = .ok (.iload_n 1, 1) := by decide +kernel
theorem dX4_set_2 : decode cX4_set 2 = .ok (.invokestatic 134, 3) := by decide +kernel
theorem dX4_set_5 : decode cX4_set 5 = .ok (.ifCond .ne 7, 3) := by decide +kernel
theorem dX4_set_8 : decode cX4_set 8 = .ok (.iconst 1, 1) := by decide +kernel
theorem dX4_set_9 : decode cX4_set 9 = .ok (.goto 37, 3) := by decide +kernel
theorem dX4_set_12 : decode cX4_set 12 = .ok (.iload_n 1, 1) := by decide +kernel
theorem dX4_set_13 : decode cX4_set 13 = .ok (.ifCond .ne 13, 3) := by decide +kernel
theorem dX4_set_16 : decode cX4_set 16 = .ok (.iload_n 2, 1) := by decide +kernel
theorem dX4_set_17 : decode cX4_set 17 = .ok (.iconst 0, 1) := by decide +kernel
theorem dX4_set_18 : decode cX4_set 18 = .ok (.bipush 90, 2) := by decide +kernel
theorem dX4_set_20 : decode cX4_set 20 = .ok (.invokestatic 32, 3) := by decide +kernel
theorem dX4_set_23 : decode cX4_set 23 = .ok (.ifCond .ne 18, 3) := by decide +kernel
theorem dX4_set_26 : decode cX4_set 26 = .ok (.iload_n 1, 1) := by decide +kernel
theorem dX4_set_27 : decode cX4_set 27 = .ok (.iconst 1, 1) := by decide +kernel
theorem dX4_set_28 : decode cX4_set 28 = .ok (.if_icmp .ne 17, 3) := by decide +kernel
theorem dX4_set_31 : decode cX4_set 31 = .ok (.iload_n 2, 1) := by decide +kernel
theorem dX4_set_32 : decode cX4_set 32 = .ok (.iconst 1, 1) := by decide +kernel
theorem dX4_set_33 : decode cX4_set 33 = .ok (.bipush 99, 2) := by decide +kernel
theorem dX4_set_35 : decode cX4_set 35 = .ok (.invokestatic 32, 3) := by decide +kernel
theorem dX4_set_38 : decode cX4_set 38 = .ok (.ifCond .eq 7, 3) := by decide +kernel
theorem dX4_set_41 : decode cX4_set 41 = .ok (.iconst 0, 1) := by decide +kernel
theorem dX4_set_42 : decode cX4_set 42 = .ok (.goto 4, 3) := by decide +kernel
theorem dX4_set_45 : decode cX4_set 45 = .ok (.iconst 2, 1) := by decide +kernel
theorem dX4_set_46 : decode cX4_set 46 = .ok (.putfield 25, 3) := by decide +kernel
theorem dX4_set_49 : decode cX4_set 49 = .ok (.aload_n 0, 1) := by decide +kernel
theorem dX4_set_50 : decode cX4_set 50 = .ok (.getfield 25, 3) := by decide +kernel
theorem dX4_set_53 : decode cX4_set 53 = .ok (.ifCond .le 5, 3) := by decide +kernel
theorem dX4_set_56 : decode cX4_set 56 = .ok (.iconst 0, 1) := by decide +kernel
theorem dX4_set_57 : decode cX4_set 57 = .ok (.ireturn, 1) := by decide +kernel
theorem dX4_set_58 : decode cX4_set 58 = .ok (.aload_n 0, 1) := by decide +kernel
theorem dX4_set_59 : decode cX4_set 59 = .ok (.invokevirtual 54, 3) := by decide +kernel
theorem dX4_set_62 : decode cX4_set 62 = .ok (.aload_n 0, 1) := by decide +kernel
theorem dX4_set_63 : decode cX4_set 63 = .ok (.getfield 7, 3) := by decide +kernel
theorem dX4_set_66 : decode cX4_set 66 = .ok (.iload_n 1, 1) := by decide +kernel
theorem dX4_set_67 : decode cX4_set 67 = .ok (.iaload, 1) := by decide +kernel
theorem dX4_set_68 : decode cX4_set 68 = .ok (.istore_n 3, 1) := by decide +kernel
theorem dX4_set_69 : decode cX4_set 69 = .ok (.aload_n 0, 1) := by decide +kernel
theorem dX4_set_70 : decode cX4_set 70 = .ok (.getfield 7, 3) := by decide +kernel
theorem dX4_set_73 : decode cX4_set 73 = .ok (.iload_n 1, 1) := by decide +kernel
theorem dX4_set_74 : decode cX4_set 74 = .ok (.iload_n 2, 1) := by decide +kernel
theorem dX4_set_75 : decode cX4_set 75 = .ok (.iastore, 1) := by decide +kernel
theorem dX4_set_76 : decode cX4_set 76 = .ok (.iload_n 3, 1) := by decide +kernel
theorem dX4_set_77 : decode cX4_set 77 = .ok (.ireturn, 1) := by decide +kernel
theorem dX4_append_0 : decode cX4_append 0 = .ok (.aload_n 0, 1) := by decide +kernel
theorem dX4_append_1 : decode cX4_append 1 = .ok (.iload_n 1, 1) := by decide +kernel
theorem dX4_append_2 : decode cX4_append 2 = .ok (.bipush 33, 2) := by decide +kernel
theorem dX4_append_4 : decode cX4_append 4 = .ok (.bipush 126, 2) := by decide +kernel
theorem dX4_append_6 : decode cX4_append 6 = .ok (.invokestatic 32, 3) := by decide +kernel
theorem dX4_append_9 : decode cX4_append 9 = .ok (.ifCond .ne 7, 3) := by decide +kernel
theorem dX4_append_12 : decode cX4_append 12 = .ok (.iconst 1, 1) := by decide +kernel
theorem dX4_append_13 : decode cX4_append 13 = .ok (.goto 17, 3) := by decide +kernel
theorem dX4_append_16 : decode cX4_append 16 = .ok (.aload_n 0, 1) := by decide +kernel
theorem dX4_append_17 : decode cX4_append 17 = .ok (.getfield 137, 3) := by decide +kernel
theorem dX4_append_20 : decode cX4_append 20 = .ok (.bipush 60, 2) := by decide +kernel
theorem dX4_append_22 : decode cX4_append 22 = .ok (.if_icmp .ne 7, 3) := by decide +kernel
theorem dX4_append_25 : decode cX4_append 25 = .ok (.iconst 2, 1) := by decide +kernel
theorem dX4_append_26 : decode cX4_append 26 = .ok (.goto 4, 3) := by decide +kernel
theorem dX4_append_29 : decode cX4_append 29 = .ok (.iconst 0, 1) := by decide +kernel
theorem dX4_append_30 : decode cX4_append 30 = .ok (.putfield 25, 3) := by decide +kernel
theorem dX4_append_33 : decode cX4_append 33 = .ok (.aload_n 0, 1) := by decide +kernel
theorem dX4_append_34 : decode cX4_append 34 = .ok (.getfield 25, 3) := by decide +kernel
theorem dX4_append_37 : decode cX4_append 37 = .ok (.ifCond .le 5, 3) := by decide +kernel
theorem dX4_append_40 : decode cX4_append 40 = .ok (.iconst 0, 1) := by decide +kernel
theorem dX4_append_41 : decode cX4_append 41 = .ok (.ireturn, 1) := by decide +kernel
theorem dX4_append_42 : decode cX4_append 42 = .ok (.aload_n 0, 1) := by decide +kernel
theorem dX4_append_43 : decode cX4_append 43 = .ok (.getfield 16, 3) := by decide +kernel
theorem dX4_append_46 : decode cX4_append 46 = .ok (.aload_n 0, 1) := by decide +kernel
theorem dX4_append_47 : decode cX4_append 47 = .ok (.getfield 137, 3) := by decide +kernel
theorem dX4_append_50 : decode cX4_append 50 = .ok (.iload_n 1, 1) := by decide +kernel
theorem dX4_append_51 : decode cX4_append 51 = .ok (.iastore, 1) := by decide +kernel
theorem dX4_append_52 : decode cX4_append 52 = .ok (.aload_n 0, 1) := by decide +kernel
theorem dX4_append_53 : decode cX4_append 53 = .ok (.dup, 1) := by decide +kernel
theorem dX4_append_54 : decode cX4_append 54 = .ok (.getfield 137, 3) := by decide +kernel
theorem dX4_append_57 : decode cX4_append 57 = .ok (.iconst 1, 1) := by decide +kernel
theorem dX4_append_58 : decode cX4_append 58 = .ok (.iadd, 1) := by decide +kernel
theorem dX4_append_59 : decode cX4_append 59 = .ok (.putfield 137, 3) := by decide +kernel
theorem dX4_append_62 : decode cX4_append 62 = .ok (.aload_n 0, 1) := by decide +kernel
theorem dX4_append_63 : decode cX4_append 63 = .ok (.getfield 137, 3) := by decide +kernel
theorem dX4_append_66 : decode cX4_append 66 = .ok (.ireturn, 1) := by decide +kernel
theorem dX4_clearBuffer_0 : decode cX4_clearBuffer 0 = .ok (.aload_n 0, 1) := by decide +kernel
theorem dX4_clearBuffer_1 : decode cX4_clearBuffer 1 = .ok (.iconst 0, 1) := by decide +kernel
theorem dX4_clearBuffer_2 : decode cX4_clearBuffer 2 = .ok (.putfield 25, 3) := by decide +kernel
theorem dX4_clearBuffer_5 : decode cX4_clearBuffer 5 = .ok (.aload_n 0, 1) := by decide +kernel
theorem dX4_clearBuffer_6 : decode cX4_clearBuffer 6 = .ok (.getfield 137, 3) := by decide +kernel
theorem dX4_clearBuffer_9 : decode cX4_clearBuffer 9 = .ok (.istore_n 1, 1) := by decide +kernel
theorem dX4_clearBuffer_10 : decode cX4_clearBuffer 10 = .ok (.aload_n 0, 1) := by decide +kernel
theorem dX4_clearBuffer_11 : decode cX4_clearBuffer 11 = .ok (.iconst 0, 1) := by decide +kernel
theorem dX4_clearBuffer_12 : decode cX4_clearBuffer 12 = .ok (.putfield 137, 3) := by decide +kernel
theorem dX4_clearBuffer_15 : decode cX4_clearBuffer 15 = .ok (.iload_n 1, 1) := by decide +kernel
theorem dX4_clearBuffer_16 : decode cX4_clearBuffer 16 = .ok (.ireturn, 1) := by decide +kernel
theorem dX4_begins_0 : decode cX4_begins 0 = .ok (.aload_n 0, 1) := by decide +kernel
theorem dX4_begins_1 : decode cX4_begins 1 = .ok (.getfield 19, 3) := by decide +kernel
theorem dX4_begins_4 : decode cX4_begins 4 = .ok (.iconst 3, 1) := by decide +kernel
theorem dX4_begins_5 : decode cX4_begins 5 = .ok (.aload_n 0, 1) := by decide +kernel
theorem dX4_begins_6 : decode cX4_begins 6 = .ok (.getfield 140, 3) := by decide +kernel
theorem dX4_begins_9 : decode cX4_begins 9 = .ok (.imul, 1) := by decide +kernel
theorem dX4_begins_10 : decode cX4_begins 10 = .ok (.iload_n 1, 1) := by decide +kernel
theorem dX4_begins_11 : decode cX4_begins 11 = .ok (.iastore, 1) := by decide +kernel
theorem dX4_begins_12 : decode cX4_begins 12 = .ok (.aload_n 0, 1) := by decide +kernel
theorem dX4_begins_13 : decode cX4_begins 13 = .ok (.iconst (-1), 1) := by decide +kernel
theorem dX4_begins_14 : decode cX4_begins 14 = .ok (.putfield 143, 3) := by decide +kernel
theorem dX4_begins_17 : decode cX4_begins 17 = .ok (.aload_n 0, 1) := by decide +kernel
theorem dX4_begins_18 : decode cX4_begins 18 = .ok (.iload_n 1, 1) := by decide +kernel
theorem dX4_begins_19 : decode cX4_begins 19 = .ok (.bipush 104, 2) := by decide +kernel
theorem dX4_begins_21 : decode cX4_begins 21 = .ok (.if_icmp .ne 7, 3) := by decide +kernel
theorem dX4_begins_24 : decode cX4_begins 24 = .ok (.iconst 1, 1) := by decide +kernel
theorem dX4_begins_25 : decode cX4_begins 25 = .ok (.goto 4, 3) := by decide +kernel
theorem dX4_begins_28 : decode cX4_begins 28 = .ok (.iconst 3, 1) := by decide +kernel
theorem dX4_begins_29 : decode cX4_begins 29 = .ok (.putfield 146, 3) := by decide +kernel
theorem dX4_begins_32 : decode cX4_begins 32 = .ok (.iload_n 1, 1) := by decide +kernel
theorem dX4_begins_33 : decode cX4_begins 33 = .ok (.bipush 104, 2) := by decide +kernel
theorem dX4_begins_35 : decode cX4_begins 35 = .ok (.if_icmp .eq 21, 3) := by decide +kernel
theorem dX4_begins_38 : decode cX4_begins 38 = .ok (.iload_n 1, 1) := by decide +kernel
theorem dX4_begins_39 : decode cX4_begins 39 = .ok (.bipush 109, 2) := by decide +kernel
theorem dX4_begins_41 : decode cX4_begins 41 = .ok (.if_icmp .eq 15, 3) := by decide +kernel
theorem dX4_begins_44 : decode cX4_begins 44 = .ok (.iload_n 1, 1) := by decide +kernel
theorem dX4_begins_45 : decode cX4_begins 45 = .ok (.bipush 98, 2) := by decide +kernel
theorem dX4_begins_47 : decode cX4_begins 47 = .ok (.if_icmp .eq 9, 3) := by decide +kernel
theorem dX4_begins_50 : decode cX4_begins 50 = .ok (.iload_n 1, 1) := by decide +kernel
theorem dX4_begins_51 : decode cX4_begins 51 = .ok (.bipush 100, 2) := by decide +kernel
theorem dX4_begins_53 : decode cX4_begins 53 = .ok (.if_icmp .ne 7, 3) := by decide +kernel
theorem dX4_begins_56 : decode cX4_begins 56 = .ok (.iconst 1, 1) := by decide +kernel
theorem dX4_begins_57 : decode cX4_begins 57 = .ok (.goto 4, 3) := by decide +kernel
theorem dX4_begins_60 : decode cX4_begins 60 = .ok (.iconst 0, 1) := by decide +kernel
theorem dX4_begins_61 : decode cX4_begins 61 = .ok (.ireturn, 1) := by decide +kernel
theorem dX4_takesDigit_0 : decode cX4_takesDigit 0 = .ok (.aload_n 0, 1) := by decide +kernel
theorem dX4_takesDigit_1 : decode cX4_takesDigit 1 = .ok (.getfield 19, 3) := by decide +kernel
theorem dX4_takesDigit_4 : decode cX4_takesDigit 4 = .ok (.iconst 3, 1) := by decide +kernel
theorem dX4_takesDigit_5 : decode cX4_takesDigit 5 = .ok (.aload_n 0, 1) := by decide +kernel
theorem dX4_takesDigit_6 : decode cX4_takesDigit 6 = .ok (.getfield 140, 3) := by decide +kernel
theorem dX4_takesDigit_9 : decode cX4_takesDigit 9 = .ok (.imul, 1) := by decide +kernel
theorem dX4_takesDigit_10 : decode cX4_takesDigit 10 = .ok (.iaload, 1) := by decide +kernel
theorem dX4_takesDigit_11 : decode cX4_takesDigit 11 = .ok (.istore_n 2, 1) := by decide +kernel
theorem dX4_takesDigit_12 : decode cX4_takesDigit 12 = .ok (.iload_n 2, 1) := by decide +kernel
theorem dX4_takesDigit_13 : decode cX4_takesDigit 13 = .ok (.bipush 109, 2) := by decide +kernel
theorem dX4_takesDigit_15 : decode cX4_takesDigit 15 = .ok (.if_icmp .eq 9, 3) := by decide +kernel
theorem dX4_takesDigit_18 : decode cX4_takesDigit 18 = .ok (.iload_n 2, 1) := by decide +kernel
theorem dX4_takesDigit_19 : decode cX4_takesDigit 19 = .ok (.bipush 98, 2) := by decide +kernel
theorem dX4_takesDigit_21 : decode cX4_takesDigit 21 = .ok (.if_icmp .ne 7, 3) := by decide +kernel
theorem dX4_takesDigit_24 : decode cX4_takesDigit 24 = .ok (.iconst 1, 1) := by decide +kernel
theorem dX4_takesDigit_25 : decode cX4_takesDigit 25 = .ok (.goto 4, 3) := by decide +kernel
theorem dX4_takesDigit_28 : decode cX4_takesDigit 28 = .ok (.iconst 0, 1) := by decide +kernel
theorem dX4_takesDigit_29 : decode cX4_takesDigit 29 = .ok (.istore_n 3, 1) := by decide +kernel
theorem dX4_takesDigit_30 : decode cX4_takesDigit 30 = .ok (.iload_n 3, 1) := by decide +kernel
theorem dX4_takesDigit_31 : decode cX4_takesDigit 31 = .ok (.ifCond .eq 7, 3) := by decide +kernel
theorem dX4_takesDigit_34 : decode cX4_takesDigit 34 = .ok (.iconst 0, 1) := by decide +kernel
theorem dX4_takesDigit_35 : decode cX4_takesDigit 35 = .ok (.goto 4, 3) := by decide +kernel
theorem dX4_takesDigit_38 : decode cX4_takesDigit 38 = .ok (.iconst 1, 1) := by decide +kernel
theorem dX4_takesDigit_39 : decode cX4_takesDigit 39 = .ok (.istore 4, 2) := by decide +kernel
theorem dX4_takesDigit_41 : decode cX4_takesDigit 41 = .ok (.iload_n 3, 1) := by decide +kernel
theorem dX4_takesDigit_42 : decode cX4_takesDigit 42 = .ok (.ifCond .eq 8, 3) := by decide +kernel
theorem dX4_takesDigit_45 : decode cX4_takesDigit 45 = .ok (.bipush 23, 2) := by decide +kernel
theorem dX4_takesDigit_47 : decode cX4_takesDigit 47 = .ok (.goto 16, 3) := by decide +kernel
theorem dX4_takesDigit_50 : decode cX4_takesDigit 50 = .ok (.iload_n 2, 1) := by decide +kernel
theorem dX4_takesDigit_51 : decode cX4_takesDigit 51 = .ok (.bipush 104, 2) := by decide +kernel
theorem dX4_takesDigit_53 : decode cX4_takesDigit 53 = .ok (.if_icmp .ne 8, 3) := by decide +kernel
theorem dX4_takesDigit_56 : decode cX4_takesDigit 56 = .ok (.bipush 24, 2) := by decide +kernel
theorem dX4_takesDigit_58 : decode cX4_takesDigit 58 = .ok (.goto 5, 3) := by decide +kernel
theorem dX4_takesDigit_61 : decode cX4_takesDigit 61 = .ok (.bipush 99, 2) := by decide +kernel
theorem dX4_takesDigit_63 : decode cX4_takesDigit 63 = .ok (.istore 5, 2) := by decide +kernel
theorem dX4_takesDigit_65 : decode cX4_takesDigit 65 = .ok (.aload_n 0, 1) := by decide +kernel
theorem dX4_takesDigit_66 : decode cX4_takesDigit 66 = .ok (.getfield 143, 3) := by decide +kernel
theorem dX4_takesDigit_69 : decode cX4_takesDigit 69 = .ok (.iconst (-1), 1) := by decide +kernel
theorem dX4_takesDigit_70 : decode cX4_takesDigit 70 = .ok (.if_icmp .ne 7, 3) := by decide +kernel
theorem dX4_takesDigit_73 : decode cX4_takesDigit 73 = .ok (.iload_n 1, 1) := by decide +kernel
theorem dX4_takesDigit_74 : decode cX4_takesDigit 74 = .ok (.goto 12, 3) := by decide +kernel
theorem dX4_takesDigit_77 : decode cX4_takesDigit 77 = .ok (.bipush 10, 2) := by decide +kernel
theorem dX4_takesDigit_79 : decode cX4_takesDigit 79 = .ok (.aload_n 0, 1) := by decide +kernel
theorem dX4_takesDigit_80 : decode cX4_takesDigit 80 = .ok (.getfield 143, 3) := by decide +kernel
theorem dX4_takesDigit_83 : decode cX4_takesDigit 83 = .ok (.imul, 1) := by decide +kernel
theorem dX4_takesDigit_84 : decode cX4_takesDigit 84 = .ok (.iload_n 1, 1) := by decide +kernel
theorem dX4_takesDigit_85 : decode cX4_takesDigit 85 = .ok (.iadd, 1) := by decide +kernel
theorem dX4_takesDigit_86 : decode cX4_takesDigit 86 = .ok (.istore 6, 2) := by decide +kernel
theorem dX4_takesDigit_88 : decode cX4_takesDigit 88 = .ok (.iload_n 1, 1) := by decide +kernel
theorem dX4_takesDigit_89 : decode cX4_takesDigit 89 = .ok (.iconst 0, 1) := by decide +kernel
theorem dX4_takesDigit_90 : decode cX4_takesDigit 90 = .ok (.bipush 9, 2) := by decide +kernel
theorem dX4_takesDigit_92 : decode cX4_takesDigit 92 = .ok (.invokestatic 32, 3) := by decide +kernel
theorem dX4_takesDigit_95 : decode cX4_takesDigit 95 = .ok (.ifCond .eq 26, 3) := by decide +kernel
theorem dX4_takesDigit_98 : decode cX4_takesDigit 98 = .ok (.aload_n 0, 1) := by decide +kernel
theorem dX4_takesDigit_99 : decode cX4_takesDigit 99 = .ok (.getfield 143, 3) := by decide +kernel
theorem dX4_takesDigit_102 : decode cX4_takesDigit 102 = .ok (.ifCond .eq 19, 3) := by decide +kernel
theorem dX4_takesDigit_105 : decode cX4_takesDigit 105 = .ok (.iload 6, 2) := by decide +kernel
theorem dX4_takesDigit_107 : decode cX4_takesDigit 107 = .ok (.iload 4, 2) := by decide +kernel
theorem dX4_takesDigit_109 : decode cX4_takesDigit 109 = .ok (.iload 5, 2) := by decide +kernel
theorem dX4_takesDigit_111 : decode cX4_takesDigit 111 = .ok (.invokestatic 32, 3) := by decide +kernel
theorem dX4_takesDigit_114 : decode cX4_takesDigit 114 = .ok (.ifCond .eq 7, 3) := by decide +kernel
theorem dX4_takesDigit_117 : decode cX4_takesDigit 117 = .ok (.iconst 1, 1) := by decide +kernel
theorem dX4_takesDigit_118 : decode cX4_takesDigit 118 = .ok (.goto 4, 3) := by decide +kernel
theorem dX4_takesDigit_121 : decode cX4_takesDigit 121 = .ok (.iconst 0, 1) := by decide +kernel
theorem dX4_takesDigit_122 : decode cX4_takesDigit 122 = .ok (.istore 7, 2) := by decide +kernel
theorem dX4_takesDigit_124 : decode cX4_takesDigit 124 = .ok (.aload_n 0, 1) := by decide +kernel
theorem dX4_takesDigit_125 : decode cX4_takesDigit 125 = .ok (.iload 7, 2) := by decide +kernel
theorem dX4_takesDigit_127 : decode cX4_takesDigit 127 = .ok (.ifCond .eq 8, 3) := by decide +kernel
theorem dX4_takesDigit_130 : decode cX4_takesDigit 130 = .ok (.iload 6, 2) := by decide +kernel
theorem dX4_takesDigit_132 : decode cX4_takesDigit 132 = .ok (.goto 7, 3) := by decide +kernel
theorem dX4_takesDigit_135 : decode cX4_takesDigit 135 = .ok (.aload_n 0, 1) := by decide +kernel
theorem dX4_takesDigit_136 : decode cX4_takesDigit 136 = .ok (.getfield 143, 3) := by decide +kernel
theorem dX4_takesDigit_139 : decode cX4_takesDigit 139 = .ok (.putfield 143, 3) := by decide +kernel
theorem dX4_takesDigit_142 : decode cX4_takesDigit 142 = .ok (.aload_n 0, 1) := by decide +kernel
theorem dX4_takesDigit_143 : decode cX4_takesDigit 143 = .ok (.getfield 19, 3) := by decide +kernel
theorem dX4_takesDigit_146 : decode cX4_takesDigit 146 = .ok (.iconst 3, 1) := by decide +kernel
theorem dX4_takesDigit_147 : decode cX4_takesDigit 147 = .ok (.aload_n 0, 1) := by decide +kernel
theorem dX4_takesDigit_148 : decode cX4_takesDigit 148 = .ok (.getfield 140, 3) := by decide +kernel
theorem dX4_takesDigit_151 : decode cX4_takesDigit 151 = .ok (.imul, 1) := by decide +kernel
theorem dX4_takesDigit_152 : decode cX4_takesDigit 152 = .ok (.iload_n 3, 1) := by decide +kernel
theorem dX4_takesDigit_153 : decode cX4_takesDigit 153 = .ok (.ifCond .eq 7, 3) := by decide +kernel
theorem dX4_takesDigit_156 : decode cX4_takesDigit 156 = .ok (.iconst 1, 1) := by decide +kernel
theorem dX4_takesDigit_157 : decode cX4_takesDigit 157 = .ok (.goto 4, 3) := by decide +kernel
theorem dX4_takesDigit_160 : decode cX4_takesDigit 160 = .ok (.iconst 2, 1) := by decide +kernel
theorem dX4_takesDigit_161 : decode cX4_takesDigit 161 = .ok (.iadd, 1) := by decide +kernel
theorem dX4_takesDigit_162 : decode cX4_takesDigit 162 = .ok (.aload_n 0, 1) := by decide +kernel
theorem dX4_takesDigit_163 : decode cX4_takesDigit 163 = .ok (.getfield 143, 3) := by decide +kernel
theorem dX4_takesDigit_166 : decode cX4_takesDigit 166 = .ok (.iastore, 1) := by decide +kernel
theorem dX4_takesDigit_167 : decode cX4_takesDigit 167 = .ok (.iload 7, 2) := by decide +kernel
theorem dX4_takesDigit_169 : decode cX4_takesDigit 169 = .ok (.ireturn, 1) := by decide +kernel
theorem dX4_takesSite_0 : decode cX4_takesSite 0 = .ok (.aload_n 0, 1) := by decide +kernel
theorem dX4_takesSite_1 : decode cX4_takesSite 1 = .ok (.getfield 19, 3) := by decide +kernel
theorem dX4_takesSite_4 : decode cX4_takesSite 4 = .ok (.iconst 3, 1) := by decide +kernel
theorem dX4_takesSite_5 : decode cX4_takesSite 5 = .ok (.aload_n 0, 1) := by decide +kernel
theorem dX4_takesSite_6 : decode cX4_takesSite 6 = .ok (.getfield 140, 3) := by decide +kernel
theorem dX4_takesSite_9 : decode cX4_takesSite 9 = .ok (.imul, 1) := by decide +kernel
theorem dX4_takesSite_10 : decode cX4_takesSite 10 = .ok (.iload_n 2, 1) := by decide +kernel
theorem dX4_takesSite_11 : decode cX4_takesSite 11 = .ok (.iadd, 1) := by decide +kernel
theorem dX4_takesSite_12 : decode cX4_takesSite 12 = .ok (.iload_n 1, 1) := by decide +kernel
theorem dX4_takesSite_13 : decode cX4_takesSite 13 = .ok (.bipush 48, 2) := by decide +kernel
theorem dX4_takesSite_15 : decode cX4_takesSite 15 = .ok (.isub, 1) := by decide +kernel
theorem dX4_takesSite_16 : decode cX4_takesSite 16 = .ok (.iastore, 1) := by decide +kernel
theorem dX4_takesSite_17 : decode cX4_takesSite 17 = .ok (.aload_n 0, 1) := by decide +kernel
theorem dX4_takesSite_18 : decode cX4_takesSite 18 = .ok (.iload_n 3, 1) := by decide +kernel
theorem dX4_takesSite_19 : decode cX4_takesSite 19 = .ok (.putfield 146, 3) := by decide +kernel
theorem dX4_takesSite_22 : decode cX4_takesSite 22 = .ok (.iload_n 1, 1) := by decide +kernel
theorem dX4_takesSite_23 : decode cX4_takesSite 23 = .ok (.bipush 48, 2) := by decide +kernel
theorem dX4_takesSite_25 : decode cX4_takesSite 25 = .ok (.isub, 1) := by decide +kernel
theorem dX4_takesSite_26 : decode cX4_takesSite 26 = .ok (.invokestatic 100, 3) := by decide +kernel
theorem dX4_takesSite_29 : decode cX4_takesSite 29 = .ok (.ireturn, 1) := by decide +kernel
theorem dX4_isEnded_0 : decode cX4_isEnded 0 = .ok (.aload_n 0, 1) := by decide +kernel
theorem dX4_isEnded_1 : decode cX4_isEnded 1 = .ok (.getfield 146, 3) := by decide +kernel
theorem dX4_isEnded_4 : decode cX4_isEnded 4 = .ok (.iconst 5, 1) := by decide +kernel
theorem dX4_isEnded_5 : decode cX4_isEnded 5 = .ok (.if_icmp .eq 35, 3) := by decide +kernel
theorem dX4_isEnded_8 : decode cX4_isEnded 8 = .ok (.aload_n 0, 1) := by decide +kernel
theorem dX4_isEnded_9 : decode cX4_isEnded 9 = .ok (.getfield 146, 3) := by decide +kernel
theorem dX4_isEnded_12 : decode cX4_isEnded 12 = .ok (.iconst 3, 1) := by decide +kernel
theorem dX4_isEnded_13 : decode cX4_isEnded 13 = .ok (.if_icmp .ne 31, 3) := by decide +kernel
theorem dX4_isEnded_16 : decode cX4_isEnded 16 = .ok (.aload_n 0, 1) := by decide +kernel
theorem dX4_isEnded_17 : decode cX4_isEnded 17 = .ok (.getfield 143, 3) := by decide +kernel
theorem dX4_isEnded_20 : decode cX4_isEnded 20 = .ok (.iconst (-1), 1) := by decide +kernel
theorem dX4_isEnded_21 : decode cX4_isEnded 21 = .ok (.if_icmp .eq 23, 3) := by decide +kernel
theorem dX4_isEnded_24 : decode cX4_isEnded 24 = .ok (.aload_n 0, 1) := by decide +kernel
theorem dX4_isEnded_25 : decode cX4_isEnded 25 = .ok (.getfield 19, 3) := by decide +kernel
theorem dX4_isEnded_28 : decode cX4_isEnded 28 = .ok (.iconst 3, 1) := by decide +kernel
theorem dX4_isEnded_29 : decode cX4_isEnded 29 = .ok (.aload_n 0, 1) := by decide +kernel
theorem dX4_isEnded_30 : decode cX4_isEnded 30 = .ok (.getfield 140, 3) := by decide +kernel
theorem dX4_isEnded_33 : decode cX4_isEnded 33 = .ok (.imul, 1) := by decide +kernel
theorem dX4_isEnded_34 : decode cX4_isEnded 34 = .ok (.iaload, 1) := by decide +kernel
theorem dX4_isEnded_35 : decode cX4_isEnded 35 = .ok (.bipush 109, 2) := by decide +kernel
theorem dX4_isEnded_37 : decode cX4_isEnded 37 = .ok (.if_icmp .eq 7, 3) := by decide +kernel
theorem dX4_isEnded_40 : decode cX4_isEnded 40 = .ok (.iconst 1, 1) := by decide +kernel
theorem dX4_isEnded_41 : decode cX4_isEnded 41 = .ok (.goto 4, 3) := by decide +kernel
theorem dX4_isEnded_44 : decode cX4_isEnded 44 = .ok (.iconst 0, 1) := by decide +kernel
theorem dX4_isEnded_45 : decode cX4_isEnded 45 = .ok (.ireturn, 1) := by decide +kernel
theorem dX4_takes_0 : decode cX4_takes 0 = .ok (.iload_n 1, 1) := by decide +kernel
theorem dX4_takes_1 : decode cX4_takes 1 = .ok (.bipush 59, 2) := by decide +kernel
theorem dX4_takes_3 : decode cX4_takes 3 = .ok (.if_icmp .ne 27, 3) := by decide +kernel
theorem dX4_takes_6 : decode cX4_takes 6 = .ok (.aload_n 0, 1) := by decide +kernel
theorem dX4_takes_7 : decode cX4_takes 7 = .ok (.invokevirtual 149, 3) := by decide +kernel
theorem dX4_takes_10 : decode cX4_takes 10 = .ok (.ifCond .eq 20, 3) := by decide +kernel
theorem dX4_takes_13 : decode cX4_takes 13 = .ok (.aload_n 0, 1) := by decide +kernel
theorem dX4_takes_14 : decode cX4_takes 14 = .ok (.dup, 1) := by decide +kernel
theorem dX4_takes_15 : decode cX4_takes 15 = .ok (.getfield 140, 3) := by decide +kernel
theorem dX4_takes_18 : decode cX4_takes 18 = .ok (.iconst 1, 1) := by decide +kernel
theorem dX4_takes_19 : decode cX4_takes 19 = .ok (.iadd, 1) := by decide +kernel
theorem dX4_takes_20 : decode cX4_takes 20 = .ok (.putfield 140, 3) := by decide +kernel
theorem dX4_takes_23 : decode cX4_takes 23 = .ok (.aload_n 0, 1) := by decide +kernel
theorem dX4_takes_24 : decode cX4_takes 24 = .ok (.iconst 0, 1) := by decide +kernel
theorem dX4_takes_25 : decode cX4_takes 25 = .ok (.putfield 146, 3) := by decide +kernel
theorem dX4_takes_28 : decode cX4_takes 28 = .ok (.iconst 1, 1) := by decide +kernel
theorem dX4_takes_29 : decode cX4_takes 29 = .ok (.ireturn, 1) := by decide +kernel
theorem dX4_takes_30 : decode cX4_takes 30 = .ok (.iload_n 1, 1) := by decide +kernel
theorem dX4_takes_31 : decode cX4_takes 31 = .ok (.bipush 62, 2) := by decide +kernel
theorem dX4_takes_33 : decode cX4_takes 33 = .ok (.if_icmp .ne 42, 3) := by decide +kernel
theorem dX4_takes_36 : decode cX4_takes 36 = .ok (.aload_n 0, 1) := by decide +kernel
theorem dX4_takes_37 : decode cX4_takes 37 = .ok (.getfield 146, 3) := by decide +kernel
theorem dX4_takes_40 : decode cX4_takes 40 = .ok (.iconst 3, 1) := by decide +kernel
theorem dX4_takes_41 : decode cX4_takes 41 = .ok (.if_icmp .ne 34, 3) := by decide +kernel
theorem dX4_takes_44 : decode cX4_takes 44 = .ok (.aload_n 0, 1) := by decide +kernel
theorem dX4_takes_45 : decode cX4_takes 45 = .ok (.getfield 143, 3) := by decide +kernel
theorem dX4_takes_48 : decode cX4_takes 48 = .ok (.iconst (-1), 1) := by decide +kernel
theorem dX4_takes_49 : decode cX4_takes 49 = .ok (.if_icmp .eq 26, 3) := by decide +kernel
theorem dX4_takes_52 : decode cX4_takes 52 = .ok (.aload_n 0, 1) := by decide +kernel
theorem dX4_takes_53 : decode cX4_takes 53 = .ok (.getfield 19, 3) := by decide +kernel
theorem dX4_takes_56 : decode cX4_takes 56 = .ok (.iconst 3, 1) := by decide +kernel
theorem dX4_takes_57 : decode cX4_takes 57 = .ok (.aload_n 0, 1) := by decide +kernel
theorem dX4_takes_58 : decode cX4_takes 58 = .ok (.getfield 140, 3) := by decide +kernel
theorem dX4_takes_61 : decode cX4_takes 61 = .ok (.imul, 1) := by decide +kernel
theorem dX4_takes_62 : decode cX4_takes 62 = .ok (.iaload, 1) := by decide +kernel
theorem dX4_takes_63 : decode cX4_takes 63 = .ok (.bipush 109, 2) := by decide +kernel
theorem dX4_takes_65 : decode cX4_takes 65 = .ok (.if_icmp .ne 10, 3) := by decide +kernel
theorem dX4_takes_68 : decode cX4_takes 68 = .ok (.aload_n 0, 1) := by decide +kernel
theorem dX4_takes_69 : decode cX4_takes 69 = .ok (.iconst 4, 1) := by decide +kernel
theorem dX4_takes_70 : decode cX4_takes 70 = .ok (.putfield 146, 3) := by decide +kernel
theorem dX4_takes_73 : decode cX4_takes 73 = .ok (.iconst 1, 1) := by decide +kernel
theorem dX4_takes_74 : decode cX4_takes 74 = .ok (.ireturn, 1) := by decide +kernel
theorem dX4_takes_75 : decode cX4_takes 75 = .ok (.aload_n 0, 1) := by decide +kernel
theorem dX4_takes_76 : decode cX4_takes 76 = .ok (.getfield 146, 3) := by decide +kernel
theorem dX4_takes_79 : decode cX4_takes 79 = .ok (.tableswitch 81 0 4 #[33, 39, 47, 64, 73], 33) := by decide +kernel
theorem dX4_takes_112 : decode cX4_takes 112 = .ok (.aload_n 0, 1) := by decide +kernel
theorem dX4_takes_113 : decode cX4_takes 113 = .ok (.iload_n 1, 1) := by decide +kernel
theorem dX4_takes_114 : decode cX4_takes 114 = .ok (.invokevirtual 153, 3) := by decide +kernel
theorem dX4_takes_117 : decode cX4_takes 117 = .ok (.ireturn, 1) := by decide +kernel
theorem dX4_takes_118 : decode cX4_takes 118 = .ok (.aload_n 0, 1) := by decide +kernel
theorem dX4_takes_119 : decode cX4_takes 119 = .ok (.iload_n 1, 1) := by decide +kernel
theorem dX4_takes_120 : decode cX4_takes 120 = .ok (.iconst 1, 1) := by decide +kernel
theorem dX4_takes_121 : decode cX4_takes 121 = .ok (.iconst 2, 1) := by decide +kernel
theorem dX4_takes_122 : decode cX4_takes 122 = .ok (.invokevirtual 156, 3) := by decide +kernel
theorem dX4_takes_125 : decode cX4_takes 125 = .ok (.ireturn, 1) := by decide +kernel
theorem dX4_takes_126 : decode cX4_takes 126 = .ok (.aload_n 0, 1) := by decide +kernel
theorem dX4_takes_127 : decode cX4_takes 127 = .ok (.iconst 3, 1) := by decide +kernel
theorem dX4_takes_128 : decode cX4_takes 128 = .ok (.putfield 146, 3) := by decide +kernel
theorem dX4_takes_131 : decode cX4_takes 131 = .ok (.iload_n 1, 1) := by decide +kernel
theorem dX4_takes_132 : decode cX4_takes 132 = .ok (.bipush 42, 2) := by decide +kernel
theorem dX4_takes_134 : decode cX4_takes 134 = .ok (.if_icmp .ne 7, 3) := by decide +kernel
theorem dX4_takes_137 : decode cX4_takes 137 = .ok (.iconst 1, 1) := by decide +kernel
theorem dX4_takes_138 : decode cX4_takes 138 = .ok (.goto 4, 3) := by decide +kernel
theorem dX4_takes_141 : decode cX4_takes 141 = .ok (.iconst 0, 1) := by decide +kernel
theorem dX4_takes_142 : decode cX4_takes 142 = .ok (.ireturn, 1) := by decide +kernel
theorem dX4_takes_143 : decode cX4_takes 143 = .ok (.aload_n 0, 1) := by decide +kernel
theorem dX4_takes_144 : decode cX4_takes 144 = .ok (.iload_n 1, 1) := by decide +kernel
theorem dX4_takes_145 : decode cX4_takes 145 = .ok (.bipush 48, 2) := by decide +kernel
theorem dX4_takes_147 : decode cX4_takes 147 = .ok (.isub, 1) := by decide +kernel
theorem dX4_takes_148 : decode cX4_takes 148 = .ok (.invokevirtual 159, 3) := by decide +kernel
theorem dX4_takes_151 : decode cX4_takes 151 = .ok (.ireturn, 1) := by decide +kernel
theorem dX4_takes_152 : decode cX4_takes 152 = .ok (.aload_n 0, 1) := by decide +kernel
theorem dX4_takes_153 : decode cX4_takes 153 = .ok (.iload_n 1, 1) := by decide +kernel
theorem dX4_takes_154 : decode cX4_takes 154 = .ok (.iconst 2, 1) := by decide +kernel
theorem dX4_takes_155 : decode cX4_takes 155 = .ok (.iconst 5, 1) := by decide +kernel
theorem dX4_takes_156 : decode cX4_takes 156 = .ok (.invokevirtual 156, 3) := by decide +kernel
theorem dX4_takes_159 : decode cX4_takes 159 = .ok (.ireturn, 1) := by decide +kernel
theorem dX4_takes_160 : decode cX4_takes 160 = .ok (.iconst 0, 1) := by decide +kernel
theorem dX4_takes_161 : decode cX4_takes 161 = .ok (.ireturn, 1) := by decide +kernel
theorem dX4_rightUpTo_0 : decode cX4_rightUpTo 0 = .ok (.aload_n 0, 1) := by decide +kernel
theorem dX4_rightUpTo_1 : decode cX4_rightUpTo 1 = .ok (.iconst 0, 1) := by decide +kernel
theorem dX4_rightUpTo_2 : decode cX4_rightUpTo 2 = .ok (.putfield 140, 3) := by decide +kernel
theorem dX4_rightUpTo_5 : decode cX4_rightUpTo 5 = .ok (.aload_n 0, 1) := by decide +kernel
theorem dX4_rightUpTo_6 : decode cX4_rightUpTo 6 = .ok (.iconst 0, 1) := by decide +kernel
theorem dX4_rightUpTo_7 : decode cX4_rightUpTo 7 = .ok (.putfield 146, 3) := by decide +kernel
theorem dX4_rightUpTo_10 : decode cX4_rightUpTo 10 = .ok (.iconst 0, 1) := by decide +kernel
theorem dX4_rightUpTo_11 : decode cX4_rightUpTo 11 = .ok (.istore_n 1, 1) := by decide +kernel
theorem dX4_rightUpTo_12 : decode cX4_rightUpTo 12 = .ok (.iload_n 1, 1) := by decide +kernel
theorem dX4_rightUpTo_13 : decode cX4_rightUpTo 13 = .ok (.aload_n 0, 1) := by decide +kernel
theorem dX4_rightUpTo_14 : decode cX4_rightUpTo 14 = .ok (.getfield 137, 3) := by decide +kernel
theorem dX4_rightUpTo_17 : decode cX4_rightUpTo 17 = .ok (.if_icmp .ge 22, 3) := by decide +kernel
theorem dX4_rightUpTo_20 : decode cX4_rightUpTo 20 = .ok (.aload_n 0, 1) := by decide +kernel
theorem dX4_rightUpTo_21 : decode cX4_rightUpTo 21 = .ok (.aload_n 0, 1) := by decide +kernel
theorem dX4_rightUpTo_22 : decode cX4_rightUpTo 22 = .ok (.getfield 16, 3) := by decide +kernel
theorem dX4_rightUpTo_25 : decode cX4_rightUpTo 25 = .ok (.iload_n 1, 1) := by decide +kernel
theorem dX4_rightUpTo_26 : decode cX4_rightUpTo 26 = .ok (.iaload, 1) := by decide +kernel
theorem dX4_rightUpTo_27 : decode cX4_rightUpTo 27 = .ok (.invokevirtual 162, 3) := by decide +kernel
theorem dX4_rightUpTo_30 : decode cX4_rightUpTo 30 = .ok (.ifCond .eq 9, 3) := by decide +kernel
theorem dX4_rightUpTo_33 : decode cX4_rightUpTo 33 = .ok (.iinc 1 1, 3) := by decide +kernel
theorem dX4_rightUpTo_36 : decode cX4_rightUpTo 36 = .ok (.goto (-24), 3) := by decide +kernel
theorem dX4_rightUpTo_39 : decode cX4_rightUpTo 39 = .ok (.iload_n 1, 1) := by decide +kernel
theorem dX4_rightUpTo_40 : decode cX4_rightUpTo 40 = .ok (.ireturn, 1) := by decide +kernel
theorem dX4_firstError_0 : decode cX4_firstError 0 = .ok (.aload_n 0, 1) := by decide +kernel
theorem dX4_firstError_1 : decode cX4_firstError 1 = .ok (.iconst 0, 1) := by decide +kernel
theorem dX4_firstError_2 : decode cX4_firstError 2 = .ok (.putfield 25, 3) := by decide +kernel
theorem dX4_firstError_5 : decode cX4_firstError 5 = .ok (.aload_n 0, 1) := by decide +kernel
theorem dX4_firstError_6 : decode cX4_firstError 6 = .ok (.invokevirtual 165, 3) := by decide +kernel
theorem dX4_firstError_9 : decode cX4_firstError 9 = .ok (.ireturn, 1) := by decide +kernel
theorem dX4_canCarry_0 : decode cX4_canCarry 0 = .ok (.iload_n 1, 1) := by decide +kernel
theorem dX4_canCarry_1 : decode cX4_canCarry 1 = .ok (.lookupswitch 86 #[(98, 64), (104, 35), (109, 41)], 35) := by decide +kernel
theorem dX4_canCarry_36 : decode cX4_canCarry 36 = .ok (.aload_n 0, 1) := by decide +kernel
theorem dX4_canCarry_37 : decode cX4_canCarry 37 = .ok (.iload_n 3, 1) := by decide +kernel
theorem dX4_canCarry_38 : decode cX4_canCarry 38 = .ok (.invokevirtual 103, 3) := by decide +kernel
theorem dX4_canCarry_41 : decode cX4_canCarry 41 = .ok (.ireturn, 1) := by decide +kernel
theorem dX4_canCarry_42 : decode cX4_canCarry 42 = .ok (.aload_n 0, 1) := by decide +kernel
theorem dX4_canCarry_43 : decode cX4_canCarry 43 = .ok (.iload_n 2, 1) := by decide +kernel
theorem dX4_canCarry_44 : decode cX4_canCarry 44 = .ok (.invokevirtual 67, 3) := by decide +kernel
theorem dX4_canCarry_47 : decode cX4_canCarry 47 = .ok (.ifCond .eq 16, 3) := by decide +kernel
theorem dX4_canCarry_50 : decode cX4_canCarry 50 = .ok (.aload_n 0, 1) := by decide +kernel
theorem dX4_canCarry_51 : decode cX4_canCarry 51 = .ok (.iload_n 2, 1) := by decide +kernel
theorem dX4_canCarry_52 : decode cX4_canCarry 52 = .ok (.iload_n 3, 1) := by decide +kernel
theorem dX4_canCarry_53 : decode cX4_canCarry 53 = .ok (.invokevirtual 112, 3) := by decide +kernel
theorem dX4_canCarry_56 : decode cX4_canCarry 56 = .ok (.ifCond .eq 7, 3) := by decide +kernel
theorem dX4_canCarry_59 : decode cX4_canCarry 59 = .ok (.iconst 1, 1) := by decide +kernel
theorem dX4_canCarry_60 : decode cX4_canCarry 60 = .ok (.goto 4, 3) := by decide +kernel
theorem dX4_canCarry_63 : decode cX4_canCarry 63 = .ok (.iconst 0, 1) := by decide +kernel
theorem dX4_canCarry_64 : decode cX4_canCarry 64 = .ok (.ireturn, 1) := by decide +kernel
theorem dX4_canCarry_65 : decode cX4_canCarry 65 = .ok (.aload_n 0, 1) := by decide +kernel
theorem dX4_canCarry_66 : decode cX4_canCarry 66 = .ok (.iload_n 2, 1) := by decide +kernel
theorem dX4_canCarry_67 : decode cX4_canCarry 67 = .ok (.invokevirtual 67, 3) := by decide +kernel
theorem dX4_canCarry_70 : decode cX4_canCarry 70 = .ok (.ifCond .eq 15, 3) := by decide +kernel
theorem dX4_canCarry_73 : decode cX4_canCarry 73 = .ok (.aload_n 0, 1) := by decide +kernel
theorem dX4_canCarry_74 : decode cX4_canCarry 74 = .ok (.iload_n 2, 1) := by decide +kernel
theorem dX4_canCarry_75 : decode cX4_canCarry 75 = .ok (.invokevirtual 44, 3) := by decide +kernel
theorem dX4_canCarry_78 : decode cX4_canCarry 78 = .ok (.ifCond .ne 7, 3) := by decide +kernel
theorem dX4_canCarry_81 : decode cX4_canCarry 81 = .ok (.iconst 1, 1) := by decide +kernel
theorem dX4_canCarry_82 : decode cX4_canCarry 82 = .ok (.goto 4, 3) := by decide +kernel
theorem dX4_canCarry_85 : decode cX4_canCarry 85 = .ok (.iconst 0, 1) := by decide +kernel
theorem dX4_canCarry_86 : decode cX4_canCarry 86 = .ok (.ireturn, 1) := by decide +kernel
theorem dX4_canCarry_87 : decode cX4_canCarry 87 = .ok (.aload_n 0, 1) := by decide +kernel
theorem dX4_canCarry_88 : decode cX4_canCarry 88 = .ok (.iload_n 3, 1) := by decide +kernel
theorem dX4_canCarry_89 : decode cX4_canCarry 89 = .ok (.invokevirtual 131, 3) := by decide +kernel
theorem dX4_canCarry_92 : decode cX4_canCarry 92 = .ok (.ireturn, 1) := by decide +kernel
theorem dX4_carries_0 : decode cX4_carries 0 = .ok (.aload_n 0, 1) := by decide +kernel
theorem dX4_carries_1 : decode cX4_carries 1 = .ok (.getfield 19, 3) := by decide +kernel
theorem dX4_carries_4 : decode cX4_carries 4 = .ok (.iconst 3, 1) := by decide +kernel
theorem dX4_carries_5 : decode cX4_carries 5 = .ok (.iload_n 1, 1) := by decide +kernel
theorem dX4_carries_6 : decode cX4_carries 6 = .ok (.imul, 1) := by decide +kernel
theorem dX4_carries_7 : decode cX4_carries 7 = .ok (.iaload, 1) := by decide +kernel
theorem dX4_carries_8 : decode cX4_carries 8 = .ok (.istore_n 2, 1) := by decide +kernel
theorem dX4_carries_9 : decode cX4_carries 9 = .ok (.aload_n 0, 1) := by decide +kernel
theorem dX4_carries_10 : decode cX4_carries 10 = .ok (.getfield 19, 3) := by decide +kernel
theorem dX4_carries_13 : decode cX4_carries 13 = .ok (.iconst 3, 1) := by decide +kernel
theorem dX4_carries_14 : decode cX4_carries 14 = .ok (.iload_n 1, 1) := by decide +kernel
theorem dX4_carries_15 : decode cX4_carries 15 = .ok (.imul, 1) := by decide +kernel
theorem dX4_carries_16 : decode cX4_carries 16 = .ok (.iconst 1, 1) := by decide +kernel
theorem dX4_carries_17 : decode cX4_carries 17 = .ok (.iadd, 1) := by decide +kernel
theorem dX4_carries_18 : decode cX4_carries 18 = .ok (.iaload, 1) := by decide +kernel
theorem dX4_carries_19 : decode cX4_carries 19 = .ok (.istore_n 3, 1) := by decide +kernel
theorem dX4_carries_20 : decode cX4_carries 20 = .ok (.aload_n 0, 1) := by decide +kernel
theorem dX4_carries_21 : decode cX4_carries 21 = .ok (.getfield 19, 3) := by decide +kernel
theorem dX4_carries_24 : decode cX4_carries 24 = .ok (.iconst 3, 1) := by decide +kernel
theorem dX4_carries_25 : decode cX4_carries 25 = .ok (.iload_n 1, 1) := by decide +kernel
theorem dX4_carries_26 : decode cX4_carries 26 = .ok (.imul, 1) := by decide +kernel
theorem dX4_carries_27 : decode cX4_carries 27 = .ok (.iconst 2, 1) := by decide +kernel
theorem dX4_carries_28 : decode cX4_carries 28 = .ok (.iadd, 1) := by decide +kernel
theorem dX4_carries_29 : decode cX4_carries 29 = .ok (.iaload, 1) := by decide +kernel
theorem dX4_carries_30 : decode cX4_carries 30 = .ok (.istore 4, 2) := by decide +kernel
theorem dX4_carries_32 : decode cX4_carries 32 = .ok (.aload_n 0, 1) := by decide +kernel
theorem dX4_carries_33 : decode cX4_carries 33 = .ok (.iload_n 2, 1) := by decide +kernel
theorem dX4_carries_34 : decode cX4_carries 34 = .ok (.iload_n 3, 1) := by decide +kernel
theorem dX4_carries_35 : decode cX4_carries 35 = .ok (.iload 4, 2) := by decide +kernel
theorem dX4_carries_37 : decode cX4_carries 37 = .ok (.invokevirtual 169, 3) := by decide +kernel
theorem dX4_carries_40 : decode cX4_carries 40 = .ok (.ifCond .ne 5, 3) := by decide +kernel
theorem dX4_carries_43 : decode cX4_carries 43 = .ok (.iconst 0, 1) := by decide +kernel
theorem dX4_carries_44 : decode cX4_carries 44 = .ok (.ireturn, 1) := by decide +kernel
theorem dX4_carries_45 : decode cX4_carries 45 = .ok (.iload_n 2, 1) := by decide +kernel
theorem dX4_carries_46 : decode cX4_carries 46 = .ok (.bipush 104, 2) := by decide +kernel
theorem dX4_carries_48 : decode cX4_carries 48 = .ok (.if_icmp .ne 13, 3) := by decide +kernel
theorem dX4_carries_51 : decode cX4_carries 51 = .ok (.aload_n 0, 1) := by decide +kernel
theorem dX4_carries_52 : decode cX4_carries 52 = .ok (.iload_n 3, 1) := by decide +kernel
theorem dX4_carries_53 : decode cX4_carries 53 = .ok (.iload 4, 2) := by decide +kernel
theorem dX4_carries_55 : decode cX4_carries 55 = .ok (.invokevirtual 106, 3) := by decide +kernel
theorem dX4_carries_58 : decode cX4_carries 58 = .ok (.goto 34, 3) := by decide +kernel
theorem dX4_carries_61 : decode cX4_carries 61 = .ok (.iload_n 2, 1) := by decide +kernel
theorem dX4_carries_62 : decode cX4_carries 62 = .ok (.bipush 109, 2) := by decide +kernel
theorem dX4_carries_64 : decode cX4_carries 64 = .ok (.if_icmp .ne 13, 3) := by decide +kernel
theorem dX4_carries_67 : decode cX4_carries 67 = .ok (.aload_n 0, 1) := by decide +kernel
theorem dX4_carries_68 : decode cX4_carries 68 = .ok (.iload_n 3, 1) := by decide +kernel
theorem dX4_carries_69 : decode cX4_carries 69 = .ok (.iload 4, 2) := by decide +kernel
theorem dX4_carries_71 : decode cX4_carries 71 = .ok (.invokevirtual 116, 3) := by decide +kernel
theorem dX4_carries_74 : decode cX4_carries 74 = .ok (.goto 18, 3) := by decide +kernel
theorem dX4_carries_77 : decode cX4_carries 77 = .ok (.iload_n 2, 1) := by decide +kernel
theorem dX4_carries_78 : decode cX4_carries 78 = .ok (.bipush 98, 2) := by decide +kernel
theorem dX4_carries_80 : decode cX4_carries 80 = .ok (.if_icmp .ne 11, 3) := by decide +kernel
theorem dX4_carries_83 : decode cX4_carries 83 = .ok (.aload_n 0, 1) := by decide +kernel
theorem dX4_carries_84 : decode cX4_carries 84 = .ok (.iload_n 3, 1) := by decide +kernel
theorem dX4_carries_85 : decode cX4_carries 85 = .ok (.invokevirtual 109, 3) := by decide +kernel
theorem dX4_carries_88 : decode cX4_carries 88 = .ok (.goto 4, 3) := by decide +kernel
theorem dX4_carries_91 : decode cX4_carries 91 = .ok (.iconst 0, 1) := by decide +kernel
theorem dX4_carries_92 : decode cX4_carries 92 = .ok (.istore 5, 2) := by decide +kernel
theorem dX4_carries_94 : decode cX4_carries 94 = .ok (.aload_n 0, 1) := by decide +kernel
theorem dX4_carries_95 : decode cX4_carries 95 = .ok (.getfield 7, 3) := by decide +kernel
theorem dX4_carries_98 : decode cX4_carries 98 = .ok (.iconst 2, 1) := by decide +kernel
theorem dX4_carries_99 : decode cX4_carries 99 = .ok (.dup2, 1) := by decide +kernel
theorem dX4_carries_100 : decode cX4_carries 100 = .ok (.iaload, 1) := by decide +kernel
theorem dX4_carries_101 : decode cX4_carries 101 = .ok (.iload_n 2, 1) := by decide +kernel
theorem dX4_carries_102 : decode cX4_carries 102 = .ok (.bipush 100, 2) := by decide +kernel
theorem dX4_carries_104 : decode cX4_carries 104 = .ok (.if_icmp .ne 8, 3) := by decide +kernel
theorem dX4_carries_107 : decode cX4_carries 107 = .ok (.iload 4, 2) := by decide +kernel
theorem dX4_carries_109 : decode cX4_carries 109 = .ok (.goto 4, 3) := by decide +kernel
theorem dX4_carries_112 : decode cX4_carries 112 = .ok (.iconst 0, 1) := by decide +kernel
theorem dX4_carries_113 : decode cX4_carries 113 = .ok (.iadd, 1) := by decide +kernel
theorem dX4_carries_114 : decode cX4_carries 114 = .ok (.iastore, 1) := by decide +kernel
theorem dX4_carries_115 : decode cX4_carries 115 = .ok (.iconst 1, 1) := by decide +kernel
theorem dX4_carries_116 : decode cX4_carries 116 = .ok (.ireturn, 1) := by decide +kernel
theorem dX4_run_0 : decode cX4_run 0 = .ok (.aload_n 0, 1) := by decide +kernel
theorem dX4_run_1 : decode cX4_run 1 = .ok (.invokevirtual 165, 3) := by decide +kernel
theorem dX4_run_4 : decode cX4_run 4 = .ok (.aload_n 0, 1) := by decide +kernel
theorem dX4_run_5 : decode cX4_run 5 = .ok (.getfield 137, 3) := by decide +kernel
theorem dX4_run_8 : decode cX4_run 8 = .ok (.if_icmp .ne 14, 3) := by decide +kernel
theorem dX4_run_11 : decode cX4_run 11 = .ok (.aload_n 0, 1) := by decide +kernel
theorem dX4_run_12 : decode cX4_run 12 = .ok (.invokevirtual 149, 3) := by decide +kernel
theorem dX4_run_15 : decode cX4_run 15 = .ok (.ifCond .eq 7, 3) := by decide +kernel
theorem dX4_run_18 : decode cX4_run 18 = .ok (.iconst 1, 1) := by decide +kernel
theorem dX4_run_19 : decode cX4_run 19 = .ok (.goto 4, 3) := by decide +kernel
theorem dX4_run_22 : decode cX4_run 22 = .ok (.iconst 0, 1) := by decide +kernel
theorem dX4_run_23 : decode cX4_run 23 = .ok (.istore_n 1, 1) := by decide +kernel
theorem dX4_run_24 : decode cX4_run 24 = .ok (.aload_n 0, 1) := by decide +kernel
theorem dX4_run_25 : decode cX4_run 25 = .ok (.iload_n 1, 1) := by decide +kernel
theorem dX4_run_26 : decode cX4_run 26 = .ok (.ifCond .eq 7, 3) := by decide +kernel
theorem dX4_run_29 : decode cX4_run 29 = .ok (.iconst 0, 1) := by decide +kernel
theorem dX4_run_30 : decode cX4_run 30 = .ok (.goto 4, 3) := by decide +kernel
theorem dX4_run_33 : decode cX4_run 33 = .ok (.iconst 1, 1) := by decide +kernel
theorem dX4_run_34 : decode cX4_run 34 = .ok (.putfield 25, 3) := by decide +kernel
theorem dX4_run_37 : decode cX4_run 37 = .ok (.aload_n 0, 1) := by decide +kernel
theorem dX4_run_38 : decode cX4_run 38 = .ok (.getfield 25, 3) := by decide +kernel
theorem dX4_run_41 : decode cX4_run 41 = .ok (.ifCond .le 5, 3) := by decide +kernel
theorem dX4_run_44 : decode cX4_run 44 = .ok (.iconst 0, 1) := by decide +kernel
theorem dX4_run_45 : decode cX4_run 45 = .ok (.ireturn, 1) := by decide +kernel
theorem dX4_run_46 : decode cX4_run 46 = .ok (.aload_n 0, 1) := by decide +kernel
theorem dX4_run_47 : decode cX4_run 47 = .ok (.invokevirtual 54, 3) := by decide +kernel
theorem dX4_run_50 : decode cX4_run 50 = .ok (.aload_n 0, 1) := by decide +kernel
theorem dX4_run_51 : decode cX4_run 51 = .ok (.iconst 0, 1) := by decide +kernel
theorem dX4_run_52 : decode cX4_run 52 = .ok (.putfield 137, 3) := by decide +kernel
theorem dX4_run_55 : decode cX4_run 55 = .ok (.iconst 0, 1) := by decide +kernel
theorem dX4_run_56 : decode cX4_run 56 = .ok (.istore_n 2, 1) := by decide +kernel
theorem dX4_run_57 : decode cX4_run 57 = .ok (.iload_n 2, 1) := by decide +kernel
theorem dX4_run_58 : decode cX4_run 58 = .ok (.aload_n 0, 1) := by decide +kernel
theorem dX4_run_59 : decode cX4_run 59 = .ok (.getfield 140, 3) := by decide +kernel
theorem dX4_run_62 : decode cX4_run 62 = .ok (.if_icmp .gt 17, 3) := by decide +kernel
theorem dX4_run_65 : decode cX4_run 65 = .ok (.aload_n 0, 1) := by decide +kernel
theorem dX4_run_66 : decode cX4_run 66 = .ok (.iload_n 2, 1) := by decide +kernel
theorem dX4_run_67 : decode cX4_run 67 = .ok (.invokevirtual 172, 3) := by decide +kernel
theorem dX4_run_70 : decode cX4_run 70 = .ok (.ifCond .eq 9, 3) := by decide +kernel
theorem dX4_run_73 : decode cX4_run 73 = .ok (.iinc 2 1, 3) := by decide +kernel
theorem dX4_run_76 : decode cX4_run 76 = .ok (.goto (-19), 3) := by decide +kernel
theorem dX4_run_79 : decode cX4_run 79 = .ok (.iload_n 2, 1) := by decide +kernel
theorem dX4_run_80 : decode cX4_run 80 = .ok (.ireturn, 1) := by decide +kernel
theorem dX4_undo_0 : decode cX4_undo 0 = .ok (.aload_n 0, 1) := by decide +kernel
theorem dX4_undo_1 : decode cX4_undo 1 = .ok (.aload_n 0, 1) := by decide +kernel
theorem dX4_undo_2 : decode cX4_undo 2 = .ok (.getfield 29, 3) := by decide +kernel
theorem dX4_undo_5 : decode cX4_undo 5 = .ok (.ifCond .le 7, 3) := by decide +kernel
theorem dX4_undo_8 : decode cX4_undo 8 = .ok (.iconst 0, 1) := by decide +kernel
theorem dX4_undo_9 : decode cX4_undo 9 = .ok (.goto 4, 3) := by decide +kernel
theorem dX4_undo_12 : decode cX4_undo 12 = .ok (.iconst 1, 1) := by decide +kernel
theorem dX4_undo_13 : decode cX4_undo 13 = .ok (.putfield 25, 3) := by decide +kernel
theorem dX4_undo_16 : decode cX4_undo 16 = .ok (.aload_n 0, 1) := by decide +kernel
theorem dX4_undo_17 : decode cX4_undo 17 = .ok (.getfield 25, 3) := by decide +kernel
theorem dX4_undo_20 : decode cX4_undo 20 = .ok (.ifCond .le 5, 3) := by decide +kernel
theorem dX4_undo_23 : decode cX4_undo 23 = .ok (.iconst 0, 1) := by decide +kernel
theorem dX4_undo_24 : decode cX4_undo 24 = .ok (.ireturn, 1) := by decide +kernel
theorem dX4_undo_25 : decode cX4_undo 25 = .ok (.aload_n 0, 1) := by decide +kernel
theorem dX4_undo_26 : decode cX4_undo 26 = .ok (.dup, 1) := by decide +kernel
theorem dX4_undo_27 : decode cX4_undo 27 = .ok (.getfield 29, 3) := by decide +kernel
theorem dX4_undo_30 : decode cX4_undo 30 = .ok (.iconst 1, 1) := by decide +kernel
theorem dX4_undo_31 : decode cX4_undo 31 = .ok (.isub, 1) := by decide +kernel
theorem dX4_undo_32 : decode cX4_undo 32 = .ok (.putfield 29, 3) := by decide +kernel
theorem dX4_undo_35 : decode cX4_undo 35 = .ok (.iconst 0, 1) := by decide +kernel
theorem dX4_undo_36 : decode cX4_undo 36 = .ok (.istore_n 1, 1) := by decide +kernel
theorem dX4_undo_37 : decode cX4_undo 37 = .ok (.iload_n 1, 1) := by decide +kernel
theorem dX4_undo_38 : decode cX4_undo 38 = .ok (.sipush 283, 3) := by decide +kernel
theorem dX4_undo_41 : decode cX4_undo 41 = .ok (.if_icmp .ge 30, 3) := by decide +kernel
theorem dX4_undo_44 : decode cX4_undo 44 = .ok (.aload_n 0, 1) := by decide +kernel
theorem dX4_undo_45 : decode cX4_undo 45 = .ok (.getfield 7, 3) := by decide +kernel
theorem dX4_undo_48 : decode cX4_undo 48 = .ok (.iload_n 1, 1) := by decide +kernel
theorem dX4_undo_49 : decode cX4_undo 49 = .ok (.aload_n 0, 1) := by decide +kernel
theorem dX4_undo_50 : decode cX4_undo 50 = .ok (.getfield 13, 3) := by decide +kernel
theorem dX4_undo_53 : decode cX4_undo 53 = .ok (.sipush 283, 3) := by decide +kernel
theorem dX4_undo_56 : decode cX4_undo 56 = .ok (.aload_n 0, 1) := by decide +kernel
theorem dX4_undo_57 : decode cX4_undo 57 = .ok (.getfield 29, 3) := by decide +kernel
theorem dX4_undo_60 : decode cX4_undo 60 = .ok (.imul, 1) := by decide +kernel
theorem dX4_undo_61 : decode cX4_undo 61 = .ok (.iload_n 1, 1) := by decide +kernel
theorem dX4_undo_62 : decode cX4_undo 62 = .ok (.iadd, 1) := by decide +kernel
theorem dX4_undo_63 : decode cX4_undo 63 = .ok (.iaload, 1) := by decide +kernel
theorem dX4_undo_64 : decode cX4_undo 64 = .ok (.iastore, 1) := by decide +kernel
theorem dX4_undo_65 : decode cX4_undo 65 = .ok (.iinc 1 1, 3) := by decide +kernel
theorem dX4_undo_68 : decode cX4_undo 68 = .ok (.goto (-31), 3) := by decide +kernel
theorem dX4_undo_71 : decode cX4_undo 71 = .ok (.aload_n 0, 1) := by decide +kernel
theorem dX4_undo_72 : decode cX4_undo 72 = .ok (.getfield 29, 3) := by decide +kernel
theorem dX4_undo_75 : decode cX4_undo 75 = .ok (.ireturn, 1) := by decide +kernel
theorem dX4_bundleNow_0 : decode cX4_bundleNow 0 = .ok (.iload_n 2, 1) := by decide +kernel
theorem dX4_bundleNow_1 : decode cX4_bundleNow 1 = .ok (.tableswitch 105 0 8 #[51, 51, 58, 72, 78, 78, 78, 90, 97], 51) := by decide +kernel
theorem dX4_bundleNow_52 : decode cX4_bundleNow 52 = .ok (.aload_n 0, 1) := by decide +kernel
theorem dX4_bundleNow_53 : decode cX4_bundleNow 53 = .ok (.iload_n 1, 1) := by decide +kernel
theorem dX4_bundleNow_54 : decode cX4_bundleNow 54 = .ok (.iload_n 2, 1) := by decide +kernel
theorem dX4_bundleNow_55 : decode cX4_bundleNow 55 = .ok (.invokevirtual 36, 3) := by decide +kernel
theorem dX4_bundleNow_58 : decode cX4_bundleNow 58 = .ok (.ireturn, 1) := by decide +kernel
theorem dX4_bundleNow_59 : decode cX4_bundleNow 59 = .ok (.aload_n 0, 1) := by decide +kernel
theorem dX4_bundleNow_60 : decode cX4_bundleNow 60 = .ok (.iload_n 1, 1) := by decide +kernel
theorem dX4_bundleNow_61 : decode cX4_bundleNow 61 = .ok (.invokevirtual 48, 3) := by decide +kernel
theorem dX4_bundleNow_64 : decode cX4_bundleNow 64 = .ok (.ifCond .eq 7, 3) := by decide +kernel
theorem dX4_bundleNow_67 : decode cX4_bundleNow 67 = .ok (.iconst 1, 1) := by decide +kernel
theorem dX4_bundleNow_68 : decode cX4_bundleNow 68 = .ok (.goto 4, 3) := by decide +kernel
theorem dX4_bundleNow_71 : decode cX4_bundleNow 71 = .ok (.iconst 0, 1) := by decide +kernel
theorem dX4_bundleNow_72 : decode cX4_bundleNow 72 = .ok (.ireturn, 1) := by decide +kernel
theorem dX4_bundleNow_73 : decode cX4_bundleNow 73 = .ok (.aload_n 0, 1) := by decide +kernel
theorem dX4_bundleNow_74 : decode cX4_bundleNow 74 = .ok (.iload_n 1, 1) := by decide +kernel
theorem dX4_bundleNow_75 : decode cX4_bundleNow 75 = .ok (.invokevirtual 86, 3) := by decide +kernel
theorem dX4_bundleNow_78 : decode cX4_bundleNow 78 = .ok (.ireturn, 1) := by decide +kernel
theorem dX4_bundleNow_79 : decode cX4_bundleNow 79 = .ok (.aload_n 0, 1) := by decide +kernel
theorem dX4_bundleNow_80 : decode cX4_bundleNow 80 = .ok (.iload_n 1, 1) := by decide +kernel
theorem dX4_bundleNow_81 : decode cX4_bundleNow 81 = .ok (.bipush 6, 2) := by decide +kernel
theorem dX4_bundleNow_83 : decode cX4_bundleNow 83 = .ok (.iload_n 2, 1) := by decide +kernel
theorem dX4_bundleNow_84 : decode cX4_bundleNow 84 = .ok (.iadd, 1) := by decide +kernel
theorem dX4_bundleNow_85 : decode cX4_bundleNow 85 = .ok (.iconst 4, 1) := by decide +kernel
theorem dX4_bundleNow_86 : decode cX4_bundleNow 86 = .ok (.isub, 1) := by decide +kernel
theorem dX4_bundleNow_87 : decode cX4_bundleNow 87 = .ok (.invokevirtual 36, 3) := by decide +kernel
theorem dX4_bundleNow_90 : decode cX4_bundleNow 90 = .ok (.ireturn, 1) := by decide +kernel
theorem dX4_bundleNow_91 : decode cX4_bundleNow 91 = .ok (.aload_n 0, 1) := by decide +kernel
theorem dX4_bundleNow_92 : decode cX4_bundleNow 92 = .ok (.iload_n 1, 1) := by decide +kernel
theorem dX4_bundleNow_93 : decode cX4_bundleNow 93 = .ok (.iconst 0, 1) := by decide +kernel
theorem dX4_bundleNow_94 : decode cX4_bundleNow 94 = .ok (.invokevirtual 89, 3) := by decide +kernel
theorem dX4_bundleNow_97 : decode cX4_bundleNow 97 = .ok (.ireturn, 1) := by decide +kernel
theorem dX4_bundleNow_98 : decode cX4_bundleNow 98 = .ok (.aload_n 0, 1) := by decide +kernel
theorem dX4_bundleNow_99 : decode cX4_bundleNow 99 = .ok (.iload_n 1, 1) := by decide +kernel
theorem dX4_bundleNow_100 : decode cX4_bundleNow 100 = .ok (.bipush 9, 2) := by decide +kernel
theorem dX4_bundleNow_102 : decode cX4_bundleNow 102 = .ok (.invokevirtual 36, 3) := by decide +kernel
theorem dX4_bundleNow_105 : decode cX4_bundleNow 105 = .ok (.ireturn, 1) := by decide +kernel
theorem dX4_bundleNow_106 : decode cX4_bundleNow 106 = .ok (.aload_n 0, 1) := by decide +kernel
theorem dX4_bundleNow_107 : decode cX4_bundleNow 107 = .ok (.iload_n 1, 1) := by decide +kernel
theorem dX4_bundleNow_108 : decode cX4_bundleNow 108 = .ok (.iconst 2, 1) := by decide +kernel
theorem dX4_bundleNow_109 : decode cX4_bundleNow 109 = .ok (.iload_n 2, 1) := by decide +kernel
theorem dX4_bundleNow_110 : decode cX4_bundleNow 110 = .ok (.iadd, 1) := by decide +kernel
theorem dX4_bundleNow_111 : decode cX4_bundleNow 111 = .ok (.bipush 10, 2) := by decide +kernel
theorem dX4_bundleNow_113 : decode cX4_bundleNow 113 = .ok (.isub, 1) := by decide +kernel
theorem dX4_bundleNow_114 : decode cX4_bundleNow 114 = .ok (.invokevirtual 36, 3) := by decide +kernel
theorem dX4_bundleNow_117 : decode cX4_bundleNow 117 = .ok (.ireturn, 1) := by decide +kernel
theorem dX4_bundle_0 : decode cX4_bundle 0 = .ok (.aload_n 0, 1) := by decide +kernel
theorem dX4_bundle_1 : decode cX4_bundle 1 = .ok (.aload_n 0, 1) := by decide +kernel
theorem dX4_bundle_2 : decode cX4_bundle 2 = .ok (.iload_n 1, 1) := by decide +kernel
theorem dX4_bundle_3 : decode cX4_bundle 3 = .ok (.invokevirtual 67, 3) := by decide +kernel
theorem dX4_bundle_6 : decode cX4_bundle 6 = .ok (.ifCond .ne 7, 3) := by decide +kernel
theorem dX4_bundle_9 : decode cX4_bundle 9 = .ok (.iconst 1, 1) := by decide +kernel
theorem dX4_bundle_10 : decode cX4_bundle 10 = .ok (.goto 29, 3) := by decide +kernel
theorem dX4_bundle_13 : decode cX4_bundle 13 = .ok (.iload_n 2, 1) := by decide +kernel
theorem dX4_bundle_14 : decode cX4_bundle 14 = .ok (.iconst 0, 1) := by decide +kernel
theorem dX4_bundle_15 : decode cX4_bundle 15 = .ok (.bipush 8, 2) := by decide +kernel
theorem dX4_bundle_17 : decode cX4_bundle 17 = .ok (.invokestatic 32, 3) := by decide +kernel
theorem dX4_bundle_20 : decode cX4_bundle 20 = .ok (.ifCond .ne 14, 3) := by decide +kernel
theorem dX4_bundle_23 : decode cX4_bundle 23 = .ok (.iload_n 2, 1) := by decide +kernel
theorem dX4_bundle_24 : decode cX4_bundle 24 = .ok (.bipush 10, 2) := by decide +kernel
theorem dX4_bundle_26 : decode cX4_bundle 26 = .ok (.bipush 13, 2) := by decide +kernel
theorem dX4_bundle_28 : decode cX4_bundle 28 = .ok (.invokestatic 32, 3) := by decide +kernel
theorem dX4_bundle_31 : decode cX4_bundle 31 = .ok (.ifCond .eq 7, 3) := by decide +kernel
theorem dX4_bundle_34 : decode cX4_bundle 34 = .ok (.iconst 0, 1) := by decide +kernel
theorem dX4_bundle_35 : decode cX4_bundle 35 = .ok (.goto 4, 3) := by decide +kernel
theorem dX4_bundle_38 : decode cX4_bundle 38 = .ok (.iconst 2, 1) := by decide +kernel
theorem dX4_bundle_39 : decode cX4_bundle 39 = .ok (.putfield 25, 3) := by decide +kernel
theorem dX4_bundle_42 : decode cX4_bundle 42 = .ok (.aload_n 0, 1) := by decide +kernel
theorem dX4_bundle_43 : decode cX4_bundle 43 = .ok (.getfield 25, 3) := by decide +kernel
theorem dX4_bundle_46 : decode cX4_bundle 46 = .ok (.ifCond .le 7, 3) := by decide +kernel
theorem dX4_bundle_49 : decode cX4_bundle 49 = .ok (.iconst 0, 1) := by decide +kernel
theorem dX4_bundle_50 : decode cX4_bundle 50 = .ok (.goto 9, 3) := by decide +kernel
theorem dX4_bundle_53 : decode cX4_bundle 53 = .ok (.aload_n 0, 1) := by decide +kernel
theorem dX4_bundle_54 : decode cX4_bundle 54 = .ok (.iload_n 1, 1) := by decide +kernel
theorem dX4_bundle_55 : decode cX4_bundle 55 = .ok (.iload_n 2, 1) := by decide +kernel
theorem dX4_bundle_56 : decode cX4_bundle 56 = .ok (.invokevirtual 175, 3) := by decide +kernel
theorem dX4_bundle_59 : decode cX4_bundle 59 = .ok (.ireturn, 1) := by decide +kernel
theorem dX4_sumOnSite_0 : decode cX4_sumOnSite 0 = .ok (.iconst 0, 1) := by decide +kernel
theorem dX4_sumOnSite_1 : decode cX4_sumOnSite 1 = .ok (.istore_n 3, 1) := by decide +kernel
theorem dX4_sumOnSite_2 : decode cX4_sumOnSite 2 = .ok (.iconst 0, 1) := by decide +kernel
theorem dX4_sumOnSite_3 : decode cX4_sumOnSite 3 = .ok (.istore 4, 2) := by decide +kernel
theorem dX4_sumOnSite_5 : decode cX4_sumOnSite 5 = .ok (.iload 4, 2) := by decide +kernel
theorem dX4_sumOnSite_7 : decode cX4_sumOnSite 7 = .ok (.aload_n 0, 1) := by decide +kernel
theorem dX4_sumOnSite_8 : decode cX4_sumOnSite 8 = .ok (.getfield 7, 3) := by decide +kernel
theorem dX4_sumOnSite_11 : decode cX4_sumOnSite 11 = .ok (.iconst 3, 1) := by decide +kernel
theorem dX4_sumOnSite_12 : decode cX4_sumOnSite 12 = .ok (.iaload, 1) := by decide +kernel
theorem dX4_sumOnSite_13 : decode cX4_sumOnSite 13 = .ok (.if_icmp .ge 83, 3) := by decide +kernel
theorem dX4_sumOnSite_16 : decode cX4_sumOnSite 16 = .ok (.iload_n 2, 1) := by decide +kernel
theorem dX4_sumOnSite_17 : decode cX4_sumOnSite 17 = .ok (.ifCond .ne 7, 3) := by decide +kernel
theorem dX4_sumOnSite_20 : decode cX4_sumOnSite 20 = .ok (.iconst 1, 1) := by decide +kernel
theorem dX4_sumOnSite_21 : decode cX4_sumOnSite 21 = .ok (.goto 47, 3) := by decide +kernel
theorem dX4_sumOnSite_24 : decode cX4_sumOnSite 24 = .ok (.iload_n 2, 1) := by decide +kernel
theorem dX4_sumOnSite_25 : decode cX4_sumOnSite 25 = .ok (.bipush 6, 2) := by decide +kernel
theorem dX4_sumOnSite_27 : decode cX4_sumOnSite 27 = .ok (.if_icmp .ne 13, 3) := by decide +kernel
theorem dX4_sumOnSite_30 : decode cX4_sumOnSite 30 = .ok (.aload_n 0, 1) := by decide +kernel
theorem dX4_sumOnSite_31 : decode cX4_sumOnSite 31 = .ok (.iload 4, 2) := by decide +kernel
theorem dX4_sumOnSite_33 : decode cX4_sumOnSite 33 = .ok (.iconst 0, 1) := by decide +kernel
theorem dX4_sumOnSite_34 : decode cX4_sumOnSite 34 = .ok (.invokevirtual 89, 3) := by decide +kernel
theorem dX4_sumOnSite_37 : decode cX4_sumOnSite 37 = .ok (.goto 31, 3) := by decide +kernel
theorem dX4_sumOnSite_40 : decode cX4_sumOnSite 40 = .ok (.aload_n 0, 1) := by decide +kernel
theorem dX4_sumOnSite_41 : decode cX4_sumOnSite 41 = .ok (.getfield 7, 3) := by decide +kernel
theorem dX4_sumOnSite_44 : decode cX4_sumOnSite 44 = .ok (.iconst 2, 1) := by decide +kernel
theorem dX4_sumOnSite_45 : decode cX4_sumOnSite 45 = .ok (.iaload, 1) := by decide +kernel
theorem dX4_sumOnSite_46 : decode cX4_sumOnSite 46 = .ok (.aload_n 0, 1) := by decide +kernel
theorem dX4_sumOnSite_47 : decode cX4_sumOnSite 47 = .ok (.iload 4, 2) := by decide +kernel
theorem dX4_sumOnSite_49 : decode cX4_sumOnSite 49 = .ok (.iconst 1, 1) := by decide +kernel
theorem dX4_sumOnSite_50 : decode cX4_sumOnSite 50 = .ok (.invokevirtual 36, 3) := by decide +kernel
theorem dX4_sumOnSite_53 : decode cX4_sumOnSite 53 = .ok (.isub, 1) := by decide +kernel
theorem dX4_sumOnSite_54 : decode cX4_sumOnSite 54 = .ok (.aload_n 0, 1) := by decide +kernel
theorem dX4_sumOnSite_55 : decode cX4_sumOnSite 55 = .ok (.getfield 7, 3) := by decide +kernel
theorem dX4_sumOnSite_58 : decode cX4_sumOnSite 58 = .ok (.iconst 0, 1) := by decide +kernel
theorem dX4_sumOnSite_59 : decode cX4_sumOnSite 59 = .ok (.iaload, 1) := by decide +kernel
theorem dX4_sumOnSite_60 : decode cX4_sumOnSite 60 = .ok (.if_icmp .ge 7, 3) := by decide +kernel
theorem dX4_sumOnSite_63 : decode cX4_sumOnSite 63 = .ok (.iconst 1, 1) := by decide +kernel
theorem dX4_sumOnSite_64 : decode cX4_sumOnSite 64 = .ok (.goto 4, 3) := by decide +kernel
theorem dX4_sumOnSite_67 : decode cX4_sumOnSite 67 = .ok (.iconst 0, 1) := by decide +kernel
theorem dX4_sumOnSite_68 : decode cX4_sumOnSite 68 = .ok (.istore 5, 2) := by decide +kernel
theorem dX4_sumOnSite_70 : decode cX4_sumOnSite 70 = .ok (.iload_n 3, 1) := by decide +kernel
theorem dX4_sumOnSite_71 : decode cX4_sumOnSite 71 = .ok (.aload_n 0, 1) := by decide +kernel
theorem dX4_sumOnSite_72 : decode cX4_sumOnSite 72 = .ok (.iload 4, 2) := by decide +kernel
theorem dX4_sumOnSite_74 : decode cX4_sumOnSite 74 = .ok (.iconst 0, 1) := by decide +kernel
theorem dX4_sumOnSite_75 : decode cX4_sumOnSite 75 = .ok (.invokevirtual 36, 3) := by decide +kernel
theorem dX4_sumOnSite_78 : decode cX4_sumOnSite 78 = .ok (.iload_n 1, 1) := by decide +kernel
theorem dX4_sumOnSite_79 : decode cX4_sumOnSite 79 = .ok (.if_icmp .ne 8, 3) := by decide +kernel
theorem dX4_sumOnSite_82 : decode cX4_sumOnSite 82 = .ok (.iload 5, 2) := by decide +kernel
theorem dX4_sumOnSite_84 : decode cX4_sumOnSite 84 = .ok (.goto 4, 3) := by decide +kernel
theorem dX4_sumOnSite_87 : decode cX4_sumOnSite 87 = .ok (.iconst 0, 1) := by decide +kernel
theorem dX4_sumOnSite_88 : decode cX4_sumOnSite 88 = .ok (.iadd, 1) := by decide +kernel
theorem dX4_sumOnSite_89 : decode cX4_sumOnSite 89 = .ok (.istore_n 3, 1) := by decide +kernel
theorem dX4_sumOnSite_90 : decode cX4_sumOnSite 90 = .ok (.iinc 4 1, 3) := by decide +kernel
theorem dX4_sumOnSite_93 : decode cX4_sumOnSite 93 = .ok (.goto (-88), 3) := by decide +kernel
theorem dX4_sumOnSite_96 : decode cX4_sumOnSite 96 = .ok (.iload_n 3, 1) := by decide +kernel
theorem dX4_sumOnSite_97 : decode cX4_sumOnSite 97 = .ok (.ireturn, 1) := by decide +kernel
theorem dX4_siteNow_0 : decode cX4_siteNow 0 = .ok (.iload_n 2, 1) := by decide +kernel
theorem dX4_siteNow_1 : decode cX4_siteNow 1 = .ok (.tableswitch 50 1 5 #[35, 41, 41, 41, 41], 35) := by decide +kernel
theorem dX4_siteNow_36 : decode cX4_siteNow 36 = .ok (.aload_n 0, 1) := by decide +kernel
theorem dX4_siteNow_37 : decode cX4_siteNow 37 = .ok (.iload_n 1, 1) := by decide +kernel
theorem dX4_siteNow_38 : decode cX4_siteNow 38 = .ok (.invokevirtual 125, 3) := by decide +kernel
theorem dX4_siteNow_41 : decode cX4_siteNow 41 = .ok (.ireturn, 1) := by decide +kernel
theorem dX4_siteNow_42 : decode cX4_siteNow 42 = .ok (.aload_n 0, 1) := by decide +kernel
theorem dX4_siteNow_43 : decode cX4_siteNow 43 = .ok (.iload_n 1, 1) := by decide +kernel
theorem dX4_siteNow_44 : decode cX4_siteNow 44 = .ok (.iload_n 2, 1) := by decide +kernel
theorem dX4_siteNow_45 : decode cX4_siteNow 45 = .ok (.iconst 2, 1) := by decide +kernel
theorem dX4_siteNow_46 : decode cX4_siteNow 46 = .ok (.isub, 1) := by decide +kernel
theorem dX4_siteNow_47 : decode cX4_siteNow 47 = .ok (.invokevirtual 119, 3) := by decide +kernel
theorem dX4_siteNow_50 : decode cX4_siteNow 50 = .ok (.ireturn, 1) := by decide +kernel
theorem dX4_siteNow_51 : decode cX4_siteNow 51 = .ok (.aload_n 0, 1) := by decide +kernel
theorem dX4_siteNow_52 : decode cX4_siteNow 52 = .ok (.iload_n 1, 1) := by decide +kernel
theorem dX4_siteNow_53 : decode cX4_siteNow 53 = .ok (.iload_n 2, 1) := by decide +kernel
theorem dX4_siteNow_54 : decode cX4_siteNow 54 = .ok (.invokevirtual 178, 3) := by decide +kernel
theorem dX4_siteNow_57 : decode cX4_siteNow 57 = .ok (.ireturn, 1) := by decide +kernel
theorem dX4_site_0 : decode cX4_site 0 = .ok (.aload_n 0, 1) := by decide +kernel
theorem dX4_site_1 : decode cX4_site 1 = .ok (.iload_n 1, 1) := by decide +kernel
theorem dX4_site_2 : decode cX4_site 2 = .ok (.invokestatic 100, 3) := by decide +kernel
theorem dX4_site_5 : decode cX4_site 5 = .ok (.ifCond .ne 7, 3) := by decide +kernel
theorem dX4_site_8 : decode cX4_site 8 = .ok (.iconst 1, 1) := by decide +kernel
theorem dX4_site_9 : decode cX4_site 9 = .ok (.goto 18, 3) := by decide +kernel
theorem dX4_site_12 : decode cX4_site 12 = .ok (.iload_n 2, 1) := by decide +kernel
theorem dX4_site_13 : decode cX4_site 13 = .ok (.iconst 0, 1) := by decide +kernel
theorem dX4_site_14 : decode cX4_site 14 = .ok (.bipush 7, 2) := by decide +kernel
theorem dX4_site_16 : decode cX4_site 16 = .ok (.invokestatic 32, 3) := by decide +kernel
theorem dX4_site_19 : decode cX4_site 19 = .ok (.ifCond .eq 7, 3) := by decide +kernel
theorem dX4_site_22 : decode cX4_site 22 = .ok (.iconst 0, 1) := by decide +kernel
theorem dX4_site_23 : decode cX4_site 23 = .ok (.goto 4, 3) := by decide +kernel
theorem dX4_site_26 : decode cX4_site 26 = .ok (.iconst 2, 1) := by decide +kernel
theorem dX4_site_27 : decode cX4_site 27 = .ok (.putfield 25, 3) := by decide +kernel
theorem dX4_site_30 : decode cX4_site 30 = .ok (.aload_n 0, 1) := by decide +kernel
theorem dX4_site_31 : decode cX4_site 31 = .ok (.getfield 25, 3) := by decide +kernel
theorem dX4_site_34 : decode cX4_site 34 = .ok (.ifCond .le 7, 3) := by decide +kernel
theorem dX4_site_37 : decode cX4_site 37 = .ok (.iconst 0, 1) := by decide +kernel
theorem dX4_site_38 : decode cX4_site 38 = .ok (.goto 9, 3) := by decide +kernel
theorem dX4_site_41 : decode cX4_site 41 = .ok (.aload_n 0, 1) := by decide +kernel
theorem dX4_site_42 : decode cX4_site 42 = .ok (.iload_n 1, 1) := by decide +kernel
theorem dX4_site_43 : decode cX4_site 43 = .ok (.iload_n 2, 1) := by decide +kernel
theorem dX4_site_44 : decode cX4_site 44 = .ok (.invokevirtual 181, 3) := by decide +kernel
theorem dX4_site_47 : decode cX4_site 47 = .ok (.ireturn, 1) := by decide +kernel
theorem dX4_inSets_0 : decode cX4_inSets 0 = .ok (.iconst 0, 1) := by decide +kernel
theorem dX4_inSets_1 : decode cX4_inSets 1 = .ok (.istore_n 2, 1) := by decide +kernel
theorem dX4_inSets_2 : decode cX4_inSets 2 = .ok (.iconst 0, 1) := by decide +kernel
theorem dX4_inSets_3 : decode cX4_inSets 3 = .ok (.istore_n 3, 1) := by decide +kernel
theorem dX4_inSets_4 : decode cX4_inSets 4 = .ok (.iload_n 3, 1) := by decide +kernel
theorem dX4_inSets_5 : decode cX4_inSets 5 = .ok (.aload_n 0, 1) := by decide +kernel
theorem dX4_inSets_6 : decode cX4_inSets 6 = .ok (.getfield 7, 3) := by decide +kernel
theorem dX4_inSets_9 : decode cX4_inSets 9 = .ok (.iconst 3, 1) := by decide +kernel
theorem dX4_inSets_10 : decode cX4_inSets 10 = .ok (.iaload, 1) := by decide +kernel
theorem dX4_inSets_11 : decode cX4_inSets 11 = .ok (.if_icmp .ge 20, 3) := by decide +kernel
theorem dX4_inSets_14 : decode cX4_inSets 14 = .ok (.iload_n 2, 1) := by decide +kernel
theorem dX4_inSets_15 : decode cX4_inSets 15 = .ok (.aload_n 0, 1) := by decide +kernel
theorem dX4_inSets_16 : decode cX4_inSets 16 = .ok (.iload_n 3, 1) := by decide +kernel
theorem dX4_inSets_17 : decode cX4_inSets 17 = .ok (.iconst 2, 1) := by decide +kernel
theorem dX4_inSets_18 : decode cX4_inSets 18 = .ok (.iload_n 1, 1) := by decide +kernel
theorem dX4_inSets_19 : decode cX4_inSets 19 = .ok (.iadd, 1) := by decide +kernel
theorem dX4_inSets_20 : decode cX4_inSets 20 = .ok (.invokevirtual 36, 3) := by decide +kernel
theorem dX4_inSets_23 : decode cX4_inSets 23 = .ok (.iadd, 1) := by decide +kernel
theorem dX4_inSets_24 : decode cX4_inSets 24 = .ok (.istore_n 2, 1) := by decide +kernel
theorem dX4_inSets_25 : decode cX4_inSets 25 = .ok (.iinc 3 1, 3) := by decide +kernel
theorem dX4_inSets_28 : decode cX4_inSets 28 = .ok (.goto (-24), 3) := by decide +kernel
theorem dX4_inSets_31 : decode cX4_inSets 31 = .ok (.iload_n 2, 1) := by decide +kernel
theorem dX4_inSets_32 : decode cX4_inSets 32 = .ok (.ireturn, 1) := by decide +kernel
theorem dX4_partNow_0 : decode cX4_partNow 0 = .ok (.iload_n 2, 1) := by decide +kernel
theorem dX4_partNow_1 : decode cX4_partNow 1 = .ok (.tableswitch 67 0 3 #[31, 37, 47, 57], 31) := by decide +kernel
theorem dX4_partNow_32 : decode cX4_partNow 32 = .ok (.aload_n 0, 1) := by decide +kernel
theorem dX4_partNow_33 : decode cX4_partNow 33 = .ok (.iload_n 1, 1) := by decide +kernel
theorem dX4_partNow_34 : decode cX4_partNow 34 = .ok (.invokevirtual 184, 3) := by decide +kernel
theorem dX4_partNow_37 : decode cX4_partNow 37 = .ok (.ireturn, 1) := by decide +kernel
theorem dX4_partNow_38 : decode cX4_partNow 38 = .ok (.aload_n 0, 1) := by decide +kernel
theorem dX4_partNow_39 : decode cX4_partNow 39 = .ok (.getfield 7, 3) := by decide +kernel
theorem dX4_partNow_42 : decode cX4_partNow 42 = .ok (.bipush 7, 2) := by decide +kernel
theorem dX4_partNow_44 : decode cX4_partNow 44 = .ok (.iload_n 1, 1) := by decide +kernel
theorem dX4_partNow_45 : decode cX4_partNow 45 = .ok (.iadd, 1) := by decide +kernel
theorem dX4_partNow_46 : decode cX4_partNow 46 = .ok (.iaload, 1) := by decide +kernel
theorem dX4_partNow_47 : decode cX4_partNow 47 = .ok (.ireturn, 1) := by decide +kernel
theorem dX4_partNow_48 : decode cX4_partNow 48 = .ok (.aload_n 0, 1) := by decide +kernel
theorem dX4_partNow_49 : decode cX4_partNow 49 = .ok (.getfield 7, 3) := by decide +kernel
theorem dX4_partNow_52 : decode cX4_partNow 52 = .ok (.bipush 11, 2) := by decide +kernel
theorem dX4_partNow_54 : decode cX4_partNow 54 = .ok (.iload_n 1, 1) := by decide +kernel
theorem dX4_partNow_55 : decode cX4_partNow 55 = .ok (.iadd, 1) := by decide +kernel
theorem dX4_partNow_56 : decode cX4_partNow 56 = .ok (.iaload, 1) := by decide +kernel
theorem dX4_partNow_57 : decode cX4_partNow 57 = .ok (.ireturn, 1) := by decide +kernel
theorem dX4_partNow_58 : decode cX4_partNow 58 = .ok (.aload_n 0, 1) := by decide +kernel
theorem dX4_partNow_59 : decode cX4_partNow 59 = .ok (.getfield 7, 3) := by decide +kernel
theorem dX4_partNow_62 : decode cX4_partNow 62 = .ok (.bipush 15, 2) := by decide +kernel
theorem dX4_partNow_64 : decode cX4_partNow 64 = .ok (.iload_n 1, 1) := by decide +kernel
theorem dX4_partNow_65 : decode cX4_partNow 65 = .ok (.iadd, 1) := by decide +kernel
theorem dX4_partNow_66 : decode cX4_partNow 66 = .ok (.iaload, 1) := by decide +kernel
theorem dX4_partNow_67 : decode cX4_partNow 67 = .ok (.ireturn, 1) := by decide +kernel
theorem dX4_partNow_68 : decode cX4_partNow 68 = .ok (.iload_n 1, 1) := by decide +kernel
theorem dX4_partNow_69 : decode cX4_partNow 69 = .ok (.invokestatic 40, 3) := by decide +kernel
theorem dX4_partNow_72 : decode cX4_partNow 72 = .ok (.aload_n 0, 1) := by decide +kernel
theorem dX4_partNow_73 : decode cX4_partNow 73 = .ok (.getfield 7, 3) := by decide +kernel
theorem dX4_partNow_76 : decode cX4_partNow 76 = .ok (.iconst 3, 1) := by decide +kernel
theorem dX4_partNow_77 : decode cX4_partNow 77 = .ok (.iaload, 1) := by decide +kernel
theorem dX4_partNow_78 : decode cX4_partNow 78 = .ok (.imul, 1) := by decide +kernel
theorem dX4_partNow_79 : decode cX4_partNow 79 = .ok (.aload_n 0, 1) := by decide +kernel
theorem dX4_partNow_80 : decode cX4_partNow 80 = .ok (.iload_n 1, 1) := by decide +kernel
theorem dX4_partNow_81 : decode cX4_partNow 81 = .ok (.invokevirtual 184, 3) := by decide +kernel
theorem dX4_partNow_84 : decode cX4_partNow 84 = .ok (.isub, 1) := by decide +kernel
theorem dX4_partNow_85 : decode cX4_partNow 85 = .ok (.ireturn, 1) := by decide +kernel
theorem dX4_parts_0 : decode cX4_parts 0 = .ok (.aload_n 0, 1) := by decide +kernel
theorem dX4_parts_1 : decode cX4_parts 1 = .ok (.iload_n 1, 1) := by decide +kernel
theorem dX4_parts_2 : decode cX4_parts 2 = .ok (.invokestatic 64, 3) := by decide +kernel
theorem dX4_parts_5 : decode cX4_parts 5 = .ok (.ifCond .ne 7, 3) := by decide +kernel
theorem dX4_parts_8 : decode cX4_parts 8 = .ok (.iconst 1, 1) := by decide +kernel
theorem dX4_parts_9 : decode cX4_parts 9 = .ok (.goto 17, 3) := by decide +kernel
theorem dX4_parts_12 : decode cX4_parts 12 = .ok (.iload_n 2, 1) := by decide +kernel
theorem dX4_parts_13 : decode cX4_parts 13 = .ok (.iconst 0, 1) := by decide +kernel
theorem dX4_parts_14 : decode cX4_parts 14 = .ok (.iconst 4, 1) := by decide +kernel
theorem dX4_parts_15 : decode cX4_parts 15 = .ok (.invokestatic 32, 3) := by decide +kernel
theorem dX4_parts_18 : decode cX4_parts 18 = .ok (.ifCond .eq 7, 3) := by decide +kernel
theorem dX4_parts_21 : decode cX4_parts 21 = .ok (.iconst 0, 1) := by decide +kernel
theorem dX4_parts_22 : decode cX4_parts 22 = .ok (.goto 4, 3) := by decide +kernel
theorem dX4_parts_25 : decode cX4_parts 25 = .ok (.iconst 2, 1) := by decide +kernel
theorem dX4_parts_26 : decode cX4_parts 26 = .ok (.putfield 25, 3) := by decide +kernel
theorem dX4_parts_29 : decode cX4_parts 29 = .ok (.aload_n 0, 1) := by decide +kernel
theorem dX4_parts_30 : decode cX4_parts 30 = .ok (.getfield 25, 3) := by decide +kernel
theorem dX4_parts_33 : decode cX4_parts 33 = .ok (.ifCond .le 7, 3) := by decide +kernel
theorem dX4_parts_36 : decode cX4_parts 36 = .ok (.iconst 0, 1) := by decide +kernel
theorem dX4_parts_37 : decode cX4_parts 37 = .ok (.goto 9, 3) := by decide +kernel
theorem dX4_parts_40 : decode cX4_parts 40 = .ok (.aload_n 0, 1) := by decide +kernel
theorem dX4_parts_41 : decode cX4_parts 41 = .ok (.iload_n 1, 1) := by decide +kernel
theorem dX4_parts_42 : decode cX4_parts 42 = .ok (.iload_n 2, 1) := by decide +kernel
theorem dX4_parts_43 : decode cX4_parts 43 = .ok (.invokevirtual 187, 3) := by decide +kernel
theorem dX4_parts_46 : decode cX4_parts 46 = .ok (.ireturn, 1) := by decide +kernel
theorem dX4_billedToAll_0 : decode cX4_billedToAll 0 = .ok (.iconst 0, 1) := by decide +kernel
theorem dX4_billedToAll_1 : decode cX4_billedToAll 1 = .ok (.istore_n 1, 1) := by decide +kernel
theorem dX4_billedToAll_2 : decode cX4_billedToAll 2 = .ok (.iconst 0, 1) := by decide +kernel
theorem dX4_billedToAll_3 : decode cX4_billedToAll 3 = .ok (.istore_n 2, 1) := by decide +kernel
theorem dX4_billedToAll_4 : decode cX4_billedToAll 4 = .ok (.iload_n 2, 1) := by decide +kernel
theorem dX4_billedToAll_5 : decode cX4_billedToAll 5 = .ok (.bipush 6, 2) := by decide +kernel
theorem dX4_billedToAll_7 : decode cX4_billedToAll 7 = .ok (.if_icmp .ge 17, 3) := by decide +kernel
theorem dX4_billedToAll_10 : decode cX4_billedToAll 10 = .ok (.iload_n 1, 1) := by decide +kernel
theorem dX4_billedToAll_11 : decode cX4_billedToAll 11 = .ok (.aload_n 0, 1) := by decide +kernel
theorem dX4_billedToAll_12 : decode cX4_billedToAll 12 = .ok (.iload_n 2, 1) := by decide +kernel
theorem dX4_billedToAll_13 : decode cX4_billedToAll 13 = .ok (.invokevirtual 122, 3) := by decide +kernel
theorem dX4_billedToAll_16 : decode cX4_billedToAll 16 = .ok (.iadd, 1) := by decide +kernel
theorem dX4_billedToAll_17 : decode cX4_billedToAll 17 = .ok (.istore_n 1, 1) := by decide +kernel
theorem dX4_billedToAll_18 : decode cX4_billedToAll 18 = .ok (.iinc 2 1, 3) := by decide +kernel
theorem dX4_billedToAll_21 : decode cX4_billedToAll 21 = .ok (.goto (-17), 3) := by decide +kernel
theorem dX4_billedToAll_24 : decode cX4_billedToAll 24 = .ok (.iload_n 1, 1) := by decide +kernel
theorem dX4_billedToAll_25 : decode cX4_billedToAll 25 = .ok (.ireturn, 1) := by decide +kernel
theorem dX4_paidByAll_0 : decode cX4_paidByAll 0 = .ok (.iconst 0, 1) := by decide +kernel
theorem dX4_paidByAll_1 : decode cX4_paidByAll 1 = .ok (.istore_n 1, 1) := by decide +kernel
theorem dX4_paidByAll_2 : decode cX4_paidByAll 2 = .ok (.iconst 0, 1) := by decide +kernel
theorem dX4_paidByAll_3 : decode cX4_paidByAll 3 = .ok (.istore_n 2, 1) := by decide +kernel
theorem dX4_paidByAll_4 : decode cX4_paidByAll 4 = .ok (.iload_n 2, 1) := by decide +kernel
theorem dX4_paidByAll_5 : decode cX4_paidByAll 5 = .ok (.bipush 6, 2) := by decide +kernel
theorem dX4_paidByAll_7 : decode cX4_paidByAll 7 = .ok (.if_icmp .ge 18, 3) := by decide +kernel
theorem dX4_paidByAll_10 : decode cX4_paidByAll 10 = .ok (.iload_n 1, 1) := by decide +kernel
theorem dX4_paidByAll_11 : decode cX4_paidByAll 11 = .ok (.aload_n 0, 1) := by decide +kernel
theorem dX4_paidByAll_12 : decode cX4_paidByAll 12 = .ok (.iload_n 2, 1) := by decide +kernel
theorem dX4_paidByAll_13 : decode cX4_paidByAll 13 = .ok (.iconst 3, 1) := by decide +kernel
theorem dX4_paidByAll_14 : decode cX4_paidByAll 14 = .ok (.invokevirtual 119, 3) := by decide +kernel
theorem dX4_paidByAll_17 : decode cX4_paidByAll 17 = .ok (.iadd, 1) := by decide +kernel
theorem dX4_paidByAll_18 : decode cX4_paidByAll 18 = .ok (.istore_n 1, 1) := by decide +kernel
theorem dX4_paidByAll_19 : decode cX4_paidByAll 19 = .ok (.iinc 2 1, 3) := by decide +kernel
theorem dX4_paidByAll_22 : decode cX4_paidByAll 22 = .ok (.goto (-18), 3) := by decide +kernel
theorem dX4_paidByAll_25 : decode cX4_paidByAll 25 = .ok (.iload_n 1, 1) := by decide +kernel
theorem dX4_paidByAll_26 : decode cX4_paidByAll 26 = .ok (.ireturn, 1) := by decide +kernel
theorem dX4_counted_0 : decode cX4_counted 0 = .ok (.iload_n 1, 1) := by decide +kernel
theorem dX4_counted_1 : decode cX4_counted 1 = .ok (.tableswitch 96 0 9 #[55, 62, 68, 74, 81, 86, 96, 96, 96, 91], 55) := by decide +kernel
theorem dX4_counted_56 : decode cX4_counted 56 = .ok (.aload_n 0, 1) := by decide +kernel
theorem dX4_counted_57 : decode cX4_counted 57 = .ok (.getfield 7, 3) := by decide +kernel
theorem dX4_counted_60 : decode cX4_counted 60 = .ok (.iconst 3, 1) := by decide +kernel
theorem dX4_counted_61 : decode cX4_counted 61 = .ok (.iaload, 1) := by decide +kernel
theorem dX4_counted_62 : decode cX4_counted 62 = .ok (.ireturn, 1) := by decide +kernel
theorem dX4_counted_63 : decode cX4_counted 63 = .ok (.aload_n 0, 1) := by decide +kernel
theorem dX4_counted_64 : decode cX4_counted 64 = .ok (.iconst 0, 1) := by decide +kernel
theorem dX4_counted_65 : decode cX4_counted 65 = .ok (.invokevirtual 92, 3) := by decide +kernel
theorem dX4_counted_68 : decode cX4_counted 68 = .ok (.ireturn, 1) := by decide +kernel
theorem dX4_counted_69 : decode cX4_counted 69 = .ok (.aload_n 0, 1) := by decide +kernel
theorem dX4_counted_70 : decode cX4_counted 70 = .ok (.iconst 1, 1) := by decide +kernel
theorem dX4_counted_71 : decode cX4_counted 71 = .ok (.invokevirtual 92, 3) := by decide +kernel
theorem dX4_counted_74 : decode cX4_counted 74 = .ok (.ireturn, 1) := by decide +kernel
theorem dX4_counted_75 : decode cX4_counted 75 = .ok (.aload_n 0, 1) := by decide +kernel
theorem dX4_counted_76 : decode cX4_counted 76 = .ok (.getfield 7, 3) := by decide +kernel
theorem dX4_counted_79 : decode cX4_counted 79 = .ok (.iconst 2, 1) := by decide +kernel
theorem dX4_counted_80 : decode cX4_counted 80 = .ok (.iaload, 1) := by decide +kernel
theorem dX4_counted_81 : decode cX4_counted 81 = .ok (.ireturn, 1) := by decide +kernel
theorem dX4_counted_82 : decode cX4_counted 82 = .ok (.aload_n 0, 1) := by decide +kernel
theorem dX4_counted_83 : decode cX4_counted 83 = .ok (.invokevirtual 190, 3) := by decide +kernel
theorem dX4_counted_86 : decode cX4_counted 86 = .ok (.ireturn, 1) := by decide +kernel
theorem dX4_counted_87 : decode cX4_counted 87 = .ok (.aload_n 0, 1) := by decide +kernel
theorem dX4_counted_88 : decode cX4_counted 88 = .ok (.invokevirtual 193, 3) := by decide +kernel
theorem dX4_counted_91 : decode cX4_counted 91 = .ok (.ireturn, 1) := by decide +kernel
theorem dX4_counted_92 : decode cX4_counted 92 = .ok (.aload_n 0, 1) := by decide +kernel
theorem dX4_counted_93 : decode cX4_counted 93 = .ok (.getfield 29, 3) := by decide +kernel
theorem dX4_counted_96 : decode cX4_counted 96 = .ok (.ireturn, 1) := by decide +kernel
theorem dX4_counted_97 : decode cX4_counted 97 = .ok (.aload_n 0, 1) := by decide +kernel
theorem dX4_counted_98 : decode cX4_counted 98 = .ok (.getfield 7, 3) := by decide +kernel
theorem dX4_counted_101 : decode cX4_counted 101 = .ok (.iconst 4, 1) := by decide +kernel
theorem dX4_counted_102 : decode cX4_counted 102 = .ok (.iload_n 1, 1) := by decide +kernel
theorem dX4_counted_103 : decode cX4_counted 103 = .ok (.iadd, 1) := by decide +kernel
theorem dX4_counted_104 : decode cX4_counted 104 = .ok (.bipush 6, 2) := by decide +kernel
theorem dX4_counted_106 : decode cX4_counted 106 = .ok (.isub, 1) := by decide +kernel
theorem dX4_counted_107 : decode cX4_counted 107 = .ok (.iaload, 1) := by decide +kernel
theorem dX4_counted_108 : decode cX4_counted 108 = .ok (.ireturn, 1) := by decide +kernel
theorem dX4_count_0 : decode cX4_count 0 = .ok (.aload_n 0, 1) := by decide +kernel
theorem dX4_count_1 : decode cX4_count 1 = .ok (.iload_n 1, 1) := by decide +kernel
theorem dX4_count_2 : decode cX4_count 2 = .ok (.iconst 0, 1) := by decide +kernel
theorem dX4_count_3 : decode cX4_count 3 = .ok (.bipush 9, 2) := by decide +kernel
theorem dX4_count_5 : decode cX4_count 5 = .ok (.invokestatic 32, 3) := by decide +kernel
theorem dX4_count_8 : decode cX4_count 8 = .ok (.ifCond .eq 7, 3) := by decide +kernel
theorem dX4_count_11 : decode cX4_count 11 = .ok (.iconst 0, 1) := by decide +kernel
theorem dX4_count_12 : decode cX4_count 12 = .ok (.goto 4, 3) := by decide +kernel
theorem dX4_count_15 : decode cX4_count 15 = .ok (.iconst 1, 1) := by decide +kernel
theorem dX4_count_16 : decode cX4_count 16 = .ok (.putfield 25, 3) := by decide +kernel
theorem dX4_count_19 : decode cX4_count 19 = .ok (.aload_n 0, 1) := by decide +kernel
theorem dX4_count_20 : decode cX4_count 20 = .ok (.getfield 25, 3) := by decide +kernel
theorem dX4_count_23 : decode cX4_count 23 = .ok (.ifCond .le 7, 3) := by decide +kernel
theorem dX4_count_26 : decode cX4_count 26 = .ok (.iconst 0, 1) := by decide +kernel
theorem dX4_count_27 : decode cX4_count 27 = .ok (.goto 8, 3) := by decide +kernel
theorem dX4_count_30 : decode cX4_count 30 = .ok (.aload_n 0, 1) := by decide +kernel
theorem dX4_count_31 : decode cX4_count 31 = .ok (.iload_n 1, 1) := by decide +kernel
theorem dX4_count_32 : decode cX4_count 32 = .ok (.invokevirtual 196, 3) := by decide +kernel
theorem dX4_count_35 : decode cX4_count 35 = .ok (.ireturn, 1) := by decide +kernel
theorem dX4_setting_0 : decode cX4_setting 0 = .ok (.aload_n 0, 1) := by decide +kernel
theorem dX4_setting_1 : decode cX4_setting 1 = .ok (.iload_n 1, 1) := by decide +kernel
theorem dX4_setting_2 : decode cX4_setting 2 = .ok (.invokestatic 134, 3) := by decide +kernel
theorem dX4_setting_5 : decode cX4_setting 5 = .ok (.ifCond .eq 7, 3) := by decide +kernel
theorem dX4_setting_8 : decode cX4_setting 8 = .ok (.iconst 0, 1) := by decide +kernel
theorem dX4_setting_9 : decode cX4_setting 9 = .ok (.goto 4, 3) := by decide +kernel
theorem dX4_setting_12 : decode cX4_setting 12 = .ok (.iconst 1, 1) := by decide +kernel
theorem dX4_setting_13 : decode cX4_setting 13 = .ok (.putfield 25, 3) := by decide +kernel
theorem dX4_setting_16 : decode cX4_setting 16 = .ok (.aload_n 0, 1) := by decide +kernel
theorem dX4_setting_17 : decode cX4_setting 17 = .ok (.getfield 25, 3) := by decide +kernel
theorem dX4_setting_20 : decode cX4_setting 20 = .ok (.ifCond .le 7, 3) := by decide +kernel
theorem dX4_setting_23 : decode cX4_setting 23 = .ok (.iconst 0, 1) := by decide +kernel
theorem dX4_setting_24 : decode cX4_setting 24 = .ok (.goto 9, 3) := by decide +kernel
theorem dX4_setting_27 : decode cX4_setting 27 = .ok (.aload_n 0, 1) := by decide +kernel
theorem dX4_setting_28 : decode cX4_setting 28 = .ok (.getfield 7, 3) := by decide +kernel
theorem dX4_setting_31 : decode cX4_setting 31 = .ok (.iload_n 1, 1) := by decide +kernel
theorem dX4_setting_32 : decode cX4_setting 32 = .ok (.iaload, 1) := by decide +kernel
theorem dX4_setting_33 : decode cX4_setting 33 = .ok (.ireturn, 1) := by decide +kernel
theorem dX4_billIn_0 : decode cX4_billIn 0 = .ok (.aload_n 0, 1) := by decide +kernel
theorem dX4_billIn_1 : decode cX4_billIn 1 = .ok (.aload_n 0, 1) := by decide +kernel
theorem dX4_billIn_2 : decode cX4_billIn 2 = .ok (.iload_n 1, 1) := by decide +kernel
theorem dX4_billIn_3 : decode cX4_billIn 3 = .ok (.invokevirtual 67, 3) := by decide +kernel
theorem dX4_billIn_6 : decode cX4_billIn 6 = .ok (.ifCond .ne 7, 3) := by decide +kernel
theorem dX4_billIn_9 : decode cX4_billIn 9 = .ok (.iconst 1, 1) := by decide +kernel
theorem dX4_billIn_10 : decode cX4_billIn 10 = .ok (.goto 19, 3) := by decide +kernel
theorem dX4_billIn_13 : decode cX4_billIn 13 = .ok (.iload_n 2, 1) := by decide +kernel
theorem dX4_billIn_14 : decode cX4_billIn 14 = .ok (.iconst 0, 1) := by decide +kernel
theorem dX4_billIn_15 : decode cX4_billIn 15 = .ok (.sipush 200, 3) := by decide +kernel
theorem dX4_billIn_18 : decode cX4_billIn 18 = .ok (.invokestatic 32, 3) := by decide +kernel
theorem dX4_billIn_21 : decode cX4_billIn 21 = .ok (.ifCond .eq 7, 3) := by decide +kernel
theorem dX4_billIn_24 : decode cX4_billIn 24 = .ok (.iconst 0, 1) := by decide +kernel
theorem dX4_billIn_25 : decode cX4_billIn 25 = .ok (.goto 4, 3) := by decide +kernel
theorem dX4_billIn_28 : decode cX4_billIn 28 = .ok (.iconst 2, 1) := by decide +kernel
theorem dX4_billIn_29 : decode cX4_billIn 29 = .ok (.putfield 25, 3) := by decide +kernel
theorem dX4_billIn_32 : decode cX4_billIn 32 = .ok (.aload_n 0, 1) := by decide +kernel
theorem dX4_billIn_33 : decode cX4_billIn 33 = .ok (.getfield 25, 3) := by decide +kernel
theorem dX4_billIn_36 : decode cX4_billIn 36 = .ok (.ifCond .le 7, 3) := by decide +kernel
theorem dX4_billIn_39 : decode cX4_billIn 39 = .ok (.iconst 0, 1) := by decide +kernel
theorem dX4_billIn_40 : decode cX4_billIn 40 = .ok (.goto 9, 3) := by decide +kernel
theorem dX4_billIn_43 : decode cX4_billIn 43 = .ok (.aload_n 0, 1) := by decide +kernel
theorem dX4_billIn_44 : decode cX4_billIn 44 = .ok (.iload_n 1, 1) := by decide +kernel
theorem dX4_billIn_45 : decode cX4_billIn 45 = .ok (.iload_n 2, 1) := by decide +kernel
theorem dX4_billIn_46 : decode cX4_billIn 46 = .ok (.invokevirtual 89, 3) := by decide +kernel
theorem dX4_billIn_49 : decode cX4_billIn 49 = .ok (.ireturn, 1) := by decide +kernel
theorem dX4_splitNow_0 : decode cX4_splitNow 0 = .ok (.iconst 0, 1) := by decide +kernel
theorem dX4_splitNow_1 : decode cX4_splitNow 1 = .ok (.istore 4, 2) := by decide +kernel
theorem dX4_splitNow_3 : decode cX4_splitNow 3 = .ok (.iconst 0, 1) := by decide +kernel
theorem dX4_splitNow_4 : decode cX4_splitNow 4 = .ok (.istore 5, 2) := by decide +kernel
theorem dX4_splitNow_6 : decode cX4_splitNow 6 = .ok (.iload 5, 2) := by decide +kernel
theorem dX4_splitNow_8 : decode cX4_splitNow 8 = .ok (.iconst 3, 1) := by decide +kernel
theorem dX4_splitNow_9 : decode cX4_splitNow 9 = .ok (.if_icmp .ge 40, 3) := by decide +kernel
theorem dX4_splitNow_12 : decode cX4_splitNow 12 = .ok (.iload 4, 2) := by decide +kernel
theorem dX4_splitNow_14 : decode cX4_splitNow 14 = .ok (.aload_n 0, 1) := by decide +kernel
theorem dX4_splitNow_15 : decode cX4_splitNow 15 = .ok (.iload_n 1, 1) := by decide +kernel
theorem dX4_splitNow_16 : decode cX4_splitNow 16 = .ok (.bipush 6, 2) := by decide +kernel
theorem dX4_splitNow_18 : decode cX4_splitNow 18 = .ok (.iload 5, 2) := by decide +kernel
theorem dX4_splitNow_20 : decode cX4_splitNow 20 = .ok (.iadd, 1) := by decide +kernel
theorem dX4_splitNow_21 : decode cX4_splitNow 21 = .ok (.invokevirtual 36, 3) := by decide +kernel
theorem dX4_splitNow_24 : decode cX4_splitNow 24 = .ok (.iload_n 3, 1) := by decide +kernel
theorem dX4_splitNow_25 : decode cX4_splitNow 25 = .ok (.if_icmp .ne 14, 3) := by decide +kernel
theorem dX4_splitNow_28 : decode cX4_splitNow 28 = .ok (.aload_n 0, 1) := by decide +kernel
theorem dX4_splitNow_29 : decode cX4_splitNow 29 = .ok (.iload_n 1, 1) := by decide +kernel
theorem dX4_splitNow_30 : decode cX4_splitNow 30 = .ok (.iload 5, 2) := by decide +kernel
theorem dX4_splitNow_32 : decode cX4_splitNow 32 = .ok (.iload_n 2, 1) := by decide +kernel
theorem dX4_splitNow_33 : decode cX4_splitNow 33 = .ok (.invokevirtual 79, 3) := by decide +kernel
theorem dX4_splitNow_36 : decode cX4_splitNow 36 = .ok (.goto 4, 3) := by decide +kernel
theorem dX4_splitNow_39 : decode cX4_splitNow 39 = .ok (.iconst 0, 1) := by decide +kernel
theorem dX4_splitNow_40 : decode cX4_splitNow 40 = .ok (.iadd, 1) := by decide +kernel
theorem dX4_splitNow_41 : decode cX4_splitNow 41 = .ok (.istore 4, 2) := by decide +kernel
theorem dX4_splitNow_43 : decode cX4_splitNow 43 = .ok (.iinc 5 1, 3) := by decide +kernel
theorem dX4_splitNow_46 : decode cX4_splitNow 46 = .ok (.goto (-40), 3) := by decide +kernel
theorem dX4_splitNow_49 : decode cX4_splitNow 49 = .ok (.iload 4, 2) := by decide +kernel
theorem dX4_splitNow_51 : decode cX4_splitNow 51 = .ok (.ireturn, 1) := by decide +kernel
theorem dX4_splitOn_0 : decode cX4_splitOn 0 = .ok (.aload_n 0, 1) := by decide +kernel
theorem dX4_splitOn_1 : decode cX4_splitOn 1 = .ok (.aload_n 0, 1) := by decide +kernel
theorem dX4_splitOn_2 : decode cX4_splitOn 2 = .ok (.iload_n 1, 1) := by decide +kernel
theorem dX4_splitOn_3 : decode cX4_splitOn 3 = .ok (.invokevirtual 67, 3) := by decide +kernel
theorem dX4_splitOn_6 : decode cX4_splitOn 6 = .ok (.ifCond .eq 10, 3) := by decide +kernel
theorem dX4_splitOn_9 : decode cX4_splitOn 9 = .ok (.iload_n 3, 1) := by decide +kernel
theorem dX4_splitOn_10 : decode cX4_splitOn 10 = .ok (.invokestatic 100, 3) := by decide +kernel
theorem dX4_splitOn_13 : decode cX4_splitOn 13 = .ok (.ifCond .ne 7, 3) := by decide +kernel
theorem dX4_splitOn_16 : decode cX4_splitOn 16 = .ok (.iconst 1, 1) := by decide +kernel
theorem dX4_splitOn_17 : decode cX4_splitOn 17 = .ok (.goto 19, 3) := by decide +kernel
theorem dX4_splitOn_20 : decode cX4_splitOn 20 = .ok (.iload_n 2, 1) := by decide +kernel
theorem dX4_splitOn_21 : decode cX4_splitOn 21 = .ok (.iconst 0, 1) := by decide +kernel
theorem dX4_splitOn_22 : decode cX4_splitOn 22 = .ok (.sipush 9999, 3) := by decide +kernel
theorem dX4_splitOn_25 : decode cX4_splitOn 25 = .ok (.invokestatic 32, 3) := by decide +kernel
theorem dX4_splitOn_28 : decode cX4_splitOn 28 = .ok (.ifCond .eq 7, 3) := by decide +kernel
theorem dX4_splitOn_31 : decode cX4_splitOn 31 = .ok (.iconst 0, 1) := by decide +kernel
theorem dX4_splitOn_32 : decode cX4_splitOn 32 = .ok (.goto 4, 3) := by decide +kernel
theorem dX4_splitOn_35 : decode cX4_splitOn 35 = .ok (.iconst 2, 1) := by decide +kernel
theorem dX4_splitOn_36 : decode cX4_splitOn 36 = .ok (.putfield 25, 3) := by decide +kernel
theorem dX4_splitOn_39 : decode cX4_splitOn 39 = .ok (.aload_n 0, 1) := by decide +kernel
theorem dX4_splitOn_40 : decode cX4_splitOn 40 = .ok (.getfield 25, 3) := by decide +kernel
theorem dX4_splitOn_43 : decode cX4_splitOn 43 = .ok (.ifCond .le 7, 3) := by decide +kernel
theorem dX4_splitOn_46 : decode cX4_splitOn 46 = .ok (.iconst 0, 1) := by decide +kernel
theorem dX4_splitOn_47 : decode cX4_splitOn 47 = .ok (.goto 10, 3) := by decide +kernel
theorem dX4_splitOn_50 : decode cX4_splitOn 50 = .ok (.aload_n 0, 1) := by decide +kernel
theorem dX4_splitOn_51 : decode cX4_splitOn 51 = .ok (.iload_n 1, 1) := by decide +kernel
theorem dX4_splitOn_52 : decode cX4_splitOn 52 = .ok (.iload_n 2, 1) := by decide +kernel
theorem dX4_splitOn_53 : decode cX4_splitOn 53 = .ok (.iload_n 3, 1) := by decide +kernel
theorem dX4_splitOn_54 : decode cX4_splitOn 54 = .ok (.invokevirtual 199, 3) := by decide +kernel
theorem dX4_splitOn_57 : decode cX4_splitOn 57 = .ok (.ireturn, 1) := by decide +kernel
theorem dX4_oldestOn_0 : decode cX4_oldestOn 0 = .ok (.iconst (-1), 1) := by decide +kernel
theorem dX4_oldestOn_1 : decode cX4_oldestOn 1 = .ok (.istore_n 2, 1) := by decide +kernel
theorem dX4_oldestOn_2 : decode cX4_oldestOn 2 = .ok (.iconst 0, 1) := by decide +kernel
theorem dX4_oldestOn_3 : decode cX4_oldestOn 3 = .ok (.istore_n 3, 1) := by decide +kernel
theorem dX4_oldestOn_4 : decode cX4_oldestOn 4 = .ok (.iload_n 3, 1) := by decide +kernel
theorem dX4_oldestOn_5 : decode cX4_oldestOn 5 = .ok (.aload_n 0, 1) := by decide +kernel
theorem dX4_oldestOn_6 : decode cX4_oldestOn 6 = .ok (.getfield 7, 3) := by decide +kernel
theorem dX4_oldestOn_9 : decode cX4_oldestOn 9 = .ok (.iconst 3, 1) := by decide +kernel
theorem dX4_oldestOn_10 : decode cX4_oldestOn 10 = .ok (.iaload, 1) := by decide +kernel
theorem dX4_oldestOn_11 : decode cX4_oldestOn 11 = .ok (.if_icmp .ge 79, 3) := by decide +kernel
theorem dX4_oldestOn_14 : decode cX4_oldestOn 14 = .ok (.aload_n 0, 1) := by decide +kernel
theorem dX4_oldestOn_15 : decode cX4_oldestOn 15 = .ok (.iload_n 3, 1) := by decide +kernel
theorem dX4_oldestOn_16 : decode cX4_oldestOn 16 = .ok (.iconst 0, 1) := by decide +kernel
theorem dX4_oldestOn_17 : decode cX4_oldestOn 17 = .ok (.invokevirtual 36, 3) := by decide +kernel
theorem dX4_oldestOn_20 : decode cX4_oldestOn 20 = .ok (.iload_n 1, 1) := by decide +kernel
theorem dX4_oldestOn_21 : decode cX4_oldestOn 21 = .ok (.if_icmp .ne 29, 3) := by decide +kernel
theorem dX4_oldestOn_24 : decode cX4_oldestOn 24 = .ok (.aload_n 0, 1) := by decide +kernel
theorem dX4_oldestOn_25 : decode cX4_oldestOn 25 = .ok (.getfield 7, 3) := by decide +kernel
theorem dX4_oldestOn_28 : decode cX4_oldestOn 28 = .ok (.iconst 2, 1) := by decide +kernel
theorem dX4_oldestOn_29 : decode cX4_oldestOn 29 = .ok (.iaload, 1) := by decide +kernel
theorem dX4_oldestOn_30 : decode cX4_oldestOn 30 = .ok (.aload_n 0, 1) := by decide +kernel
theorem dX4_oldestOn_31 : decode cX4_oldestOn 31 = .ok (.iload_n 3, 1) := by decide +kernel
theorem dX4_oldestOn_32 : decode cX4_oldestOn 32 = .ok (.iconst 1, 1) := by decide +kernel
theorem dX4_oldestOn_33 : decode cX4_oldestOn 33 = .ok (.invokevirtual 36, 3) := by decide +kernel
theorem dX4_oldestOn_36 : decode cX4_oldestOn 36 = .ok (.isub, 1) := by decide +kernel
theorem dX4_oldestOn_37 : decode cX4_oldestOn 37 = .ok (.aload_n 0, 1) := by decide +kernel
theorem dX4_oldestOn_38 : decode cX4_oldestOn 38 = .ok (.getfield 7, 3) := by decide +kernel
theorem dX4_oldestOn_41 : decode cX4_oldestOn 41 = .ok (.iconst 0, 1) := by decide +kernel
theorem dX4_oldestOn_42 : decode cX4_oldestOn 42 = .ok (.iaload, 1) := by decide +kernel
theorem dX4_oldestOn_43 : decode cX4_oldestOn 43 = .ok (.if_icmp .lt 7, 3) := by decide +kernel
theorem dX4_oldestOn_46 : decode cX4_oldestOn 46 = .ok (.iconst 1, 1) := by decide +kernel
theorem dX4_oldestOn_47 : decode cX4_oldestOn 47 = .ok (.goto 4, 3) := by decide +kernel
theorem dX4_oldestOn_50 : decode cX4_oldestOn 50 = .ok (.iconst 0, 1) := by decide +kernel
theorem dX4_oldestOn_51 : decode cX4_oldestOn 51 = .ok (.istore 4, 2) := by decide +kernel
theorem dX4_oldestOn_53 : decode cX4_oldestOn 53 = .ok (.iload 4, 2) := by decide +kernel
theorem dX4_oldestOn_55 : decode cX4_oldestOn 55 = .ok (.ifCond .eq 27, 3) := by decide +kernel
theorem dX4_oldestOn_58 : decode cX4_oldestOn 58 = .ok (.iload_n 2, 1) := by decide +kernel
theorem dX4_oldestOn_59 : decode cX4_oldestOn 59 = .ok (.iconst (-1), 1) := by decide +kernel
theorem dX4_oldestOn_60 : decode cX4_oldestOn 60 = .ok (.if_icmp .eq 18, 3) := by decide +kernel
theorem dX4_oldestOn_63 : decode cX4_oldestOn 63 = .ok (.aload_n 0, 1) := by decide +kernel
theorem dX4_oldestOn_64 : decode cX4_oldestOn 64 = .ok (.iload_n 3, 1) := by decide +kernel
theorem dX4_oldestOn_65 : decode cX4_oldestOn 65 = .ok (.iconst 1, 1) := by decide +kernel
theorem dX4_oldestOn_66 : decode cX4_oldestOn 66 = .ok (.invokevirtual 36, 3) := by decide +kernel
theorem dX4_oldestOn_69 : decode cX4_oldestOn 69 = .ok (.aload_n 0, 1) := by decide +kernel
theorem dX4_oldestOn_70 : decode cX4_oldestOn 70 = .ok (.iload_n 2, 1) := by decide +kernel
theorem dX4_oldestOn_71 : decode cX4_oldestOn 71 = .ok (.iconst 1, 1) := by decide +kernel
theorem dX4_oldestOn_72 : decode cX4_oldestOn 72 = .ok (.invokevirtual 36, 3) := by decide +kernel
theorem dX4_oldestOn_75 : decode cX4_oldestOn 75 = .ok (.if_icmp .ge 7, 3) := by decide +kernel
theorem dX4_oldestOn_78 : decode cX4_oldestOn 78 = .ok (.iload_n 3, 1) := by decide +kernel
theorem dX4_oldestOn_79 : decode cX4_oldestOn 79 = .ok (.goto 4, 3) := by decide +kernel
theorem dX4_oldestOn_82 : decode cX4_oldestOn 82 = .ok (.iload_n 2, 1) := by decide +kernel
theorem dX4_oldestOn_83 : decode cX4_oldestOn 83 = .ok (.istore_n 2, 1) := by decide +kernel
theorem dX4_oldestOn_84 : decode cX4_oldestOn 84 = .ok (.iinc 3 1, 3) := by decide +kernel
theorem dX4_oldestOn_87 : decode cX4_oldestOn 87 = .ok (.goto (-83), 3) := by decide +kernel
theorem dX4_oldestOn_90 : decode cX4_oldestOn 90 = .ok (.iload_n 2, 1) := by decide +kernel
theorem dX4_oldestOn_91 : decode cX4_oldestOn 91 = .ok (.ireturn, 1) := by decide +kernel
theorem dX4_oldest_0 : decode cX4_oldest 0 = .ok (.aload_n 0, 1) := by decide +kernel
theorem dX4_oldest_1 : decode cX4_oldest 1 = .ok (.iload_n 1, 1) := by decide +kernel
theorem dX4_oldest_2 : decode cX4_oldest 2 = .ok (.invokestatic 100, 3) := by decide +kernel
theorem dX4_oldest_5 : decode cX4_oldest 5 = .ok (.ifCond .eq 7, 3) := by decide +kernel
theorem dX4_oldest_8 : decode cX4_oldest 8 = .ok (.iconst 0, 1) := by decide +kernel
theorem dX4_oldest_9 : decode cX4_oldest 9 = .ok (.goto 4, 3) := by decide +kernel
theorem dX4_oldest_12 : decode cX4_oldest 12 = .ok (.iconst 1, 1) := by decide +kernel
theorem dX4_oldest_13 : decode cX4_oldest 13 = .ok (.putfield 25, 3) := by decide +kernel
theorem dX4_oldest_16 : decode cX4_oldest 16 = .ok (.aload_n 0, 1) := by decide +kernel
theorem dX4_oldest_17 : decode cX4_oldest 17 = .ok (.getfield 25, 3) := by decide +kernel
theorem dX4_oldest_20 : decode cX4_oldest 20 = .ok (.ifCond .le 7, 3) := by decide +kernel
theorem dX4_oldest_23 : decode cX4_oldest 23 = .ok (.iconst 0, 1) := by decide +kernel
theorem dX4_oldest_24 : decode cX4_oldest 24 = .ok (.goto 8, 3) := by decide +kernel
theorem dX4_oldest_27 : decode cX4_oldest 27 = .ok (.aload_n 0, 1) := by decide +kernel
theorem dX4_oldest_28 : decode cX4_oldest 28 = .ok (.iload_n 1, 1) := by decide +kernel
theorem dX4_oldest_29 : decode cX4_oldest 29 = .ok (.invokevirtual 202, 3) := by decide +kernel
theorem dX4_oldest_32 : decode cX4_oldest 32 = .ok (.ireturn, 1) := by decide +kernel
theorem dX4_repairsThen_0 : decode cX4_repairsThen 0 = .ok (.iconst 1, 1) := by decide +kernel
theorem dX4_repairsThen_1 : decode cX4_repairsThen 1 = .ok (.istore_n 2, 1) := by decide +kernel
theorem dX4_repairsThen_2 : decode cX4_repairsThen 2 = .ok (.iconst 0, 1) := by decide +kernel
theorem dX4_repairsThen_3 : decode cX4_repairsThen 3 = .ok (.istore_n 3, 1) := by decide +kernel
theorem dX4_repairsThen_4 : decode cX4_repairsThen 4 = .ok (.iload_n 3, 1) := by decide +kernel
theorem dX4_repairsThen_5 : decode cX4_repairsThen 5 = .ok (.iconst 4, 1) := by decide +kernel
theorem dX4_repairsThen_6 : decode cX4_repairsThen 6 = .ok (.if_icmp .ge 76, 3) := by decide +kernel
theorem dX4_repairsThen_9 : decode cX4_repairsThen 9 = .ok (.iload_n 3, 1) := by decide +kernel
theorem dX4_repairsThen_10 : decode cX4_repairsThen 10 = .ok (.invokestatic 40, 3) := by decide +kernel
theorem dX4_repairsThen_13 : decode cX4_repairsThen 13 = .ok (.aload_n 0, 1) := by decide +kernel
theorem dX4_repairsThen_14 : decode cX4_repairsThen 14 = .ok (.iload_n 1, 1) := by decide +kernel
theorem dX4_repairsThen_15 : decode cX4_repairsThen 15 = .ok (.iconst 2, 1) := by decide +kernel
theorem dX4_repairsThen_16 : decode cX4_repairsThen 16 = .ok (.iload_n 3, 1) := by decide +kernel
theorem dX4_repairsThen_17 : decode cX4_repairsThen 17 = .ok (.iadd, 1) := by decide +kernel
theorem dX4_repairsThen_18 : decode cX4_repairsThen 18 = .ok (.invokevirtual 36, 3) := by decide +kernel
theorem dX4_repairsThen_21 : decode cX4_repairsThen 21 = .ok (.isub, 1) := by decide +kernel
theorem dX4_repairsThen_22 : decode cX4_repairsThen 22 = .ok (.istore 4, 2) := by decide +kernel
theorem dX4_repairsThen_24 : decode cX4_repairsThen 24 = .ok (.iload_n 2, 1) := by decide +kernel
theorem dX4_repairsThen_25 : decode cX4_repairsThen 25 = .ok (.ifCond .eq 18, 3) := by decide +kernel
theorem dX4_repairsThen_28 : decode cX4_repairsThen 28 = .ok (.iload 4, 2) := by decide +kernel
theorem dX4_repairsThen_30 : decode cX4_repairsThen 30 = .ok (.aload_n 0, 1) := by decide +kernel
theorem dX4_repairsThen_31 : decode cX4_repairsThen 31 = .ok (.getfield 22, 3) := by decide +kernel
theorem dX4_repairsThen_34 : decode cX4_repairsThen 34 = .ok (.iload_n 3, 1) := by decide +kernel
theorem dX4_repairsThen_35 : decode cX4_repairsThen 35 = .ok (.iaload, 1) := by decide +kernel
theorem dX4_repairsThen_36 : decode cX4_repairsThen 36 = .ok (.if_icmp .gt 7, 3) := by decide +kernel
theorem dX4_repairsThen_39 : decode cX4_repairsThen 39 = .ok (.iconst 1, 1) := by decide +kernel
theorem dX4_repairsThen_40 : decode cX4_repairsThen 40 = .ok (.goto 4, 3) := by decide +kernel
theorem dX4_repairsThen_43 : decode cX4_repairsThen 43 = .ok (.iconst 0, 1) := by decide +kernel
theorem dX4_repairsThen_44 : decode cX4_repairsThen 44 = .ok (.istore_n 2, 1) := by decide +kernel
theorem dX4_repairsThen_45 : decode cX4_repairsThen 45 = .ok (.aload_n 0, 1) := by decide +kernel
theorem dX4_repairsThen_46 : decode cX4_repairsThen 46 = .ok (.getfield 22, 3) := by decide +kernel
theorem dX4_repairsThen_49 : decode cX4_repairsThen 49 = .ok (.iload_n 3, 1) := by decide +kernel
theorem dX4_repairsThen_50 : decode cX4_repairsThen 50 = .ok (.dup2, 1) := by decide +kernel
theorem dX4_repairsThen_51 : decode cX4_repairsThen 51 = .ok (.iaload, 1) := by decide +kernel
theorem dX4_repairsThen_52 : decode cX4_repairsThen 52 = .ok (.iload 4, 2) := by decide +kernel
theorem dX4_repairsThen_54 : decode cX4_repairsThen 54 = .ok (.aload_n 0, 1) := by decide +kernel
theorem dX4_repairsThen_55 : decode cX4_repairsThen 55 = .ok (.getfield 22, 3) := by decide +kernel
theorem dX4_repairsThen_58 : decode cX4_repairsThen 58 = .ok (.iload_n 3, 1) := by decide +kernel
theorem dX4_repairsThen_59 : decode cX4_repairsThen 59 = .ok (.iaload, 1) := by decide +kernel
theorem dX4_repairsThen_60 : decode cX4_repairsThen 60 = .ok (.if_icmp .ge 8, 3) := by decide +kernel
theorem dX4_repairsThen_63 : decode cX4_repairsThen 63 = .ok (.iload 4, 2) := by decide +kernel
theorem dX4_repairsThen_65 : decode cX4_repairsThen 65 = .ok (.goto 9, 3) := by decide +kernel
theorem dX4_repairsThen_68 : decode cX4_repairsThen 68 = .ok (.aload_n 0, 1) := by decide +kernel
theorem dX4_repairsThen_69 : decode cX4_repairsThen 69 = .ok (.getfield 22, 3) := by decide +kernel
theorem dX4_repairsThen_72 : decode cX4_repairsThen 72 = .ok (.iload_n 3, 1) := by decide +kernel
theorem dX4_repairsThen_73 : decode cX4_repairsThen 73 = .ok (.iaload, 1) := by decide +kernel
theorem dX4_repairsThen_74 : decode cX4_repairsThen 74 = .ok (.isub, 1) := by decide +kernel
theorem dX4_repairsThen_75 : decode cX4_repairsThen 75 = .ok (.iastore, 1) := by decide +kernel
theorem dX4_repairsThen_76 : decode cX4_repairsThen 76 = .ok (.iinc 3 1, 3) := by decide +kernel
theorem dX4_repairsThen_79 : decode cX4_repairsThen 79 = .ok (.goto (-75), 3) := by decide +kernel
theorem dX4_repairsThen_82 : decode cX4_repairsThen 82 = .ok (.iload_n 2, 1) := by decide +kernel
theorem dX4_repairsThen_83 : decode cX4_repairsThen 83 = .ok (.ireturn, 1) := by decide +kernel
theorem dX4_repairedThen_0 : decode cX4_repairedThen 0 = .ok (.iconst 0, 1) := by decide +kernel
theorem dX4_repairedThen_1 : decode cX4_repairedThen 1 = .ok (.istore_n 1, 1) := by decide +kernel
theorem dX4_repairedThen_2 : decode cX4_repairedThen 2 = .ok (.iload_n 1, 1) := by decide +kernel
theorem dX4_repairedThen_3 : decode cX4_repairedThen 3 = .ok (.iconst 4, 1) := by decide +kernel
theorem dX4_repairedThen_4 : decode cX4_repairedThen 4 = .ok (.if_icmp .ge 24, 3) := by decide +kernel
theorem dX4_repairedThen_7 : decode cX4_repairedThen 7 = .ok (.aload_n 0, 1) := by decide +kernel
theorem dX4_repairedThen_8 : decode cX4_repairedThen 8 = .ok (.getfield 22, 3) := by decide +kernel
theorem dX4_repairedThen_11 : decode cX4_repairedThen 11 = .ok (.iload_n 1, 1) := by decide +kernel
theorem dX4_repairedThen_12 : decode cX4_repairedThen 12 = .ok (.aload_n 0, 1) := by decide +kernel
theorem dX4_repairedThen_13 : decode cX4_repairedThen 13 = .ok (.getfield 7, 3) := by decide +kernel
theorem dX4_repairedThen_16 : decode cX4_repairedThen 16 = .ok (.bipush 7, 2) := by decide +kernel
theorem dX4_repairedThen_18 : decode cX4_repairedThen 18 = .ok (.iload_n 1, 1) := by decide +kernel
theorem dX4_repairedThen_19 : decode cX4_repairedThen 19 = .ok (.iadd, 1) := by decide +kernel
theorem dX4_repairedThen_20 : decode cX4_repairedThen 20 = .ok (.iaload, 1) := by decide +kernel
theorem dX4_repairedThen_21 : decode cX4_repairedThen 21 = .ok (.iastore, 1) := by decide +kernel
theorem dX4_repairedThen_22 : decode cX4_repairedThen 22 = .ok (.iinc 1 1, 3) := by decide +kernel
theorem dX4_repairedThen_25 : decode cX4_repairedThen 25 = .ok (.goto (-23), 3) := by decide +kernel
theorem dX4_repairedThen_28 : decode cX4_repairedThen 28 = .ok (.iconst 0, 1) := by decide +kernel
theorem dX4_repairedThen_29 : decode cX4_repairedThen 29 = .ok (.istore_n 1, 1) := by decide +kernel
theorem dX4_repairedThen_30 : decode cX4_repairedThen 30 = .ok (.iconst 0, 1) := by decide +kernel
theorem dX4_repairedThen_31 : decode cX4_repairedThen 31 = .ok (.istore_n 2, 1) := by decide +kernel
theorem dX4_repairedThen_32 : decode cX4_repairedThen 32 = .ok (.iload_n 2, 1) := by decide +kernel
theorem dX4_repairedThen_33 : decode cX4_repairedThen 33 = .ok (.aload_n 0, 1) := by decide +kernel
theorem dX4_repairedThen_34 : decode cX4_repairedThen 34 = .ok (.getfield 7, 3) := by decide +kernel
theorem dX4_repairedThen_37 : decode cX4_repairedThen 37 = .ok (.iconst 3, 1) := by decide +kernel
theorem dX4_repairedThen_38 : decode cX4_repairedThen 38 = .ok (.iaload, 1) := by decide +kernel
theorem dX4_repairedThen_39 : decode cX4_repairedThen 39 = .ok (.if_icmp .ge 33, 3) := by decide +kernel
theorem dX4_repairedThen_42 : decode cX4_repairedThen 42 = .ok (.iload_n 1, 1) := by decide +kernel
theorem dX4_repairedThen_43 : decode cX4_repairedThen 43 = .ok (.aload_n 0, 1) := by decide +kernel
theorem dX4_repairedThen_44 : decode cX4_repairedThen 44 = .ok (.iload_n 2, 1) := by decide +kernel
theorem dX4_repairedThen_45 : decode cX4_repairedThen 45 = .ok (.invokevirtual 44, 3) := by decide +kernel
theorem dX4_repairedThen_48 : decode cX4_repairedThen 48 = .ok (.ifCond .eq 15, 3) := by decide +kernel
theorem dX4_repairedThen_51 : decode cX4_repairedThen 51 = .ok (.aload_n 0, 1) := by decide +kernel
theorem dX4_repairedThen_52 : decode cX4_repairedThen 52 = .ok (.iload_n 2, 1) := by decide +kernel
theorem dX4_repairedThen_53 : decode cX4_repairedThen 53 = .ok (.invokevirtual 205, 3) := by decide +kernel
theorem dX4_repairedThen_56 : decode cX4_repairedThen 56 = .ok (.ifCond .eq 7, 3) := by decide +kernel
theorem dX4_repairedThen_59 : decode cX4_repairedThen 59 = .ok (.iconst 1, 1) := by decide +kernel
theorem dX4_repairedThen_60 : decode cX4_repairedThen 60 = .ok (.goto 4, 3) := by decide +kernel
theorem dX4_repairedThen_63 : decode cX4_repairedThen 63 = .ok (.iconst 0, 1) := by decide +kernel
theorem dX4_repairedThen_64 : decode cX4_repairedThen 64 = .ok (.iadd, 1) := by decide +kernel
theorem dX4_repairedThen_65 : decode cX4_repairedThen 65 = .ok (.istore_n 1, 1) := by decide +kernel
theorem dX4_repairedThen_66 : decode cX4_repairedThen 66 = .ok (.iinc 2 1, 3) := by decide +kernel
theorem dX4_repairedThen_69 : decode cX4_repairedThen 69 = .ok (.goto (-37), 3) := by decide +kernel
theorem dX4_repairedThen_72 : decode cX4_repairedThen 72 = .ok (.iload_n 1, 1) := by decide +kernel
theorem dX4_repairedThen_73 : decode cX4_repairedThen 73 = .ok (.ireturn, 1) := by decide +kernel
theorem dX4_ifRepaired_0 : decode cX4_ifRepaired 0 = .ok (.aload_n 0, 1) := by decide +kernel
theorem dX4_ifRepaired_1 : decode cX4_ifRepaired 1 = .ok (.iconst 0, 1) := by decide +kernel
theorem dX4_ifRepaired_2 : decode cX4_ifRepaired 2 = .ok (.putfield 25, 3) := by decide +kernel
theorem dX4_ifRepaired_5 : decode cX4_ifRepaired 5 = .ok (.aload_n 0, 1) := by decide +kernel
theorem dX4_ifRepaired_6 : decode cX4_ifRepaired 6 = .ok (.invokevirtual 208, 3) := by decide +kernel
theorem dX4_ifRepaired_9 : decode cX4_ifRepaired 9 = .ok (.ireturn, 1) := by decide +kernel
theorem dX4_share_0 : decode cX4_share 0 = .ok (.aload_n 0, 1) := by decide +kernel
theorem dX4_share_1 : decode cX4_share 1 = .ok (.getfield 7, 3) := by decide +kernel
theorem dX4_share_4 : decode cX4_share 4 = .ok (.iconst 3, 1) := by decide +kernel
theorem dX4_share_5 : decode cX4_share 5 = .ok (.iaload, 1) := by decide +kernel
theorem dX4_share_6 : decode cX4_share 6 = .ok (.ifCond .ne 7, 3) := by decide +kernel
theorem dX4_share_9 : decode cX4_share 9 = .ok (.dconst 0, 1) := by decide +kernel
theorem dX4_share_10 : decode cX4_share 10 = .ok (.goto 24, 3) := by decide +kernel
theorem dX4_share_13 : decode cX4_share 13 = .ok (.aload_n 0, 1) := by decide +kernel
theorem dX4_share_14 : decode cX4_share 14 = .ok (.getfield 7, 3) := by decide +kernel
theorem dX4_share_17 : decode cX4_share 17 = .ok (.iconst 3, 1) := by decide +kernel
theorem dX4_share_18 : decode cX4_share 18 = .ok (.iaload, 1) := by decide +kernel
theorem dX4_share_19 : decode cX4_share 19 = .ok (.aload_n 0, 1) := by decide +kernel
theorem dX4_share_20 : decode cX4_share 20 = .ok (.iconst 0, 1) := by decide +kernel
theorem dX4_share_21 : decode cX4_share 21 = .ok (.invokevirtual 92, 3) := by decide +kernel
theorem dX4_share_24 : decode cX4_share 24 = .ok (.isub, 1) := by decide +kernel
theorem dX4_share_25 : decode cX4_share 25 = .ok (.i2d, 1) := by decide +kernel
theorem dX4_share_26 : decode cX4_share 26 = .ok (.aload_n 0, 1) := by decide +kernel
theorem dX4_share_27 : decode cX4_share 27 = .ok (.getfield 7, 3) := by decide +kernel
theorem dX4_share_30 : decode cX4_share 30 = .ok (.iconst 3, 1) := by decide +kernel
theorem dX4_share_31 : decode cX4_share 31 = .ok (.iaload, 1) := by decide +kernel
theorem dX4_share_32 : decode cX4_share 32 = .ok (.i2d, 1) := by decide +kernel
theorem dX4_share_33 : decode cX4_share 33 = .ok (.ddiv, 1) := by decide +kernel
theorem dX4_share_34 : decode cX4_share 34 = .ok (.dreturn, 1) := by decide +kernel
theorem dX4_hiredShare_0 : decode cX4_hiredShare 0 = .ok (.aload_n 0, 1) := by decide +kernel
theorem dX4_hiredShare_1 : decode cX4_hiredShare 1 = .ok (.iconst 0, 1) := by decide +kernel
theorem dX4_hiredShare_2 : decode cX4_hiredShare 2 = .ok (.putfield 25, 3) := by decide +kernel
theorem dX4_hiredShare_5 : decode cX4_hiredShare 5 = .ok (.aload_n 0, 1) := by decide +kernel
theorem dX4_hiredShare_6 : decode cX4_hiredShare 6 = .ok (.invokevirtual 211, 3) := by decide +kernel
theorem dX4_hiredShare_9 : decode cX4_hiredShare 9 = .ok (.dreturn, 1) := by decide +kernel
theorem dX4_mix_0 : decode cX4_mix 0 = .ok (.aload_n 0, 1) := by decide +kernel
theorem dX4_mix_1 : decode cX4_mix 1 = .ok (.ldc2_w 215, 3) := by decide +kernel
theorem dX4_mix_4 : decode cX4_mix 4 = .ok (.aload_n 0, 1) := by decide +kernel
theorem dX4_mix_5 : decode cX4_mix 5 = .ok (.getfield 217, 3) := by decide +kernel
theorem dX4_mix_8 : decode cX4_mix 8 = .ok (.lmul, 1) := by decide +kernel
theorem dX4_mix_9 : decode cX4_mix 9 = .ok (.lload_n 1, 1) := by decide +kernel
theorem dX4_mix_10 : decode cX4_mix 10 = .ok (.ladd, 1) := by decide +kernel
theorem dX4_mix_11 : decode cX4_mix 11 = .ok (.putfield 217, 3) := by decide +kernel
theorem dX4_mix_14 : decode cX4_mix 14 = .ok (.return_, 1) := by decide +kernel
theorem dX4_mixSet_0 : decode cX4_mixSet 0 = .ok (.iconst 0, 1) := by decide +kernel
theorem dX4_mixSet_1 : decode cX4_mixSet 1 = .ok (.istore_n 2, 1) := by decide +kernel
theorem dX4_mixSet_2 : decode cX4_mixSet 2 = .ok (.iload_n 2, 1) := by decide +kernel
theorem dX4_mixSet_3 : decode cX4_mixSet 3 = .ok (.bipush 14, 2) := by decide +kernel
theorem dX4_mixSet_5 : decode cX4_mixSet 5 = .ok (.if_icmp .ge 26, 3) := by decide +kernel
theorem dX4_mixSet_8 : decode cX4_mixSet 8 = .ok (.iload_n 2, 1) := by decide +kernel
theorem dX4_mixSet_9 : decode cX4_mixSet 9 = .ok (.bipush 9, 2) := by decide +kernel
theorem dX4_mixSet_11 : decode cX4_mixSet 11 = .ok (.if_icmp .eq 14, 3) := by decide +kernel
theorem dX4_mixSet_14 : decode cX4_mixSet 14 = .ok (.aload_n 0, 1) := by decide +kernel
theorem dX4_mixSet_15 : decode cX4_mixSet 15 = .ok (.aload_n 0, 1) := by decide +kernel
theorem dX4_mixSet_16 : decode cX4_mixSet 16 = .ok (.iload_n 1, 1) := by decide +kernel
theorem dX4_mixSet_17 : decode cX4_mixSet 17 = .ok (.iload_n 2, 1) := by decide +kernel
theorem dX4_mixSet_18 : decode cX4_mixSet 18 = .ok (.invokevirtual 175, 3) := by decide +kernel
theorem dX4_mixSet_21 : decode cX4_mixSet 21 = .ok (.i2l, 1) := by decide +kernel
theorem dX4_mixSet_22 : decode cX4_mixSet 22 = .ok (.invokevirtual 221, 3) := by decide +kernel
theorem dX4_mixSet_25 : decode cX4_mixSet 25 = .ok (.iinc 2 1, 3) := by decide +kernel
theorem dX4_mixSet_28 : decode cX4_mixSet 28 = .ok (.goto (-26), 3) := by decide +kernel
theorem dX4_mixSet_31 : decode cX4_mixSet 31 = .ok (.aload_n 0, 1) := by decide +kernel
theorem dX4_mixSet_32 : decode cX4_mixSet 32 = .ok (.aload_n 0, 1) := by decide +kernel
theorem dX4_mixSet_33 : decode cX4_mixSet 33 = .ok (.iload_n 1, 1) := by decide +kernel
theorem dX4_mixSet_34 : decode cX4_mixSet 34 = .ok (.bipush 30, 2) := by decide +kernel
theorem dX4_mixSet_36 : decode cX4_mixSet 36 = .ok (.invokevirtual 89, 3) := by decide +kernel
theorem dX4_mixSet_39 : decode cX4_mixSet 39 = .ok (.i2l, 1) := by decide +kernel
theorem dX4_mixSet_40 : decode cX4_mixSet 40 = .ok (.invokevirtual 221, 3) := by decide +kernel
theorem dX4_mixSet_43 : decode cX4_mixSet 43 = .ok (.iconst 0, 1) := by decide +kernel
theorem dX4_mixSet_44 : decode cX4_mixSet 44 = .ok (.istore_n 2, 1) := by decide +kernel
theorem dX4_mixSet_45 : decode cX4_mixSet 45 = .ok (.iload_n 2, 1) := by decide +kernel
theorem dX4_mixSet_46 : decode cX4_mixSet 46 = .ok (.bipush 6, 2) := by decide +kernel
theorem dX4_mixSet_48 : decode cX4_mixSet 48 = .ok (.if_icmp .ge 22, 3) := by decide +kernel
theorem dX4_mixSet_51 : decode cX4_mixSet 51 = .ok (.aload_n 0, 1) := by decide +kernel
theorem dX4_mixSet_52 : decode cX4_mixSet 52 = .ok (.aload_n 0, 1) := by decide +kernel
theorem dX4_mixSet_53 : decode cX4_mixSet 53 = .ok (.iload_n 1, 1) := by decide +kernel
theorem dX4_mixSet_54 : decode cX4_mixSet 54 = .ok (.bipush 100, 2) := by decide +kernel
theorem dX4_mixSet_56 : decode cX4_mixSet 56 = .ok (.iload_n 2, 1) := by decide +kernel
theorem dX4_mixSet_57 : decode cX4_mixSet 57 = .ok (.invokevirtual 199, 3) := by decide +kernel
theorem dX4_mixSet_60 : decode cX4_mixSet 60 = .ok (.i2l, 1) := by decide +kernel
theorem dX4_mixSet_61 : decode cX4_mixSet 61 = .ok (.invokevirtual 221, 3) := by decide +kernel
theorem dX4_mixSet_64 : decode cX4_mixSet 64 = .ok (.iinc 2 1, 3) := by decide +kernel
theorem dX4_mixSet_67 : decode cX4_mixSet 67 = .ok (.goto (-22), 3) := by decide +kernel
theorem dX4_mixSet_70 : decode cX4_mixSet 70 = .ok (.return_, 1) := by decide +kernel
theorem dX4_digest_0 : decode cX4_digest 0 = .ok (.aload_n 0, 1) := by decide +kernel
theorem dX4_digest_1 : decode cX4_digest 1 = .ok (.iconst 0, 1) := by decide +kernel
theorem dX4_digest_2 : decode cX4_digest 2 = .ok (.putfield 25, 3) := by decide +kernel
theorem dX4_digest_5 : decode cX4_digest 5 = .ok (.aload_n 0, 1) := by decide +kernel
theorem dX4_digest_6 : decode cX4_digest 6 = .ok (.ldc2_w 225, 3) := by decide +kernel
theorem dX4_digest_9 : decode cX4_digest 9 = .ok (.putfield 217, 3) := by decide +kernel
theorem dX4_digest_12 : decode cX4_digest 12 = .ok (.iconst 0, 1) := by decide +kernel
theorem dX4_digest_13 : decode cX4_digest 13 = .ok (.istore_n 1, 1) := by decide +kernel
theorem dX4_digest_14 : decode cX4_digest 14 = .ok (.iload_n 1, 1) := by decide +kernel
theorem dX4_digest_15 : decode cX4_digest 15 = .ok (.bipush 10, 2) := by decide +kernel
theorem dX4_digest_17 : decode cX4_digest 17 = .ok (.if_icmp .ge 19, 3) := by decide +kernel
theorem dX4_digest_20 : decode cX4_digest 20 = .ok (.aload_n 0, 1) := by decide +kernel
theorem dX4_digest_21 : decode cX4_digest 21 = .ok (.aload_n 0, 1) := by decide +kernel
theorem dX4_digest_22 : decode cX4_digest 22 = .ok (.iload_n 1, 1) := by decide +kernel
theorem dX4_digest_23 : decode cX4_digest 23 = .ok (.invokevirtual 196, 3) := by decide +kernel
theorem dX4_digest_26 : decode cX4_digest 26 = .ok (.i2l, 1) := by decide +kernel
theorem dX4_digest_27 : decode cX4_digest 27 = .ok (.invokevirtual 221, 3) := by decide +kernel
theorem dX4_digest_30 : decode cX4_digest 30 = .ok (.iinc 1 1, 3) := by decide +kernel
theorem dX4_digest_33 : decode cX4_digest 33 = .ok (.goto (-19), 3) := by decide +kernel
theorem dX4_digest_36 : decode cX4_digest 36 = .ok (.aload_n 0, 1) := by decide +kernel
theorem dX4_digest_37 : decode cX4_digest 37 = .ok (.aload_n 0, 1) := by decide +kernel
theorem dX4_digest_38 : decode cX4_digest 38 = .ok (.getfield 7, 3) := by decide +kernel
theorem dX4_digest_41 : decode cX4_digest 41 = .ok (.iconst 0, 1) := by decide +kernel
theorem dX4_digest_42 : decode cX4_digest 42 = .ok (.iaload, 1) := by decide +kernel
theorem dX4_digest_43 : decode cX4_digest 43 = .ok (.i2l, 1) := by decide +kernel
theorem dX4_digest_44 : decode cX4_digest 44 = .ok (.invokevirtual 221, 3) := by decide +kernel
theorem dX4_digest_47 : decode cX4_digest 47 = .ok (.aload_n 0, 1) := by decide +kernel
theorem dX4_digest_48 : decode cX4_digest 48 = .ok (.aload_n 0, 1) := by decide +kernel
theorem dX4_digest_49 : decode cX4_digest 49 = .ok (.getfield 7, 3) := by decide +kernel
theorem dX4_digest_52 : decode cX4_digest 52 = .ok (.iconst 1, 1) := by decide +kernel
theorem dX4_digest_53 : decode cX4_digest 53 = .ok (.iaload, 1) := by decide +kernel
theorem dX4_digest_54 : decode cX4_digest 54 = .ok (.i2l, 1) := by decide +kernel
theorem dX4_digest_55 : decode cX4_digest 55 = .ok (.invokevirtual 221, 3) := by decide +kernel
theorem dX4_digest_58 : decode cX4_digest 58 = .ok (.iconst 0, 1) := by decide +kernel
theorem dX4_digest_59 : decode cX4_digest 59 = .ok (.istore_n 1, 1) := by decide +kernel
theorem dX4_digest_60 : decode cX4_digest 60 = .ok (.iload_n 1, 1) := by decide +kernel
theorem dX4_digest_61 : decode cX4_digest 61 = .ok (.aload_n 0, 1) := by decide +kernel
theorem dX4_digest_62 : decode cX4_digest 62 = .ok (.getfield 7, 3) := by decide +kernel
theorem dX4_digest_65 : decode cX4_digest 65 = .ok (.iconst 3, 1) := by decide +kernel
theorem dX4_digest_66 : decode cX4_digest 66 = .ok (.iaload, 1) := by decide +kernel
theorem dX4_digest_67 : decode cX4_digest 67 = .ok (.if_icmp .ge 14, 3) := by decide +kernel
theorem dX4_digest_70 : decode cX4_digest 70 = .ok (.aload_n 0, 1) := by decide +kernel
theorem dX4_digest_71 : decode cX4_digest 71 = .ok (.iload_n 1, 1) := by decide +kernel
theorem dX4_digest_72 : decode cX4_digest 72 = .ok (.invokevirtual 227, 3) := by decide +kernel
theorem dX4_digest_75 : decode cX4_digest 75 = .ok (.iinc 1 1, 3) := by decide +kernel
theorem dX4_digest_78 : decode cX4_digest 78 = .ok (.goto (-18), 3) := by decide +kernel
theorem dX4_digest_81 : decode cX4_digest 81 = .ok (.iconst 0, 1) := by decide +kernel
theorem dX4_digest_82 : decode cX4_digest 82 = .ok (.istore_n 1, 1) := by decide +kernel
theorem dX4_digest_83 : decode cX4_digest 83 = .ok (.iload_n 1, 1) := by decide +kernel
theorem dX4_digest_84 : decode cX4_digest 84 = .ok (.bipush 6, 2) := by decide +kernel
theorem dX4_digest_86 : decode cX4_digest 86 = .ok (.if_icmp .ge 44, 3) := by decide +kernel
theorem dX4_digest_89 : decode cX4_digest 89 = .ok (.iconst 0, 1) := by decide +kernel
theorem dX4_digest_90 : decode cX4_digest 90 = .ok (.istore_n 2, 1) := by decide +kernel
theorem dX4_digest_91 : decode cX4_digest 91 = .ok (.iload_n 2, 1) := by decide +kernel
theorem dX4_digest_92 : decode cX4_digest 92 = .ok (.bipush 8, 2) := by decide +kernel
theorem dX4_digest_94 : decode cX4_digest 94 = .ok (.if_icmp .ge 20, 3) := by decide +kernel
theorem dX4_digest_97 : decode cX4_digest 97 = .ok (.aload_n 0, 1) := by decide +kernel
theorem dX4_digest_98 : decode cX4_digest 98 = .ok (.aload_n 0, 1) := by decide +kernel
theorem dX4_digest_99 : decode cX4_digest 99 = .ok (.iload_n 1, 1) := by decide +kernel
theorem dX4_digest_100 : decode cX4_digest 100 = .ok (.iload_n 2, 1) := by decide +kernel
theorem dX4_digest_101 : decode cX4_digest 101 = .ok (.invokevirtual 181, 3) := by decide +kernel
theorem dX4_digest_104 : decode cX4_digest 104 = .ok (.i2l, 1) := by decide +kernel
theorem dX4_digest_105 : decode cX4_digest 105 = .ok (.invokevirtual 221, 3) := by decide +kernel
theorem dX4_digest_108 : decode cX4_digest 108 = .ok (.iinc 2 1, 3) := by decide +kernel
theorem dX4_digest_111 : decode cX4_digest 111 = .ok (.goto (-20), 3) := by decide +kernel
theorem dX4_digest_114 : decode cX4_digest 114 = .ok (.aload_n 0, 1) := by decide +kernel
theorem dX4_digest_115 : decode cX4_digest 115 = .ok (.aload_n 0, 1) := by decide +kernel
theorem dX4_digest_116 : decode cX4_digest 116 = .ok (.iload_n 1, 1) := by decide +kernel
theorem dX4_digest_117 : decode cX4_digest 117 = .ok (.invokevirtual 202, 3) := by decide +kernel
theorem dX4_digest_120 : decode cX4_digest 120 = .ok (.i2l, 1) := by decide +kernel
theorem dX4_digest_121 : decode cX4_digest 121 = .ok (.invokevirtual 221, 3) := by decide +kernel
theorem dX4_digest_124 : decode cX4_digest 124 = .ok (.iinc 1 1, 3) := by decide +kernel
theorem dX4_digest_127 : decode cX4_digest 127 = .ok (.goto (-44), 3) := by decide +kernel
theorem dX4_digest_130 : decode cX4_digest 130 = .ok (.iconst 0, 1) := by decide +kernel
theorem dX4_digest_131 : decode cX4_digest 131 = .ok (.istore_n 1, 1) := by decide +kernel
theorem dX4_digest_132 : decode cX4_digest 132 = .ok (.iload_n 1, 1) := by decide +kernel
theorem dX4_digest_133 : decode cX4_digest 133 = .ok (.bipush 20, 2) := by decide +kernel
theorem dX4_digest_135 : decode cX4_digest 135 = .ok (.if_icmp .ge 24, 3) := by decide +kernel
theorem dX4_digest_138 : decode cX4_digest 138 = .ok (.aload_n 0, 1) := by decide +kernel
theorem dX4_digest_139 : decode cX4_digest 139 = .ok (.aload_n 0, 1) := by decide +kernel
theorem dX4_digest_140 : decode cX4_digest 140 = .ok (.iload_n 1, 1) := by decide +kernel
theorem dX4_digest_141 : decode cX4_digest 141 = .ok (.iconst 5, 1) := by decide +kernel
theorem dX4_digest_142 : decode cX4_digest 142 = .ok (.idiv, 1) := by decide +kernel
theorem dX4_digest_143 : decode cX4_digest 143 = .ok (.iload_n 1, 1) := by decide +kernel
theorem dX4_digest_144 : decode cX4_digest 144 = .ok (.iconst 5, 1) := by decide +kernel
theorem dX4_digest_145 : decode cX4_digest 145 = .ok (.irem, 1) := by decide +kernel
theorem dX4_digest_146 : decode cX4_digest 146 = .ok (.invokevirtual 187, 3) := by decide +kernel
theorem dX4_digest_149 : decode cX4_digest 149 = .ok (.i2l, 1) := by decide +kernel
theorem dX4_digest_150 : decode cX4_digest 150 = .ok (.invokevirtual 221, 3) := by decide +kernel
theorem dX4_digest_153 : decode cX4_digest 153 = .ok (.iinc 1 1, 3) := by decide +kernel
theorem dX4_digest_156 : decode cX4_digest 156 = .ok (.goto (-24), 3) := by decide +kernel
theorem dX4_digest_159 : decode cX4_digest 159 = .ok (.aload_n 0, 1) := by decide +kernel
theorem dX4_digest_160 : decode cX4_digest 160 = .ok (.aload_n 0, 1) := by decide +kernel
theorem dX4_digest_161 : decode cX4_digest 161 = .ok (.invokevirtual 208, 3) := by decide +kernel
theorem dX4_digest_164 : decode cX4_digest 164 = .ok (.i2l, 1) := by decide +kernel
theorem dX4_digest_165 : decode cX4_digest 165 = .ok (.invokevirtual 221, 3) := by decide +kernel
theorem dX4_digest_168 : decode cX4_digest 168 = .ok (.aload_n 0, 1) := by decide +kernel
theorem dX4_digest_169 : decode cX4_digest 169 = .ok (.aload_n 0, 1) := by decide +kernel
theorem dX4_digest_170 : decode cX4_digest 170 = .ok (.invokevirtual 211, 3) := by decide +kernel
theorem dX4_digest_173 : decode cX4_digest 173 = .ok (.invokestatic 231, 3) := by decide +kernel
theorem dX4_digest_176 : decode cX4_digest 176 = .ok (.invokevirtual 221, 3) := by decide +kernel
theorem dX4_digest_179 : decode cX4_digest 179 = .ok (.aload_n 0, 1) := by decide +kernel
theorem dX4_digest_180 : decode cX4_digest 180 = .ok (.aload_n 0, 1) := by decide +kernel
theorem dX4_digest_181 : decode cX4_digest 181 = .ok (.getfield 137, 3) := by decide +kernel
theorem dX4_digest_184 : decode cX4_digest 184 = .ok (.i2l, 1) := by decide +kernel
theorem dX4_digest_185 : decode cX4_digest 185 = .ok (.invokevirtual 221, 3) := by decide +kernel
theorem dX4_digest_188 : decode cX4_digest 188 = .ok (.iconst 0, 1) := by decide +kernel
theorem dX4_digest_189 : decode cX4_digest 189 = .ok (.istore_n 1, 1) := by decide +kernel
theorem dX4_digest_190 : decode cX4_digest 190 = .ok (.iload_n 1, 1) := by decide +kernel
theorem dX4_digest_191 : decode cX4_digest 191 = .ok (.aload_n 0, 1) := by decide +kernel
theorem dX4_digest_192 : decode cX4_digest 192 = .ok (.getfield 137, 3) := by decide +kernel
theorem dX4_digest_195 : decode cX4_digest 195 = .ok (.if_icmp .ge 20, 3) := by decide +kernel
theorem dX4_digest_198 : decode cX4_digest 198 = .ok (.aload_n 0, 1) := by decide +kernel
theorem dX4_digest_199 : decode cX4_digest 199 = .ok (.aload_n 0, 1) := by decide +kernel
theorem dX4_digest_200 : decode cX4_digest 200 = .ok (.getfield 16, 3) := by decide +kernel
theorem dX4_digest_203 : decode cX4_digest 203 = .ok (.iload_n 1, 1) := by decide +kernel
theorem dX4_digest_204 : decode cX4_digest 204 = .ok (.iaload, 1) := by decide +kernel
theorem dX4_digest_205 : decode cX4_digest 205 = .ok (.i2l, 1) := by decide +kernel
theorem dX4_digest_206 : decode cX4_digest 206 = .ok (.invokevirtual 221, 3) := by decide +kernel
theorem dX4_digest_209 : decode cX4_digest 209 = .ok (.iinc 1 1, 3) := by decide +kernel
theorem dX4_digest_212 : decode cX4_digest 212 = .ok (.goto (-22), 3) := by decide +kernel
theorem dX4_digest_215 : decode cX4_digest 215 = .ok (.aload_n 0, 1) := by decide +kernel
theorem dX4_digest_216 : decode cX4_digest 216 = .ok (.getfield 217, 3) := by decide +kernel
theorem dX4_digest_219 : decode cX4_digest 219 = .ok (.lreturn, 1) := by decide +kernel
