theorem dX3_init_0 : decode cX3_init 0 = .ok (.aload_n 0, 1) := by decide +kernel
theorem dX3_init_1 : decode cX3_init 1 = .ok (.invokespecial 1, 3) := by decide +kernel
theorem dX3_init_4 : decode cX3_init 4 = .ok (.aload_n 0, 1) := by decide +kernel
theorem dX3_init_5 : decode cX3_init 5 = .ok (.new 7, 3) := by decide +kernel
theorem dX3_init_8 : decode cX3_init 8 = .ok (.dup, 1) := by decide +kernel
theorem dX3_init_9 : decode cX3_init 9 = .ok (.invokespecial 9, 3) := by decide +kernel
theorem dX3_init_12 : decode cX3_init 12 = .ok (.putfield 10, 3) := by decide +kernel
theorem dX3_init_15 : decode cX3_init 15 = .ok (.aload_n 0, 1) := by decide +kernel
theorem dX3_init_16 : decode cX3_init 16 = .ok (.new 16, 3) := by decide +kernel
theorem dX3_init_19 : decode cX3_init 19 = .ok (.dup, 1) := by decide +kernel
theorem dX3_init_20 : decode cX3_init 20 = .ok (.invokespecial 18, 3) := by decide +kernel
theorem dX3_init_23 : decode cX3_init 23 = .ok (.putfield 19, 3) := by decide +kernel
theorem dX3_init_26 : decode cX3_init 26 = .ok (.aload_n 0, 1) := by decide +kernel
theorem dX3_init_27 : decode cX3_init 27 = .ok (.new 23, 3) := by decide +kernel
theorem dX3_init_30 : decode cX3_init 30 = .ok (.dup, 1) := by decide +kernel
theorem dX3_init_31 : decode cX3_init 31 = .ok (.invokespecial 25, 3) := by decide +kernel
theorem dX3_init_34 : decode cX3_init 34 = .ok (.putfield 26, 3) := by decide +kernel
theorem dX3_init_37 : decode cX3_init 37 = .ok (.aload_n 0, 1) := by decide +kernel
theorem dX3_init_38 : decode cX3_init 38 = .ok (.iconst 4, 1) := by decide +kernel
theorem dX3_init_39 : decode cX3_init 39 = .ok (.newarray .int, 2) := by decide +kernel
theorem dX3_init_41 : decode cX3_init 41 = .ok (.putfield 30, 3) := by decide +kernel
theorem dX3_init_44 : decode cX3_init 44 = .ok (.return_, 1) := by decide +kernel
theorem dX3_buySets_0 : decode cX3_buySets 0 = .ok (.iload_n 1, 1) := by decide +kernel
theorem dX3_buySets_1 : decode cX3_buySets 1 = .ok (.iconst 1, 1) := by decide +kernel
theorem dX3_buySets_2 : decode cX3_buySets 2 = .ok (.if_icmp .lt 9, 3) := by decide +kernel
theorem dX3_buySets_5 : decode cX3_buySets 5 = .ok (.iload_n 1, 1) := by decide +kernel
theorem dX3_buySets_6 : decode cX3_buySets 6 = .ok (.bipush 24, 2) := by decide +kernel
theorem dX3_buySets_8 : decode cX3_buySets 8 = .ok (.if_icmp .le 13, 3) := by decide +kernel
theorem dX3_buySets_11 : decode cX3_buySets 11 = .ok (.new 34, 3) := by decide +kernel
theorem dX3_buySets_14 : decode cX3_buySets 14 = .ok (.dup, 1) := by decide +kernel
theorem dX3_buySets_15 : decode cX3_buySets 15 = .ok (.ldc 36, 2) := by decide +kernel
theorem dX3_buySets_17 : decode cX3_buySets 17 = .ok (.invokespecial 38, 3) := by decide +kernel
theorem dX3_buySets_20 : decode cX3_buySets 20 = .ok (.athrow, 1) := by decide +kernel
theorem dX3_buySets_21 : decode cX3_buySets 21 = .ok (.aload_n 0, 1) := by decide +kernel
theorem dX3_buySets_22 : decode cX3_buySets 22 = .ok (.getfield 10, 3) := by decide +kernel
theorem dX3_buySets_25 : decode cX3_buySets 25 = .ok (.getfield 41, 3) := by decide +kernel
theorem dX3_buySets_28 : decode cX3_buySets 28 = .ok (.iload_n 1, 1) := by decide +kernel
theorem dX3_buySets_29 : decode cX3_buySets 29 = .ok (.iadd, 1) := by decide +kernel
theorem dX3_buySets_30 : decode cX3_buySets 30 = .ok (.bipush 24, 2) := by decide +kernel
theorem dX3_buySets_32 : decode cX3_buySets 32 = .ok (.if_icmp .le 13, 3) := by decide +kernel
theorem dX3_buySets_35 : decode cX3_buySets 35 = .ok (.new 45, 3) := by decide +kernel
theorem dX3_buySets_38 : decode cX3_buySets 38 = .ok (.dup, 1) := by decide +kernel
theorem dX3_buySets_39 : decode cX3_buySets 39 = .ok (.ldc 47, 2) := by decide +kernel
theorem dX3_buySets_41 : decode cX3_buySets 41 = .ok (.invokespecial 49, 3) := by decide +kernel
theorem dX3_buySets_44 : decode cX3_buySets 44 = .ok (.athrow, 1) := by decide +kernel
theorem dX3_buySets_45 : decode cX3_buySets 45 = .ok (.aload_n 0, 1) := by decide +kernel
theorem dX3_buySets_46 : decode cX3_buySets 46 = .ok (.getfield 19, 3) := by decide +kernel
theorem dX3_buySets_49 : decode cX3_buySets 49 = .ok (.aload_n 0, 1) := by decide +kernel
theorem dX3_buySets_50 : decode cX3_buySets 50 = .ok (.getfield 10, 3) := by decide +kernel
theorem dX3_buySets_53 : decode cX3_buySets 53 = .ok (.invokevirtual 50, 3) := by decide +kernel
theorem dX3_buySets_56 : decode cX3_buySets 56 = .ok (.aload_n 0, 1) := by decide +kernel
theorem dX3_buySets_57 : decode cX3_buySets 57 = .ok (.getfield 10, 3) := by decide +kernel
theorem dX3_buySets_60 : decode cX3_buySets 60 = .ok (.iload_n 1, 1) := by decide +kernel
theorem dX3_buySets_61 : decode cX3_buySets 61 = .ok (.invokevirtual 54, 3) := by decide +kernel
theorem dX3_buySets_64 : decode cX3_buySets 64 = .ok (.aload_n 0, 1) := by decide +kernel
theorem dX3_buySets_65 : decode cX3_buySets 65 = .ok (.getfield 10, 3) := by decide +kernel
theorem dX3_buySets_68 : decode cX3_buySets 68 = .ok (.getfield 41, 3) := by decide +kernel
theorem dX3_buySets_71 : decode cX3_buySets 71 = .ok (.ireturn, 1) := by decide +kernel
theorem dX3_buySpare_0 : decode cX3_buySpare 0 = .ok (.iload_n 1, 1) := by decide +kernel
theorem dX3_buySpare_1 : decode cX3_buySpare 1 = .ok (.invokestatic 58, 3) := by decide +kernel
theorem dX3_buySpare_4 : decode cX3_buySpare 4 = .ok (.iload_n 2, 1) := by decide +kernel
theorem dX3_buySpare_5 : decode cX3_buySpare 5 = .ok (.iconst 1, 1) := by decide +kernel
theorem dX3_buySpare_6 : decode cX3_buySpare 6 = .ok (.if_icmp .lt 10, 3) := by decide +kernel
theorem dX3_buySpare_9 : decode cX3_buySpare 9 = .ok (.iload_n 2, 1) := by decide +kernel
theorem dX3_buySpare_10 : decode cX3_buySpare 10 = .ok (.sipush 200, 3) := by decide +kernel
theorem dX3_buySpare_13 : decode cX3_buySpare 13 = .ok (.if_icmp .le 13, 3) := by decide +kernel
theorem dX3_buySpare_16 : decode cX3_buySpare 16 = .ok (.new 34, 3) := by decide +kernel
theorem dX3_buySpare_19 : decode cX3_buySpare 19 = .ok (.dup, 1) := by decide +kernel
theorem dX3_buySpare_20 : decode cX3_buySpare 20 = .ok (.ldc 36, 2) := by decide +kernel
theorem dX3_buySpare_22 : decode cX3_buySpare 22 = .ok (.invokespecial 38, 3) := by decide +kernel
theorem dX3_buySpare_25 : decode cX3_buySpare 25 = .ok (.athrow, 1) := by decide +kernel
theorem dX3_buySpare_26 : decode cX3_buySpare 26 = .ok (.aload_n 0, 1) := by decide +kernel
theorem dX3_buySpare_27 : decode cX3_buySpare 27 = .ok (.getfield 10, 3) := by decide +kernel
theorem dX3_buySpare_30 : decode cX3_buySpare 30 = .ok (.getfield 61, 3) := by decide +kernel
theorem dX3_buySpare_33 : decode cX3_buySpare 33 = .ok (.iload_n 1, 1) := by decide +kernel
theorem dX3_buySpare_34 : decode cX3_buySpare 34 = .ok (.invokestatic 64, 3) := by decide +kernel
theorem dX3_buySpare_37 : decode cX3_buySpare 37 = .ok (.iload_n 2, 1) := by decide +kernel
theorem dX3_buySpare_38 : decode cX3_buySpare 38 = .ok (.iadd, 1) := by decide +kernel
theorem dX3_buySpare_39 : decode cX3_buySpare 39 = .ok (.sipush 999, 3) := by decide +kernel
theorem dX3_buySpare_42 : decode cX3_buySpare 42 = .ok (.if_icmp .le 13, 3) := by decide +kernel
theorem dX3_buySpare_45 : decode cX3_buySpare 45 = .ok (.new 45, 3) := by decide +kernel
theorem dX3_buySpare_48 : decode cX3_buySpare 48 = .ok (.dup, 1) := by decide +kernel
theorem dX3_buySpare_49 : decode cX3_buySpare 49 = .ok (.ldc 68, 2) := by decide +kernel
theorem dX3_buySpare_51 : decode cX3_buySpare 51 = .ok (.invokespecial 49, 3) := by decide +kernel
theorem dX3_buySpare_54 : decode cX3_buySpare 54 = .ok (.athrow, 1) := by decide +kernel
theorem dX3_buySpare_55 : decode cX3_buySpare 55 = .ok (.aload_n 0, 1) := by decide +kernel
theorem dX3_buySpare_56 : decode cX3_buySpare 56 = .ok (.getfield 19, 3) := by decide +kernel
theorem dX3_buySpare_59 : decode cX3_buySpare 59 = .ok (.aload_n 0, 1) := by decide +kernel
theorem dX3_buySpare_60 : decode cX3_buySpare 60 = .ok (.getfield 10, 3) := by decide +kernel
theorem dX3_buySpare_63 : decode cX3_buySpare 63 = .ok (.invokevirtual 50, 3) := by decide +kernel
theorem dX3_buySpare_66 : decode cX3_buySpare 66 = .ok (.aload_n 0, 1) := by decide +kernel
theorem dX3_buySpare_67 : decode cX3_buySpare 67 = .ok (.getfield 10, 3) := by decide +kernel
theorem dX3_buySpare_70 : decode cX3_buySpare 70 = .ok (.iload_n 1, 1) := by decide +kernel
theorem dX3_buySpare_71 : decode cX3_buySpare 71 = .ok (.iload_n 2, 1) := by decide +kernel
theorem dX3_buySpare_72 : decode cX3_buySpare 72 = .ok (.invokevirtual 70, 3) := by decide +kernel
theorem dX3_buySpare_75 : decode cX3_buySpare 75 = .ok (.aload_n 0, 1) := by decide +kernel
theorem dX3_buySpare_76 : decode cX3_buySpare 76 = .ok (.getfield 10, 3) := by decide +kernel
theorem dX3_buySpare_79 : decode cX3_buySpare 79 = .ok (.getfield 61, 3) := by decide +kernel
theorem dX3_buySpare_82 : decode cX3_buySpare 82 = .ok (.iload_n 1, 1) := by decide +kernel
theorem dX3_buySpare_83 : decode cX3_buySpare 83 = .ok (.invokestatic 64, 3) := by decide +kernel
theorem dX3_buySpare_86 : decode cX3_buySpare 86 = .ok (.ireturn, 1) := by decide +kernel
theorem dX3_repair_0 : decode cX3_repair 0 = .ok (.aload_n 0, 1) := by decide +kernel
theorem dX3_repair_1 : decode cX3_repair 1 = .ok (.iload_n 1, 1) := by decide +kernel
theorem dX3_repair_2 : decode cX3_repair 2 = .ok (.invokevirtual 74, 3) := by decide +kernel
theorem dX3_repair_5 : decode cX3_repair 5 = .ok (.aload_n 0, 1) := by decide +kernel
theorem dX3_repair_6 : decode cX3_repair 6 = .ok (.iload_n 1, 1) := by decide +kernel
theorem dX3_repair_7 : decode cX3_repair 7 = .ok (.invokevirtual 77, 3) := by decide +kernel
theorem dX3_repair_10 : decode cX3_repair 10 = .ok (.aload_n 0, 1) := by decide +kernel
theorem dX3_repair_11 : decode cX3_repair 11 = .ok (.getfield 19, 3) := by decide +kernel
theorem dX3_repair_14 : decode cX3_repair 14 = .ok (.aload_n 0, 1) := by decide +kernel
theorem dX3_repair_15 : decode cX3_repair 15 = .ok (.getfield 10, 3) := by decide +kernel
theorem dX3_repair_18 : decode cX3_repair 18 = .ok (.invokevirtual 50, 3) := by decide +kernel
theorem dX3_repair_21 : decode cX3_repair 21 = .ok (.aload_n 0, 1) := by decide +kernel
theorem dX3_repair_22 : decode cX3_repair 22 = .ok (.getfield 10, 3) := by decide +kernel
theorem dX3_repair_25 : decode cX3_repair 25 = .ok (.iload_n 1, 1) := by decide +kernel
theorem dX3_repair_26 : decode cX3_repair 26 = .ok (.invokevirtual 80, 3) := by decide +kernel
theorem dX3_repair_29 : decode cX3_repair 29 = .ok (.ireturn, 1) := by decide +kernel
theorem dX3_damage_0 : decode cX3_damage 0 = .ok (.aload_n 0, 1) := by decide +kernel
theorem dX3_damage_1 : decode cX3_damage 1 = .ok (.iload_n 1, 1) := by decide +kernel
theorem dX3_damage_2 : decode cX3_damage 2 = .ok (.invokevirtual 74, 3) := by decide +kernel
theorem dX3_damage_5 : decode cX3_damage 5 = .ok (.iload_n 2, 1) := by decide +kernel
theorem dX3_damage_6 : decode cX3_damage 6 = .ok (.invokestatic 58, 3) := by decide +kernel
theorem dX3_damage_9 : decode cX3_damage 9 = .ok (.iload_n 3, 1) := by decide +kernel
theorem dX3_damage_10 : decode cX3_damage 10 = .ok (.invokestatic 84, 3) := by decide +kernel
theorem dX3_damage_13 : decode cX3_damage 13 = .ok (.aload_n 0, 1) := by decide +kernel
theorem dX3_damage_14 : decode cX3_damage 14 = .ok (.iload_n 1, 1) := by decide +kernel
theorem dX3_damage_15 : decode cX3_damage 15 = .ok (.invokevirtual 77, 3) := by decide +kernel
theorem dX3_damage_18 : decode cX3_damage 18 = .ok (.aload_n 0, 1) := by decide +kernel
theorem dX3_damage_19 : decode cX3_damage 19 = .ok (.iload_n 1, 1) := by decide +kernel
theorem dX3_damage_20 : decode cX3_damage 20 = .ok (.iload_n 2, 1) := by decide +kernel
theorem dX3_damage_21 : decode cX3_damage 21 = .ok (.iload_n 3, 1) := by decide +kernel
theorem dX3_damage_22 : decode cX3_damage 22 = .ok (.invokevirtual 87, 3) := by decide +kernel
theorem dX3_damage_25 : decode cX3_damage 25 = .ok (.aload_n 0, 1) := by decide +kernel
theorem dX3_damage_26 : decode cX3_damage 26 = .ok (.getfield 19, 3) := by decide +kernel
theorem dX3_damage_29 : decode cX3_damage 29 = .ok (.aload_n 0, 1) := by decide +kernel
theorem dX3_damage_30 : decode cX3_damage 30 = .ok (.getfield 10, 3) := by decide +kernel
theorem dX3_damage_33 : decode cX3_damage 33 = .ok (.invokevirtual 50, 3) := by decide +kernel
theorem dX3_damage_36 : decode cX3_damage 36 = .ok (.aload_n 0, 1) := by decide +kernel
theorem dX3_damage_37 : decode cX3_damage 37 = .ok (.getfield 10, 3) := by decide +kernel
theorem dX3_damage_40 : decode cX3_damage 40 = .ok (.iload_n 1, 1) := by decide +kernel
theorem dX3_damage_41 : decode cX3_damage 41 = .ok (.iload_n 2, 1) := by decide +kernel
theorem dX3_damage_42 : decode cX3_damage 42 = .ok (.iload_n 3, 1) := by decide +kernel
theorem dX3_damage_43 : decode cX3_damage 43 = .ok (.invokevirtual 91, 3) := by decide +kernel
theorem dX3_damage_46 : decode cX3_damage 46 = .ok (.ireturn, 1) := by decide +kernel
theorem dX3_swap_0 : decode cX3_swap 0 = .ok (.aload_n 0, 1) := by decide +kernel
theorem dX3_swap_1 : decode cX3_swap 1 = .ok (.iload_n 1, 1) := by decide +kernel
theorem dX3_swap_2 : decode cX3_swap 2 = .ok (.invokevirtual 74, 3) := by decide +kernel
theorem dX3_swap_5 : decode cX3_swap 5 = .ok (.aload_n 0, 1) := by decide +kernel
theorem dX3_swap_6 : decode cX3_swap 6 = .ok (.iload_n 2, 1) := by decide +kernel
theorem dX3_swap_7 : decode cX3_swap 7 = .ok (.invokevirtual 74, 3) := by decide +kernel
theorem dX3_swap_10 : decode cX3_swap 10 = .ok (.aload_n 0, 1) := by decide +kernel
theorem dX3_swap_11 : decode cX3_swap 11 = .ok (.iload_n 1, 1) := by decide +kernel
theorem dX3_swap_12 : decode cX3_swap 12 = .ok (.invokevirtual 77, 3) := by decide +kernel
theorem dX3_swap_15 : decode cX3_swap 15 = .ok (.aload_n 0, 1) := by decide +kernel
theorem dX3_swap_16 : decode cX3_swap 16 = .ok (.iload_n 2, 1) := by decide +kernel
theorem dX3_swap_17 : decode cX3_swap 17 = .ok (.invokevirtual 77, 3) := by decide +kernel
theorem dX3_swap_20 : decode cX3_swap 20 = .ok (.aload_n 0, 1) := by decide +kernel
theorem dX3_swap_21 : decode cX3_swap 21 = .ok (.getfield 19, 3) := by decide +kernel
theorem dX3_swap_24 : decode cX3_swap 24 = .ok (.aload_n 0, 1) := by decide +kernel
theorem dX3_swap_25 : decode cX3_swap 25 = .ok (.getfield 10, 3) := by decide +kernel
theorem dX3_swap_28 : decode cX3_swap 28 = .ok (.invokevirtual 50, 3) := by decide +kernel
theorem dX3_swap_31 : decode cX3_swap 31 = .ok (.aload_n 0, 1) := by decide +kernel
theorem dX3_swap_32 : decode cX3_swap 32 = .ok (.getfield 10, 3) := by decide +kernel
theorem dX3_swap_35 : decode cX3_swap 35 = .ok (.iload_n 1, 1) := by decide +kernel
theorem dX3_swap_36 : decode cX3_swap 36 = .ok (.iload_n 2, 1) := by decide +kernel
theorem dX3_swap_37 : decode cX3_swap 37 = .ok (.invokevirtual 95, 3) := by decide +kernel
theorem dX3_swap_40 : decode cX3_swap 40 = .ok (.aload_n 0, 1) := by decide +kernel
theorem dX3_swap_41 : decode cX3_swap 41 = .ok (.getfield 10, 3) := by decide +kernel
theorem dX3_swap_44 : decode cX3_swap 44 = .ok (.iload_n 1, 1) := by decide +kernel
theorem dX3_swap_45 : decode cX3_swap 45 = .ok (.invokevirtual 98, 3) := by decide +kernel
theorem dX3_swap_48 : decode cX3_swap 48 = .ok (.ireturn, 1) := by decide +kernel
theorem dX3_hire_0 : decode cX3_hire 0 = .ok (.iload_n 1, 1) := by decide +kernel
theorem dX3_hire_1 : decode cX3_hire 1 = .ok (.invokestatic 101, 3) := by decide +kernel
theorem dX3_hire_4 : decode cX3_hire 4 = .ok (.iload_n 2, 1) := by decide +kernel
theorem dX3_hire_5 : decode cX3_hire 5 = .ok (.iconst 1, 1) := by decide +kernel
theorem dX3_hire_6 : decode cX3_hire 6 = .ok (.if_icmp .lt 9, 3) := by decide +kernel
theorem dX3_hire_9 : decode cX3_hire 9 = .ok (.iload_n 2, 1) := by decide +kernel
theorem dX3_hire_10 : decode cX3_hire 10 = .ok (.bipush 24, 2) := by decide +kernel
theorem dX3_hire_12 : decode cX3_hire 12 = .ok (.if_icmp .le 13, 3) := by decide +kernel
theorem dX3_hire_15 : decode cX3_hire 15 = .ok (.new 34, 3) := by decide +kernel
theorem dX3_hire_18 : decode cX3_hire 18 = .ok (.dup, 1) := by decide +kernel
theorem dX3_hire_19 : decode cX3_hire 19 = .ok (.ldc 36, 2) := by decide +kernel
theorem dX3_hire_21 : decode cX3_hire 21 = .ok (.invokespecial 38, 3) := by decide +kernel
theorem dX3_hire_24 : decode cX3_hire 24 = .ok (.athrow, 1) := by decide +kernel
theorem dX3_hire_25 : decode cX3_hire 25 = .ok (.aload_n 0, 1) := by decide +kernel
theorem dX3_hire_26 : decode cX3_hire 26 = .ok (.getfield 10, 3) := by decide +kernel
theorem dX3_hire_29 : decode cX3_hire 29 = .ok (.invokevirtual 104, 3) := by decide +kernel
theorem dX3_hire_32 : decode cX3_hire 32 = .ok (.iload_n 2, 1) := by decide +kernel
theorem dX3_hire_33 : decode cX3_hire 33 = .ok (.if_icmp .ge 13, 3) := by decide +kernel
theorem dX3_hire_36 : decode cX3_hire 36 = .ok (.new 45, 3) := by decide +kernel
theorem dX3_hire_39 : decode cX3_hire 39 = .ok (.dup, 1) := by decide +kernel
theorem dX3_hire_40 : decode cX3_hire 40 = .ok (.ldc 108, 2) := by decide +kernel
theorem dX3_hire_42 : decode cX3_hire 42 = .ok (.invokespecial 49, 3) := by decide +kernel
theorem dX3_hire_45 : decode cX3_hire 45 = .ok (.athrow, 1) := by decide +kernel
theorem dX3_hire_46 : decode cX3_hire 46 = .ok (.aload_n 0, 1) := by decide +kernel
theorem dX3_hire_47 : decode cX3_hire 47 = .ok (.getfield 19, 3) := by decide +kernel
theorem dX3_hire_50 : decode cX3_hire 50 = .ok (.aload_n 0, 1) := by decide +kernel
theorem dX3_hire_51 : decode cX3_hire 51 = .ok (.getfield 10, 3) := by decide +kernel
theorem dX3_hire_54 : decode cX3_hire 54 = .ok (.invokevirtual 50, 3) := by decide +kernel
theorem dX3_hire_57 : decode cX3_hire 57 = .ok (.aload_n 0, 1) := by decide +kernel
theorem dX3_hire_58 : decode cX3_hire 58 = .ok (.getfield 10, 3) := by decide +kernel
theorem dX3_hire_61 : decode cX3_hire 61 = .ok (.iload_n 1, 1) := by decide +kernel
theorem dX3_hire_62 : decode cX3_hire 62 = .ok (.iload_n 2, 1) := by decide +kernel
theorem dX3_hire_63 : decode cX3_hire 63 = .ok (.invokevirtual 110, 3) := by decide +kernel
theorem dX3_hire_66 : decode cX3_hire 66 = .ok (.aload_n 0, 1) := by decide +kernel
theorem dX3_hire_67 : decode cX3_hire 67 = .ok (.getfield 10, 3) := by decide +kernel
theorem dX3_hire_70 : decode cX3_hire 70 = .ok (.invokevirtual 104, 3) := by decide +kernel
theorem dX3_hire_73 : decode cX3_hire 73 = .ok (.ireturn, 1) := by decide +kernel
theorem dX3_moveOn_0 : decode cX3_moveOn 0 = .ok (.aload_n 0, 1) := by decide +kernel
theorem dX3_moveOn_1 : decode cX3_moveOn 1 = .ok (.iload_n 1, 1) := by decide +kernel
theorem dX3_moveOn_2 : decode cX3_moveOn 2 = .ok (.invokevirtual 74, 3) := by decide +kernel
theorem dX3_moveOn_5 : decode cX3_moveOn 5 = .ok (.iload_n 2, 1) := by decide +kernel
theorem dX3_moveOn_6 : decode cX3_moveOn 6 = .ok (.invokestatic 101, 3) := by decide +kernel
theorem dX3_moveOn_9 : decode cX3_moveOn 9 = .ok (.aload_n 0, 1) := by decide +kernel
theorem dX3_moveOn_10 : decode cX3_moveOn 10 = .ok (.getfield 10, 3) := by decide +kernel
theorem dX3_moveOn_13 : decode cX3_moveOn 13 = .ok (.iload_n 1, 1) := by decide +kernel
theorem dX3_moveOn_14 : decode cX3_moveOn 14 = .ok (.iload_n 2, 1) := by decide +kernel
theorem dX3_moveOn_15 : decode cX3_moveOn 15 = .ok (.invokevirtual 113, 3) := by decide +kernel
theorem dX3_moveOn_18 : decode cX3_moveOn 18 = .ok (.ifCond .ne 13, 3) := by decide +kernel
theorem dX3_moveOn_21 : decode cX3_moveOn 21 = .ok (.new 45, 3) := by decide +kernel
theorem dX3_moveOn_24 : decode cX3_moveOn 24 = .ok (.dup, 1) := by decide +kernel
theorem dX3_moveOn_25 : decode cX3_moveOn 25 = .ok (.ldc 117, 2) := by decide +kernel
theorem dX3_moveOn_27 : decode cX3_moveOn 27 = .ok (.invokespecial 49, 3) := by decide +kernel
theorem dX3_moveOn_30 : decode cX3_moveOn 30 = .ok (.athrow, 1) := by decide +kernel
theorem dX3_moveOn_31 : decode cX3_moveOn 31 = .ok (.aload_n 0, 1) := by decide +kernel
theorem dX3_moveOn_32 : decode cX3_moveOn 32 = .ok (.getfield 19, 3) := by decide +kernel
theorem dX3_moveOn_35 : decode cX3_moveOn 35 = .ok (.aload_n 0, 1) := by decide +kernel
theorem dX3_moveOn_36 : decode cX3_moveOn 36 = .ok (.getfield 10, 3) := by decide +kernel
theorem dX3_moveOn_39 : decode cX3_moveOn 39 = .ok (.invokevirtual 50, 3) := by decide +kernel
theorem dX3_moveOn_42 : decode cX3_moveOn 42 = .ok (.aload_n 0, 1) := by decide +kernel
theorem dX3_moveOn_43 : decode cX3_moveOn 43 = .ok (.getfield 10, 3) := by decide +kernel
theorem dX3_moveOn_46 : decode cX3_moveOn 46 = .ok (.iload_n 1, 1) := by decide +kernel
theorem dX3_moveOn_47 : decode cX3_moveOn 47 = .ok (.iload_n 2, 1) := by decide +kernel
theorem dX3_moveOn_48 : decode cX3_moveOn 48 = .ok (.invokevirtual 119, 3) := by decide +kernel
theorem dX3_moveOn_51 : decode cX3_moveOn 51 = .ok (.ireturn, 1) := by decide +kernel
theorem dX3_bring_0 : decode cX3_bring 0 = .ok (.aload_n 0, 1) := by decide +kernel
theorem dX3_bring_1 : decode cX3_bring 1 = .ok (.iload_n 1, 1) := by decide +kernel
theorem dX3_bring_2 : decode cX3_bring 2 = .ok (.invokevirtual 74, 3) := by decide +kernel
theorem dX3_bring_5 : decode cX3_bring 5 = .ok (.aload_n 0, 1) := by decide +kernel
theorem dX3_bring_6 : decode cX3_bring 6 = .ok (.iload_n 1, 1) := by decide +kernel
theorem dX3_bring_7 : decode cX3_bring 7 = .ok (.invokevirtual 123, 3) := by decide +kernel
theorem dX3_bring_10 : decode cX3_bring 10 = .ok (.aload_n 0, 1) := by decide +kernel
theorem dX3_bring_11 : decode cX3_bring 11 = .ok (.getfield 19, 3) := by decide +kernel
theorem dX3_bring_14 : decode cX3_bring 14 = .ok (.aload_n 0, 1) := by decide +kernel
theorem dX3_bring_15 : decode cX3_bring 15 = .ok (.getfield 10, 3) := by decide +kernel
theorem dX3_bring_18 : decode cX3_bring 18 = .ok (.invokevirtual 50, 3) := by decide +kernel
theorem dX3_bring_21 : decode cX3_bring 21 = .ok (.aload_n 0, 1) := by decide +kernel
theorem dX3_bring_22 : decode cX3_bring 22 = .ok (.getfield 10, 3) := by decide +kernel
theorem dX3_bring_25 : decode cX3_bring 25 = .ok (.iload_n 1, 1) := by decide +kernel
theorem dX3_bring_26 : decode cX3_bring 26 = .ok (.invokevirtual 126, 3) := by decide +kernel
theorem dX3_bring_29 : decode cX3_bring 29 = .ok (.ireturn, 1) := by decide +kernel
theorem dX3_bringShort_0 : decode cX3_bringShort 0 = .ok (.aload_n 0, 1) := by decide +kernel
theorem dX3_bringShort_1 : decode cX3_bringShort 1 = .ok (.iload_n 1, 1) := by decide +kernel
theorem dX3_bringShort_2 : decode cX3_bringShort 2 = .ok (.invokevirtual 74, 3) := by decide +kernel
theorem dX3_bringShort_5 : decode cX3_bringShort 5 = .ok (.iload_n 2, 1) := by decide +kernel
theorem dX3_bringShort_6 : decode cX3_bringShort 6 = .ok (.invokestatic 58, 3) := by decide +kernel
theorem dX3_bringShort_9 : decode cX3_bringShort 9 = .ok (.iload_n 3, 1) := by decide +kernel
theorem dX3_bringShort_10 : decode cX3_bringShort 10 = .ok (.invokestatic 84, 3) := by decide +kernel
theorem dX3_bringShort_13 : decode cX3_bringShort 13 = .ok (.aload_n 0, 1) := by decide +kernel
theorem dX3_bringShort_14 : decode cX3_bringShort 14 = .ok (.iload_n 1, 1) := by decide +kernel
theorem dX3_bringShort_15 : decode cX3_bringShort 15 = .ok (.invokevirtual 123, 3) := by decide +kernel
theorem dX3_bringShort_18 : decode cX3_bringShort 18 = .ok (.aload_n 0, 1) := by decide +kernel
theorem dX3_bringShort_19 : decode cX3_bringShort 19 = .ok (.iload_n 1, 1) := by decide +kernel
theorem dX3_bringShort_20 : decode cX3_bringShort 20 = .ok (.iload_n 2, 1) := by decide +kernel
theorem dX3_bringShort_21 : decode cX3_bringShort 21 = .ok (.iload_n 3, 1) := by decide +kernel
theorem dX3_bringShort_22 : decode cX3_bringShort 22 = .ok (.invokevirtual 87, 3) := by decide +kernel
theorem dX3_bringShort_25 : decode cX3_bringShort 25 = .ok (.aload_n 0, 1) := by decide +kernel
theorem dX3_bringShort_26 : decode cX3_bringShort 26 = .ok (.getfield 19, 3) := by decide +kernel
theorem dX3_bringShort_29 : decode cX3_bringShort 29 = .ok (.aload_n 0, 1) := by decide +kernel
theorem dX3_bringShort_30 : decode cX3_bringShort 30 = .ok (.getfield 10, 3) := by decide +kernel
theorem dX3_bringShort_33 : decode cX3_bringShort 33 = .ok (.invokevirtual 50, 3) := by decide +kernel
theorem dX3_bringShort_36 : decode cX3_bringShort 36 = .ok (.aload_n 0, 1) := by decide +kernel
theorem dX3_bringShort_37 : decode cX3_bringShort 37 = .ok (.getfield 10, 3) := by decide +kernel
theorem dX3_bringShort_40 : decode cX3_bringShort 40 = .ok (.iload_n 1, 1) := by decide +kernel
theorem dX3_bringShort_41 : decode cX3_bringShort 41 = .ok (.iload_n 2, 1) := by decide +kernel
theorem dX3_bringShort_42 : decode cX3_bringShort 42 = .ok (.iload_n 3, 1) := by decide +kernel
theorem dX3_bringShort_43 : decode cX3_bringShort 43 = .ok (.invokevirtual 129, 3) := by decide +kernel
theorem dX3_bringShort_46 : decode cX3_bringShort 46 = .ok (.ireturn, 1) := by decide +kernel
theorem dX3_pay_0 : decode cX3_pay 0 = .ok (.iload_n 1, 1) := by decide +kernel
theorem dX3_pay_1 : decode cX3_pay 1 = .ok (.invokestatic 101, 3) := by decide +kernel
theorem dX3_pay_4 : decode cX3_pay 4 = .ok (.iload_n 2, 1) := by decide +kernel
theorem dX3_pay_5 : decode cX3_pay 5 = .ok (.iconst 1, 1) := by decide +kernel
theorem dX3_pay_6 : decode cX3_pay 6 = .ok (.if_icmp .lt 10, 3) := by decide +kernel
theorem dX3_pay_9 : decode cX3_pay 9 = .ok (.iload_n 2, 1) := by decide +kernel
theorem dX3_pay_10 : decode cX3_pay 10 = .ok (.sipush 9999, 3) := by decide +kernel
theorem dX3_pay_13 : decode cX3_pay 13 = .ok (.if_icmp .le 13, 3) := by decide +kernel
theorem dX3_pay_16 : decode cX3_pay 16 = .ok (.new 34, 3) := by decide +kernel
theorem dX3_pay_19 : decode cX3_pay 19 = .ok (.dup, 1) := by decide +kernel
theorem dX3_pay_20 : decode cX3_pay 20 = .ok (.ldc 132, 2) := by decide +kernel
theorem dX3_pay_22 : decode cX3_pay 22 = .ok (.invokespecial 38, 3) := by decide +kernel
theorem dX3_pay_25 : decode cX3_pay 25 = .ok (.athrow, 1) := by decide +kernel
theorem dX3_pay_26 : decode cX3_pay 26 = .ok (.aload_n 0, 1) := by decide +kernel
theorem dX3_pay_27 : decode cX3_pay 27 = .ok (.getfield 10, 3) := by decide +kernel
theorem dX3_pay_30 : decode cX3_pay 30 = .ok (.iload_n 1, 1) := by decide +kernel
theorem dX3_pay_31 : decode cX3_pay 31 = .ok (.invokevirtual 134, 3) := by decide +kernel
theorem dX3_pay_34 : decode cX3_pay 34 = .ok (.iload_n 2, 1) := by decide +kernel
theorem dX3_pay_35 : decode cX3_pay 35 = .ok (.if_icmp .ge 13, 3) := by decide +kernel
theorem dX3_pay_38 : decode cX3_pay 38 = .ok (.new 45, 3) := by decide +kernel
theorem dX3_pay_41 : decode cX3_pay 41 = .ok (.dup, 1) := by decide +kernel
theorem dX3_pay_42 : decode cX3_pay 42 = .ok (.ldc 137, 2) := by decide +kernel
theorem dX3_pay_44 : decode cX3_pay 44 = .ok (.invokespecial 49, 3) := by decide +kernel
theorem dX3_pay_47 : decode cX3_pay 47 = .ok (.athrow, 1) := by decide +kernel
theorem dX3_pay_48 : decode cX3_pay 48 = .ok (.aload_n 0, 1) := by decide +kernel
theorem dX3_pay_49 : decode cX3_pay 49 = .ok (.getfield 19, 3) := by decide +kernel
theorem dX3_pay_52 : decode cX3_pay 52 = .ok (.aload_n 0, 1) := by decide +kernel
theorem dX3_pay_53 : decode cX3_pay 53 = .ok (.getfield 10, 3) := by decide +kernel
theorem dX3_pay_56 : decode cX3_pay 56 = .ok (.invokevirtual 50, 3) := by decide +kernel
theorem dX3_pay_59 : decode cX3_pay 59 = .ok (.aload_n 0, 1) := by decide +kernel
theorem dX3_pay_60 : decode cX3_pay 60 = .ok (.getfield 10, 3) := by decide +kernel
theorem dX3_pay_63 : decode cX3_pay 63 = .ok (.getfield 139, 3) := by decide +kernel
theorem dX3_pay_66 : decode cX3_pay 66 = .ok (.iload_n 1, 1) := by decide +kernel
theorem dX3_pay_67 : decode cX3_pay 67 = .ok (.iload_n 2, 1) := by decide +kernel
theorem dX3_pay_68 : decode cX3_pay 68 = .ok (.invokestatic 142, 3) := by decide +kernel
theorem dX3_pay_71 : decode cX3_pay 71 = .ok (.aload_n 0, 1) := by decide +kernel
theorem dX3_pay_72 : decode cX3_pay 72 = .ok (.getfield 10, 3) := by decide +kernel
theorem dX3_pay_75 : decode cX3_pay 75 = .ok (.iload_n 1, 1) := by decide +kernel
theorem dX3_pay_76 : decode cX3_pay 76 = .ok (.invokevirtual 134, 3) := by decide +kernel
theorem dX3_pay_79 : decode cX3_pay 79 = .ok (.ireturn, 1) := by decide +kernel
theorem dX3_pass_0 : decode cX3_pass 0 = .ok (.iload_n 1, 1) := by decide +kernel
theorem dX3_pass_1 : decode cX3_pass 1 = .ok (.iconst 1, 1) := by decide +kernel
theorem dX3_pass_2 : decode cX3_pass 2 = .ok (.if_icmp .lt 9, 3) := by decide +kernel
theorem dX3_pass_5 : decode cX3_pass 5 = .ok (.iload_n 1, 1) := by decide +kernel
theorem dX3_pass_6 : decode cX3_pass 6 = .ok (.bipush 99, 2) := by decide +kernel
theorem dX3_pass_8 : decode cX3_pass 8 = .ok (.if_icmp .le 13, 3) := by decide +kernel
theorem dX3_pass_11 : decode cX3_pass 11 = .ok (.new 34, 3) := by decide +kernel
theorem dX3_pass_14 : decode cX3_pass 14 = .ok (.dup, 1) := by decide +kernel
theorem dX3_pass_15 : decode cX3_pass 15 = .ok (.ldc 146, 2) := by decide +kernel
theorem dX3_pass_17 : decode cX3_pass 17 = .ok (.invokespecial 38, 3) := by decide +kernel
theorem dX3_pass_20 : decode cX3_pass 20 = .ok (.athrow, 1) := by decide +kernel
theorem dX3_pass_21 : decode cX3_pass 21 = .ok (.aload_n 0, 1) := by decide +kernel
theorem dX3_pass_22 : decode cX3_pass 22 = .ok (.getfield 10, 3) := by decide +kernel
theorem dX3_pass_25 : decode cX3_pass 25 = .ok (.iload_n 1, 1) := by decide +kernel
theorem dX3_pass_26 : decode cX3_pass 26 = .ok (.invokevirtual 148, 3) := by decide +kernel
theorem dX3_pass_29 : decode cX3_pass 29 = .ok (.ifCond .ne 13, 3) := by decide +kernel
theorem dX3_pass_32 : decode cX3_pass 32 = .ok (.new 45, 3) := by decide +kernel
theorem dX3_pass_35 : decode cX3_pass 35 = .ok (.dup, 1) := by decide +kernel
theorem dX3_pass_36 : decode cX3_pass 36 = .ok (.ldc 152, 2) := by decide +kernel
theorem dX3_pass_38 : decode cX3_pass 38 = .ok (.invokespecial 49, 3) := by decide +kernel
theorem dX3_pass_41 : decode cX3_pass 41 = .ok (.athrow, 1) := by decide +kernel
theorem dX3_pass_42 : decode cX3_pass 42 = .ok (.aload_n 0, 1) := by decide +kernel
theorem dX3_pass_43 : decode cX3_pass 43 = .ok (.getfield 19, 3) := by decide +kernel
theorem dX3_pass_46 : decode cX3_pass 46 = .ok (.aload_n 0, 1) := by decide +kernel
theorem dX3_pass_47 : decode cX3_pass 47 = .ok (.getfield 10, 3) := by decide +kernel
theorem dX3_pass_50 : decode cX3_pass 50 = .ok (.invokevirtual 50, 3) := by decide +kernel
theorem dX3_pass_53 : decode cX3_pass 53 = .ok (.aload_n 0, 1) := by decide +kernel
theorem dX3_pass_54 : decode cX3_pass 54 = .ok (.getfield 10, 3) := by decide +kernel
theorem dX3_pass_57 : decode cX3_pass 57 = .ok (.dup, 1) := by decide +kernel
theorem dX3_pass_58 : decode cX3_pass 58 = .ok (.getfield 154, 3) := by decide +kernel
theorem dX3_pass_61 : decode cX3_pass 61 = .ok (.iload_n 1, 1) := by decide +kernel
theorem dX3_pass_62 : decode cX3_pass 62 = .ok (.iadd, 1) := by decide +kernel
theorem dX3_pass_63 : decode cX3_pass 63 = .ok (.putfield 154, 3) := by decide +kernel
theorem dX3_pass_66 : decode cX3_pass 66 = .ok (.aload_n 0, 1) := by decide +kernel
theorem dX3_pass_67 : decode cX3_pass 67 = .ok (.getfield 10, 3) := by decide +kernel
theorem dX3_pass_70 : decode cX3_pass 70 = .ok (.getfield 154, 3) := by decide +kernel
theorem dX3_pass_73 : decode cX3_pass 73 = .ok (.ireturn, 1) := by decide +kernel
theorem dX3_set_0 : decode cX3_set 0 = .ok (.iload_n 1, 1) := by decide +kernel
theorem dX3_set_1 : decode cX3_set 1 = .ok (.invokestatic 157, 3) := by decide +kernel
theorem dX3_set_4 : decode cX3_set 4 = .ok (.iload_n 1, 1) := by decide +kernel
theorem dX3_set_5 : decode cX3_set 5 = .ok (.iload_n 2, 1) := by decide +kernel
theorem dX3_set_6 : decode cX3_set 6 = .ok (.invokestatic 160, 3) := by decide +kernel
theorem dX3_set_9 : decode cX3_set 9 = .ok (.ifCond .ne 13, 3) := by decide +kernel
theorem dX3_set_12 : decode cX3_set 12 = .ok (.new 34, 3) := by decide +kernel
theorem dX3_set_15 : decode cX3_set 15 = .ok (.dup, 1) := by decide +kernel
theorem dX3_set_16 : decode cX3_set 16 = .ok (.ldc 163, 2) := by decide +kernel
theorem dX3_set_18 : decode cX3_set 18 = .ok (.invokespecial 38, 3) := by decide +kernel
theorem dX3_set_21 : decode cX3_set 21 = .ok (.athrow, 1) := by decide +kernel
theorem dX3_set_22 : decode cX3_set 22 = .ok (.aload_n 0, 1) := by decide +kernel
theorem dX3_set_23 : decode cX3_set 23 = .ok (.getfield 19, 3) := by decide +kernel
theorem dX3_set_26 : decode cX3_set 26 = .ok (.aload_n 0, 1) := by decide +kernel
theorem dX3_set_27 : decode cX3_set 27 = .ok (.getfield 10, 3) := by decide +kernel
theorem dX3_set_30 : decode cX3_set 30 = .ok (.invokevirtual 50, 3) := by decide +kernel
theorem dX3_set_33 : decode cX3_set 33 = .ok (.aload_n 0, 1) := by decide +kernel
theorem dX3_set_34 : decode cX3_set 34 = .ok (.getfield 10, 3) := by decide +kernel
theorem dX3_set_37 : decode cX3_set 37 = .ok (.getfield 165, 3) := by decide +kernel
theorem dX3_set_40 : decode cX3_set 40 = .ok (.iload_n 1, 1) := by decide +kernel
theorem dX3_set_41 : decode cX3_set 41 = .ok (.invokestatic 64, 3) := by decide +kernel
theorem dX3_set_44 : decode cX3_set 44 = .ok (.istore_n 3, 1) := by decide +kernel
theorem dX3_set_45 : decode cX3_set 45 = .ok (.aload_n 0, 1) := by decide +kernel
theorem dX3_set_46 : decode cX3_set 46 = .ok (.getfield 10, 3) := by decide +kernel
theorem dX3_set_49 : decode cX3_set 49 = .ok (.getfield 165, 3) := by decide +kernel
theorem dX3_set_52 : decode cX3_set 52 = .ok (.iload_n 1, 1) := by decide +kernel
theorem dX3_set_53 : decode cX3_set 53 = .ok (.iload_n 2, 1) := by decide +kernel
theorem dX3_set_54 : decode cX3_set 54 = .ok (.invokestatic 168, 3) := by decide +kernel
theorem dX3_set_57 : decode cX3_set 57 = .ok (.iload_n 3, 1) := by decide +kernel
theorem dX3_set_58 : decode cX3_set 58 = .ok (.ireturn, 1) := by decide +kernel
theorem dX3_append_0 : decode cX3_append 0 = .ok (.iload_n 1, 1) := by decide +kernel
theorem dX3_append_1 : decode cX3_append 1 = .ok (.bipush 33, 2) := by decide +kernel
theorem dX3_append_3 : decode cX3_append 3 = .ok (.if_icmp .lt 9, 3) := by decide +kernel
theorem dX3_append_6 : decode cX3_append 6 = .ok (.iload_n 1, 1) := by decide +kernel
theorem dX3_append_7 : decode cX3_append 7 = .ok (.bipush 126, 2) := by decide +kernel
theorem dX3_append_9 : decode cX3_append 9 = .ok (.if_icmp .le 13, 3) := by decide +kernel
theorem dX3_append_12 : decode cX3_append 12 = .ok (.new 34, 3) := by decide +kernel
theorem dX3_append_15 : decode cX3_append 15 = .ok (.dup, 1) := by decide +kernel
theorem dX3_append_16 : decode cX3_append 16 = .ok (.ldc 171, 2) := by decide +kernel
theorem dX3_append_18 : decode cX3_append 18 = .ok (.invokespecial 38, 3) := by decide +kernel
theorem dX3_append_21 : decode cX3_append 21 = .ok (.athrow, 1) := by decide +kernel
theorem dX3_append_22 : decode cX3_append 22 = .ok (.aload_n 0, 1) := by decide +kernel
theorem dX3_append_23 : decode cX3_append 23 = .ok (.getfield 26, 3) := by decide +kernel
theorem dX3_append_26 : decode cX3_append 26 = .ok (.getfield 173, 3) := by decide +kernel
theorem dX3_append_29 : decode cX3_append 29 = .ok (.bipush 60, 2) := by decide +kernel
theorem dX3_append_31 : decode cX3_append 31 = .ok (.if_icmp .lt 13, 3) := by decide +kernel
theorem dX3_append_34 : decode cX3_append 34 = .ok (.new 45, 3) := by decide +kernel
theorem dX3_append_37 : decode cX3_append 37 = .ok (.dup, 1) := by decide +kernel
theorem dX3_append_38 : decode cX3_append 38 = .ok (.ldc 176, 2) := by decide +kernel
theorem dX3_append_40 : decode cX3_append 40 = .ok (.invokespecial 49, 3) := by decide +kernel
theorem dX3_append_43 : decode cX3_append 43 = .ok (.athrow, 1) := by decide +kernel
theorem dX3_append_44 : decode cX3_append 44 = .ok (.aload_n 0, 1) := by decide +kernel
theorem dX3_append_45 : decode cX3_append 45 = .ok (.getfield 26, 3) := by decide +kernel
theorem dX3_append_48 : decode cX3_append 48 = .ok (.iload_n 1, 1) := by decide +kernel
theorem dX3_append_49 : decode cX3_append 49 = .ok (.invokevirtual 178, 3) := by decide +kernel
theorem dX3_append_52 : decode cX3_append 52 = .ok (.aload_n 0, 1) := by decide +kernel
theorem dX3_append_53 : decode cX3_append 53 = .ok (.getfield 26, 3) := by decide +kernel
theorem dX3_append_56 : decode cX3_append 56 = .ok (.getfield 173, 3) := by decide +kernel
theorem dX3_append_59 : decode cX3_append 59 = .ok (.ireturn, 1) := by decide +kernel
theorem dX3_clearBuffer_0 : decode cX3_clearBuffer 0 = .ok (.aload_n 0, 1) := by decide +kernel
theorem dX3_clearBuffer_1 : decode cX3_clearBuffer 1 = .ok (.getfield 26, 3) := by decide +kernel
theorem dX3_clearBuffer_4 : decode cX3_clearBuffer 4 = .ok (.getfield 173, 3) := by decide +kernel
theorem dX3_clearBuffer_7 : decode cX3_clearBuffer 7 = .ok (.istore_n 1, 1) := by decide +kernel
theorem dX3_clearBuffer_8 : decode cX3_clearBuffer 8 = .ok (.aload_n 0, 1) := by decide +kernel
theorem dX3_clearBuffer_9 : decode cX3_clearBuffer 9 = .ok (.getfield 26, 3) := by decide +kernel
theorem dX3_clearBuffer_12 : decode cX3_clearBuffer 12 = .ok (.invokevirtual 181, 3) := by decide +kernel
theorem dX3_clearBuffer_15 : decode cX3_clearBuffer 15 = .ok (.iload_n 1, 1) := by decide +kernel
theorem dX3_clearBuffer_16 : decode cX3_clearBuffer 16 = .ok (.ireturn, 1) := by decide +kernel
theorem dX3_firstError_0 : decode cX3_firstError 0 = .ok (.aload_n 0, 1) := by decide +kernel
theorem dX3_firstError_1 : decode cX3_firstError 1 = .ok (.getfield 26, 3) := by decide +kernel
theorem dX3_firstError_4 : decode cX3_firstError 4 = .ok (.invokevirtual 184, 3) := by decide +kernel
theorem dX3_firstError_7 : decode cX3_firstError 7 = .ok (.ireturn, 1) := by decide +kernel
theorem dX3_run_0 : decode cX3_run 0 = .ok (.aload_n 0, 1) := by decide +kernel
theorem dX3_run_1 : decode cX3_run 1 = .ok (.getfield 26, 3) := by decide +kernel
theorem dX3_run_4 : decode cX3_run 4 = .ok (.invokevirtual 187, 3) := by decide +kernel
theorem dX3_run_7 : decode cX3_run 7 = .ok (.ifCond .ne 13, 3) := by decide +kernel
theorem dX3_run_10 : decode cX3_run 10 = .ok (.new 34, 3) := by decide +kernel
theorem dX3_run_13 : decode cX3_run 13 = .ok (.dup, 1) := by decide +kernel
theorem dX3_run_14 : decode cX3_run 14 = .ok (.ldc 191, 2) := by decide +kernel
theorem dX3_run_16 : decode cX3_run 16 = .ok (.invokespecial 38, 3) := by decide +kernel
theorem dX3_run_19 : decode cX3_run 19 = .ok (.athrow, 1) := by decide +kernel
theorem dX3_run_20 : decode cX3_run 20 = .ok (.aload_n 0, 1) := by decide +kernel
theorem dX3_run_21 : decode cX3_run 21 = .ok (.getfield 19, 3) := by decide +kernel
theorem dX3_run_24 : decode cX3_run 24 = .ok (.aload_n 0, 1) := by decide +kernel
theorem dX3_run_25 : decode cX3_run 25 = .ok (.getfield 10, 3) := by decide +kernel
theorem dX3_run_28 : decode cX3_run 28 = .ok (.invokevirtual 50, 3) := by decide +kernel
theorem dX3_run_31 : decode cX3_run 31 = .ok (.iconst 0, 1) := by decide +kernel
theorem dX3_run_32 : decode cX3_run 32 = .ok (.istore_n 1, 1) := by decide +kernel
theorem dX3_run_33 : decode cX3_run 33 = .ok (.aload_n 0, 1) := by decide +kernel
theorem dX3_run_34 : decode cX3_run 34 = .ok (.getfield 26, 3) := by decide +kernel
theorem dX3_run_37 : decode cX3_run 37 = .ok (.invokevirtual 193, 3) := by decide +kernel
theorem dX3_run_40 : decode cX3_run 40 = .ok (.iload_n 1, 1) := by decide +kernel
theorem dX3_run_41 : decode cX3_run 41 = .ok (.bipush 60, 2) := by decide +kernel
theorem dX3_run_43 : decode cX3_run 43 = .ok (.if_icmp .ge 36, 3) := by decide +kernel
theorem dX3_run_46 : decode cX3_run 46 = .ok (.aload_n 0, 1) := by decide +kernel
theorem dX3_run_47 : decode cX3_run 47 = .ok (.getfield 26, 3) := by decide +kernel
theorem dX3_run_50 : decode cX3_run 50 = .ok (.invokevirtual 196, 3) := by decide +kernel
theorem dX3_run_53 : decode cX3_run 53 = .ok (.ifCond .eq 26, 3) := by decide +kernel
theorem dX3_run_56 : decode cX3_run 56 = .ok (.aload_n 0, 1) := by decide +kernel
theorem dX3_run_57 : decode cX3_run 57 = .ok (.invokevirtual 199, 3) := by decide +kernel
theorem dX3_run_60 : decode cX3_run 60 = .ok (.ifCond .eq 19, 3) := by decide +kernel
theorem dX3_run_63 : decode cX3_run 63 = .ok (.iinc 1 1, 3) := by decide +kernel
theorem dX3_run_66 : decode cX3_run 66 = .ok (.aload_n 0, 1) := by decide +kernel
theorem dX3_run_67 : decode cX3_run 67 = .ok (.getfield 26, 3) := by decide +kernel
theorem dX3_run_70 : decode cX3_run 70 = .ok (.bipush 59, 2) := by decide +kernel
theorem dX3_run_72 : decode cX3_run 72 = .ok (.invokevirtual 202, 3) := by decide +kernel
theorem dX3_run_75 : decode cX3_run 75 = .ok (.pop, 1) := by decide +kernel
theorem dX3_run_76 : decode cX3_run 76 = .ok (.goto (-36), 3) := by decide +kernel
theorem dX3_run_79 : decode cX3_run 79 = .ok (.aload_n 0, 1) := by decide +kernel
theorem dX3_run_80 : decode cX3_run 80 = .ok (.getfield 26, 3) := by decide +kernel
theorem dX3_run_83 : decode cX3_run 83 = .ok (.invokevirtual 181, 3) := by decide +kernel
theorem dX3_run_86 : decode cX3_run 86 = .ok (.iload_n 1, 1) := by decide +kernel
theorem dX3_run_87 : decode cX3_run 87 = .ok (.ireturn, 1) := by decide +kernel
theorem dX3_undo_0 : decode cX3_undo 0 = .ok (.aload_n 0, 1) := by decide +kernel
theorem dX3_undo_1 : decode cX3_undo 1 = .ok (.getfield 19, 3) := by decide +kernel
theorem dX3_undo_4 : decode cX3_undo 4 = .ok (.getfield 205, 3) := by decide +kernel
theorem dX3_undo_7 : decode cX3_undo 7 = .ok (.iconst 1, 1) := by decide +kernel
theorem dX3_undo_8 : decode cX3_undo 8 = .ok (.if_icmp .ge 13, 3) := by decide +kernel
theorem dX3_undo_11 : decode cX3_undo 11 = .ok (.new 45, 3) := by decide +kernel
theorem dX3_undo_14 : decode cX3_undo 14 = .ok (.dup, 1) := by decide +kernel
theorem dX3_undo_15 : decode cX3_undo 15 = .ok (.ldc 208, 2) := by decide +kernel
theorem dX3_undo_17 : decode cX3_undo 17 = .ok (.invokespecial 49, 3) := by decide +kernel
theorem dX3_undo_20 : decode cX3_undo 20 = .ok (.athrow, 1) := by decide +kernel
theorem dX3_undo_21 : decode cX3_undo 21 = .ok (.aload_n 0, 1) := by decide +kernel
theorem dX3_undo_22 : decode cX3_undo 22 = .ok (.getfield 19, 3) := by decide +kernel
theorem dX3_undo_25 : decode cX3_undo 25 = .ok (.aload_n 0, 1) := by decide +kernel
theorem dX3_undo_26 : decode cX3_undo 26 = .ok (.getfield 10, 3) := by decide +kernel
theorem dX3_undo_29 : decode cX3_undo 29 = .ok (.invokevirtual 210, 3) := by decide +kernel
theorem dX3_undo_32 : decode cX3_undo 32 = .ok (.aload_n 0, 1) := by decide +kernel
theorem dX3_undo_33 : decode cX3_undo 33 = .ok (.getfield 19, 3) := by decide +kernel
theorem dX3_undo_36 : decode cX3_undo 36 = .ok (.getfield 205, 3) := by decide +kernel
theorem dX3_undo_39 : decode cX3_undo 39 = .ok (.ireturn, 1) := by decide +kernel
theorem dX3_bundle_0 : decode cX3_bundle 0 = .ok (.aload_n 0, 1) := by decide +kernel
theorem dX3_bundle_1 : decode cX3_bundle 1 = .ok (.iload_n 1, 1) := by decide +kernel
theorem dX3_bundle_2 : decode cX3_bundle 2 = .ok (.invokevirtual 74, 3) := by decide +kernel
theorem dX3_bundle_5 : decode cX3_bundle 5 = .ok (.iload_n 2, 1) := by decide +kernel
theorem dX3_bundle_6 : decode cX3_bundle 6 = .ok (.invokestatic 213, 3) := by decide +kernel
theorem dX3_bundle_9 : decode cX3_bundle 9 = .ok (.ifCond .ne 13, 3) := by decide +kernel
theorem dX3_bundle_12 : decode cX3_bundle 12 = .ok (.new 34, 3) := by decide +kernel
theorem dX3_bundle_15 : decode cX3_bundle 15 = .ok (.dup, 1) := by decide +kernel
theorem dX3_bundle_16 : decode cX3_bundle 16 = .ok (.ldc 216, 2) := by decide +kernel
theorem dX3_bundle_18 : decode cX3_bundle 18 = .ok (.invokespecial 38, 3) := by decide +kernel
theorem dX3_bundle_21 : decode cX3_bundle 21 = .ok (.athrow, 1) := by decide +kernel
theorem dX3_bundle_22 : decode cX3_bundle 22 = .ok (.aload_n 0, 1) := by decide +kernel
theorem dX3_bundle_23 : decode cX3_bundle 23 = .ok (.getfield 10, 3) := by decide +kernel
theorem dX3_bundle_26 : decode cX3_bundle 26 = .ok (.iload_n 1, 1) := by decide +kernel
theorem dX3_bundle_27 : decode cX3_bundle 27 = .ok (.iload_n 2, 1) := by decide +kernel
theorem dX3_bundle_28 : decode cX3_bundle 28 = .ok (.invokevirtual 218, 3) := by decide +kernel
theorem dX3_bundle_31 : decode cX3_bundle 31 = .ok (.ireturn, 1) := by decide +kernel
theorem dX3_site_0 : decode cX3_site 0 = .ok (.iload_n 1, 1) := by decide +kernel
theorem dX3_site_1 : decode cX3_site 1 = .ok (.invokestatic 101, 3) := by decide +kernel
theorem dX3_site_4 : decode cX3_site 4 = .ok (.iload_n 2, 1) := by decide +kernel
theorem dX3_site_5 : decode cX3_site 5 = .ok (.ifCond .lt 9, 3) := by decide +kernel
theorem dX3_site_8 : decode cX3_site 8 = .ok (.iload_n 2, 1) := by decide +kernel
theorem dX3_site_9 : decode cX3_site 9 = .ok (.bipush 7, 2) := by decide +kernel
theorem dX3_site_11 : decode cX3_site 11 = .ok (.if_icmp .le 13, 3) := by decide +kernel
theorem dX3_site_14 : decode cX3_site 14 = .ok (.new 34, 3) := by decide +kernel
theorem dX3_site_17 : decode cX3_site 17 = .ok (.dup, 1) := by decide +kernel
theorem dX3_site_18 : decode cX3_site 18 = .ok (.ldc 221, 2) := by decide +kernel
theorem dX3_site_20 : decode cX3_site 20 = .ok (.invokespecial 38, 3) := by decide +kernel
theorem dX3_site_23 : decode cX3_site 23 = .ok (.athrow, 1) := by decide +kernel
theorem dX3_site_24 : decode cX3_site 24 = .ok (.aload_n 0, 1) := by decide +kernel
theorem dX3_site_25 : decode cX3_site 25 = .ok (.getfield 10, 3) := by decide +kernel
theorem dX3_site_28 : decode cX3_site 28 = .ok (.iload_n 1, 1) := by decide +kernel
theorem dX3_site_29 : decode cX3_site 29 = .ok (.iload_n 2, 1) := by decide +kernel
theorem dX3_site_30 : decode cX3_site 30 = .ok (.invokevirtual 223, 3) := by decide +kernel
theorem dX3_site_33 : decode cX3_site 33 = .ok (.ireturn, 1) := by decide +kernel
theorem dX3_parts_0 : decode cX3_parts 0 = .ok (.iload_n 1, 1) := by decide +kernel
theorem dX3_parts_1 : decode cX3_parts 1 = .ok (.invokestatic 58, 3) := by decide +kernel
theorem dX3_parts_4 : decode cX3_parts 4 = .ok (.iload_n 2, 1) := by decide +kernel
theorem dX3_parts_5 : decode cX3_parts 5 = .ok (.ifCond .lt 8, 3) := by decide +kernel
theorem dX3_parts_8 : decode cX3_parts 8 = .ok (.iload_n 2, 1) := by decide +kernel
theorem dX3_parts_9 : decode cX3_parts 9 = .ok (.iconst 4, 1) := by decide +kernel
theorem dX3_parts_10 : decode cX3_parts 10 = .ok (.if_icmp .le 13, 3) := by decide +kernel
theorem dX3_parts_13 : decode cX3_parts 13 = .ok (.new 34, 3) := by decide +kernel
theorem dX3_parts_16 : decode cX3_parts 16 = .ok (.dup, 1) := by decide +kernel
theorem dX3_parts_17 : decode cX3_parts 17 = .ok (.ldc 226, 2) := by decide +kernel
theorem dX3_parts_19 : decode cX3_parts 19 = .ok (.invokespecial 38, 3) := by decide +kernel
theorem dX3_parts_22 : decode cX3_parts 22 = .ok (.athrow, 1) := by decide +kernel
theorem dX3_parts_23 : decode cX3_parts 23 = .ok (.aload_n 0, 1) := by decide +kernel
theorem dX3_parts_24 : decode cX3_parts 24 = .ok (.getfield 10, 3) := by decide +kernel
theorem dX3_parts_27 : decode cX3_parts 27 = .ok (.iload_n 1, 1) := by decide +kernel
theorem dX3_parts_28 : decode cX3_parts 28 = .ok (.iload_n 2, 1) := by decide +kernel
theorem dX3_parts_29 : decode cX3_parts 29 = .ok (.invokevirtual 228, 3) := by decide +kernel
theorem dX3_parts_32 : decode cX3_parts 32 = .ok (.ireturn, 1) := by decide +kernel
theorem dX3_count_0 : decode cX3_count 0 = .ok (.iload_n 1, 1) := by decide +kernel
theorem dX3_count_1 : decode cX3_count 1 = .ok (.ifCond .lt 9, 3) := by decide +kernel
theorem dX3_count_4 : decode cX3_count 4 = .ok (.iload_n 1, 1) := by decide +kernel
theorem dX3_count_5 : decode cX3_count 5 = .ok (.bipush 9, 2) := by decide +kernel
theorem dX3_count_7 : decode cX3_count 7 = .ok (.if_icmp .le 13, 3) := by decide +kernel
theorem dX3_count_10 : decode cX3_count 10 = .ok (.new 34, 3) := by decide +kernel
theorem dX3_count_13 : decode cX3_count 13 = .ok (.dup, 1) := by decide +kernel
theorem dX3_count_14 : decode cX3_count 14 = .ok (.ldc 231, 2) := by decide +kernel
theorem dX3_count_16 : decode cX3_count 16 = .ok (.invokespecial 38, 3) := by decide +kernel
theorem dX3_count_19 : decode cX3_count 19 = .ok (.athrow, 1) := by decide +kernel
theorem dX3_count_20 : decode cX3_count 20 = .ok (.aload_n 0, 1) := by decide +kernel
theorem dX3_count_21 : decode cX3_count 21 = .ok (.iload_n 1, 1) := by decide +kernel
theorem dX3_count_22 : decode cX3_count 22 = .ok (.invokevirtual 233, 3) := by decide +kernel
theorem dX3_count_25 : decode cX3_count 25 = .ok (.ireturn, 1) := by decide +kernel
theorem dX3_setting_0 : decode cX3_setting 0 = .ok (.iload_n 1, 1) := by decide +kernel
theorem dX3_setting_1 : decode cX3_setting 1 = .ok (.invokestatic 157, 3) := by decide +kernel
theorem dX3_setting_4 : decode cX3_setting 4 = .ok (.aload_n 0, 1) := by decide +kernel
theorem dX3_setting_5 : decode cX3_setting 5 = .ok (.getfield 10, 3) := by decide +kernel
theorem dX3_setting_8 : decode cX3_setting 8 = .ok (.getfield 165, 3) := by decide +kernel
theorem dX3_setting_11 : decode cX3_setting 11 = .ok (.iload_n 1, 1) := by decide +kernel
theorem dX3_setting_12 : decode cX3_setting 12 = .ok (.invokestatic 64, 3) := by decide +kernel
theorem dX3_setting_15 : decode cX3_setting 15 = .ok (.ireturn, 1) := by decide +kernel
theorem dX3_billIn_0 : decode cX3_billIn 0 = .ok (.aload_n 0, 1) := by decide +kernel
theorem dX3_billIn_1 : decode cX3_billIn 1 = .ok (.iload_n 1, 1) := by decide +kernel
theorem dX3_billIn_2 : decode cX3_billIn 2 = .ok (.invokevirtual 74, 3) := by decide +kernel
theorem dX3_billIn_5 : decode cX3_billIn 5 = .ok (.iload_n 2, 1) := by decide +kernel
theorem dX3_billIn_6 : decode cX3_billIn 6 = .ok (.ifCond .lt 10, 3) := by decide +kernel
theorem dX3_billIn_9 : decode cX3_billIn 9 = .ok (.iload_n 2, 1) := by decide +kernel
theorem dX3_billIn_10 : decode cX3_billIn 10 = .ok (.sipush 200, 3) := by decide +kernel
theorem dX3_billIn_13 : decode cX3_billIn 13 = .ok (.if_icmp .le 13, 3) := by decide +kernel
theorem dX3_billIn_16 : decode cX3_billIn 16 = .ok (.new 34, 3) := by decide +kernel
theorem dX3_billIn_19 : decode cX3_billIn 19 = .ok (.dup, 1) := by decide +kernel
theorem dX3_billIn_20 : decode cX3_billIn 20 = .ok (.ldc 146, 2) := by decide +kernel
theorem dX3_billIn_22 : decode cX3_billIn 22 = .ok (.invokespecial 38, 3) := by decide +kernel
theorem dX3_billIn_25 : decode cX3_billIn 25 = .ok (.athrow, 1) := by decide +kernel
theorem dX3_billIn_26 : decode cX3_billIn 26 = .ok (.aload_n 0, 1) := by decide +kernel
theorem dX3_billIn_27 : decode cX3_billIn 27 = .ok (.getfield 10, 3) := by decide +kernel
theorem dX3_billIn_30 : decode cX3_billIn 30 = .ok (.iload_n 1, 1) := by decide +kernel
theorem dX3_billIn_31 : decode cX3_billIn 31 = .ok (.iload_n 2, 1) := by decide +kernel
theorem dX3_billIn_32 : decode cX3_billIn 32 = .ok (.invokevirtual 236, 3) := by decide +kernel
theorem dX3_billIn_35 : decode cX3_billIn 35 = .ok (.ireturn, 1) := by decide +kernel
theorem dX3_splitOn_0 : decode cX3_splitOn 0 = .ok (.aload_n 0, 1) := by decide +kernel
theorem dX3_splitOn_1 : decode cX3_splitOn 1 = .ok (.iload_n 1, 1) := by decide +kernel
theorem dX3_splitOn_2 : decode cX3_splitOn 2 = .ok (.invokevirtual 74, 3) := by decide +kernel
theorem dX3_splitOn_5 : decode cX3_splitOn 5 = .ok (.iload_n 3, 1) := by decide +kernel
theorem dX3_splitOn_6 : decode cX3_splitOn 6 = .ok (.invokestatic 101, 3) := by decide +kernel
theorem dX3_splitOn_9 : decode cX3_splitOn 9 = .ok (.iload_n 2, 1) := by decide +kernel
theorem dX3_splitOn_10 : decode cX3_splitOn 10 = .ok (.ifCond .lt 10, 3) := by decide +kernel
theorem dX3_splitOn_13 : decode cX3_splitOn 13 = .ok (.iload_n 2, 1) := by decide +kernel
theorem dX3_splitOn_14 : decode cX3_splitOn 14 = .ok (.sipush 9999, 3) := by decide +kernel
theorem dX3_splitOn_17 : decode cX3_splitOn 17 = .ok (.if_icmp .le 13, 3) := by decide +kernel
theorem dX3_splitOn_20 : decode cX3_splitOn 20 = .ok (.new 34, 3) := by decide +kernel
theorem dX3_splitOn_23 : decode cX3_splitOn 23 = .ok (.dup, 1) := by decide +kernel
theorem dX3_splitOn_24 : decode cX3_splitOn 24 = .ok (.ldc 239, 2) := by decide +kernel
theorem dX3_splitOn_26 : decode cX3_splitOn 26 = .ok (.invokespecial 38, 3) := by decide +kernel
theorem dX3_splitOn_29 : decode cX3_splitOn 29 = .ok (.athrow, 1) := by decide +kernel
theorem dX3_splitOn_30 : decode cX3_splitOn 30 = .ok (.aload_n 0, 1) := by decide +kernel
theorem dX3_splitOn_31 : decode cX3_splitOn 31 = .ok (.getfield 10, 3) := by decide +kernel
theorem dX3_splitOn_34 : decode cX3_splitOn 34 = .ok (.iload_n 1, 1) := by decide +kernel
theorem dX3_splitOn_35 : decode cX3_splitOn 35 = .ok (.iload_n 2, 1) := by decide +kernel
theorem dX3_splitOn_36 : decode cX3_splitOn 36 = .ok (.iload_n 3, 1) := by decide +kernel
theorem dX3_splitOn_37 : decode cX3_splitOn 37 = .ok (.invokevirtual 241, 3) := by decide +kernel
theorem dX3_splitOn_40 : decode cX3_splitOn 40 = .ok (.ireturn, 1) := by decide +kernel
theorem dX3_oldest_0 : decode cX3_oldest 0 = .ok (.iload_n 1, 1) := by decide +kernel
theorem dX3_oldest_1 : decode cX3_oldest 1 = .ok (.invokestatic 101, 3) := by decide +kernel
theorem dX3_oldest_4 : decode cX3_oldest 4 = .ok (.aload_n 0, 1) := by decide +kernel
theorem dX3_oldest_5 : decode cX3_oldest 5 = .ok (.getfield 10, 3) := by decide +kernel
theorem dX3_oldest_8 : decode cX3_oldest 8 = .ok (.iload_n 1, 1) := by decide +kernel
theorem dX3_oldest_9 : decode cX3_oldest 9 = .ok (.invokevirtual 244, 3) := by decide +kernel
theorem dX3_oldest_12 : decode cX3_oldest 12 = .ok (.ireturn, 1) := by decide +kernel
theorem dX3_ifRepaired_0 : decode cX3_ifRepaired 0 = .ok (.aload_n 0, 1) := by decide +kernel
theorem dX3_ifRepaired_1 : decode cX3_ifRepaired 1 = .ok (.getfield 10, 3) := by decide +kernel
theorem dX3_ifRepaired_4 : decode cX3_ifRepaired 4 = .ok (.getfield 61, 3) := by decide +kernel
theorem dX3_ifRepaired_7 : decode cX3_ifRepaired 7 = .ok (.aload_n 0, 1) := by decide +kernel
theorem dX3_ifRepaired_8 : decode cX3_ifRepaired 8 = .ok (.getfield 30, 3) := by decide +kernel
theorem dX3_ifRepaired_11 : decode cX3_ifRepaired 11 = .ok (.invokestatic 247, 3) := by decide +kernel
theorem dX3_ifRepaired_14 : decode cX3_ifRepaired 14 = .ok (.iconst 0, 1) := by decide +kernel
theorem dX3_ifRepaired_15 : decode cX3_ifRepaired 15 = .ok (.istore_n 1, 1) := by decide +kernel
theorem dX3_ifRepaired_16 : decode cX3_ifRepaired 16 = .ok (.iconst 0, 1) := by decide +kernel
theorem dX3_ifRepaired_17 : decode cX3_ifRepaired 17 = .ok (.istore_n 2, 1) := by decide +kernel
theorem dX3_ifRepaired_18 : decode cX3_ifRepaired 18 = .ok (.iload_n 2, 1) := by decide +kernel
theorem dX3_ifRepaired_19 : decode cX3_ifRepaired 19 = .ok (.aload_n 0, 1) := by decide +kernel
theorem dX3_ifRepaired_20 : decode cX3_ifRepaired 20 = .ok (.getfield 10, 3) := by decide +kernel
theorem dX3_ifRepaired_23 : decode cX3_ifRepaired 23 = .ok (.getfield 41, 3) := by decide +kernel
theorem dX3_ifRepaired_26 : decode cX3_ifRepaired 26 = .ok (.if_icmp .ge 31, 3) := by decide +kernel
theorem dX3_ifRepaired_29 : decode cX3_ifRepaired 29 = .ok (.aload_n 0, 1) := by decide +kernel
theorem dX3_ifRepaired_30 : decode cX3_ifRepaired 30 = .ok (.getfield 10, 3) := by decide +kernel
theorem dX3_ifRepaired_33 : decode cX3_ifRepaired 33 = .ok (.iload_n 2, 1) := by decide +kernel
theorem dX3_ifRepaired_34 : decode cX3_ifRepaired 34 = .ok (.invokevirtual 251, 3) := by decide +kernel
theorem dX3_ifRepaired_37 : decode cX3_ifRepaired 37 = .ok (.ifCond .eq 14, 3) := by decide +kernel
theorem dX3_ifRepaired_40 : decode cX3_ifRepaired 40 = .ok (.aload_n 0, 1) := by decide +kernel
theorem dX3_ifRepaired_41 : decode cX3_ifRepaired 41 = .ok (.iload_n 2, 1) := by decide +kernel
theorem dX3_ifRepaired_42 : decode cX3_ifRepaired 42 = .ok (.invokevirtual 254, 3) := by decide +kernel
theorem dX3_ifRepaired_45 : decode cX3_ifRepaired 45 = .ok (.ifCond .eq 6, 3) := by decide +kernel
theorem dX3_ifRepaired_48 : decode cX3_ifRepaired 48 = .ok (.iinc 1 1, 3) := by decide +kernel
theorem dX3_ifRepaired_51 : decode cX3_ifRepaired 51 = .ok (.iinc 2 1, 3) := by decide +kernel
theorem dX3_ifRepaired_54 : decode cX3_ifRepaired 54 = .ok (.goto (-36), 3) := by decide +kernel
theorem dX3_ifRepaired_57 : decode cX3_ifRepaired 57 = .ok (.iload_n 1, 1) := by decide +kernel
theorem dX3_ifRepaired_58 : decode cX3_ifRepaired 58 = .ok (.ireturn, 1) := by decide +kernel
theorem dX3_hiredShare_0 : decode cX3_hiredShare 0 = .ok (.aload_n 0, 1) := by decide +kernel
theorem dX3_hiredShare_1 : decode cX3_hiredShare 1 = .ok (.getfield 10, 3) := by decide +kernel
theorem dX3_hiredShare_4 : decode cX3_hiredShare 4 = .ok (.getfield 41, 3) := by decide +kernel
theorem dX3_hiredShare_7 : decode cX3_hiredShare 7 = .ok (.istore_n 1, 1) := by decide +kernel
theorem dX3_hiredShare_8 : decode cX3_hiredShare 8 = .ok (.iload_n 1, 1) := by decide +kernel
theorem dX3_hiredShare_9 : decode cX3_hiredShare 9 = .ok (.iconst 1, 1) := by decide +kernel
theorem dX3_hiredShare_10 : decode cX3_hiredShare 10 = .ok (.if_icmp .ge 5, 3) := by decide +kernel
theorem dX3_hiredShare_13 : decode cX3_hiredShare 13 = .ok (.dconst 0, 1) := by decide +kernel
theorem dX3_hiredShare_14 : decode cX3_hiredShare 14 = .ok (.dreturn, 1) := by decide +kernel
theorem dX3_hiredShare_15 : decode cX3_hiredShare 15 = .ok (.iload_n 1, 1) := by decide +kernel
theorem dX3_hiredShare_16 : decode cX3_hiredShare 16 = .ok (.aload_n 0, 1) := by decide +kernel
theorem dX3_hiredShare_17 : decode cX3_hiredShare 17 = .ok (.getfield 10, 3) := by decide +kernel
theorem dX3_hiredShare_20 : decode cX3_hiredShare 20 = .ok (.invokevirtual 257, 3) := by decide +kernel
theorem dX3_hiredShare_23 : decode cX3_hiredShare 23 = .ok (.isub, 1) := by decide +kernel
theorem dX3_hiredShare_24 : decode cX3_hiredShare 24 = .ok (.i2d, 1) := by decide +kernel
theorem dX3_hiredShare_25 : decode cX3_hiredShare 25 = .ok (.iload_n 1, 1) := by decide +kernel
theorem dX3_hiredShare_26 : decode cX3_hiredShare 26 = .ok (.i2d, 1) := by decide +kernel
theorem dX3_hiredShare_27 : decode cX3_hiredShare 27 = .ok (.ddiv, 1) := by decide +kernel
theorem dX3_hiredShare_28 : decode cX3_hiredShare 28 = .ok (.dreturn, 1) := by decide +kernel
theorem dX3_digest_0 : decode cX3_digest 0 = .ok (.ldc2_w 260, 3) := by decide +kernel
theorem dX3_digest_3 : decode cX3_digest 3 = .ok (.lstore_n 1, 1) := by decide +kernel
theorem dX3_digest_4 : decode cX3_digest 4 = .ok (.iconst 0, 1) := by decide +kernel
theorem dX3_digest_5 : decode cX3_digest 5 = .ok (.istore_n 3, 1) := by decide +kernel
theorem dX3_digest_6 : decode cX3_digest 6 = .ok (.iload_n 3, 1) := by decide +kernel
theorem dX3_digest_7 : decode cX3_digest 7 = .ok (.bipush 9, 2) := by decide +kernel
theorem dX3_digest_9 : decode cX3_digest 9 = .ok (.if_icmp .gt 20, 3) := by decide +kernel
theorem dX3_digest_12 : decode cX3_digest 12 = .ok (.lload_n 1, 1) := by decide +kernel
theorem dX3_digest_13 : decode cX3_digest 13 = .ok (.aload_n 0, 1) := by decide +kernel
theorem dX3_digest_14 : decode cX3_digest 14 = .ok (.iload_n 3, 1) := by decide +kernel
theorem dX3_digest_15 : decode cX3_digest 15 = .ok (.invokevirtual 233, 3) := by decide +kernel
theorem dX3_digest_18 : decode cX3_digest 18 = .ok (.i2l, 1) := by decide +kernel
theorem dX3_digest_19 : decode cX3_digest 19 = .ok (.invokestatic 262, 3) := by decide +kernel
theorem dX3_digest_22 : decode cX3_digest 22 = .ok (.lstore_n 1, 1) := by decide +kernel
theorem dX3_digest_23 : decode cX3_digest 23 = .ok (.iinc 3 1, 3) := by decide +kernel
theorem dX3_digest_26 : decode cX3_digest 26 = .ok (.goto (-20), 3) := by decide +kernel
theorem dX3_digest_29 : decode cX3_digest 29 = .ok (.iconst 0, 1) := by decide +kernel
theorem dX3_digest_30 : decode cX3_digest 30 = .ok (.istore_n 3, 1) := by decide +kernel
theorem dX3_digest_31 : decode cX3_digest 31 = .ok (.iload_n 3, 1) := by decide +kernel
theorem dX3_digest_32 : decode cX3_digest 32 = .ok (.iconst 2, 1) := by decide +kernel
theorem dX3_digest_33 : decode cX3_digest 33 = .ok (.if_icmp .ge 26, 3) := by decide +kernel
theorem dX3_digest_36 : decode cX3_digest 36 = .ok (.lload_n 1, 1) := by decide +kernel
theorem dX3_digest_37 : decode cX3_digest 37 = .ok (.aload_n 0, 1) := by decide +kernel
theorem dX3_digest_38 : decode cX3_digest 38 = .ok (.getfield 10, 3) := by decide +kernel
theorem dX3_digest_41 : decode cX3_digest 41 = .ok (.getfield 165, 3) := by decide +kernel
theorem dX3_digest_44 : decode cX3_digest 44 = .ok (.iload_n 3, 1) := by decide +kernel
theorem dX3_digest_45 : decode cX3_digest 45 = .ok (.invokestatic 64, 3) := by decide +kernel
theorem dX3_digest_48 : decode cX3_digest 48 = .ok (.i2l, 1) := by decide +kernel
theorem dX3_digest_49 : decode cX3_digest 49 = .ok (.invokestatic 262, 3) := by decide +kernel
theorem dX3_digest_52 : decode cX3_digest 52 = .ok (.lstore_n 1, 1) := by decide +kernel
theorem dX3_digest_53 : decode cX3_digest 53 = .ok (.iinc 3 1, 3) := by decide +kernel
theorem dX3_digest_56 : decode cX3_digest 56 = .ok (.goto (-25), 3) := by decide +kernel
theorem dX3_digest_59 : decode cX3_digest 59 = .ok (.iconst 0, 1) := by decide +kernel
theorem dX3_digest_60 : decode cX3_digest 60 = .ok (.istore_n 3, 1) := by decide +kernel
theorem dX3_digest_61 : decode cX3_digest 61 = .ok (.iload_n 3, 1) := by decide +kernel
theorem dX3_digest_62 : decode cX3_digest 62 = .ok (.aload_n 0, 1) := by decide +kernel
theorem dX3_digest_63 : decode cX3_digest 63 = .ok (.getfield 10, 3) := by decide +kernel
theorem dX3_digest_66 : decode cX3_digest 66 = .ok (.getfield 41, 3) := by decide +kernel
theorem dX3_digest_69 : decode cX3_digest 69 = .ok (.if_icmp .ge 16, 3) := by decide +kernel
theorem dX3_digest_72 : decode cX3_digest 72 = .ok (.aload_n 0, 1) := by decide +kernel
theorem dX3_digest_73 : decode cX3_digest 73 = .ok (.lload_n 1, 1) := by decide +kernel
theorem dX3_digest_74 : decode cX3_digest 74 = .ok (.iload_n 3, 1) := by decide +kernel
theorem dX3_digest_75 : decode cX3_digest 75 = .ok (.invokevirtual 266, 3) := by decide +kernel
theorem dX3_digest_78 : decode cX3_digest 78 = .ok (.lstore_n 1, 1) := by decide +kernel
theorem dX3_digest_79 : decode cX3_digest 79 = .ok (.iinc 3 1, 3) := by decide +kernel
theorem dX3_digest_82 : decode cX3_digest 82 = .ok (.goto (-21), 3) := by decide +kernel
theorem dX3_digest_85 : decode cX3_digest 85 = .ok (.iconst 0, 1) := by decide +kernel
theorem dX3_digest_86 : decode cX3_digest 86 = .ok (.istore_n 3, 1) := by decide +kernel
theorem dX3_digest_87 : decode cX3_digest 87 = .ok (.iload_n 3, 1) := by decide +kernel
theorem dX3_digest_88 : decode cX3_digest 88 = .ok (.bipush 6, 2) := by decide +kernel
theorem dX3_digest_90 : decode cX3_digest 90 = .ok (.if_icmp .ge 16, 3) := by decide +kernel
theorem dX3_digest_93 : decode cX3_digest 93 = .ok (.aload_n 0, 1) := by decide +kernel
theorem dX3_digest_94 : decode cX3_digest 94 = .ok (.lload_n 1, 1) := by decide +kernel
theorem dX3_digest_95 : decode cX3_digest 95 = .ok (.iload_n 3, 1) := by decide +kernel
theorem dX3_digest_96 : decode cX3_digest 96 = .ok (.invokevirtual 270, 3) := by decide +kernel
theorem dX3_digest_99 : decode cX3_digest 99 = .ok (.lstore_n 1, 1) := by decide +kernel
theorem dX3_digest_100 : decode cX3_digest 100 = .ok (.iinc 3 1, 3) := by decide +kernel
theorem dX3_digest_103 : decode cX3_digest 103 = .ok (.goto (-16), 3) := by decide +kernel
theorem dX3_digest_106 : decode cX3_digest 106 = .ok (.iconst 0, 1) := by decide +kernel
theorem dX3_digest_107 : decode cX3_digest 107 = .ok (.istore_n 3, 1) := by decide +kernel
theorem dX3_digest_108 : decode cX3_digest 108 = .ok (.iload_n 3, 1) := by decide +kernel
theorem dX3_digest_109 : decode cX3_digest 109 = .ok (.iconst 4, 1) := by decide +kernel
theorem dX3_digest_110 : decode cX3_digest 110 = .ok (.if_icmp .ge 40, 3) := by decide +kernel
theorem dX3_digest_113 : decode cX3_digest 113 = .ok (.iconst 0, 1) := by decide +kernel
theorem dX3_digest_114 : decode cX3_digest 114 = .ok (.istore 4, 2) := by decide +kernel
theorem dX3_digest_116 : decode cX3_digest 116 = .ok (.iload 4, 2) := by decide +kernel
theorem dX3_digest_118 : decode cX3_digest 118 = .ok (.iconst 4, 1) := by decide +kernel
theorem dX3_digest_119 : decode cX3_digest 119 = .ok (.if_icmp .gt 25, 3) := by decide +kernel
theorem dX3_digest_122 : decode cX3_digest 122 = .ok (.lload_n 1, 1) := by decide +kernel
theorem dX3_digest_123 : decode cX3_digest 123 = .ok (.aload_n 0, 1) := by decide +kernel
theorem dX3_digest_124 : decode cX3_digest 124 = .ok (.getfield 10, 3) := by decide +kernel
theorem dX3_digest_127 : decode cX3_digest 127 = .ok (.iload_n 3, 1) := by decide +kernel
theorem dX3_digest_128 : decode cX3_digest 128 = .ok (.iload 4, 2) := by decide +kernel
theorem dX3_digest_130 : decode cX3_digest 130 = .ok (.invokevirtual 228, 3) := by decide +kernel
theorem dX3_digest_133 : decode cX3_digest 133 = .ok (.i2l, 1) := by decide +kernel
theorem dX3_digest_134 : decode cX3_digest 134 = .ok (.invokestatic 262, 3) := by decide +kernel
theorem dX3_digest_137 : decode cX3_digest 137 = .ok (.lstore_n 1, 1) := by decide +kernel
theorem dX3_digest_138 : decode cX3_digest 138 = .ok (.iinc 4 1, 3) := by decide +kernel
theorem dX3_digest_141 : decode cX3_digest 141 = .ok (.goto (-25), 3) := by decide +kernel
theorem dX3_digest_144 : decode cX3_digest 144 = .ok (.iinc 3 1, 3) := by decide +kernel
theorem dX3_digest_147 : decode cX3_digest 147 = .ok (.goto (-39), 3) := by decide +kernel
theorem dX3_digest_150 : decode cX3_digest 150 = .ok (.lload_n 1, 1) := by decide +kernel
theorem dX3_digest_151 : decode cX3_digest 151 = .ok (.aload_n 0, 1) := by decide +kernel
theorem dX3_digest_152 : decode cX3_digest 152 = .ok (.invokevirtual 273, 3) := by decide +kernel
theorem dX3_digest_155 : decode cX3_digest 155 = .ok (.i2l, 1) := by decide +kernel
theorem dX3_digest_156 : decode cX3_digest 156 = .ok (.invokestatic 262, 3) := by decide +kernel
theorem dX3_digest_159 : decode cX3_digest 159 = .ok (.lstore_n 1, 1) := by decide +kernel
theorem dX3_digest_160 : decode cX3_digest 160 = .ok (.lload_n 1, 1) := by decide +kernel
theorem dX3_digest_161 : decode cX3_digest 161 = .ok (.aload_n 0, 1) := by decide +kernel
theorem dX3_digest_162 : decode cX3_digest 162 = .ok (.invokevirtual 276, 3) := by decide +kernel
theorem dX3_digest_165 : decode cX3_digest 165 = .ok (.invokestatic 280, 3) := by decide +kernel
theorem dX3_digest_168 : decode cX3_digest 168 = .ok (.invokestatic 262, 3) := by decide +kernel
theorem dX3_digest_171 : decode cX3_digest 171 = .ok (.lstore_n 1, 1) := by decide +kernel
theorem dX3_digest_172 : decode cX3_digest 172 = .ok (.aload_n 0, 1) := by decide +kernel
theorem dX3_digest_173 : decode cX3_digest 173 = .ok (.lload_n 1, 1) := by decide +kernel
theorem dX3_digest_174 : decode cX3_digest 174 = .ok (.invokevirtual 284, 3) := by decide +kernel
theorem dX3_digest_177 : decode cX3_digest 177 = .ok (.lreturn, 1) := by decide +kernel
theorem dX3_needSet_0 : decode cX3_needSet 0 = .ok (.aload_n 0, 1) := by decide +kernel
theorem dX3_needSet_1 : decode cX3_needSet 1 = .ok (.getfield 10, 3) := by decide +kernel
theorem dX3_needSet_4 : decode cX3_needSet 4 = .ok (.iload_n 1, 1) := by decide +kernel
theorem dX3_needSet_5 : decode cX3_needSet 5 = .ok (.invokevirtual 288, 3) := by decide +kernel
theorem dX3_needSet_8 : decode cX3_needSet 8 = .ok (.ifCond .ne 14, 3) := by decide +kernel
theorem dX3_needSet_11 : decode cX3_needSet 11 = .ok (.new 291, 3) := by decide +kernel
theorem dX3_needSet_14 : decode cX3_needSet 14 = .ok (.dup, 1) := by decide +kernel
theorem dX3_needSet_15 : decode cX3_needSet 15 = .ok (.ldc_w 293, 3) := by decide +kernel
theorem dX3_needSet_18 : decode cX3_needSet 18 = .ok (.invokespecial 295, 3) := by decide +kernel
theorem dX3_needSet_21 : decode cX3_needSet 21 = .ok (.athrow, 1) := by decide +kernel
theorem dX3_needSet_22 : decode cX3_needSet 22 = .ok (.return_, 1) := by decide +kernel
theorem dX3_needSite_0 : decode cX3_needSite 0 = .ok (.iload_n 0, 1) := by decide +kernel
theorem dX3_needSite_1 : decode cX3_needSite 1 = .ok (.ifCond .lt 9, 3) := by decide +kernel
theorem dX3_needSite_4 : decode cX3_needSite 4 = .ok (.iload_n 0, 1) := by decide +kernel
theorem dX3_needSite_5 : decode cX3_needSite 5 = .ok (.bipush 6, 2) := by decide +kernel
theorem dX3_needSite_7 : decode cX3_needSite 7 = .ok (.if_icmp .lt 14, 3) := by decide +kernel
theorem dX3_needSite_10 : decode cX3_needSite 10 = .ok (.new 291, 3) := by decide +kernel
theorem dX3_needSite_13 : decode cX3_needSite 13 = .ok (.dup, 1) := by decide +kernel
theorem dX3_needSite_14 : decode cX3_needSite 14 = .ok (.ldc_w 296, 3) := by decide +kernel
theorem dX3_needSite_17 : decode cX3_needSite 17 = .ok (.invokespecial 295, 3) := by decide +kernel
theorem dX3_needSite_20 : decode cX3_needSite 20 = .ok (.athrow, 1) := by decide +kernel
theorem dX3_needSite_21 : decode cX3_needSite 21 = .ok (.return_, 1) := by decide +kernel
theorem dX3_needKind_0 : decode cX3_needKind 0 = .ok (.iload_n 0, 1) := by decide +kernel
theorem dX3_needKind_1 : decode cX3_needKind 1 = .ok (.ifCond .lt 8, 3) := by decide +kernel
theorem dX3_needKind_4 : decode cX3_needKind 4 = .ok (.iload_n 0, 1) := by decide +kernel
theorem dX3_needKind_5 : decode cX3_needKind 5 = .ok (.iconst 4, 1) := by decide +kernel
theorem dX3_needKind_6 : decode cX3_needKind 6 = .ok (.if_icmp .lt 14, 3) := by decide +kernel
theorem dX3_needKind_9 : decode cX3_needKind 9 = .ok (.new 291, 3) := by decide +kernel
theorem dX3_needKind_12 : decode cX3_needKind 12 = .ok (.dup, 1) := by decide +kernel
theorem dX3_needKind_13 : decode cX3_needKind 13 = .ok (.ldc_w 298, 3) := by decide +kernel
theorem dX3_needKind_16 : decode cX3_needKind 16 = .ok (.invokespecial 295, 3) := by decide +kernel
theorem dX3_needKind_19 : decode cX3_needKind 19 = .ok (.athrow, 1) := by decide +kernel
theorem dX3_needKind_20 : decode cX3_needKind 20 = .ok (.return_, 1) := by decide +kernel
theorem dX3_needSetting_0 : decode cX3_needSetting 0 = .ok (.iload_n 0, 1) := by decide +kernel
theorem dX3_needSetting_1 : decode cX3_needSetting 1 = .ok (.ifCond .lt 8, 3) := by decide +kernel
theorem dX3_needSetting_4 : decode cX3_needSetting 4 = .ok (.iload_n 0, 1) := by decide +kernel
theorem dX3_needSetting_5 : decode cX3_needSetting 5 = .ok (.iconst 2, 1) := by decide +kernel
theorem dX3_needSetting_6 : decode cX3_needSetting 6 = .ok (.if_icmp .lt 14, 3) := by decide +kernel
theorem dX3_needSetting_9 : decode cX3_needSetting 9 = .ok (.new 291, 3) := by decide +kernel
theorem dX3_needSetting_12 : decode cX3_needSetting 12 = .ok (.dup, 1) := by decide +kernel
theorem dX3_needSetting_13 : decode cX3_needSetting 13 = .ok (.ldc_w 300, 3) := by decide +kernel
theorem dX3_needSetting_16 : decode cX3_needSetting 16 = .ok (.invokespecial 295, 3) := by decide +kernel
theorem dX3_needSetting_19 : decode cX3_needSetting 19 = .ok (.athrow, 1) := by decide +kernel
theorem dX3_needSetting_20 : decode cX3_needSetting 20 = .ok (.return_, 1) := by decide +kernel
theorem dX3_needAtLeastOne_0 : decode cX3_needAtLeastOne 0 = .ok (.iload_n 0, 1) := by decide +kernel
theorem dX3_needAtLeastOne_1 : decode cX3_needAtLeastOne 1 = .ok (.iconst 1, 1) := by decide +kernel
theorem dX3_needAtLeastOne_2 : decode cX3_needAtLeastOne 2 = .ok (.if_icmp .ge 14, 3) := by decide +kernel
theorem dX3_needAtLeastOne_5 : decode cX3_needAtLeastOne 5 = .ok (.new 34, 3) := by decide +kernel
theorem dX3_needAtLeastOne_8 : decode cX3_needAtLeastOne 8 = .ok (.dup, 1) := by decide +kernel
theorem dX3_needAtLeastOne_9 : decode cX3_needAtLeastOne 9 = .ok (.ldc_w 302, 3) := by decide +kernel
theorem dX3_needAtLeastOne_12 : decode cX3_needAtLeastOne 12 = .ok (.invokespecial 38, 3) := by decide +kernel
theorem dX3_needAtLeastOne_15 : decode cX3_needAtLeastOne 15 = .ok (.athrow, 1) := by decide +kernel
theorem dX3_needAtLeastOne_16 : decode cX3_needAtLeastOne 16 = .ok (.return_, 1) := by decide +kernel
theorem dX3_needInYard_0 : decode cX3_needInYard 0 = .ok (.aload_n 0, 1) := by decide +kernel
theorem dX3_needInYard_1 : decode cX3_needInYard 1 = .ok (.getfield 10, 3) := by decide +kernel
theorem dX3_needInYard_4 : decode cX3_needInYard 4 = .ok (.iload_n 1, 1) := by decide +kernel
theorem dX3_needInYard_5 : decode cX3_needInYard 5 = .ok (.invokevirtual 251, 3) := by decide +kernel
theorem dX3_needInYard_8 : decode cX3_needInYard 8 = .ok (.ifCond .ne 14, 3) := by decide +kernel
theorem dX3_needInYard_11 : decode cX3_needInYard 11 = .ok (.new 45, 3) := by decide +kernel
theorem dX3_needInYard_14 : decode cX3_needInYard 14 = .ok (.dup, 1) := by decide +kernel
theorem dX3_needInYard_15 : decode cX3_needInYard 15 = .ok (.ldc_w 304, 3) := by decide +kernel
theorem dX3_needInYard_18 : decode cX3_needInYard 18 = .ok (.invokespecial 49, 3) := by decide +kernel
theorem dX3_needInYard_21 : decode cX3_needInYard 21 = .ok (.athrow, 1) := by decide +kernel
theorem dX3_needInYard_22 : decode cX3_needInYard 22 = .ok (.return_, 1) := by decide +kernel
theorem dX3_needOnSite_0 : decode cX3_needOnSite 0 = .ok (.aload_n 0, 1) := by decide +kernel
theorem dX3_needOnSite_1 : decode cX3_needOnSite 1 = .ok (.getfield 10, 3) := by decide +kernel
theorem dX3_needOnSite_4 : decode cX3_needOnSite 4 = .ok (.iload_n 1, 1) := by decide +kernel
theorem dX3_needOnSite_5 : decode cX3_needOnSite 5 = .ok (.invokevirtual 306, 3) := by decide +kernel
theorem dX3_needOnSite_8 : decode cX3_needOnSite 8 = .ok (.ifCond .ne 14, 3) := by decide +kernel
theorem dX3_needOnSite_11 : decode cX3_needOnSite 11 = .ok (.new 45, 3) := by decide +kernel
theorem dX3_needOnSite_14 : decode cX3_needOnSite 14 = .ok (.dup, 1) := by decide +kernel
theorem dX3_needOnSite_15 : decode cX3_needOnSite 15 = .ok (.ldc_w 309, 3) := by decide +kernel
theorem dX3_needOnSite_18 : decode cX3_needOnSite 18 = .ok (.invokespecial 49, 3) := by decide +kernel
theorem dX3_needOnSite_21 : decode cX3_needOnSite 21 = .ok (.athrow, 1) := by decide +kernel
theorem dX3_needOnSite_22 : decode cX3_needOnSite 22 = .ok (.return_, 1) := by decide +kernel
theorem dX3_needStock_0 : decode cX3_needStock 0 = .ok (.aload_n 0, 1) := by decide +kernel
theorem dX3_needStock_1 : decode cX3_needStock 1 = .ok (.getfield 10, 3) := by decide +kernel
theorem dX3_needStock_4 : decode cX3_needStock 4 = .ok (.iload_n 1, 1) := by decide +kernel
theorem dX3_needStock_5 : decode cX3_needStock 5 = .ok (.iload_n 2, 1) := by decide +kernel
theorem dX3_needStock_6 : decode cX3_needStock 6 = .ok (.invokevirtual 311, 3) := by decide +kernel
theorem dX3_needStock_9 : decode cX3_needStock 9 = .ok (.iload_n 3, 1) := by decide +kernel
theorem dX3_needStock_10 : decode cX3_needStock 10 = .ok (.if_icmp .ge 14, 3) := by decide +kernel
theorem dX3_needStock_13 : decode cX3_needStock 13 = .ok (.new 45, 3) := by decide +kernel
theorem dX3_needStock_16 : decode cX3_needStock 16 = .ok (.dup, 1) := by decide +kernel
theorem dX3_needStock_17 : decode cX3_needStock 17 = .ok (.ldc_w 314, 3) := by decide +kernel
theorem dX3_needStock_20 : decode cX3_needStock 20 = .ok (.invokespecial 49, 3) := by decide +kernel
theorem dX3_needStock_23 : decode cX3_needStock 23 = .ok (.athrow, 1) := by decide +kernel
theorem dX3_needStock_24 : decode cX3_needStock 24 = .ok (.return_, 1) := by decide +kernel
theorem dX3_isSettingValue_0 : decode cX3_isSettingValue 0 = .ok (.iload_n 0, 1) := by decide +kernel
theorem dX3_isSettingValue_1 : decode cX3_isSettingValue 1 = .ok (.ifCond .ne 19, 3) := by decide +kernel
theorem dX3_isSettingValue_4 : decode cX3_isSettingValue 4 = .ok (.iload_n 1, 1) := by decide +kernel
theorem dX3_isSettingValue_5 : decode cX3_isSettingValue 5 = .ok (.ifCond .lt 13, 3) := by decide +kernel
theorem dX3_isSettingValue_8 : decode cX3_isSettingValue 8 = .ok (.iload_n 1, 1) := by decide +kernel
theorem dX3_isSettingValue_9 : decode cX3_isSettingValue 9 = .ok (.bipush 90, 2) := by decide +kernel
theorem dX3_isSettingValue_11 : decode cX3_isSettingValue 11 = .ok (.if_icmp .gt 7, 3) := by decide +kernel
theorem dX3_isSettingValue_14 : decode cX3_isSettingValue 14 = .ok (.iconst 1, 1) := by decide +kernel
theorem dX3_isSettingValue_15 : decode cX3_isSettingValue 15 = .ok (.goto 4, 3) := by decide +kernel
theorem dX3_isSettingValue_18 : decode cX3_isSettingValue 18 = .ok (.iconst 0, 1) := by decide +kernel
theorem dX3_isSettingValue_19 : decode cX3_isSettingValue 19 = .ok (.ireturn, 1) := by decide +kernel
theorem dX3_isSettingValue_20 : decode cX3_isSettingValue 20 = .ok (.iload_n 1, 1) := by decide +kernel
theorem dX3_isSettingValue_21 : decode cX3_isSettingValue 21 = .ok (.iconst 1, 1) := by decide +kernel
theorem dX3_isSettingValue_22 : decode cX3_isSettingValue 22 = .ok (.if_icmp .lt 13, 3) := by decide +kernel
theorem dX3_isSettingValue_25 : decode cX3_isSettingValue 25 = .ok (.iload_n 1, 1) := by decide +kernel
theorem dX3_isSettingValue_26 : decode cX3_isSettingValue 26 = .ok (.bipush 99, 2) := by decide +kernel
theorem dX3_isSettingValue_28 : decode cX3_isSettingValue 28 = .ok (.if_icmp .gt 7, 3) := by decide +kernel
theorem dX3_isSettingValue_31 : decode cX3_isSettingValue 31 = .ok (.iconst 1, 1) := by decide +kernel
theorem dX3_isSettingValue_32 : decode cX3_isSettingValue 32 = .ok (.goto 4, 3) := by decide +kernel
theorem dX3_isSettingValue_35 : decode cX3_isSettingValue 35 = .ok (.iconst 0, 1) := by decide +kernel
theorem dX3_isSettingValue_36 : decode cX3_isSettingValue 36 = .ok (.ireturn, 1) := by decide +kernel
theorem dX3_isBundleWhat_0 : decode cX3_isBundleWhat 0 = .ok (.iload_n 0, 1) := by decide +kernel
theorem dX3_isBundleWhat_1 : decode cX3_isBundleWhat 1 = .ok (.ifCond .lt 19, 3) := by decide +kernel
theorem dX3_isBundleWhat_4 : decode cX3_isBundleWhat 4 = .ok (.iload_n 0, 1) := by decide +kernel
theorem dX3_isBundleWhat_5 : decode cX3_isBundleWhat 5 = .ok (.bipush 13, 2) := by decide +kernel
theorem dX3_isBundleWhat_7 : decode cX3_isBundleWhat 7 = .ok (.if_icmp .gt 13, 3) := by decide +kernel
theorem dX3_isBundleWhat_10 : decode cX3_isBundleWhat 10 = .ok (.iload_n 0, 1) := by decide +kernel
theorem dX3_isBundleWhat_11 : decode cX3_isBundleWhat 11 = .ok (.bipush 9, 2) := by decide +kernel
theorem dX3_isBundleWhat_13 : decode cX3_isBundleWhat 13 = .ok (.if_icmp .eq 7, 3) := by decide +kernel
theorem dX3_isBundleWhat_16 : decode cX3_isBundleWhat 16 = .ok (.iconst 1, 1) := by decide +kernel
theorem dX3_isBundleWhat_17 : decode cX3_isBundleWhat 17 = .ok (.goto 4, 3) := by decide +kernel
theorem dX3_isBundleWhat_20 : decode cX3_isBundleWhat 20 = .ok (.iconst 0, 1) := by decide +kernel
theorem dX3_isBundleWhat_21 : decode cX3_isBundleWhat 21 = .ok (.ireturn, 1) := by decide +kernel
theorem dX3_carryOut_0 : decode cX3_carryOut 0 = .ok (.aload_n 0, 1) := by decide +kernel
theorem dX3_carryOut_1 : decode cX3_carryOut 1 = .ok (.getfield 26, 3) := by decide +kernel
theorem dX3_carryOut_4 : decode cX3_carryOut 4 = .ok (.getfield 316, 3) := by decide +kernel
theorem dX3_carryOut_7 : decode cX3_carryOut 7 = .ok (.lookupswitch 103 #[(98, 79), (100, 91), (104, 41), (109, 60)], 41) := by decide +kernel
theorem dX3_carryOut_48 : decode cX3_carryOut 48 = .ok (.aload_n 0, 1) := by decide +kernel
theorem dX3_carryOut_49 : decode cX3_carryOut 49 = .ok (.aload_n 0, 1) := by decide +kernel
theorem dX3_carryOut_50 : decode cX3_carryOut 50 = .ok (.getfield 26, 3) := by decide +kernel
theorem dX3_carryOut_53 : decode cX3_carryOut 53 = .ok (.getfield 319, 3) := by decide +kernel
theorem dX3_carryOut_56 : decode cX3_carryOut 56 = .ok (.aload_n 0, 1) := by decide +kernel
theorem dX3_carryOut_57 : decode cX3_carryOut 57 = .ok (.getfield 26, 3) := by decide +kernel
theorem dX3_carryOut_60 : decode cX3_carryOut 60 = .ok (.getfield 322, 3) := by decide +kernel
theorem dX3_carryOut_63 : decode cX3_carryOut 63 = .ok (.invokevirtual 325, 3) := by decide +kernel
theorem dX3_carryOut_66 : decode cX3_carryOut 66 = .ok (.ireturn, 1) := by decide +kernel
theorem dX3_carryOut_67 : decode cX3_carryOut 67 = .ok (.aload_n 0, 1) := by decide +kernel
theorem dX3_carryOut_68 : decode cX3_carryOut 68 = .ok (.aload_n 0, 1) := by decide +kernel
theorem dX3_carryOut_69 : decode cX3_carryOut 69 = .ok (.getfield 26, 3) := by decide +kernel
theorem dX3_carryOut_72 : decode cX3_carryOut 72 = .ok (.getfield 319, 3) := by decide +kernel
theorem dX3_carryOut_75 : decode cX3_carryOut 75 = .ok (.aload_n 0, 1) := by decide +kernel
theorem dX3_carryOut_76 : decode cX3_carryOut 76 = .ok (.getfield 26, 3) := by decide +kernel
theorem dX3_carryOut_79 : decode cX3_carryOut 79 = .ok (.getfield 322, 3) := by decide +kernel
theorem dX3_carryOut_82 : decode cX3_carryOut 82 = .ok (.invokevirtual 328, 3) := by decide +kernel
theorem dX3_carryOut_85 : decode cX3_carryOut 85 = .ok (.ireturn, 1) := by decide +kernel
theorem dX3_carryOut_86 : decode cX3_carryOut 86 = .ok (.aload_n 0, 1) := by decide +kernel
theorem dX3_carryOut_87 : decode cX3_carryOut 87 = .ok (.aload_n 0, 1) := by decide +kernel
theorem dX3_carryOut_88 : decode cX3_carryOut 88 = .ok (.getfield 26, 3) := by decide +kernel
theorem dX3_carryOut_91 : decode cX3_carryOut 91 = .ok (.getfield 319, 3) := by decide +kernel
theorem dX3_carryOut_94 : decode cX3_carryOut 94 = .ok (.invokevirtual 331, 3) := by decide +kernel
theorem dX3_carryOut_97 : decode cX3_carryOut 97 = .ok (.ireturn, 1) := by decide +kernel
theorem dX3_carryOut_98 : decode cX3_carryOut 98 = .ok (.aload_n 0, 1) := by decide +kernel
theorem dX3_carryOut_99 : decode cX3_carryOut 99 = .ok (.aload_n 0, 1) := by decide +kernel
theorem dX3_carryOut_100 : decode cX3_carryOut 100 = .ok (.getfield 26, 3) := by decide +kernel
theorem dX3_carryOut_103 : decode cX3_carryOut 103 = .ok (.getfield 319, 3) := by decide +kernel
theorem dX3_carryOut_106 : decode cX3_carryOut 106 = .ok (.invokevirtual 334, 3) := by decide +kernel
theorem dX3_carryOut_109 : decode cX3_carryOut 109 = .ok (.ireturn, 1) := by decide +kernel
theorem dX3_carryOut_110 : decode cX3_carryOut 110 = .ok (.iconst 0, 1) := by decide +kernel
theorem dX3_carryOut_111 : decode cX3_carryOut 111 = .ok (.ireturn, 1) := by decide +kernel
theorem dX3_hireByText_0 : decode cX3_hireByText 0 = .ok (.aload_n 0, 1) := by decide +kernel
theorem dX3_hireByText_1 : decode cX3_hireByText 1 = .ok (.getfield 10, 3) := by decide +kernel
theorem dX3_hireByText_4 : decode cX3_hireByText 4 = .ok (.invokevirtual 104, 3) := by decide +kernel
theorem dX3_hireByText_7 : decode cX3_hireByText 7 = .ok (.iload_n 2, 1) := by decide +kernel
theorem dX3_hireByText_8 : decode cX3_hireByText 8 = .ok (.if_icmp .ge 5, 3) := by decide +kernel
theorem dX3_hireByText_11 : decode cX3_hireByText 11 = .ok (.iconst 0, 1) := by decide +kernel
theorem dX3_hireByText_12 : decode cX3_hireByText 12 = .ok (.ireturn, 1) := by decide +kernel
theorem dX3_hireByText_13 : decode cX3_hireByText 13 = .ok (.aload_n 0, 1) := by decide +kernel
theorem dX3_hireByText_14 : decode cX3_hireByText 14 = .ok (.getfield 10, 3) := by decide +kernel
theorem dX3_hireByText_17 : decode cX3_hireByText 17 = .ok (.iload_n 1, 1) := by decide +kernel
theorem dX3_hireByText_18 : decode cX3_hireByText 18 = .ok (.iload_n 2, 1) := by decide +kernel
theorem dX3_hireByText_19 : decode cX3_hireByText 19 = .ok (.invokevirtual 110, 3) := by decide +kernel
theorem dX3_hireByText_22 : decode cX3_hireByText 22 = .ok (.iconst 1, 1) := by decide +kernel
theorem dX3_hireByText_23 : decode cX3_hireByText 23 = .ok (.ireturn, 1) := by decide +kernel
theorem dX3_moveByText_0 : decode cX3_moveByText 0 = .ok (.aload_n 0, 1) := by decide +kernel
theorem dX3_moveByText_1 : decode cX3_moveByText 1 = .ok (.getfield 10, 3) := by decide +kernel
theorem dX3_moveByText_4 : decode cX3_moveByText 4 = .ok (.iload_n 1, 1) := by decide +kernel
theorem dX3_moveByText_5 : decode cX3_moveByText 5 = .ok (.iload_n 2, 1) := by decide +kernel
theorem dX3_moveByText_6 : decode cX3_moveByText 6 = .ok (.invokevirtual 113, 3) := by decide +kernel
theorem dX3_moveByText_9 : decode cX3_moveByText 9 = .ok (.ifCond .ne 5, 3) := by decide +kernel
theorem dX3_moveByText_12 : decode cX3_moveByText 12 = .ok (.iconst 0, 1) := by decide +kernel
theorem dX3_moveByText_13 : decode cX3_moveByText 13 = .ok (.ireturn, 1) := by decide +kernel
theorem dX3_moveByText_14 : decode cX3_moveByText 14 = .ok (.aload_n 0, 1) := by decide +kernel
theorem dX3_moveByText_15 : decode cX3_moveByText 15 = .ok (.getfield 10, 3) := by decide +kernel
theorem dX3_moveByText_18 : decode cX3_moveByText 18 = .ok (.iload_n 1, 1) := by decide +kernel
theorem dX3_moveByText_19 : decode cX3_moveByText 19 = .ok (.iload_n 2, 1) := by decide +kernel
theorem dX3_moveByText_20 : decode cX3_moveByText 20 = .ok (.invokevirtual 119, 3) := by decide +kernel
theorem dX3_moveByText_23 : decode cX3_moveByText 23 = .ok (.pop, 1) := by decide +kernel
theorem dX3_moveByText_24 : decode cX3_moveByText 24 = .ok (.iconst 1, 1) := by decide +kernel
theorem dX3_moveByText_25 : decode cX3_moveByText 25 = .ok (.ireturn, 1) := by decide +kernel
theorem dX3_bringByText_0 : decode cX3_bringByText 0 = .ok (.aload_n 0, 1) := by decide +kernel
theorem dX3_bringByText_1 : decode cX3_bringByText 1 = .ok (.getfield 10, 3) := by decide +kernel
theorem dX3_bringByText_4 : decode cX3_bringByText 4 = .ok (.iload_n 1, 1) := by decide +kernel
theorem dX3_bringByText_5 : decode cX3_bringByText 5 = .ok (.invokevirtual 306, 3) := by decide +kernel
theorem dX3_bringByText_8 : decode cX3_bringByText 8 = .ok (.ifCond .ne 5, 3) := by decide +kernel
theorem dX3_bringByText_11 : decode cX3_bringByText 11 = .ok (.iconst 0, 1) := by decide +kernel
theorem dX3_bringByText_12 : decode cX3_bringByText 12 = .ok (.ireturn, 1) := by decide +kernel
theorem dX3_bringByText_13 : decode cX3_bringByText 13 = .ok (.aload_n 0, 1) := by decide +kernel
theorem dX3_bringByText_14 : decode cX3_bringByText 14 = .ok (.getfield 10, 3) := by decide +kernel
theorem dX3_bringByText_17 : decode cX3_bringByText 17 = .ok (.iload_n 1, 1) := by decide +kernel
theorem dX3_bringByText_18 : decode cX3_bringByText 18 = .ok (.invokevirtual 126, 3) := by decide +kernel
theorem dX3_bringByText_21 : decode cX3_bringByText 21 = .ok (.pop, 1) := by decide +kernel
theorem dX3_bringByText_22 : decode cX3_bringByText 22 = .ok (.iconst 1, 1) := by decide +kernel
theorem dX3_bringByText_23 : decode cX3_bringByText 23 = .ok (.ireturn, 1) := by decide +kernel
theorem dX3_passByText_0 : decode cX3_passByText 0 = .ok (.aload_n 0, 1) := by decide +kernel
theorem dX3_passByText_1 : decode cX3_passByText 1 = .ok (.getfield 10, 3) := by decide +kernel
theorem dX3_passByText_4 : decode cX3_passByText 4 = .ok (.iload_n 1, 1) := by decide +kernel
theorem dX3_passByText_5 : decode cX3_passByText 5 = .ok (.invokevirtual 148, 3) := by decide +kernel
theorem dX3_passByText_8 : decode cX3_passByText 8 = .ok (.ifCond .ne 5, 3) := by decide +kernel
theorem dX3_passByText_11 : decode cX3_passByText 11 = .ok (.iconst 0, 1) := by decide +kernel
theorem dX3_passByText_12 : decode cX3_passByText 12 = .ok (.ireturn, 1) := by decide +kernel
theorem dX3_passByText_13 : decode cX3_passByText 13 = .ok (.aload_n 0, 1) := by decide +kernel
theorem dX3_passByText_14 : decode cX3_passByText 14 = .ok (.getfield 10, 3) := by decide +kernel
theorem dX3_passByText_17 : decode cX3_passByText 17 = .ok (.dup, 1) := by decide +kernel
theorem dX3_passByText_18 : decode cX3_passByText 18 = .ok (.getfield 154, 3) := by decide +kernel
theorem dX3_passByText_21 : decode cX3_passByText 21 = .ok (.iload_n 1, 1) := by decide +kernel
theorem dX3_passByText_22 : decode cX3_passByText 22 = .ok (.iadd, 1) := by decide +kernel
theorem dX3_passByText_23 : decode cX3_passByText 23 = .ok (.putfield 154, 3) := by decide +kernel
theorem dX3_passByText_26 : decode cX3_passByText 26 = .ok (.iconst 1, 1) := by decide +kernel
theorem dX3_passByText_27 : decode cX3_passByText 27 = .ok (.ireturn, 1) := by decide +kernel
theorem dX3_countValue_0 : decode cX3_countValue 0 = .ok (.iload_n 1, 1) := by decide +kernel
theorem dX3_countValue_1 : decode cX3_countValue 1 = .ok (.bipush 9, 2) := by decide +kernel
theorem dX3_countValue_3 : decode cX3_countValue 3 = .ok (.if_icmp .ne 13, 3) := by decide +kernel
theorem dX3_countValue_6 : decode cX3_countValue 6 = .ok (.aload_n 0, 1) := by decide +kernel
theorem dX3_countValue_7 : decode cX3_countValue 7 = .ok (.getfield 19, 3) := by decide +kernel
theorem dX3_countValue_10 : decode cX3_countValue 10 = .ok (.getfield 205, 3) := by decide +kernel
theorem dX3_countValue_13 : decode cX3_countValue 13 = .ok (.goto 11, 3) := by decide +kernel
theorem dX3_countValue_16 : decode cX3_countValue 16 = .ok (.aload_n 0, 1) := by decide +kernel
theorem dX3_countValue_17 : decode cX3_countValue 17 = .ok (.getfield 10, 3) := by decide +kernel
theorem dX3_countValue_20 : decode cX3_countValue 20 = .ok (.iload_n 1, 1) := by decide +kernel
theorem dX3_countValue_21 : decode cX3_countValue 21 = .ok (.invokevirtual 337, 3) := by decide +kernel
theorem dX3_countValue_24 : decode cX3_countValue 24 = .ok (.ireturn, 1) := by decide +kernel
theorem dX3_wouldBeWhole_0 : decode cX3_wouldBeWhole 0 = .ok (.iconst 1, 1) := by decide +kernel
theorem dX3_wouldBeWhole_1 : decode cX3_wouldBeWhole 1 = .ok (.istore_n 2, 1) := by decide +kernel
theorem dX3_wouldBeWhole_2 : decode cX3_wouldBeWhole 2 = .ok (.iconst 0, 1) := by decide +kernel
theorem dX3_wouldBeWhole_3 : decode cX3_wouldBeWhole 3 = .ok (.istore_n 3, 1) := by decide +kernel
theorem dX3_wouldBeWhole_4 : decode cX3_wouldBeWhole 4 = .ok (.iload_n 3, 1) := by decide +kernel
theorem dX3_wouldBeWhole_5 : decode cX3_wouldBeWhole 5 = .ok (.iconst 4, 1) := by decide +kernel
theorem dX3_wouldBeWhole_6 : decode cX3_wouldBeWhole 6 = .ok (.if_icmp .ge 63, 3) := by decide +kernel
theorem dX3_wouldBeWhole_9 : decode cX3_wouldBeWhole 9 = .ok (.aload_n 0, 1) := by decide +kernel
theorem dX3_wouldBeWhole_10 : decode cX3_wouldBeWhole 10 = .ok (.getfield 10, 3) := by decide +kernel
theorem dX3_wouldBeWhole_13 : decode cX3_wouldBeWhole 13 = .ok (.iload_n 1, 1) := by decide +kernel
theorem dX3_wouldBeWhole_14 : decode cX3_wouldBeWhole 14 = .ok (.iload_n 3, 1) := by decide +kernel
theorem dX3_wouldBeWhole_15 : decode cX3_wouldBeWhole 15 = .ok (.invokevirtual 338, 3) := by decide +kernel
theorem dX3_wouldBeWhole_18 : decode cX3_wouldBeWhole 18 = .ok (.istore 4, 2) := by decide +kernel
theorem dX3_wouldBeWhole_20 : decode cX3_wouldBeWhole 20 = .ok (.iload 4, 2) := by decide +kernel
theorem dX3_wouldBeWhole_22 : decode cX3_wouldBeWhole 22 = .ok (.aload_n 0, 1) := by decide +kernel
theorem dX3_wouldBeWhole_23 : decode cX3_wouldBeWhole 23 = .ok (.getfield 30, 3) := by decide +kernel
theorem dX3_wouldBeWhole_26 : decode cX3_wouldBeWhole 26 = .ok (.iload_n 3, 1) := by decide +kernel
theorem dX3_wouldBeWhole_27 : decode cX3_wouldBeWhole 27 = .ok (.invokestatic 64, 3) := by decide +kernel
theorem dX3_wouldBeWhole_30 : decode cX3_wouldBeWhole 30 = .ok (.invokestatic 341, 3) := by decide +kernel
theorem dX3_wouldBeWhole_33 : decode cX3_wouldBeWhole 33 = .ok (.istore 5, 2) := by decide +kernel
theorem dX3_wouldBeWhole_35 : decode cX3_wouldBeWhole 35 = .ok (.aload_n 0, 1) := by decide +kernel
theorem dX3_wouldBeWhole_36 : decode cX3_wouldBeWhole 36 = .ok (.getfield 30, 3) := by decide +kernel
theorem dX3_wouldBeWhole_39 : decode cX3_wouldBeWhole 39 = .ok (.iload_n 3, 1) := by decide +kernel
theorem dX3_wouldBeWhole_40 : decode cX3_wouldBeWhole 40 = .ok (.iload 5, 2) := by decide +kernel
theorem dX3_wouldBeWhole_42 : decode cX3_wouldBeWhole 42 = .ok (.ineg, 1) := by decide +kernel
theorem dX3_wouldBeWhole_43 : decode cX3_wouldBeWhole 43 = .ok (.invokestatic 142, 3) := by decide +kernel
theorem dX3_wouldBeWhole_46 : decode cX3_wouldBeWhole 46 = .ok (.iload_n 2, 1) := by decide +kernel
theorem dX3_wouldBeWhole_47 : decode cX3_wouldBeWhole 47 = .ok (.ifCond .eq 14, 3) := by decide +kernel
theorem dX3_wouldBeWhole_50 : decode cX3_wouldBeWhole 50 = .ok (.iload 5, 2) := by decide +kernel
theorem dX3_wouldBeWhole_52 : decode cX3_wouldBeWhole 52 = .ok (.iload 4, 2) := by decide +kernel
theorem dX3_wouldBeWhole_54 : decode cX3_wouldBeWhole 54 = .ok (.if_icmp .ne 7, 3) := by decide +kernel
theorem dX3_wouldBeWhole_57 : decode cX3_wouldBeWhole 57 = .ok (.iconst 1, 1) := by decide +kernel
theorem dX3_wouldBeWhole_58 : decode cX3_wouldBeWhole 58 = .ok (.goto 4, 3) := by decide +kernel
theorem dX3_wouldBeWhole_61 : decode cX3_wouldBeWhole 61 = .ok (.iconst 0, 1) := by decide +kernel
theorem dX3_wouldBeWhole_62 : decode cX3_wouldBeWhole 62 = .ok (.istore_n 2, 1) := by decide +kernel
theorem dX3_wouldBeWhole_63 : decode cX3_wouldBeWhole 63 = .ok (.iinc 3 1, 3) := by decide +kernel
theorem dX3_wouldBeWhole_66 : decode cX3_wouldBeWhole 66 = .ok (.goto (-62), 3) := by decide +kernel
theorem dX3_wouldBeWhole_69 : decode cX3_wouldBeWhole 69 = .ok (.iload_n 2, 1) := by decide +kernel
theorem dX3_wouldBeWhole_70 : decode cX3_wouldBeWhole 70 = .ok (.ireturn, 1) := by decide +kernel
theorem dX3_mix_0 : decode cX3_mix 0 = .ok (.ldc2_w 346, 3) := by decide +kernel
theorem dX3_mix_3 : decode cX3_mix 3 = .ok (.lload_n 0, 1) := by decide +kernel
theorem dX3_mix_4 : decode cX3_mix 4 = .ok (.lmul, 1) := by decide +kernel
theorem dX3_mix_5 : decode cX3_mix 5 = .ok (.lload_n 2, 1) := by decide +kernel
theorem dX3_mix_6 : decode cX3_mix 6 = .ok (.ladd, 1) := by decide +kernel
theorem dX3_mix_7 : decode cX3_mix 7 = .ok (.lreturn, 1) := by decide +kernel
theorem dX3_mixSet_0 : decode cX3_mixSet 0 = .ok (.lload_n 1, 1) := by decide +kernel
theorem dX3_mixSet_1 : decode cX3_mixSet 1 = .ok (.lstore 4, 2) := by decide +kernel
theorem dX3_mixSet_3 : decode cX3_mixSet 3 = .ok (.iconst 0, 1) := by decide +kernel
theorem dX3_mixSet_4 : decode cX3_mixSet 4 = .ok (.istore 6, 2) := by decide +kernel
theorem dX3_mixSet_6 : decode cX3_mixSet 6 = .ok (.iload 6, 2) := by decide +kernel
theorem dX3_mixSet_8 : decode cX3_mixSet 8 = .ok (.bipush 13, 2) := by decide +kernel
theorem dX3_mixSet_10 : decode cX3_mixSet 10 = .ok (.if_icmp .gt 35, 3) := by decide +kernel
theorem dX3_mixSet_13 : decode cX3_mixSet 13 = .ok (.iload 6, 2) := by decide +kernel
theorem dX3_mixSet_15 : decode cX3_mixSet 15 = .ok (.invokestatic 213, 3) := by decide +kernel
theorem dX3_mixSet_18 : decode cX3_mixSet 18 = .ok (.ifCond .eq 21, 3) := by decide +kernel
theorem dX3_mixSet_21 : decode cX3_mixSet 21 = .ok (.lload 4, 2) := by decide +kernel
theorem dX3_mixSet_23 : decode cX3_mixSet 23 = .ok (.aload_n 0, 1) := by decide +kernel
theorem dX3_mixSet_24 : decode cX3_mixSet 24 = .ok (.getfield 10, 3) := by decide +kernel
theorem dX3_mixSet_27 : decode cX3_mixSet 27 = .ok (.iload_n 3, 1) := by decide +kernel
theorem dX3_mixSet_28 : decode cX3_mixSet 28 = .ok (.iload 6, 2) := by decide +kernel
theorem dX3_mixSet_30 : decode cX3_mixSet 30 = .ok (.invokevirtual 218, 3) := by decide +kernel
theorem dX3_mixSet_33 : decode cX3_mixSet 33 = .ok (.i2l, 1) := by decide +kernel
theorem dX3_mixSet_34 : decode cX3_mixSet 34 = .ok (.invokestatic 262, 3) := by decide +kernel
theorem dX3_mixSet_37 : decode cX3_mixSet 37 = .ok (.lstore 4, 2) := by decide +kernel
theorem dX3_mixSet_39 : decode cX3_mixSet 39 = .ok (.iinc 6 1, 3) := by decide +kernel
theorem dX3_mixSet_42 : decode cX3_mixSet 42 = .ok (.goto (-36), 3) := by decide +kernel
theorem dX3_mixSet_45 : decode cX3_mixSet 45 = .ok (.lload 4, 2) := by decide +kernel
theorem dX3_mixSet_47 : decode cX3_mixSet 47 = .ok (.aload_n 0, 1) := by decide +kernel
theorem dX3_mixSet_48 : decode cX3_mixSet 48 = .ok (.getfield 10, 3) := by decide +kernel
theorem dX3_mixSet_51 : decode cX3_mixSet 51 = .ok (.iload_n 3, 1) := by decide +kernel
theorem dX3_mixSet_52 : decode cX3_mixSet 52 = .ok (.bipush 30, 2) := by decide +kernel
theorem dX3_mixSet_54 : decode cX3_mixSet 54 = .ok (.invokevirtual 236, 3) := by decide +kernel
theorem dX3_mixSet_57 : decode cX3_mixSet 57 = .ok (.i2l, 1) := by decide +kernel
theorem dX3_mixSet_58 : decode cX3_mixSet 58 = .ok (.invokestatic 262, 3) := by decide +kernel
theorem dX3_mixSet_61 : decode cX3_mixSet 61 = .ok (.lstore 4, 2) := by decide +kernel
theorem dX3_mixSet_63 : decode cX3_mixSet 63 = .ok (.iconst 0, 1) := by decide +kernel
theorem dX3_mixSet_64 : decode cX3_mixSet 64 = .ok (.istore 6, 2) := by decide +kernel
theorem dX3_mixSet_66 : decode cX3_mixSet 66 = .ok (.iload 6, 2) := by decide +kernel
theorem dX3_mixSet_68 : decode cX3_mixSet 68 = .ok (.bipush 6, 2) := by decide +kernel
theorem dX3_mixSet_70 : decode cX3_mixSet 70 = .ok (.if_icmp .ge 29, 3) := by decide +kernel
theorem dX3_mixSet_73 : decode cX3_mixSet 73 = .ok (.lload 4, 2) := by decide +kernel
theorem dX3_mixSet_75 : decode cX3_mixSet 75 = .ok (.aload_n 0, 1) := by decide +kernel
theorem dX3_mixSet_76 : decode cX3_mixSet 76 = .ok (.getfield 10, 3) := by decide +kernel
theorem dX3_mixSet_79 : decode cX3_mixSet 79 = .ok (.iload_n 3, 1) := by decide +kernel
theorem dX3_mixSet_80 : decode cX3_mixSet 80 = .ok (.bipush 100, 2) := by decide +kernel
theorem dX3_mixSet_82 : decode cX3_mixSet 82 = .ok (.iload 6, 2) := by decide +kernel
theorem dX3_mixSet_84 : decode cX3_mixSet 84 = .ok (.invokevirtual 241, 3) := by decide +kernel
theorem dX3_mixSet_87 : decode cX3_mixSet 87 = .ok (.i2l, 1) := by decide +kernel
theorem dX3_mixSet_88 : decode cX3_mixSet 88 = .ok (.invokestatic 262, 3) := by decide +kernel
theorem dX3_mixSet_91 : decode cX3_mixSet 91 = .ok (.lstore 4, 2) := by decide +kernel
theorem dX3_mixSet_93 : decode cX3_mixSet 93 = .ok (.iinc 6 1, 3) := by decide +kernel
theorem dX3_mixSet_96 : decode cX3_mixSet 96 = .ok (.goto (-30), 3) := by decide +kernel
theorem dX3_mixSet_99 : decode cX3_mixSet 99 = .ok (.lload 4, 2) := by decide +kernel
theorem dX3_mixSet_101 : decode cX3_mixSet 101 = .ok (.lreturn, 1) := by decide +kernel
theorem dX3_mixSite_0 : decode cX3_mixSite 0 = .ok (.lload_n 1, 1) := by decide +kernel
theorem dX3_mixSite_1 : decode cX3_mixSite 1 = .ok (.lstore 4, 2) := by decide +kernel
theorem dX3_mixSite_3 : decode cX3_mixSite 3 = .ok (.iconst 0, 1) := by decide +kernel
theorem dX3_mixSite_4 : decode cX3_mixSite 4 = .ok (.istore 6, 2) := by decide +kernel
theorem dX3_mixSite_6 : decode cX3_mixSite 6 = .ok (.iload 6, 2) := by decide +kernel
theorem dX3_mixSite_8 : decode cX3_mixSite 8 = .ok (.bipush 7, 2) := by decide +kernel
theorem dX3_mixSite_10 : decode cX3_mixSite 10 = .ok (.if_icmp .gt 27, 3) := by decide +kernel
theorem dX3_mixSite_13 : decode cX3_mixSite 13 = .ok (.lload 4, 2) := by decide +kernel
theorem dX3_mixSite_15 : decode cX3_mixSite 15 = .ok (.aload_n 0, 1) := by decide +kernel
theorem dX3_mixSite_16 : decode cX3_mixSite 16 = .ok (.getfield 10, 3) := by decide +kernel
theorem dX3_mixSite_19 : decode cX3_mixSite 19 = .ok (.iload_n 3, 1) := by decide +kernel
theorem dX3_mixSite_20 : decode cX3_mixSite 20 = .ok (.iload 6, 2) := by decide +kernel
theorem dX3_mixSite_22 : decode cX3_mixSite 22 = .ok (.invokevirtual 223, 3) := by decide +kernel
theorem dX3_mixSite_25 : decode cX3_mixSite 25 = .ok (.i2l, 1) := by decide +kernel
theorem dX3_mixSite_26 : decode cX3_mixSite 26 = .ok (.invokestatic 262, 3) := by decide +kernel
theorem dX3_mixSite_29 : decode cX3_mixSite 29 = .ok (.lstore 4, 2) := by decide +kernel
theorem dX3_mixSite_31 : decode cX3_mixSite 31 = .ok (.iinc 6 1, 3) := by decide +kernel
theorem dX3_mixSite_34 : decode cX3_mixSite 34 = .ok (.goto (-28), 3) := by decide +kernel
theorem dX3_mixSite_37 : decode cX3_mixSite 37 = .ok (.lload 4, 2) := by decide +kernel
theorem dX3_mixSite_39 : decode cX3_mixSite 39 = .ok (.aload_n 0, 1) := by decide +kernel
theorem dX3_mixSite_40 : decode cX3_mixSite 40 = .ok (.getfield 10, 3) := by decide +kernel
theorem dX3_mixSite_43 : decode cX3_mixSite 43 = .ok (.iload_n 3, 1) := by decide +kernel
theorem dX3_mixSite_44 : decode cX3_mixSite 44 = .ok (.invokevirtual 244, 3) := by decide +kernel
theorem dX3_mixSite_47 : decode cX3_mixSite 47 = .ok (.i2l, 1) := by decide +kernel
theorem dX3_mixSite_48 : decode cX3_mixSite 48 = .ok (.invokestatic 262, 3) := by decide +kernel
theorem dX3_mixSite_51 : decode cX3_mixSite 51 = .ok (.lreturn, 1) := by decide +kernel
theorem dX3_mixText_0 : decode cX3_mixText 0 = .ok (.lload_n 1, 1) := by decide +kernel
theorem dX3_mixText_1 : decode cX3_mixText 1 = .ok (.aload_n 0, 1) := by decide +kernel
theorem dX3_mixText_2 : decode cX3_mixText 2 = .ok (.getfield 26, 3) := by decide +kernel
theorem dX3_mixText_5 : decode cX3_mixText 5 = .ok (.getfield 173, 3) := by decide +kernel
theorem dX3_mixText_8 : decode cX3_mixText 8 = .ok (.i2l, 1) := by decide +kernel
theorem dX3_mixText_9 : decode cX3_mixText 9 = .ok (.invokestatic 262, 3) := by decide +kernel
theorem dX3_mixText_12 : decode cX3_mixText 12 = .ok (.lstore_n 3, 1) := by decide +kernel
theorem dX3_mixText_13 : decode cX3_mixText 13 = .ok (.iconst 0, 1) := by decide +kernel
theorem dX3_mixText_14 : decode cX3_mixText 14 = .ok (.istore 5, 2) := by decide +kernel
theorem dX3_mixText_16 : decode cX3_mixText 16 = .ok (.iload 5, 2) := by decide +kernel
theorem dX3_mixText_18 : decode cX3_mixText 18 = .ok (.aload_n 0, 1) := by decide +kernel
theorem dX3_mixText_19 : decode cX3_mixText 19 = .ok (.getfield 26, 3) := by decide +kernel
theorem dX3_mixText_22 : decode cX3_mixText 22 = .ok (.getfield 173, 3) := by decide +kernel
theorem dX3_mixText_25 : decode cX3_mixText 25 = .ok (.if_icmp .ge 27, 3) := by decide +kernel
theorem dX3_mixText_28 : decode cX3_mixText 28 = .ok (.lload_n 3, 1) := by decide +kernel
theorem dX3_mixText_29 : decode cX3_mixText 29 = .ok (.aload_n 0, 1) := by decide +kernel
theorem dX3_mixText_30 : decode cX3_mixText 30 = .ok (.getfield 26, 3) := by decide +kernel
theorem dX3_mixText_33 : decode cX3_mixText 33 = .ok (.getfield 348, 3) := by decide +kernel
theorem dX3_mixText_36 : decode cX3_mixText 36 = .ok (.iload 5, 2) := by decide +kernel
theorem dX3_mixText_38 : decode cX3_mixText 38 = .ok (.invokestatic 64, 3) := by decide +kernel
theorem dX3_mixText_41 : decode cX3_mixText 41 = .ok (.i2l, 1) := by decide +kernel
theorem dX3_mixText_42 : decode cX3_mixText 42 = .ok (.invokestatic 262, 3) := by decide +kernel
theorem dX3_mixText_45 : decode cX3_mixText 45 = .ok (.lstore_n 3, 1) := by decide +kernel
theorem dX3_mixText_46 : decode cX3_mixText 46 = .ok (.iinc 5 1, 3) := by decide +kernel
theorem dX3_mixText_49 : decode cX3_mixText 49 = .ok (.goto (-33), 3) := by decide +kernel
theorem dX3_mixText_52 : decode cX3_mixText 52 = .ok (.lload_n 3, 1) := by decide +kernel
theorem dX3_mixText_53 : decode cX3_mixText 53 = .ok (.lreturn, 1) := by decide +kernel
theorem dX3_bitsOfShare_0 : decode cX3_bitsOfShare 0 = .ok (.dload_n 0, 1) := by decide +kernel
theorem dX3_bitsOfShare_1 : decode cX3_bitsOfShare 1 = .ok (.dconst 0, 1) := by decide +kernel
theorem dX3_bitsOfShare_2 : decode cX3_bitsOfShare 2 = .ok (.dcmp .l, 1) := by decide +kernel
theorem dX3_bitsOfShare_3 : decode cX3_bitsOfShare 3 = .ok (.ifCond .gt 5, 3) := by decide +kernel
theorem dX3_bitsOfShare_6 : decode cX3_bitsOfShare 6 = .ok (.lconst 0, 1) := by decide +kernel
theorem dX3_bitsOfShare_7 : decode cX3_bitsOfShare 7 = .ok (.lreturn, 1) := by decide +kernel
theorem dX3_bitsOfShare_8 : decode cX3_bitsOfShare 8 = .ok (.dload_n 0, 1) := by decide +kernel
theorem dX3_bitsOfShare_9 : decode cX3_bitsOfShare 9 = .ok (.dstore_n 2, 1) := by decide +kernel
theorem dX3_bitsOfShare_10 : decode cX3_bitsOfShare 10 = .ok (.ldc2_w 351, 3) := by decide +kernel
theorem dX3_bitsOfShare_13 : decode cX3_bitsOfShare 13 = .ok (.lstore 4, 2) := by decide +kernel
theorem dX3_bitsOfShare_15 : decode cX3_bitsOfShare 15 = .ok (.iconst 0, 1) := by decide +kernel
theorem dX3_bitsOfShare_16 : decode cX3_bitsOfShare 16 = .ok (.istore 6, 2) := by decide +kernel
theorem dX3_bitsOfShare_18 : decode cX3_bitsOfShare 18 = .ok (.iload 6, 2) := by decide +kernel
theorem dX3_bitsOfShare_20 : decode cX3_bitsOfShare 20 = .ok (.sipush 1000, 3) := by decide +kernel
theorem dX3_bitsOfShare_23 : decode cX3_bitsOfShare 23 = .ok (.if_icmp .ge 27, 3) := by decide +kernel
theorem dX3_bitsOfShare_26 : decode cX3_bitsOfShare 26 = .ok (.dload_n 2, 1) := by decide +kernel
theorem dX3_bitsOfShare_27 : decode cX3_bitsOfShare 27 = .ok (.dconst 1, 1) := by decide +kernel
theorem dX3_bitsOfShare_28 : decode cX3_bitsOfShare 28 = .ok (.dcmp .g, 1) := by decide +kernel
theorem dX3_bitsOfShare_29 : decode cX3_bitsOfShare 29 = .ok (.ifCond .ge 21, 3) := by decide +kernel
theorem dX3_bitsOfShare_32 : decode cX3_bitsOfShare 32 = .ok (.dload_n 2, 1) := by decide +kernel
theorem dX3_bitsOfShare_33 : decode cX3_bitsOfShare 33 = .ok (.ldc2_w 353, 3) := by decide +kernel
theorem dX3_bitsOfShare_36 : decode cX3_bitsOfShare 36 = .ok (.dmul, 1) := by decide +kernel
theorem dX3_bitsOfShare_37 : decode cX3_bitsOfShare 37 = .ok (.dstore_n 2, 1) := by decide +kernel
theorem dX3_bitsOfShare_38 : decode cX3_bitsOfShare 38 = .ok (.lload 4, 2) := by decide +kernel
theorem dX3_bitsOfShare_40 : decode cX3_bitsOfShare 40 = .ok (.lconst 1, 1) := by decide +kernel
theorem dX3_bitsOfShare_41 : decode cX3_bitsOfShare 41 = .ok (.lsub, 1) := by decide +kernel
theorem dX3_bitsOfShare_42 : decode cX3_bitsOfShare 42 = .ok (.lstore 4, 2) := by decide +kernel
theorem dX3_bitsOfShare_44 : decode cX3_bitsOfShare 44 = .ok (.iinc 6 1, 3) := by decide +kernel
theorem dX3_bitsOfShare_47 : decode cX3_bitsOfShare 47 = .ok (.goto (-29), 3) := by decide +kernel
theorem dX3_bitsOfShare_50 : decode cX3_bitsOfShare 50 = .ok (.dload_n 2, 1) := by decide +kernel
theorem dX3_bitsOfShare_51 : decode cX3_bitsOfShare 51 = .ok (.dconst 1, 1) := by decide +kernel
theorem dX3_bitsOfShare_52 : decode cX3_bitsOfShare 52 = .ok (.dsub, 1) := by decide +kernel
theorem dX3_bitsOfShare_53 : decode cX3_bitsOfShare 53 = .ok (.ldc2_w 355, 3) := by decide +kernel
theorem dX3_bitsOfShare_56 : decode cX3_bitsOfShare 56 = .ok (.dmul, 1) := by decide +kernel
theorem dX3_bitsOfShare_57 : decode cX3_bitsOfShare 57 = .ok (.d2l, 1) := by decide +kernel
theorem dX3_bitsOfShare_58 : decode cX3_bitsOfShare 58 = .ok (.lstore 6, 2) := by decide +kernel
theorem dX3_bitsOfShare_60 : decode cX3_bitsOfShare 60 = .ok (.lload 4, 2) := by decide +kernel
theorem dX3_bitsOfShare_62 : decode cX3_bitsOfShare 62 = .ok (.bipush 52, 2) := by decide +kernel
theorem dX3_bitsOfShare_64 : decode cX3_bitsOfShare 64 = .ok (.lshl, 1) := by decide +kernel
theorem dX3_bitsOfShare_65 : decode cX3_bitsOfShare 65 = .ok (.lload 6, 2) := by decide +kernel
theorem dX3_bitsOfShare_67 : decode cX3_bitsOfShare 67 = .ok (.ladd, 1) := by decide +kernel
theorem dX3_bitsOfShare_68 : decode cX3_bitsOfShare 68 = .ok (.lreturn, 1) := by decide +kernel
theorem dX3_at_0 : decode cX3_at 0 = .ok (.aload_n 0, 1) := by decide +kernel
theorem dX3_at_1 : decode cX3_at 1 = .ok (.ifnull 19, 3) := by decide +kernel
theorem dX3_at_4 : decode cX3_at 4 = .ok (.iload_n 1, 1) := by decide +kernel
theorem dX3_at_5 : decode cX3_at 5 = .ok (.ifCond .lt 15, 3) := by decide +kernel
theorem dX3_at_8 : decode cX3_at 8 = .ok (.iload_n 1, 1) := by decide +kernel
theorem dX3_at_9 : decode cX3_at 9 = .ok (.aload_n 0, 1) := by decide +kernel
theorem dX3_at_10 : decode cX3_at 10 = .ok (.arraylength, 1) := by decide +kernel
theorem dX3_at_11 : decode cX3_at 11 = .ok (.if_icmp .ge 9, 3) := by decide +kernel
theorem dX3_at_14 : decode cX3_at 14 = .ok (.aload_n 0, 1) := by decide +kernel
theorem dX3_at_15 : decode cX3_at 15 = .ok (.iload_n 1, 1) := by decide +kernel
theorem dX3_at_16 : decode cX3_at 16 = .ok (.iaload, 1) := by decide +kernel
theorem dX3_at_17 : decode cX3_at 17 = .ok (.goto 4, 3) := by decide +kernel
theorem dX3_at_20 : decode cX3_at 20 = .ok (.iconst 0, 1) := by decide +kernel
theorem dX3_at_21 : decode cX3_at 21 = .ok (.ireturn, 1) := by decide +kernel
theorem dX3_put_0 : decode cX3_put 0 = .ok (.aload_n 0, 1) := by decide +kernel
theorem dX3_put_1 : decode cX3_put 1 = .ok (.ifnull 17, 3) := by decide +kernel
theorem dX3_put_4 : decode cX3_put 4 = .ok (.iload_n 1, 1) := by decide +kernel
theorem dX3_put_5 : decode cX3_put 5 = .ok (.ifCond .lt 13, 3) := by decide +kernel
theorem dX3_put_8 : decode cX3_put 8 = .ok (.iload_n 1, 1) := by decide +kernel
theorem dX3_put_9 : decode cX3_put 9 = .ok (.aload_n 0, 1) := by decide +kernel
theorem dX3_put_10 : decode cX3_put 10 = .ok (.arraylength, 1) := by decide +kernel
theorem dX3_put_11 : decode cX3_put 11 = .ok (.if_icmp .ge 7, 3) := by decide +kernel
theorem dX3_put_14 : decode cX3_put 14 = .ok (.aload_n 0, 1) := by decide +kernel
theorem dX3_put_15 : decode cX3_put 15 = .ok (.iload_n 1, 1) := by decide +kernel
theorem dX3_put_16 : decode cX3_put 16 = .ok (.iload_n 2, 1) := by decide +kernel
theorem dX3_put_17 : decode cX3_put 17 = .ok (.iastore, 1) := by decide +kernel
theorem dX3_put_18 : decode cX3_put 18 = .ok (.return_, 1) := by decide +kernel
theorem dX3_add_0 : decode cX3_add 0 = .ok (.aload_n 0, 1) := by decide +kernel
theorem dX3_add_1 : decode cX3_add 1 = .ok (.iload_n 1, 1) := by decide +kernel
theorem dX3_add_2 : decode cX3_add 2 = .ok (.aload_n 0, 1) := by decide +kernel
theorem dX3_add_3 : decode cX3_add 3 = .ok (.iload_n 1, 1) := by decide +kernel
theorem dX3_add_4 : decode cX3_add 4 = .ok (.invokestatic 64, 3) := by decide +kernel
theorem dX3_add_7 : decode cX3_add 7 = .ok (.iload_n 2, 1) := by decide +kernel
theorem dX3_add_8 : decode cX3_add 8 = .ok (.iadd, 1) := by decide +kernel
theorem dX3_add_9 : decode cX3_add 9 = .ok (.invokestatic 168, 3) := by decide +kernel
theorem dX3_add_12 : decode cX3_add 12 = .ok (.return_, 1) := by decide +kernel
theorem dX3_copy_0 : decode cX3_copy 0 = .ok (.aload_n 0, 1) := by decide +kernel
theorem dX3_copy_1 : decode cX3_copy 1 = .ok (.ifnull 21, 3) := by decide +kernel
theorem dX3_copy_4 : decode cX3_copy 4 = .ok (.aload_n 1, 1) := by decide +kernel
theorem dX3_copy_5 : decode cX3_copy 5 = .ok (.ifnull 17, 3) := by decide +kernel
theorem dX3_copy_8 : decode cX3_copy 8 = .ok (.aload_n 0, 1) := by decide +kernel
theorem dX3_copy_9 : decode cX3_copy 9 = .ok (.iconst 0, 1) := by decide +kernel
theorem dX3_copy_10 : decode cX3_copy 10 = .ok (.aload_n 1, 1) := by decide +kernel
theorem dX3_copy_11 : decode cX3_copy 11 = .ok (.iconst 0, 1) := by decide +kernel
theorem dX3_copy_12 : decode cX3_copy 12 = .ok (.aload_n 0, 1) := by decide +kernel
theorem dX3_copy_13 : decode cX3_copy 13 = .ok (.arraylength, 1) := by decide +kernel
theorem dX3_copy_14 : decode cX3_copy 14 = .ok (.aload_n 1, 1) := by decide +kernel
theorem dX3_copy_15 : decode cX3_copy 15 = .ok (.arraylength, 1) := by decide +kernel
theorem dX3_copy_16 : decode cX3_copy 16 = .ok (.invokestatic 341, 3) := by decide +kernel
theorem dX3_copy_19 : decode cX3_copy 19 = .ok (.invokestatic 357, 3) := by decide +kernel
theorem dX3_copy_22 : decode cX3_copy 22 = .ok (.return_, 1) := by decide +kernel
