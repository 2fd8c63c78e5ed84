theorem dX0_init_0 : decode cX0_init 0 = .ok (.aload_n 0, 1) := by decide +kernel
theorem dX0_init_1 : decode cX0_init 1 = .ok (.invokespecial 3, 3) := by decide +kernel
theorem dX0_init_4 : decode cX0_init 4 = .ok (.aload_n 0, 1) := by decide +kernel
theorem dX0_init_5 : decode cX0_init 5 = .ok (.iconst 2, 1) := by decide +kernel
theorem dX0_init_6 : decode cX0_init 6 = .ok (.newarray .int, 2) := by decide +kernel
theorem dX0_init_8 : decode cX0_init 8 = .ok (.dup, 1) := by decide +kernel
theorem dX0_init_9 : decode cX0_init 9 = .ok (.iconst 0, 1) := by decide +kernel
theorem dX0_init_10 : decode cX0_init 10 = .ok (.bipush 14, 2) := by decide +kernel
theorem dX0_init_12 : decode cX0_init 12 = .ok (.iastore, 1) := by decide +kernel
theorem dX0_init_13 : decode cX0_init 13 = .ok (.dup, 1) := by decide +kernel
theorem dX0_init_14 : decode cX0_init 14 = .ok (.iconst 1, 1) := by decide +kernel
theorem dX0_init_15 : decode cX0_init 15 = .ok (.iconst 3, 1) := by decide +kernel
theorem dX0_init_16 : decode cX0_init 16 = .ok (.iastore, 1) := by decide +kernel
theorem dX0_init_17 : decode cX0_init 17 = .ok (.putfield 9, 3) := by decide +kernel
theorem dX0_init_20 : decode cX0_init 20 = .ok (.aload_n 0, 1) := by decide +kernel
theorem dX0_init_21 : decode cX0_init 21 = .ok (.bipush 24, 2) := by decide +kernel
theorem dX0_init_23 : decode cX0_init 23 = .ok (.newarray .int, 2) := by decide +kernel
theorem dX0_init_25 : decode cX0_init 25 = .ok (.putfield 15, 3) := by decide +kernel
theorem dX0_init_28 : decode cX0_init 28 = .ok (.aload_n 0, 1) := by decide +kernel
theorem dX0_init_29 : decode cX0_init 29 = .ok (.bipush 24, 2) := by decide +kernel
theorem dX0_init_31 : decode cX0_init 31 = .ok (.newarray .int, 2) := by decide +kernel
theorem dX0_init_33 : decode cX0_init 33 = .ok (.putfield 18, 3) := by decide +kernel
theorem dX0_init_36 : decode cX0_init 36 = .ok (.aload_n 0, 1) := by decide +kernel
theorem dX0_init_37 : decode cX0_init 37 = .ok (.bipush 24, 2) := by decide +kernel
theorem dX0_init_39 : decode cX0_init 39 = .ok (.newarray .int, 2) := by decide +kernel
theorem dX0_init_41 : decode cX0_init 41 = .ok (.putfield 21, 3) := by decide +kernel
theorem dX0_init_44 : decode cX0_init 44 = .ok (.aload_n 0, 1) := by decide +kernel
theorem dX0_init_45 : decode cX0_init 45 = .ok (.bipush 72, 2) := by decide +kernel
theorem dX0_init_47 : decode cX0_init 47 = .ok (.newarray .int, 2) := by decide +kernel
theorem dX0_init_49 : decode cX0_init 49 = .ok (.putfield 24, 3) := by decide +kernel
theorem dX0_init_52 : decode cX0_init 52 = .ok (.aload_n 0, 1) := by decide +kernel
theorem dX0_init_53 : decode cX0_init 53 = .ok (.bipush 96, 2) := by decide +kernel
theorem dX0_init_55 : decode cX0_init 55 = .ok (.newarray .int, 2) := by decide +kernel
theorem dX0_init_57 : decode cX0_init 57 = .ok (.putfield 27, 3) := by decide +kernel
theorem dX0_init_60 : decode cX0_init 60 = .ok (.aload_n 0, 1) := by decide +kernel
theorem dX0_init_61 : decode cX0_init 61 = .ok (.iconst 4, 1) := by decide +kernel
theorem dX0_init_62 : decode cX0_init 62 = .ok (.newarray .int, 2) := by decide +kernel
theorem dX0_init_64 : decode cX0_init 64 = .ok (.putfield 30, 3) := by decide +kernel
theorem dX0_init_67 : decode cX0_init 67 = .ok (.aload_n 0, 1) := by decide +kernel
theorem dX0_init_68 : decode cX0_init 68 = .ok (.iconst 4, 1) := by decide +kernel
theorem dX0_init_69 : decode cX0_init 69 = .ok (.newarray .int, 2) := by decide +kernel
theorem dX0_init_71 : decode cX0_init 71 = .ok (.putfield 33, 3) := by decide +kernel
theorem dX0_init_74 : decode cX0_init 74 = .ok (.aload_n 0, 1) := by decide +kernel
theorem dX0_init_75 : decode cX0_init 75 = .ok (.bipush 6, 2) := by decide +kernel
theorem dX0_init_77 : decode cX0_init 77 = .ok (.newarray .int, 2) := by decide +kernel
theorem dX0_init_79 : decode cX0_init 79 = .ok (.putfield 36, 3) := by decide +kernel
theorem dX0_init_82 : decode cX0_init 82 = .ok (.aload_n 0, 1) := by decide +kernel
theorem dX0_init_83 : decode cX0_init 83 = .ok (.bipush 6, 2) := by decide +kernel
theorem dX0_init_85 : decode cX0_init 85 = .ok (.newarray .int, 2) := by decide +kernel
theorem dX0_init_87 : decode cX0_init 87 = .ok (.putfield 39, 3) := by decide +kernel
theorem dX0_init_90 : decode cX0_init 90 = .ok (.aload_n 0, 1) := by decide +kernel
theorem dX0_init_91 : decode cX0_init 91 = .ok (.bipush 6, 2) := by decide +kernel
theorem dX0_init_93 : decode cX0_init 93 = .ok (.newarray .int, 2) := by decide +kernel
theorem dX0_init_95 : decode cX0_init 95 = .ok (.putfield 42, 3) := by decide +kernel
theorem dX0_init_98 : decode cX0_init 98 = .ok (.aload_n 0, 1) := by decide +kernel
theorem dX0_init_99 : decode cX0_init 99 = .ok (.bipush 6, 2) := by decide +kernel
theorem dX0_init_101 : decode cX0_init 101 = .ok (.newarray .int, 2) := by decide +kernel
theorem dX0_init_103 : decode cX0_init 103 = .ok (.putfield 45, 3) := by decide +kernel
theorem dX0_init_106 : decode cX0_init 106 = .ok (.aload_n 0, 1) := by decide +kernel
theorem dX0_init_107 : decode cX0_init 107 = .ok (.getfield 15, 3) := by decide +kernel
theorem dX0_init_110 : decode cX0_init 110 = .ok (.iconst (-1), 1) := by decide +kernel
theorem dX0_init_111 : decode cX0_init 111 = .ok (.invokestatic 48, 3) := by decide +kernel
theorem dX0_init_114 : decode cX0_init 114 = .ok (.aload_n 0, 1) := by decide +kernel
theorem dX0_init_115 : decode cX0_init 115 = .ok (.getfield 24, 3) := by decide +kernel
theorem dX0_init_118 : decode cX0_init 118 = .ok (.iconst (-1), 1) := by decide +kernel
theorem dX0_init_119 : decode cX0_init 119 = .ok (.invokestatic 48, 3) := by decide +kernel
theorem dX0_init_122 : decode cX0_init 122 = .ok (.return_, 1) := by decide +kernel
theorem dX0_copyFrom_0 : decode cX0_copyFrom 0 = .ok (.aload_n 1, 1) := by decide +kernel
theorem dX0_copyFrom_1 : decode cX0_copyFrom 1 = .ok (.ifnonnull 4, 3) := by decide +kernel
theorem dX0_copyFrom_4 : decode cX0_copyFrom 4 = .ok (.return_, 1) := by decide +kernel
theorem dX0_copyFrom_5 : decode cX0_copyFrom 5 = .ok (.aload_n 0, 1) := by decide +kernel
theorem dX0_copyFrom_6 : decode cX0_copyFrom 6 = .ok (.aload_n 1, 1) := by decide +kernel
theorem dX0_copyFrom_7 : decode cX0_copyFrom 7 = .ok (.getfield 54, 3) := by decide +kernel
theorem dX0_copyFrom_10 : decode cX0_copyFrom 10 = .ok (.putfield 54, 3) := by decide +kernel
theorem dX0_copyFrom_13 : decode cX0_copyFrom 13 = .ok (.aload_n 0, 1) := by decide +kernel
theorem dX0_copyFrom_14 : decode cX0_copyFrom 14 = .ok (.aload_n 1, 1) := by decide +kernel
theorem dX0_copyFrom_15 : decode cX0_copyFrom 15 = .ok (.getfield 58, 3) := by decide +kernel
theorem dX0_copyFrom_18 : decode cX0_copyFrom 18 = .ok (.putfield 58, 3) := by decide +kernel
theorem dX0_copyFrom_21 : decode cX0_copyFrom 21 = .ok (.aload_n 0, 1) := by decide +kernel
theorem dX0_copyFrom_22 : decode cX0_copyFrom 22 = .ok (.aload_n 1, 1) := by decide +kernel
theorem dX0_copyFrom_23 : decode cX0_copyFrom 23 = .ok (.getfield 61, 3) := by decide +kernel
theorem dX0_copyFrom_26 : decode cX0_copyFrom 26 = .ok (.putfield 61, 3) := by decide +kernel
theorem dX0_copyFrom_29 : decode cX0_copyFrom 29 = .ok (.aload_n 0, 1) := by decide +kernel
theorem dX0_copyFrom_30 : decode cX0_copyFrom 30 = .ok (.aload_n 1, 1) := by decide +kernel
theorem dX0_copyFrom_31 : decode cX0_copyFrom 31 = .ok (.getfield 64, 3) := by decide +kernel
theorem dX0_copyFrom_34 : decode cX0_copyFrom 34 = .ok (.putfield 64, 3) := by decide +kernel
theorem dX0_copyFrom_37 : decode cX0_copyFrom 37 = .ok (.aload_n 0, 1) := by decide +kernel
theorem dX0_copyFrom_38 : decode cX0_copyFrom 38 = .ok (.aload_n 1, 1) := by decide +kernel
theorem dX0_copyFrom_39 : decode cX0_copyFrom 39 = .ok (.getfield 67, 3) := by decide +kernel
theorem dX0_copyFrom_42 : decode cX0_copyFrom 42 = .ok (.putfield 67, 3) := by decide +kernel
theorem dX0_copyFrom_45 : decode cX0_copyFrom 45 = .ok (.aload_n 1, 1) := by decide +kernel
theorem dX0_copyFrom_46 : decode cX0_copyFrom 46 = .ok (.getfield 9, 3) := by decide +kernel
theorem dX0_copyFrom_49 : decode cX0_copyFrom 49 = .ok (.aload_n 0, 1) := by decide +kernel
theorem dX0_copyFrom_50 : decode cX0_copyFrom 50 = .ok (.getfield 9, 3) := by decide +kernel
theorem dX0_copyFrom_53 : decode cX0_copyFrom 53 = .ok (.invokestatic 70, 3) := by decide +kernel
theorem dX0_copyFrom_56 : decode cX0_copyFrom 56 = .ok (.aload_n 1, 1) := by decide +kernel
theorem dX0_copyFrom_57 : decode cX0_copyFrom 57 = .ok (.getfield 15, 3) := by decide +kernel
theorem dX0_copyFrom_60 : decode cX0_copyFrom 60 = .ok (.aload_n 0, 1) := by decide +kernel
theorem dX0_copyFrom_61 : decode cX0_copyFrom 61 = .ok (.getfield 15, 3) := by decide +kernel
theorem dX0_copyFrom_64 : decode cX0_copyFrom 64 = .ok (.invokestatic 70, 3) := by decide +kernel
theorem dX0_copyFrom_67 : decode cX0_copyFrom 67 = .ok (.aload_n 1, 1) := by decide +kernel
theorem dX0_copyFrom_68 : decode cX0_copyFrom 68 = .ok (.getfield 18, 3) := by decide +kernel
theorem dX0_copyFrom_71 : decode cX0_copyFrom 71 = .ok (.aload_n 0, 1) := by decide +kernel
theorem dX0_copyFrom_72 : decode cX0_copyFrom 72 = .ok (.getfield 18, 3) := by decide +kernel
theorem dX0_copyFrom_75 : decode cX0_copyFrom 75 = .ok (.invokestatic 70, 3) := by decide +kernel
theorem dX0_copyFrom_78 : decode cX0_copyFrom 78 = .ok (.aload_n 1, 1) := by decide +kernel
theorem dX0_copyFrom_79 : decode cX0_copyFrom 79 = .ok (.getfield 21, 3) := by decide +kernel
theorem dX0_copyFrom_82 : decode cX0_copyFrom 82 = .ok (.aload_n 0, 1) := by decide +kernel
theorem dX0_copyFrom_83 : decode cX0_copyFrom 83 = .ok (.getfield 21, 3) := by decide +kernel
theorem dX0_copyFrom_86 : decode cX0_copyFrom 86 = .ok (.invokestatic 70, 3) := by decide +kernel
theorem dX0_copyFrom_89 : decode cX0_copyFrom 89 = .ok (.aload_n 1, 1) := by decide +kernel
theorem dX0_copyFrom_90 : decode cX0_copyFrom 90 = .ok (.getfield 24, 3) := by decide +kernel
theorem dX0_copyFrom_93 : decode cX0_copyFrom 93 = .ok (.aload_n 0, 1) := by decide +kernel
theorem dX0_copyFrom_94 : decode cX0_copyFrom 94 = .ok (.getfield 24, 3) := by decide +kernel
theorem dX0_copyFrom_97 : decode cX0_copyFrom 97 = .ok (.invokestatic 70, 3) := by decide +kernel
theorem dX0_copyFrom_100 : decode cX0_copyFrom 100 = .ok (.aload_n 1, 1) := by decide +kernel
theorem dX0_copyFrom_101 : decode cX0_copyFrom 101 = .ok (.getfield 27, 3) := by decide +kernel
theorem dX0_copyFrom_104 : decode cX0_copyFrom 104 = .ok (.aload_n 0, 1) := by decide +kernel
theorem dX0_copyFrom_105 : decode cX0_copyFrom 105 = .ok (.getfield 27, 3) := by decide +kernel
theorem dX0_copyFrom_108 : decode cX0_copyFrom 108 = .ok (.invokestatic 70, 3) := by decide +kernel
theorem dX0_copyFrom_111 : decode cX0_copyFrom 111 = .ok (.aload_n 1, 1) := by decide +kernel
theorem dX0_copyFrom_112 : decode cX0_copyFrom 112 = .ok (.getfield 30, 3) := by decide +kernel
theorem dX0_copyFrom_115 : decode cX0_copyFrom 115 = .ok (.aload_n 0, 1) := by decide +kernel
theorem dX0_copyFrom_116 : decode cX0_copyFrom 116 = .ok (.getfield 30, 3) := by decide +kernel
theorem dX0_copyFrom_119 : decode cX0_copyFrom 119 = .ok (.invokestatic 70, 3) := by decide +kernel
theorem dX0_copyFrom_122 : decode cX0_copyFrom 122 = .ok (.aload_n 1, 1) := by decide +kernel
theorem dX0_copyFrom_123 : decode cX0_copyFrom 123 = .ok (.getfield 33, 3) := by decide +kernel
theorem dX0_copyFrom_126 : decode cX0_copyFrom 126 = .ok (.aload_n 0, 1) := by decide +kernel
theorem dX0_copyFrom_127 : decode cX0_copyFrom 127 = .ok (.getfield 33, 3) := by decide +kernel
theorem dX0_copyFrom_130 : decode cX0_copyFrom 130 = .ok (.invokestatic 70, 3) := by decide +kernel
theorem dX0_copyFrom_133 : decode cX0_copyFrom 133 = .ok (.aload_n 1, 1) := by decide +kernel
theorem dX0_copyFrom_134 : decode cX0_copyFrom 134 = .ok (.getfield 36, 3) := by decide +kernel
theorem dX0_copyFrom_137 : decode cX0_copyFrom 137 = .ok (.aload_n 0, 1) := by decide +kernel
theorem dX0_copyFrom_138 : decode cX0_copyFrom 138 = .ok (.getfield 36, 3) := by decide +kernel
theorem dX0_copyFrom_141 : decode cX0_copyFrom 141 = .ok (.invokestatic 70, 3) := by decide +kernel
theorem dX0_copyFrom_144 : decode cX0_copyFrom 144 = .ok (.aload_n 1, 1) := by decide +kernel
theorem dX0_copyFrom_145 : decode cX0_copyFrom 145 = .ok (.getfield 39, 3) := by decide +kernel
theorem dX0_copyFrom_148 : decode cX0_copyFrom 148 = .ok (.aload_n 0, 1) := by decide +kernel
theorem dX0_copyFrom_149 : decode cX0_copyFrom 149 = .ok (.getfield 39, 3) := by decide +kernel
theorem dX0_copyFrom_152 : decode cX0_copyFrom 152 = .ok (.invokestatic 70, 3) := by decide +kernel
theorem dX0_copyFrom_155 : decode cX0_copyFrom 155 = .ok (.aload_n 1, 1) := by decide +kernel
theorem dX0_copyFrom_156 : decode cX0_copyFrom 156 = .ok (.getfield 42, 3) := by decide +kernel
theorem dX0_copyFrom_159 : decode cX0_copyFrom 159 = .ok (.aload_n 0, 1) := by decide +kernel
theorem dX0_copyFrom_160 : decode cX0_copyFrom 160 = .ok (.getfield 42, 3) := by decide +kernel
theorem dX0_copyFrom_163 : decode cX0_copyFrom 163 = .ok (.invokestatic 70, 3) := by decide +kernel
theorem dX0_copyFrom_166 : decode cX0_copyFrom 166 = .ok (.aload_n 1, 1) := by decide +kernel
theorem dX0_copyFrom_167 : decode cX0_copyFrom 167 = .ok (.getfield 45, 3) := by decide +kernel
theorem dX0_copyFrom_170 : decode cX0_copyFrom 170 = .ok (.aload_n 0, 1) := by decide +kernel
theorem dX0_copyFrom_171 : decode cX0_copyFrom 171 = .ok (.getfield 45, 3) := by decide +kernel
theorem dX0_copyFrom_174 : decode cX0_copyFrom 174 = .ok (.invokestatic 70, 3) := by decide +kernel
theorem dX0_copyFrom_177 : decode cX0_copyFrom 177 = .ok (.return_, 1) := by decide +kernel
theorem dX0_isSet_0 : decode cX0_isSet 0 = .ok (.iload_n 1, 1) := by decide +kernel
theorem dX0_isSet_1 : decode cX0_isSet 1 = .ok (.ifCond .lt 15, 3) := by decide +kernel
theorem dX0_isSet_4 : decode cX0_isSet 4 = .ok (.iload_n 1, 1) := by decide +kernel
theorem dX0_isSet_5 : decode cX0_isSet 5 = .ok (.aload_n 0, 1) := by decide +kernel
theorem dX0_isSet_6 : decode cX0_isSet 6 = .ok (.getfield 54, 3) := by decide +kernel
theorem dX0_isSet_9 : decode cX0_isSet 9 = .ok (.if_icmp .ge 7, 3) := by decide +kernel
theorem dX0_isSet_12 : decode cX0_isSet 12 = .ok (.iconst 1, 1) := by decide +kernel
theorem dX0_isSet_13 : decode cX0_isSet 13 = .ok (.goto 4, 3) := by decide +kernel
theorem dX0_isSet_16 : decode cX0_isSet 16 = .ok (.iconst 0, 1) := by decide +kernel
theorem dX0_isSet_17 : decode cX0_isSet 17 = .ok (.ireturn, 1) := by decide +kernel
theorem dX0_isInYard_0 : decode cX0_isInYard 0 = .ok (.aload_n 0, 1) := by decide +kernel
theorem dX0_isInYard_1 : decode cX0_isInYard 1 = .ok (.iload_n 1, 1) := by decide +kernel
theorem dX0_isInYard_2 : decode cX0_isInYard 2 = .ok (.invokevirtual 74, 3) := by decide +kernel
theorem dX0_isInYard_5 : decode cX0_isInYard 5 = .ok (.ifCond .eq 19, 3) := by decide +kernel
theorem dX0_isInYard_8 : decode cX0_isInYard 8 = .ok (.aload_n 0, 1) := by decide +kernel
theorem dX0_isInYard_9 : decode cX0_isInYard 9 = .ok (.getfield 15, 3) := by decide +kernel
theorem dX0_isInYard_12 : decode cX0_isInYard 12 = .ok (.iload_n 1, 1) := by decide +kernel
theorem dX0_isInYard_13 : decode cX0_isInYard 13 = .ok (.invokestatic 78, 3) := by decide +kernel
theorem dX0_isInYard_16 : decode cX0_isInYard 16 = .ok (.iconst (-1), 1) := by decide +kernel
theorem dX0_isInYard_17 : decode cX0_isInYard 17 = .ok (.if_icmp .ne 7, 3) := by decide +kernel
theorem dX0_isInYard_20 : decode cX0_isInYard 20 = .ok (.iconst 1, 1) := by decide +kernel
theorem dX0_isInYard_21 : decode cX0_isInYard 21 = .ok (.goto 4, 3) := by decide +kernel
theorem dX0_isInYard_24 : decode cX0_isInYard 24 = .ok (.iconst 0, 1) := by decide +kernel
theorem dX0_isInYard_25 : decode cX0_isInYard 25 = .ok (.ireturn, 1) := by decide +kernel
theorem dX0_isOnSite_0 : decode cX0_isOnSite 0 = .ok (.aload_n 0, 1) := by decide +kernel
theorem dX0_isOnSite_1 : decode cX0_isOnSite 1 = .ok (.iload_n 1, 1) := by decide +kernel
theorem dX0_isOnSite_2 : decode cX0_isOnSite 2 = .ok (.invokevirtual 74, 3) := by decide +kernel
theorem dX0_isOnSite_5 : decode cX0_isOnSite 5 = .ok (.ifCond .eq 19, 3) := by decide +kernel
theorem dX0_isOnSite_8 : decode cX0_isOnSite 8 = .ok (.aload_n 0, 1) := by decide +kernel
theorem dX0_isOnSite_9 : decode cX0_isOnSite 9 = .ok (.getfield 15, 3) := by decide +kernel
theorem dX0_isOnSite_12 : decode cX0_isOnSite 12 = .ok (.iload_n 1, 1) := by decide +kernel
theorem dX0_isOnSite_13 : decode cX0_isOnSite 13 = .ok (.invokestatic 78, 3) := by decide +kernel
theorem dX0_isOnSite_16 : decode cX0_isOnSite 16 = .ok (.iconst (-1), 1) := by decide +kernel
theorem dX0_isOnSite_17 : decode cX0_isOnSite 17 = .ok (.if_icmp .eq 7, 3) := by decide +kernel
theorem dX0_isOnSite_20 : decode cX0_isOnSite 20 = .ok (.iconst 1, 1) := by decide +kernel
theorem dX0_isOnSite_21 : decode cX0_isOnSite 21 = .ok (.goto 4, 3) := by decide +kernel
theorem dX0_isOnSite_24 : decode cX0_isOnSite 24 = .ok (.iconst 0, 1) := by decide +kernel
theorem dX0_isOnSite_25 : decode cX0_isOnSite 25 = .ok (.ireturn, 1) := by decide +kernel
theorem dX0_isOn_0 : decode cX0_isOn 0 = .ok (.aload_n 0, 1) := by decide +kernel
theorem dX0_isOn_1 : decode cX0_isOn 1 = .ok (.iload_n 1, 1) := by decide +kernel
theorem dX0_isOn_2 : decode cX0_isOn 2 = .ok (.invokevirtual 82, 3) := by decide +kernel
theorem dX0_isOn_5 : decode cX0_isOn 5 = .ok (.ifCond .eq 19, 3) := by decide +kernel
theorem dX0_isOn_8 : decode cX0_isOn 8 = .ok (.aload_n 0, 1) := by decide +kernel
theorem dX0_isOn_9 : decode cX0_isOn 9 = .ok (.getfield 15, 3) := by decide +kernel
theorem dX0_isOn_12 : decode cX0_isOn 12 = .ok (.iload_n 1, 1) := by decide +kernel
theorem dX0_isOn_13 : decode cX0_isOn 13 = .ok (.invokestatic 78, 3) := by decide +kernel
theorem dX0_isOn_16 : decode cX0_isOn 16 = .ok (.iload_n 2, 1) := by decide +kernel
theorem dX0_isOn_17 : decode cX0_isOn 17 = .ok (.if_icmp .ne 7, 3) := by decide +kernel
theorem dX0_isOn_20 : decode cX0_isOn 20 = .ok (.iconst 1, 1) := by decide +kernel
theorem dX0_isOn_21 : decode cX0_isOn 21 = .ok (.goto 4, 3) := by decide +kernel
theorem dX0_isOn_24 : decode cX0_isOn 24 = .ok (.iconst 0, 1) := by decide +kernel
theorem dX0_isOn_25 : decode cX0_isOn 25 = .ok (.ireturn, 1) := by decide +kernel
theorem dX0_stockOf_0 : decode cX0_stockOf 0 = .ok (.aload_n 0, 1) := by decide +kernel
theorem dX0_stockOf_1 : decode cX0_stockOf 1 = .ok (.getfield 27, 3) := by decide +kernel
theorem dX0_stockOf_4 : decode cX0_stockOf 4 = .ok (.iload_n 1, 1) := by decide +kernel
theorem dX0_stockOf_5 : decode cX0_stockOf 5 = .ok (.iconst 4, 1) := by decide +kernel
theorem dX0_stockOf_6 : decode cX0_stockOf 6 = .ok (.imul, 1) := by decide +kernel
theorem dX0_stockOf_7 : decode cX0_stockOf 7 = .ok (.iload_n 2, 1) := by decide +kernel
theorem dX0_stockOf_8 : decode cX0_stockOf 8 = .ok (.iadd, 1) := by decide +kernel
theorem dX0_stockOf_9 : decode cX0_stockOf 9 = .ok (.invokestatic 78, 3) := by decide +kernel
theorem dX0_stockOf_12 : decode cX0_stockOf 12 = .ok (.ireturn, 1) := by decide +kernel
theorem dX0_lackOf_0 : decode cX0_lackOf 0 = .ok (.getstatic 85, 3) := by decide +kernel
theorem dX0_lackOf_3 : decode cX0_lackOf 3 = .ok (.iload_n 2, 1) := by decide +kernel
theorem dX0_lackOf_4 : decode cX0_lackOf 4 = .ok (.invokestatic 78, 3) := by decide +kernel
theorem dX0_lackOf_7 : decode cX0_lackOf 7 = .ok (.aload_n 0, 1) := by decide +kernel
theorem dX0_lackOf_8 : decode cX0_lackOf 8 = .ok (.getfield 27, 3) := by decide +kernel
theorem dX0_lackOf_11 : decode cX0_lackOf 11 = .ok (.iload_n 1, 1) := by decide +kernel
theorem dX0_lackOf_12 : decode cX0_lackOf 12 = .ok (.iconst 4, 1) := by decide +kernel
theorem dX0_lackOf_13 : decode cX0_lackOf 13 = .ok (.imul, 1) := by decide +kernel
theorem dX0_lackOf_14 : decode cX0_lackOf 14 = .ok (.iload_n 2, 1) := by decide +kernel
theorem dX0_lackOf_15 : decode cX0_lackOf 15 = .ok (.iadd, 1) := by decide +kernel
theorem dX0_lackOf_16 : decode cX0_lackOf 16 = .ok (.invokestatic 78, 3) := by decide +kernel
theorem dX0_lackOf_19 : decode cX0_lackOf 19 = .ok (.isub, 1) := by decide +kernel
theorem dX0_lackOf_20 : decode cX0_lackOf 20 = .ok (.ireturn, 1) := by decide +kernel
theorem dX0_partsIn_0 : decode cX0_partsIn 0 = .ok (.iconst 0, 1) := by decide +kernel
theorem dX0_partsIn_1 : decode cX0_partsIn 1 = .ok (.istore_n 2, 1) := by decide +kernel
theorem dX0_partsIn_2 : decode cX0_partsIn 2 = .ok (.iconst 0, 1) := by decide +kernel
theorem dX0_partsIn_3 : decode cX0_partsIn 3 = .ok (.istore_n 3, 1) := by decide +kernel
theorem dX0_partsIn_4 : decode cX0_partsIn 4 = .ok (.iload_n 3, 1) := by decide +kernel
theorem dX0_partsIn_5 : decode cX0_partsIn 5 = .ok (.iconst 4, 1) := by decide +kernel
theorem dX0_partsIn_6 : decode cX0_partsIn 6 = .ok (.if_icmp .ge 18, 3) := by decide +kernel
theorem dX0_partsIn_9 : decode cX0_partsIn 9 = .ok (.iload_n 2, 1) := by decide +kernel
theorem dX0_partsIn_10 : decode cX0_partsIn 10 = .ok (.aload_n 0, 1) := by decide +kernel
theorem dX0_partsIn_11 : decode cX0_partsIn 11 = .ok (.iload_n 1, 1) := by decide +kernel
theorem dX0_partsIn_12 : decode cX0_partsIn 12 = .ok (.iload_n 3, 1) := by decide +kernel
theorem dX0_partsIn_13 : decode cX0_partsIn 13 = .ok (.invokevirtual 88, 3) := by decide +kernel
theorem dX0_partsIn_16 : decode cX0_partsIn 16 = .ok (.iadd, 1) := by decide +kernel
theorem dX0_partsIn_17 : decode cX0_partsIn 17 = .ok (.istore_n 2, 1) := by decide +kernel
theorem dX0_partsIn_18 : decode cX0_partsIn 18 = .ok (.iinc 3 1, 3) := by decide +kernel
theorem dX0_partsIn_21 : decode cX0_partsIn 21 = .ok (.goto (-17), 3) := by decide +kernel
theorem dX0_partsIn_24 : decode cX0_partsIn 24 = .ok (.iload_n 2, 1) := by decide +kernel
theorem dX0_partsIn_25 : decode cX0_partsIn 25 = .ok (.ireturn, 1) := by decide +kernel
theorem dX0_isWhole_0 : decode cX0_isWhole 0 = .ok (.iconst 0, 1) := by decide +kernel
theorem dX0_isWhole_1 : decode cX0_isWhole 1 = .ok (.istore_n 2, 1) := by decide +kernel
theorem dX0_isWhole_2 : decode cX0_isWhole 2 = .ok (.iload_n 2, 1) := by decide +kernel
theorem dX0_isWhole_3 : decode cX0_isWhole 3 = .ok (.iconst 4, 1) := by decide +kernel
theorem dX0_isWhole_4 : decode cX0_isWhole 4 = .ok (.if_icmp .ge 33, 3) := by decide +kernel
theorem dX0_isWhole_7 : decode cX0_isWhole 7 = .ok (.aload_n 0, 1) := by decide +kernel
theorem dX0_isWhole_8 : decode cX0_isWhole 8 = .ok (.getfield 27, 3) := by decide +kernel
theorem dX0_isWhole_11 : decode cX0_isWhole 11 = .ok (.iload_n 1, 1) := by decide +kernel
theorem dX0_isWhole_12 : decode cX0_isWhole 12 = .ok (.iconst 4, 1) := by decide +kernel
theorem dX0_isWhole_13 : decode cX0_isWhole 13 = .ok (.imul, 1) := by decide +kernel
theorem dX0_isWhole_14 : decode cX0_isWhole 14 = .ok (.iload_n 2, 1) := by decide +kernel
theorem dX0_isWhole_15 : decode cX0_isWhole 15 = .ok (.iadd, 1) := by decide +kernel
theorem dX0_isWhole_16 : decode cX0_isWhole 16 = .ok (.invokestatic 78, 3) := by decide +kernel
theorem dX0_isWhole_19 : decode cX0_isWhole 19 = .ok (.getstatic 85, 3) := by decide +kernel
theorem dX0_isWhole_22 : decode cX0_isWhole 22 = .ok (.iload_n 2, 1) := by decide +kernel
theorem dX0_isWhole_23 : decode cX0_isWhole 23 = .ok (.invokestatic 78, 3) := by decide +kernel
theorem dX0_isWhole_26 : decode cX0_isWhole 26 = .ok (.if_icmp .ge 5, 3) := by decide +kernel
theorem dX0_isWhole_29 : decode cX0_isWhole 29 = .ok (.iconst 0, 1) := by decide +kernel
theorem dX0_isWhole_30 : decode cX0_isWhole 30 = .ok (.ireturn, 1) := by decide +kernel
theorem dX0_isWhole_31 : decode cX0_isWhole 31 = .ok (.iinc 2 1, 3) := by decide +kernel
theorem dX0_isWhole_34 : decode cX0_isWhole 34 = .ok (.goto (-32), 3) := by decide +kernel
theorem dX0_isWhole_37 : decode cX0_isWhole 37 = .ok (.iconst 1, 1) := by decide +kernel
theorem dX0_isWhole_38 : decode cX0_isWhole 38 = .ok (.ireturn, 1) := by decide +kernel
theorem dX0_inYard_0 : decode cX0_inYard 0 = .ok (.iconst 0, 1) := by decide +kernel
theorem dX0_inYard_1 : decode cX0_inYard 1 = .ok (.istore_n 1, 1) := by decide +kernel
theorem dX0_inYard_2 : decode cX0_inYard 2 = .ok (.iconst 0, 1) := by decide +kernel
theorem dX0_inYard_3 : decode cX0_inYard 3 = .ok (.istore_n 2, 1) := by decide +kernel
theorem dX0_inYard_4 : decode cX0_inYard 4 = .ok (.iload_n 2, 1) := by decide +kernel
theorem dX0_inYard_5 : decode cX0_inYard 5 = .ok (.aload_n 0, 1) := by decide +kernel
theorem dX0_inYard_6 : decode cX0_inYard 6 = .ok (.getfield 54, 3) := by decide +kernel
theorem dX0_inYard_9 : decode cX0_inYard 9 = .ok (.if_icmp .ge 20, 3) := by decide +kernel
theorem dX0_inYard_12 : decode cX0_inYard 12 = .ok (.aload_n 0, 1) := by decide +kernel
theorem dX0_inYard_13 : decode cX0_inYard 13 = .ok (.iload_n 2, 1) := by decide +kernel
theorem dX0_inYard_14 : decode cX0_inYard 14 = .ok (.invokevirtual 92, 3) := by decide +kernel
theorem dX0_inYard_17 : decode cX0_inYard 17 = .ok (.ifCond .eq 6, 3) := by decide +kernel
theorem dX0_inYard_20 : decode cX0_inYard 20 = .ok (.iinc 1 1, 3) := by decide +kernel
theorem dX0_inYard_23 : decode cX0_inYard 23 = .ok (.iinc 2 1, 3) := by decide +kernel
theorem dX0_inYard_26 : decode cX0_inYard 26 = .ok (.goto (-22), 3) := by decide +kernel
theorem dX0_inYard_29 : decode cX0_inYard 29 = .ok (.iload_n 1, 1) := by decide +kernel
theorem dX0_inYard_30 : decode cX0_inYard 30 = .ok (.ireturn, 1) := by decide +kernel
theorem dX0_wholeInYard_0 : decode cX0_wholeInYard 0 = .ok (.iconst 0, 1) := by decide +kernel
theorem dX0_wholeInYard_1 : decode cX0_wholeInYard 1 = .ok (.istore_n 1, 1) := by decide +kernel
theorem dX0_wholeInYard_2 : decode cX0_wholeInYard 2 = .ok (.iconst 0, 1) := by decide +kernel
theorem dX0_wholeInYard_3 : decode cX0_wholeInYard 3 = .ok (.istore_n 2, 1) := by decide +kernel
theorem dX0_wholeInYard_4 : decode cX0_wholeInYard 4 = .ok (.iload_n 2, 1) := by decide +kernel
theorem dX0_wholeInYard_5 : decode cX0_wholeInYard 5 = .ok (.aload_n 0, 1) := by decide +kernel
theorem dX0_wholeInYard_6 : decode cX0_wholeInYard 6 = .ok (.getfield 54, 3) := by decide +kernel
theorem dX0_wholeInYard_9 : decode cX0_wholeInYard 9 = .ok (.if_icmp .ge 28, 3) := by decide +kernel
theorem dX0_wholeInYard_12 : decode cX0_wholeInYard 12 = .ok (.aload_n 0, 1) := by decide +kernel
theorem dX0_wholeInYard_13 : decode cX0_wholeInYard 13 = .ok (.iload_n 2, 1) := by decide +kernel
theorem dX0_wholeInYard_14 : decode cX0_wholeInYard 14 = .ok (.invokevirtual 92, 3) := by decide +kernel
theorem dX0_wholeInYard_17 : decode cX0_wholeInYard 17 = .ok (.ifCond .eq 14, 3) := by decide +kernel
theorem dX0_wholeInYard_20 : decode cX0_wholeInYard 20 = .ok (.aload_n 0, 1) := by decide +kernel
theorem dX0_wholeInYard_21 : decode cX0_wholeInYard 21 = .ok (.iload_n 2, 1) := by decide +kernel
theorem dX0_wholeInYard_22 : decode cX0_wholeInYard 22 = .ok (.invokevirtual 95, 3) := by decide +kernel
theorem dX0_wholeInYard_25 : decode cX0_wholeInYard 25 = .ok (.ifCond .eq 6, 3) := by decide +kernel
theorem dX0_wholeInYard_28 : decode cX0_wholeInYard 28 = .ok (.iinc 1 1, 3) := by decide +kernel
theorem dX0_wholeInYard_31 : decode cX0_wholeInYard 31 = .ok (.iinc 2 1, 3) := by decide +kernel
theorem dX0_wholeInYard_34 : decode cX0_wholeInYard 34 = .ok (.goto (-30), 3) := by decide +kernel
theorem dX0_wholeInYard_37 : decode cX0_wholeInYard 37 = .ok (.iload_n 1, 1) := by decide +kernel
theorem dX0_wholeInYard_38 : decode cX0_wholeInYard 38 = .ok (.ireturn, 1) := by decide +kernel
theorem dX0_addSets_0 : decode cX0_addSets 0 = .ok (.iconst 0, 1) := by decide +kernel
theorem dX0_addSets_1 : decode cX0_addSets 1 = .ok (.istore_n 2, 1) := by decide +kernel
theorem dX0_addSets_2 : decode cX0_addSets 2 = .ok (.iload_n 2, 1) := by decide +kernel
theorem dX0_addSets_3 : decode cX0_addSets 3 = .ok (.iload_n 1, 1) := by decide +kernel
theorem dX0_addSets_4 : decode cX0_addSets 4 = .ok (.if_icmp .ge 87, 3) := by decide +kernel
theorem dX0_addSets_7 : decode cX0_addSets 7 = .ok (.aload_n 0, 1) := by decide +kernel
theorem dX0_addSets_8 : decode cX0_addSets 8 = .ok (.getfield 54, 3) := by decide +kernel
theorem dX0_addSets_11 : decode cX0_addSets 11 = .ok (.bipush 24, 2) := by decide +kernel
theorem dX0_addSets_13 : decode cX0_addSets 13 = .ok (.if_icmp .ge 78, 3) := by decide +kernel
theorem dX0_addSets_16 : decode cX0_addSets 16 = .ok (.iconst 0, 1) := by decide +kernel
theorem dX0_addSets_17 : decode cX0_addSets 17 = .ok (.istore_n 3, 1) := by decide +kernel
theorem dX0_addSets_18 : decode cX0_addSets 18 = .ok (.iload_n 3, 1) := by decide +kernel
theorem dX0_addSets_19 : decode cX0_addSets 19 = .ok (.iconst 4, 1) := by decide +kernel
theorem dX0_addSets_20 : decode cX0_addSets 20 = .ok (.if_icmp .ge 55, 3) := by decide +kernel
theorem dX0_addSets_23 : decode cX0_addSets 23 = .ok (.aload_n 0, 1) := by decide +kernel
theorem dX0_addSets_24 : decode cX0_addSets 24 = .ok (.getfield 27, 3) := by decide +kernel
theorem dX0_addSets_27 : decode cX0_addSets 27 = .ok (.aload_n 0, 1) := by decide +kernel
theorem dX0_addSets_28 : decode cX0_addSets 28 = .ok (.getfield 54, 3) := by decide +kernel
theorem dX0_addSets_31 : decode cX0_addSets 31 = .ok (.iconst 4, 1) := by decide +kernel
theorem dX0_addSets_32 : decode cX0_addSets 32 = .ok (.imul, 1) := by decide +kernel
theorem dX0_addSets_33 : decode cX0_addSets 33 = .ok (.iload_n 3, 1) := by decide +kernel
theorem dX0_addSets_34 : decode cX0_addSets 34 = .ok (.iadd, 1) := by decide +kernel
theorem dX0_addSets_35 : decode cX0_addSets 35 = .ok (.getstatic 85, 3) := by decide +kernel
theorem dX0_addSets_38 : decode cX0_addSets 38 = .ok (.iload_n 3, 1) := by decide +kernel
theorem dX0_addSets_39 : decode cX0_addSets 39 = .ok (.invokestatic 78, 3) := by decide +kernel
theorem dX0_addSets_42 : decode cX0_addSets 42 = .ok (.invokestatic 98, 3) := by decide +kernel
theorem dX0_addSets_45 : decode cX0_addSets 45 = .ok (.aload_n 0, 1) := by decide +kernel
theorem dX0_addSets_46 : decode cX0_addSets 46 = .ok (.dup, 1) := by decide +kernel
theorem dX0_addSets_47 : decode cX0_addSets 47 = .ok (.getfield 67, 3) := by decide +kernel
theorem dX0_addSets_50 : decode cX0_addSets 50 = .ok (.getstatic 85, 3) := by decide +kernel
theorem dX0_addSets_53 : decode cX0_addSets 53 = .ok (.iload_n 3, 1) := by decide +kernel
theorem dX0_addSets_54 : decode cX0_addSets 54 = .ok (.invokestatic 78, 3) := by decide +kernel
theorem dX0_addSets_57 : decode cX0_addSets 57 = .ok (.getstatic 102, 3) := by decide +kernel
theorem dX0_addSets_60 : decode cX0_addSets 60 = .ok (.iload_n 3, 1) := by decide +kernel
theorem dX0_addSets_61 : decode cX0_addSets 61 = .ok (.invokestatic 78, 3) := by decide +kernel
theorem dX0_addSets_64 : decode cX0_addSets 64 = .ok (.imul, 1) := by decide +kernel
theorem dX0_addSets_65 : decode cX0_addSets 65 = .ok (.iadd, 1) := by decide +kernel
theorem dX0_addSets_66 : decode cX0_addSets 66 = .ok (.putfield 67, 3) := by decide +kernel
theorem dX0_addSets_69 : decode cX0_addSets 69 = .ok (.iinc 3 1, 3) := by decide +kernel
theorem dX0_addSets_72 : decode cX0_addSets 72 = .ok (.goto (-54), 3) := by decide +kernel
theorem dX0_addSets_75 : decode cX0_addSets 75 = .ok (.aload_n 0, 1) := by decide +kernel
theorem dX0_addSets_76 : decode cX0_addSets 76 = .ok (.dup, 1) := by decide +kernel
theorem dX0_addSets_77 : decode cX0_addSets 77 = .ok (.getfield 54, 3) := by decide +kernel
theorem dX0_addSets_80 : decode cX0_addSets 80 = .ok (.iconst 1, 1) := by decide +kernel
theorem dX0_addSets_81 : decode cX0_addSets 81 = .ok (.iadd, 1) := by decide +kernel
theorem dX0_addSets_82 : decode cX0_addSets 82 = .ok (.putfield 54, 3) := by decide +kernel
theorem dX0_addSets_85 : decode cX0_addSets 85 = .ok (.iinc 2 1, 3) := by decide +kernel
theorem dX0_addSets_88 : decode cX0_addSets 88 = .ok (.goto (-86), 3) := by decide +kernel
theorem dX0_addSets_91 : decode cX0_addSets 91 = .ok (.return_, 1) := by decide +kernel
theorem dX0_addSpare_0 : decode cX0_addSpare 0 = .ok (.aload_n 0, 1) := by decide +kernel
theorem dX0_addSpare_1 : decode cX0_addSpare 1 = .ok (.getfield 30, 3) := by decide +kernel
theorem dX0_addSpare_4 : decode cX0_addSpare 4 = .ok (.iload_n 1, 1) := by decide +kernel
theorem dX0_addSpare_5 : decode cX0_addSpare 5 = .ok (.iload_n 2, 1) := by decide +kernel
theorem dX0_addSpare_6 : decode cX0_addSpare 6 = .ok (.invokestatic 105, 3) := by decide +kernel
theorem dX0_addSpare_9 : decode cX0_addSpare 9 = .ok (.aload_n 0, 1) := by decide +kernel
theorem dX0_addSpare_10 : decode cX0_addSpare 10 = .ok (.dup, 1) := by decide +kernel
theorem dX0_addSpare_11 : decode cX0_addSpare 11 = .ok (.getfield 67, 3) := by decide +kernel
theorem dX0_addSpare_14 : decode cX0_addSpare 14 = .ok (.iload_n 2, 1) := by decide +kernel
theorem dX0_addSpare_15 : decode cX0_addSpare 15 = .ok (.getstatic 102, 3) := by decide +kernel
theorem dX0_addSpare_18 : decode cX0_addSpare 18 = .ok (.iload_n 1, 1) := by decide +kernel
theorem dX0_addSpare_19 : decode cX0_addSpare 19 = .ok (.invokestatic 78, 3) := by decide +kernel
theorem dX0_addSpare_22 : decode cX0_addSpare 22 = .ok (.imul, 1) := by decide +kernel
theorem dX0_addSpare_23 : decode cX0_addSpare 23 = .ok (.iadd, 1) := by decide +kernel
theorem dX0_addSpare_24 : decode cX0_addSpare 24 = .ok (.putfield 67, 3) := by decide +kernel
theorem dX0_addSpare_27 : decode cX0_addSpare 27 = .ok (.return_, 1) := by decide +kernel
theorem dX0_fillUp_0 : decode cX0_fillUp 0 = .ok (.iconst 0, 1) := by decide +kernel
theorem dX0_fillUp_1 : decode cX0_fillUp 1 = .ok (.istore_n 2, 1) := by decide +kernel
theorem dX0_fillUp_2 : decode cX0_fillUp 2 = .ok (.iconst 0, 1) := by decide +kernel
theorem dX0_fillUp_3 : decode cX0_fillUp 3 = .ok (.istore_n 3, 1) := by decide +kernel
theorem dX0_fillUp_4 : decode cX0_fillUp 4 = .ok (.iload_n 3, 1) := by decide +kernel
theorem dX0_fillUp_5 : decode cX0_fillUp 5 = .ok (.iconst 4, 1) := by decide +kernel
theorem dX0_fillUp_6 : decode cX0_fillUp 6 = .ok (.if_icmp .ge 58, 3) := by decide +kernel
theorem dX0_fillUp_9 : decode cX0_fillUp 9 = .ok (.aload_n 0, 1) := by decide +kernel
theorem dX0_fillUp_10 : decode cX0_fillUp 10 = .ok (.iload_n 1, 1) := by decide +kernel
theorem dX0_fillUp_11 : decode cX0_fillUp 11 = .ok (.iload_n 3, 1) := by decide +kernel
theorem dX0_fillUp_12 : decode cX0_fillUp 12 = .ok (.invokevirtual 108, 3) := by decide +kernel
theorem dX0_fillUp_15 : decode cX0_fillUp 15 = .ok (.aload_n 0, 1) := by decide +kernel
theorem dX0_fillUp_16 : decode cX0_fillUp 16 = .ok (.getfield 30, 3) := by decide +kernel
theorem dX0_fillUp_19 : decode cX0_fillUp 19 = .ok (.iload_n 3, 1) := by decide +kernel
theorem dX0_fillUp_20 : decode cX0_fillUp 20 = .ok (.invokestatic 78, 3) := by decide +kernel
theorem dX0_fillUp_23 : decode cX0_fillUp 23 = .ok (.invokestatic 111, 3) := by decide +kernel
theorem dX0_fillUp_26 : decode cX0_fillUp 26 = .ok (.istore 4, 2) := by decide +kernel
theorem dX0_fillUp_28 : decode cX0_fillUp 28 = .ok (.aload_n 0, 1) := by decide +kernel
theorem dX0_fillUp_29 : decode cX0_fillUp 29 = .ok (.getfield 30, 3) := by decide +kernel
theorem dX0_fillUp_32 : decode cX0_fillUp 32 = .ok (.iload_n 3, 1) := by decide +kernel
theorem dX0_fillUp_33 : decode cX0_fillUp 33 = .ok (.iload 4, 2) := by decide +kernel
theorem dX0_fillUp_35 : decode cX0_fillUp 35 = .ok (.ineg, 1) := by decide +kernel
theorem dX0_fillUp_36 : decode cX0_fillUp 36 = .ok (.invokestatic 105, 3) := by decide +kernel
theorem dX0_fillUp_39 : decode cX0_fillUp 39 = .ok (.aload_n 0, 1) := by decide +kernel
theorem dX0_fillUp_40 : decode cX0_fillUp 40 = .ok (.getfield 27, 3) := by decide +kernel
theorem dX0_fillUp_43 : decode cX0_fillUp 43 = .ok (.iload_n 1, 1) := by decide +kernel
theorem dX0_fillUp_44 : decode cX0_fillUp 44 = .ok (.iconst 4, 1) := by decide +kernel
theorem dX0_fillUp_45 : decode cX0_fillUp 45 = .ok (.imul, 1) := by decide +kernel
theorem dX0_fillUp_46 : decode cX0_fillUp 46 = .ok (.iload_n 3, 1) := by decide +kernel
theorem dX0_fillUp_47 : decode cX0_fillUp 47 = .ok (.iadd, 1) := by decide +kernel
theorem dX0_fillUp_48 : decode cX0_fillUp 48 = .ok (.iload 4, 2) := by decide +kernel
theorem dX0_fillUp_50 : decode cX0_fillUp 50 = .ok (.invokestatic 105, 3) := by decide +kernel
theorem dX0_fillUp_53 : decode cX0_fillUp 53 = .ok (.iload_n 2, 1) := by decide +kernel
theorem dX0_fillUp_54 : decode cX0_fillUp 54 = .ok (.iload 4, 2) := by decide +kernel
theorem dX0_fillUp_56 : decode cX0_fillUp 56 = .ok (.iadd, 1) := by decide +kernel
theorem dX0_fillUp_57 : decode cX0_fillUp 57 = .ok (.istore_n 2, 1) := by decide +kernel
theorem dX0_fillUp_58 : decode cX0_fillUp 58 = .ok (.iinc 3 1, 3) := by decide +kernel
theorem dX0_fillUp_61 : decode cX0_fillUp 61 = .ok (.goto (-57), 3) := by decide +kernel
theorem dX0_fillUp_64 : decode cX0_fillUp 64 = .ok (.iload_n 2, 1) := by decide +kernel
theorem dX0_fillUp_65 : decode cX0_fillUp 65 = .ok (.ireturn, 1) := by decide +kernel
theorem dX0_charge_0 : decode cX0_charge 0 = .ok (.aload_n 0, 1) := by decide +kernel
theorem dX0_charge_1 : decode cX0_charge 1 = .ok (.getfield 27, 3) := by decide +kernel
theorem dX0_charge_4 : decode cX0_charge 4 = .ok (.iload_n 1, 1) := by decide +kernel
theorem dX0_charge_5 : decode cX0_charge 5 = .ok (.iconst 4, 1) := by decide +kernel
theorem dX0_charge_6 : decode cX0_charge 6 = .ok (.imul, 1) := by decide +kernel
theorem dX0_charge_7 : decode cX0_charge 7 = .ok (.iload_n 2, 1) := by decide +kernel
theorem dX0_charge_8 : decode cX0_charge 8 = .ok (.iadd, 1) := by decide +kernel
theorem dX0_charge_9 : decode cX0_charge 9 = .ok (.iload_n 3, 1) := by decide +kernel
theorem dX0_charge_10 : decode cX0_charge 10 = .ok (.ineg, 1) := by decide +kernel
theorem dX0_charge_11 : decode cX0_charge 11 = .ok (.invokestatic 105, 3) := by decide +kernel
theorem dX0_charge_14 : decode cX0_charge 14 = .ok (.aload_n 0, 1) := by decide +kernel
theorem dX0_charge_15 : decode cX0_charge 15 = .ok (.getfield 33, 3) := by decide +kernel
theorem dX0_charge_18 : decode cX0_charge 18 = .ok (.iload_n 2, 1) := by decide +kernel
theorem dX0_charge_19 : decode cX0_charge 19 = .ok (.iload_n 3, 1) := by decide +kernel
theorem dX0_charge_20 : decode cX0_charge 20 = .ok (.invokestatic 105, 3) := by decide +kernel
theorem dX0_charge_23 : decode cX0_charge 23 = .ok (.iload_n 3, 1) := by decide +kernel
theorem dX0_charge_24 : decode cX0_charge 24 = .ok (.getstatic 102, 3) := by decide +kernel
theorem dX0_charge_27 : decode cX0_charge 27 = .ok (.iload_n 2, 1) := by decide +kernel
theorem dX0_charge_28 : decode cX0_charge 28 = .ok (.invokestatic 78, 3) := by decide +kernel
theorem dX0_charge_31 : decode cX0_charge 31 = .ok (.imul, 1) := by decide +kernel
theorem dX0_charge_32 : decode cX0_charge 32 = .ok (.ireturn, 1) := by decide +kernel
theorem dX0_chargeDamage_0 : decode cX0_chargeDamage 0 = .ok (.aload_n 0, 1) := by decide +kernel
theorem dX0_chargeDamage_1 : decode cX0_chargeDamage 1 = .ok (.iload_n 1, 1) := by decide +kernel
theorem dX0_chargeDamage_2 : decode cX0_chargeDamage 2 = .ok (.iload_n 2, 1) := by decide +kernel
theorem dX0_chargeDamage_3 : decode cX0_chargeDamage 3 = .ok (.iload_n 3, 1) := by decide +kernel
theorem dX0_chargeDamage_4 : decode cX0_chargeDamage 4 = .ok (.invokevirtual 116, 3) := by decide +kernel
theorem dX0_chargeDamage_7 : decode cX0_chargeDamage 7 = .ok (.istore 4, 2) := by decide +kernel
theorem dX0_chargeDamage_9 : decode cX0_chargeDamage 9 = .ok (.aload_n 0, 1) := by decide +kernel
theorem dX0_chargeDamage_10 : decode cX0_chargeDamage 10 = .ok (.iload_n 1, 1) := by decide +kernel
theorem dX0_chargeDamage_11 : decode cX0_chargeDamage 11 = .ok (.invokevirtual 120, 3) := by decide +kernel
theorem dX0_chargeDamage_14 : decode cX0_chargeDamage 14 = .ok (.ifCond .ne 14, 3) := by decide +kernel
theorem dX0_chargeDamage_17 : decode cX0_chargeDamage 17 = .ok (.aload_n 0, 1) := by decide +kernel
theorem dX0_chargeDamage_18 : decode cX0_chargeDamage 18 = .ok (.dup, 1) := by decide +kernel
theorem dX0_chargeDamage_19 : decode cX0_chargeDamage 19 = .ok (.getfield 64, 3) := by decide +kernel
theorem dX0_chargeDamage_22 : decode cX0_chargeDamage 22 = .ok (.iload 4, 2) := by decide +kernel
theorem dX0_chargeDamage_24 : decode cX0_chargeDamage 24 = .ok (.iadd, 1) := by decide +kernel
theorem dX0_chargeDamage_25 : decode cX0_chargeDamage 25 = .ok (.putfield 64, 3) := by decide +kernel
theorem dX0_chargeDamage_28 : decode cX0_chargeDamage 28 = .ok (.iconst 0, 1) := by decide +kernel
theorem dX0_chargeDamage_29 : decode cX0_chargeDamage 29 = .ok (.istore 5, 2) := by decide +kernel
theorem dX0_chargeDamage_31 : decode cX0_chargeDamage 31 = .ok (.iload 5, 2) := by decide +kernel
theorem dX0_chargeDamage_33 : decode cX0_chargeDamage 33 = .ok (.bipush 6, 2) := by decide +kernel
theorem dX0_chargeDamage_35 : decode cX0_chargeDamage 35 = .ok (.if_icmp .ge 27, 3) := by decide +kernel
theorem dX0_chargeDamage_38 : decode cX0_chargeDamage 38 = .ok (.aload_n 0, 1) := by decide +kernel
theorem dX0_chargeDamage_39 : decode cX0_chargeDamage 39 = .ok (.getfield 42, 3) := by decide +kernel
theorem dX0_chargeDamage_42 : decode cX0_chargeDamage 42 = .ok (.iload 5, 2) := by decide +kernel
theorem dX0_chargeDamage_44 : decode cX0_chargeDamage 44 = .ok (.aload_n 0, 1) := by decide +kernel
theorem dX0_chargeDamage_45 : decode cX0_chargeDamage 45 = .ok (.iload_n 1, 1) := by decide +kernel
theorem dX0_chargeDamage_46 : decode cX0_chargeDamage 46 = .ok (.iload 4, 2) := by decide +kernel
theorem dX0_chargeDamage_48 : decode cX0_chargeDamage 48 = .ok (.iload 5, 2) := by decide +kernel
theorem dX0_chargeDamage_50 : decode cX0_chargeDamage 50 = .ok (.invokevirtual 124, 3) := by decide +kernel
theorem dX0_chargeDamage_53 : decode cX0_chargeDamage 53 = .ok (.invokestatic 105, 3) := by decide +kernel
theorem dX0_chargeDamage_56 : decode cX0_chargeDamage 56 = .ok (.iinc 5 1, 3) := by decide +kernel
theorem dX0_chargeDamage_59 : decode cX0_chargeDamage 59 = .ok (.goto (-28), 3) := by decide +kernel
theorem dX0_chargeDamage_62 : decode cX0_chargeDamage 62 = .ok (.iload 4, 2) := by decide +kernel
theorem dX0_chargeDamage_64 : decode cX0_chargeDamage 64 = .ok (.ireturn, 1) := by decide +kernel
theorem dX0_exchangeParts_0 : decode cX0_exchangeParts 0 = .ok (.iconst 0, 1) := by decide +kernel
theorem dX0_exchangeParts_1 : decode cX0_exchangeParts 1 = .ok (.istore_n 3, 1) := by decide +kernel
theorem dX0_exchangeParts_2 : decode cX0_exchangeParts 2 = .ok (.iload_n 3, 1) := by decide +kernel
theorem dX0_exchangeParts_3 : decode cX0_exchangeParts 3 = .ok (.iconst 4, 1) := by decide +kernel
theorem dX0_exchangeParts_4 : decode cX0_exchangeParts 4 = .ok (.if_icmp .ge 49, 3) := by decide +kernel
theorem dX0_exchangeParts_7 : decode cX0_exchangeParts 7 = .ok (.aload_n 0, 1) := by decide +kernel
theorem dX0_exchangeParts_8 : decode cX0_exchangeParts 8 = .ok (.iload_n 1, 1) := by decide +kernel
theorem dX0_exchangeParts_9 : decode cX0_exchangeParts 9 = .ok (.iload_n 3, 1) := by decide +kernel
theorem dX0_exchangeParts_10 : decode cX0_exchangeParts 10 = .ok (.invokevirtual 88, 3) := by decide +kernel
theorem dX0_exchangeParts_13 : decode cX0_exchangeParts 13 = .ok (.istore 4, 2) := by decide +kernel
theorem dX0_exchangeParts_15 : decode cX0_exchangeParts 15 = .ok (.aload_n 0, 1) := by decide +kernel
theorem dX0_exchangeParts_16 : decode cX0_exchangeParts 16 = .ok (.getfield 27, 3) := by decide +kernel
theorem dX0_exchangeParts_19 : decode cX0_exchangeParts 19 = .ok (.iload_n 1, 1) := by decide +kernel
theorem dX0_exchangeParts_20 : decode cX0_exchangeParts 20 = .ok (.iconst 4, 1) := by decide +kernel
theorem dX0_exchangeParts_21 : decode cX0_exchangeParts 21 = .ok (.imul, 1) := by decide +kernel
theorem dX0_exchangeParts_22 : decode cX0_exchangeParts 22 = .ok (.iload_n 3, 1) := by decide +kernel
theorem dX0_exchangeParts_23 : decode cX0_exchangeParts 23 = .ok (.iadd, 1) := by decide +kernel
theorem dX0_exchangeParts_24 : decode cX0_exchangeParts 24 = .ok (.aload_n 0, 1) := by decide +kernel
theorem dX0_exchangeParts_25 : decode cX0_exchangeParts 25 = .ok (.iload_n 2, 1) := by decide +kernel
theorem dX0_exchangeParts_26 : decode cX0_exchangeParts 26 = .ok (.iload_n 3, 1) := by decide +kernel
theorem dX0_exchangeParts_27 : decode cX0_exchangeParts 27 = .ok (.invokevirtual 88, 3) := by decide +kernel
theorem dX0_exchangeParts_30 : decode cX0_exchangeParts 30 = .ok (.invokestatic 98, 3) := by decide +kernel
theorem dX0_exchangeParts_33 : decode cX0_exchangeParts 33 = .ok (.aload_n 0, 1) := by decide +kernel
theorem dX0_exchangeParts_34 : decode cX0_exchangeParts 34 = .ok (.getfield 27, 3) := by decide +kernel
theorem dX0_exchangeParts_37 : decode cX0_exchangeParts 37 = .ok (.iload_n 2, 1) := by decide +kernel
theorem dX0_exchangeParts_38 : decode cX0_exchangeParts 38 = .ok (.iconst 4, 1) := by decide +kernel
theorem dX0_exchangeParts_39 : decode cX0_exchangeParts 39 = .ok (.imul, 1) := by decide +kernel
theorem dX0_exchangeParts_40 : decode cX0_exchangeParts 40 = .ok (.iload_n 3, 1) := by decide +kernel
theorem dX0_exchangeParts_41 : decode cX0_exchangeParts 41 = .ok (.iadd, 1) := by decide +kernel
theorem dX0_exchangeParts_42 : decode cX0_exchangeParts 42 = .ok (.iload 4, 2) := by decide +kernel
theorem dX0_exchangeParts_44 : decode cX0_exchangeParts 44 = .ok (.invokestatic 98, 3) := by decide +kernel
theorem dX0_exchangeParts_47 : decode cX0_exchangeParts 47 = .ok (.iinc 3 1, 3) := by decide +kernel
theorem dX0_exchangeParts_50 : decode cX0_exchangeParts 50 = .ok (.goto (-48), 3) := by decide +kernel
theorem dX0_exchangeParts_53 : decode cX0_exchangeParts 53 = .ok (.return_, 1) := by decide +kernel
theorem dX0_userOf_0 : decode cX0_userOf 0 = .ok (.aload_n 0, 1) := by decide +kernel
theorem dX0_userOf_1 : decode cX0_userOf 1 = .ok (.getfield 24, 3) := by decide +kernel
theorem dX0_userOf_4 : decode cX0_userOf 4 = .ok (.iload_n 1, 1) := by decide +kernel
theorem dX0_userOf_5 : decode cX0_userOf 5 = .ok (.iconst 3, 1) := by decide +kernel
theorem dX0_userOf_6 : decode cX0_userOf 6 = .ok (.imul, 1) := by decide +kernel
theorem dX0_userOf_7 : decode cX0_userOf 7 = .ok (.iload_n 2, 1) := by decide +kernel
theorem dX0_userOf_8 : decode cX0_userOf 8 = .ok (.iadd, 1) := by decide +kernel
theorem dX0_userOf_9 : decode cX0_userOf 9 = .ok (.invokestatic 78, 3) := by decide +kernel
theorem dX0_userOf_12 : decode cX0_userOf 12 = .ok (.ireturn, 1) := by decide +kernel
theorem dX0_usersOf_0 : decode cX0_usersOf 0 = .ok (.iconst 0, 1) := by decide +kernel
theorem dX0_usersOf_1 : decode cX0_usersOf 1 = .ok (.istore_n 2, 1) := by decide +kernel
theorem dX0_usersOf_2 : decode cX0_usersOf 2 = .ok (.iconst 0, 1) := by decide +kernel
theorem dX0_usersOf_3 : decode cX0_usersOf 3 = .ok (.istore_n 3, 1) := by decide +kernel
theorem dX0_usersOf_4 : decode cX0_usersOf 4 = .ok (.iload_n 3, 1) := by decide +kernel
theorem dX0_usersOf_5 : decode cX0_usersOf 5 = .ok (.iconst 3, 1) := by decide +kernel
theorem dX0_usersOf_6 : decode cX0_usersOf 6 = .ok (.if_icmp .ge 22, 3) := by decide +kernel
theorem dX0_usersOf_9 : decode cX0_usersOf 9 = .ok (.aload_n 0, 1) := by decide +kernel
theorem dX0_usersOf_10 : decode cX0_usersOf 10 = .ok (.iload_n 1, 1) := by decide +kernel
theorem dX0_usersOf_11 : decode cX0_usersOf 11 = .ok (.iload_n 3, 1) := by decide +kernel
theorem dX0_usersOf_12 : decode cX0_usersOf 12 = .ok (.invokevirtual 127, 3) := by decide +kernel
theorem dX0_usersOf_15 : decode cX0_usersOf 15 = .ok (.iconst (-1), 1) := by decide +kernel
theorem dX0_usersOf_16 : decode cX0_usersOf 16 = .ok (.if_icmp .eq 6, 3) := by decide +kernel
theorem dX0_usersOf_19 : decode cX0_usersOf 19 = .ok (.iinc 2 1, 3) := by decide +kernel
theorem dX0_usersOf_22 : decode cX0_usersOf 22 = .ok (.iinc 3 1, 3) := by decide +kernel
theorem dX0_usersOf_25 : decode cX0_usersOf 25 = .ok (.goto (-21), 3) := by decide +kernel
theorem dX0_usersOf_28 : decode cX0_usersOf 28 = .ok (.iload_n 2, 1) := by decide +kernel
theorem dX0_usersOf_29 : decode cX0_usersOf 29 = .ok (.ireturn, 1) := by decide +kernel
theorem dX0_addUser_0 : decode cX0_addUser 0 = .ok (.iconst 2, 1) := by decide +kernel
theorem dX0_addUser_1 : decode cX0_addUser 1 = .ok (.istore_n 3, 1) := by decide +kernel
theorem dX0_addUser_2 : decode cX0_addUser 2 = .ok (.iload_n 3, 1) := by decide +kernel
theorem dX0_addUser_3 : decode cX0_addUser 3 = .ok (.ifCond .le 35, 3) := by decide +kernel
theorem dX0_addUser_6 : decode cX0_addUser 6 = .ok (.aload_n 0, 1) := by decide +kernel
theorem dX0_addUser_7 : decode cX0_addUser 7 = .ok (.getfield 24, 3) := by decide +kernel
theorem dX0_addUser_10 : decode cX0_addUser 10 = .ok (.iload_n 1, 1) := by decide +kernel
theorem dX0_addUser_11 : decode cX0_addUser 11 = .ok (.iconst 3, 1) := by decide +kernel
theorem dX0_addUser_12 : decode cX0_addUser 12 = .ok (.imul, 1) := by decide +kernel
theorem dX0_addUser_13 : decode cX0_addUser 13 = .ok (.iload_n 3, 1) := by decide +kernel
theorem dX0_addUser_14 : decode cX0_addUser 14 = .ok (.iadd, 1) := by decide +kernel
theorem dX0_addUser_15 : decode cX0_addUser 15 = .ok (.aload_n 0, 1) := by decide +kernel
theorem dX0_addUser_16 : decode cX0_addUser 16 = .ok (.getfield 24, 3) := by decide +kernel
theorem dX0_addUser_19 : decode cX0_addUser 19 = .ok (.iload_n 1, 1) := by decide +kernel
theorem dX0_addUser_20 : decode cX0_addUser 20 = .ok (.iconst 3, 1) := by decide +kernel
theorem dX0_addUser_21 : decode cX0_addUser 21 = .ok (.imul, 1) := by decide +kernel
theorem dX0_addUser_22 : decode cX0_addUser 22 = .ok (.iload_n 3, 1) := by decide +kernel
theorem dX0_addUser_23 : decode cX0_addUser 23 = .ok (.iadd, 1) := by decide +kernel
theorem dX0_addUser_24 : decode cX0_addUser 24 = .ok (.iconst 1, 1) := by decide +kernel
theorem dX0_addUser_25 : decode cX0_addUser 25 = .ok (.isub, 1) := by decide +kernel
theorem dX0_addUser_26 : decode cX0_addUser 26 = .ok (.invokestatic 78, 3) := by decide +kernel
theorem dX0_addUser_29 : decode cX0_addUser 29 = .ok (.invokestatic 98, 3) := by decide +kernel
theorem dX0_addUser_32 : decode cX0_addUser 32 = .ok (.iinc 3 (-1), 3) := by decide +kernel
theorem dX0_addUser_35 : decode cX0_addUser 35 = .ok (.goto (-33), 3) := by decide +kernel
theorem dX0_addUser_38 : decode cX0_addUser 38 = .ok (.aload_n 0, 1) := by decide +kernel
theorem dX0_addUser_39 : decode cX0_addUser 39 = .ok (.getfield 24, 3) := by decide +kernel
theorem dX0_addUser_42 : decode cX0_addUser 42 = .ok (.iload_n 1, 1) := by decide +kernel
theorem dX0_addUser_43 : decode cX0_addUser 43 = .ok (.iconst 3, 1) := by decide +kernel
theorem dX0_addUser_44 : decode cX0_addUser 44 = .ok (.imul, 1) := by decide +kernel
theorem dX0_addUser_45 : decode cX0_addUser 45 = .ok (.iload_n 2, 1) := by decide +kernel
theorem dX0_addUser_46 : decode cX0_addUser 46 = .ok (.invokestatic 98, 3) := by decide +kernel
theorem dX0_addUser_49 : decode cX0_addUser 49 = .ok (.return_, 1) := by decide +kernel
theorem dX0_shareOf_0 : decode cX0_shareOf 0 = .ok (.aload_n 0, 1) := by decide +kernel
theorem dX0_shareOf_1 : decode cX0_shareOf 1 = .ok (.iload_n 1, 1) := by decide +kernel
theorem dX0_shareOf_2 : decode cX0_shareOf 2 = .ok (.invokevirtual 120, 3) := by decide +kernel
theorem dX0_shareOf_5 : decode cX0_shareOf 5 = .ok (.istore 4, 2) := by decide +kernel
theorem dX0_shareOf_7 : decode cX0_shareOf 7 = .ok (.iload 4, 2) := by decide +kernel
theorem dX0_shareOf_9 : decode cX0_shareOf 9 = .ok (.iconst 1, 1) := by decide +kernel
theorem dX0_shareOf_10 : decode cX0_shareOf 10 = .ok (.if_icmp .ge 5, 3) := by decide +kernel
theorem dX0_shareOf_13 : decode cX0_shareOf 13 = .ok (.iconst 0, 1) := by decide +kernel
theorem dX0_shareOf_14 : decode cX0_shareOf 14 = .ok (.ireturn, 1) := by decide +kernel
theorem dX0_shareOf_15 : decode cX0_shareOf 15 = .ok (.iload_n 2, 1) := by decide +kernel
theorem dX0_shareOf_16 : decode cX0_shareOf 16 = .ok (.iload 4, 2) := by decide +kernel
theorem dX0_shareOf_18 : decode cX0_shareOf 18 = .ok (.idiv, 1) := by decide +kernel
theorem dX0_shareOf_19 : decode cX0_shareOf 19 = .ok (.istore 5, 2) := by decide +kernel
theorem dX0_shareOf_21 : decode cX0_shareOf 21 = .ok (.iconst 0, 1) := by decide +kernel
theorem dX0_shareOf_22 : decode cX0_shareOf 22 = .ok (.istore 6, 2) := by decide +kernel
theorem dX0_shareOf_24 : decode cX0_shareOf 24 = .ok (.iconst 0, 1) := by decide +kernel
theorem dX0_shareOf_25 : decode cX0_shareOf 25 = .ok (.istore 7, 2) := by decide +kernel
theorem dX0_shareOf_27 : decode cX0_shareOf 27 = .ok (.iload 7, 2) := by decide +kernel
theorem dX0_shareOf_29 : decode cX0_shareOf 29 = .ok (.iconst 3, 1) := by decide +kernel
theorem dX0_shareOf_30 : decode cX0_shareOf 30 = .ok (.if_icmp .ge 27, 3) := by decide +kernel
theorem dX0_shareOf_33 : decode cX0_shareOf 33 = .ok (.aload_n 0, 1) := by decide +kernel
theorem dX0_shareOf_34 : decode cX0_shareOf 34 = .ok (.iload_n 1, 1) := by decide +kernel
theorem dX0_shareOf_35 : decode cX0_shareOf 35 = .ok (.iload 7, 2) := by decide +kernel
theorem dX0_shareOf_37 : decode cX0_shareOf 37 = .ok (.invokevirtual 127, 3) := by decide +kernel
theorem dX0_shareOf_40 : decode cX0_shareOf 40 = .ok (.iload_n 3, 1) := by decide +kernel
theorem dX0_shareOf_41 : decode cX0_shareOf 41 = .ok (.if_icmp .ne 10, 3) := by decide +kernel
theorem dX0_shareOf_44 : decode cX0_shareOf 44 = .ok (.iload 6, 2) := by decide +kernel
theorem dX0_shareOf_46 : decode cX0_shareOf 46 = .ok (.iload 5, 2) := by decide +kernel
theorem dX0_shareOf_48 : decode cX0_shareOf 48 = .ok (.iadd, 1) := by decide +kernel
theorem dX0_shareOf_49 : decode cX0_shareOf 49 = .ok (.istore 6, 2) := by decide +kernel
theorem dX0_shareOf_51 : decode cX0_shareOf 51 = .ok (.iinc 7 1, 3) := by decide +kernel
theorem dX0_shareOf_54 : decode cX0_shareOf 54 = .ok (.goto (-27), 3) := by decide +kernel
theorem dX0_shareOf_57 : decode cX0_shareOf 57 = .ok (.aload_n 0, 1) := by decide +kernel
theorem dX0_shareOf_58 : decode cX0_shareOf 58 = .ok (.iload_n 1, 1) := by decide +kernel
theorem dX0_shareOf_59 : decode cX0_shareOf 59 = .ok (.iconst 0, 1) := by decide +kernel
theorem dX0_shareOf_60 : decode cX0_shareOf 60 = .ok (.invokevirtual 127, 3) := by decide +kernel
theorem dX0_shareOf_63 : decode cX0_shareOf 63 = .ok (.iload_n 3, 1) := by decide +kernel
theorem dX0_shareOf_64 : decode cX0_shareOf 64 = .ok (.if_icmp .ne 15, 3) := by decide +kernel
theorem dX0_shareOf_67 : decode cX0_shareOf 67 = .ok (.iload 6, 2) := by decide +kernel
theorem dX0_shareOf_69 : decode cX0_shareOf 69 = .ok (.iload_n 2, 1) := by decide +kernel
theorem dX0_shareOf_70 : decode cX0_shareOf 70 = .ok (.iload 5, 2) := by decide +kernel
theorem dX0_shareOf_72 : decode cX0_shareOf 72 = .ok (.iload 4, 2) := by decide +kernel
theorem dX0_shareOf_74 : decode cX0_shareOf 74 = .ok (.imul, 1) := by decide +kernel
theorem dX0_shareOf_75 : decode cX0_shareOf 75 = .ok (.isub, 1) := by decide +kernel
theorem dX0_shareOf_76 : decode cX0_shareOf 76 = .ok (.iadd, 1) := by decide +kernel
theorem dX0_shareOf_77 : decode cX0_shareOf 77 = .ok (.istore 6, 2) := by decide +kernel
theorem dX0_shareOf_79 : decode cX0_shareOf 79 = .ok (.iload 6, 2) := by decide +kernel
theorem dX0_shareOf_81 : decode cX0_shareOf 81 = .ok (.ireturn, 1) := by decide +kernel
theorem dX0_canMove_0 : decode cX0_canMove 0 = .ok (.aload_n 0, 1) := by decide +kernel
theorem dX0_canMove_1 : decode cX0_canMove 1 = .ok (.iload_n 1, 1) := by decide +kernel
theorem dX0_canMove_2 : decode cX0_canMove 2 = .ok (.invokevirtual 82, 3) := by decide +kernel
theorem dX0_canMove_5 : decode cX0_canMove 5 = .ok (.ifCond .eq 16, 3) := by decide +kernel
theorem dX0_canMove_8 : decode cX0_canMove 8 = .ok (.aload_n 0, 1) := by decide +kernel
theorem dX0_canMove_9 : decode cX0_canMove 9 = .ok (.iload_n 1, 1) := by decide +kernel
theorem dX0_canMove_10 : decode cX0_canMove 10 = .ok (.iload_n 2, 1) := by decide +kernel
theorem dX0_canMove_11 : decode cX0_canMove 11 = .ok (.invokevirtual 130, 3) := by decide +kernel
theorem dX0_canMove_14 : decode cX0_canMove 14 = .ok (.ifCond .ne 7, 3) := by decide +kernel
theorem dX0_canMove_17 : decode cX0_canMove 17 = .ok (.iconst 1, 1) := by decide +kernel
theorem dX0_canMove_18 : decode cX0_canMove 18 = .ok (.goto 4, 3) := by decide +kernel
theorem dX0_canMove_21 : decode cX0_canMove 21 = .ok (.iconst 0, 1) := by decide +kernel
theorem dX0_canMove_22 : decode cX0_canMove 22 = .ok (.ireturn, 1) := by decide +kernel
theorem dX0_canPass_0 : decode cX0_canPass 0 = .ok (.aload_n 0, 1) := by decide +kernel
theorem dX0_canPass_1 : decode cX0_canPass 1 = .ok (.getfield 58, 3) := by decide +kernel
theorem dX0_canPass_4 : decode cX0_canPass 4 = .ok (.iload_n 1, 1) := by decide +kernel
theorem dX0_canPass_5 : decode cX0_canPass 5 = .ok (.iadd, 1) := by decide +kernel
theorem dX0_canPass_6 : decode cX0_canPass 6 = .ok (.sipush 9999, 3) := by decide +kernel
theorem dX0_canPass_9 : decode cX0_canPass 9 = .ok (.if_icmp .gt 7, 3) := by decide +kernel
theorem dX0_canPass_12 : decode cX0_canPass 12 = .ok (.iconst 1, 1) := by decide +kernel
theorem dX0_canPass_13 : decode cX0_canPass 13 = .ok (.goto 4, 3) := by decide +kernel
theorem dX0_canPass_16 : decode cX0_canPass 16 = .ok (.iconst 0, 1) := by decide +kernel
theorem dX0_canPass_17 : decode cX0_canPass 17 = .ok (.ireturn, 1) := by decide +kernel
theorem dX0_hireOut_0 : decode cX0_hireOut 0 = .ok (.iload_n 2, 1) := by decide +kernel
theorem dX0_hireOut_1 : decode cX0_hireOut 1 = .ok (.istore_n 3, 1) := by decide +kernel
theorem dX0_hireOut_2 : decode cX0_hireOut 2 = .ok (.iconst 0, 1) := by decide +kernel
theorem dX0_hireOut_3 : decode cX0_hireOut 3 = .ok (.istore 4, 2) := by decide +kernel
theorem dX0_hireOut_5 : decode cX0_hireOut 5 = .ok (.iload 4, 2) := by decide +kernel
theorem dX0_hireOut_7 : decode cX0_hireOut 7 = .ok (.aload_n 0, 1) := by decide +kernel
theorem dX0_hireOut_8 : decode cX0_hireOut 8 = .ok (.getfield 54, 3) := by decide +kernel
theorem dX0_hireOut_11 : decode cX0_hireOut 11 = .ok (.if_icmp .ge 41, 3) := by decide +kernel
theorem dX0_hireOut_14 : decode cX0_hireOut 14 = .ok (.iload_n 3, 1) := by decide +kernel
theorem dX0_hireOut_15 : decode cX0_hireOut 15 = .ok (.ifCond .le 37, 3) := by decide +kernel
theorem dX0_hireOut_18 : decode cX0_hireOut 18 = .ok (.aload_n 0, 1) := by decide +kernel
theorem dX0_hireOut_19 : decode cX0_hireOut 19 = .ok (.iload 4, 2) := by decide +kernel
theorem dX0_hireOut_21 : decode cX0_hireOut 21 = .ok (.invokevirtual 92, 3) := by decide +kernel
theorem dX0_hireOut_24 : decode cX0_hireOut 24 = .ok (.ifCond .eq 22, 3) := by decide +kernel
theorem dX0_hireOut_27 : decode cX0_hireOut 27 = .ok (.aload_n 0, 1) := by decide +kernel
theorem dX0_hireOut_28 : decode cX0_hireOut 28 = .ok (.iload 4, 2) := by decide +kernel
theorem dX0_hireOut_30 : decode cX0_hireOut 30 = .ok (.invokevirtual 95, 3) := by decide +kernel
theorem dX0_hireOut_33 : decode cX0_hireOut 33 = .ok (.ifCond .eq 13, 3) := by decide +kernel
theorem dX0_hireOut_36 : decode cX0_hireOut 36 = .ok (.aload_n 0, 1) := by decide +kernel
theorem dX0_hireOut_37 : decode cX0_hireOut 37 = .ok (.iload 4, 2) := by decide +kernel
theorem dX0_hireOut_39 : decode cX0_hireOut 39 = .ok (.iload_n 1, 1) := by decide +kernel
theorem dX0_hireOut_40 : decode cX0_hireOut 40 = .ok (.invokevirtual 134, 3) := by decide +kernel
theorem dX0_hireOut_43 : decode cX0_hireOut 43 = .ok (.iinc 3 (-1), 3) := by decide +kernel
theorem dX0_hireOut_46 : decode cX0_hireOut 46 = .ok (.iinc 4 1, 3) := by decide +kernel
theorem dX0_hireOut_49 : decode cX0_hireOut 49 = .ok (.goto (-44), 3) := by decide +kernel
theorem dX0_hireOut_52 : decode cX0_hireOut 52 = .ok (.return_, 1) := by decide +kernel
theorem dX0_comeTo_0 : decode cX0_comeTo 0 = .ok (.aload_n 0, 1) := by decide +kernel
theorem dX0_comeTo_1 : decode cX0_comeTo 1 = .ok (.getfield 15, 3) := by decide +kernel
theorem dX0_comeTo_4 : decode cX0_comeTo 4 = .ok (.iload_n 1, 1) := by decide +kernel
theorem dX0_comeTo_5 : decode cX0_comeTo 5 = .ok (.iload_n 2, 1) := by decide +kernel
theorem dX0_comeTo_6 : decode cX0_comeTo 6 = .ok (.invokestatic 98, 3) := by decide +kernel
theorem dX0_comeTo_9 : decode cX0_comeTo 9 = .ok (.aload_n 0, 1) := by decide +kernel
theorem dX0_comeTo_10 : decode cX0_comeTo 10 = .ok (.getfield 18, 3) := by decide +kernel
theorem dX0_comeTo_13 : decode cX0_comeTo 13 = .ok (.iload_n 1, 1) := by decide +kernel
theorem dX0_comeTo_14 : decode cX0_comeTo 14 = .ok (.aload_n 0, 1) := by decide +kernel
theorem dX0_comeTo_15 : decode cX0_comeTo 15 = .ok (.getfield 58, 3) := by decide +kernel
theorem dX0_comeTo_18 : decode cX0_comeTo 18 = .ok (.invokestatic 98, 3) := by decide +kernel
theorem dX0_comeTo_21 : decode cX0_comeTo 21 = .ok (.aload_n 0, 1) := by decide +kernel
theorem dX0_comeTo_22 : decode cX0_comeTo 22 = .ok (.getfield 21, 3) := by decide +kernel
theorem dX0_comeTo_25 : decode cX0_comeTo 25 = .ok (.iload_n 1, 1) := by decide +kernel
theorem dX0_comeTo_26 : decode cX0_comeTo 26 = .ok (.iconst 1, 1) := by decide +kernel
theorem dX0_comeTo_27 : decode cX0_comeTo 27 = .ok (.invokestatic 105, 3) := by decide +kernel
theorem dX0_comeTo_30 : decode cX0_comeTo 30 = .ok (.aload_n 0, 1) := by decide +kernel
theorem dX0_comeTo_31 : decode cX0_comeTo 31 = .ok (.iload_n 1, 1) := by decide +kernel
theorem dX0_comeTo_32 : decode cX0_comeTo 32 = .ok (.iload_n 2, 1) := by decide +kernel
theorem dX0_comeTo_33 : decode cX0_comeTo 33 = .ok (.invokevirtual 138, 3) := by decide +kernel
theorem dX0_comeTo_36 : decode cX0_comeTo 36 = .ok (.aload_n 0, 1) := by decide +kernel
theorem dX0_comeTo_37 : decode cX0_comeTo 37 = .ok (.dup, 1) := by decide +kernel
theorem dX0_comeTo_38 : decode cX0_comeTo 38 = .ok (.getfield 61, 3) := by decide +kernel
theorem dX0_comeTo_41 : decode cX0_comeTo 41 = .ok (.iconst 1, 1) := by decide +kernel
theorem dX0_comeTo_42 : decode cX0_comeTo 42 = .ok (.iadd, 1) := by decide +kernel
theorem dX0_comeTo_43 : decode cX0_comeTo 43 = .ok (.putfield 61, 3) := by decide +kernel
theorem dX0_comeTo_46 : decode cX0_comeTo 46 = .ok (.return_, 1) := by decide +kernel
theorem dX0_hireBill_0 : decode cX0_hireBill 0 = .ok (.aload_n 0, 1) := by decide +kernel
theorem dX0_hireBill_1 : decode cX0_hireBill 1 = .ok (.getfield 15, 3) := by decide +kernel
theorem dX0_hireBill_4 : decode cX0_hireBill 4 = .ok (.iload_n 1, 1) := by decide +kernel
theorem dX0_hireBill_5 : decode cX0_hireBill 5 = .ok (.invokestatic 78, 3) := by decide +kernel
theorem dX0_hireBill_8 : decode cX0_hireBill 8 = .ok (.iconst (-1), 1) := by decide +kernel
theorem dX0_hireBill_9 : decode cX0_hireBill 9 = .ok (.if_icmp .ne 5, 3) := by decide +kernel
theorem dX0_hireBill_12 : decode cX0_hireBill 12 = .ok (.iconst 0, 1) := by decide +kernel
theorem dX0_hireBill_13 : decode cX0_hireBill 13 = .ok (.ireturn, 1) := by decide +kernel
theorem dX0_hireBill_14 : decode cX0_hireBill 14 = .ok (.aload_n 0, 1) := by decide +kernel
theorem dX0_hireBill_15 : decode cX0_hireBill 15 = .ok (.getfield 58, 3) := by decide +kernel
theorem dX0_hireBill_18 : decode cX0_hireBill 18 = .ok (.iload_n 2, 1) := by decide +kernel
theorem dX0_hireBill_19 : decode cX0_hireBill 19 = .ok (.iadd, 1) := by decide +kernel
theorem dX0_hireBill_20 : decode cX0_hireBill 20 = .ok (.aload_n 0, 1) := by decide +kernel
theorem dX0_hireBill_21 : decode cX0_hireBill 21 = .ok (.getfield 18, 3) := by decide +kernel
theorem dX0_hireBill_24 : decode cX0_hireBill 24 = .ok (.iload_n 1, 1) := by decide +kernel
theorem dX0_hireBill_25 : decode cX0_hireBill 25 = .ok (.invokestatic 78, 3) := by decide +kernel
theorem dX0_hireBill_28 : decode cX0_hireBill 28 = .ok (.isub, 1) := by decide +kernel
theorem dX0_hireBill_29 : decode cX0_hireBill 29 = .ok (.istore_n 3, 1) := by decide +kernel
theorem dX0_hireBill_30 : decode cX0_hireBill 30 = .ok (.iload_n 3, 1) := by decide +kernel
theorem dX0_hireBill_31 : decode cX0_hireBill 31 = .ok (.aload_n 0, 1) := by decide +kernel
theorem dX0_hireBill_32 : decode cX0_hireBill 32 = .ok (.getfield 9, 3) := by decide +kernel
theorem dX0_hireBill_35 : decode cX0_hireBill 35 = .ok (.iconst 0, 1) := by decide +kernel
theorem dX0_hireBill_36 : decode cX0_hireBill 36 = .ok (.invokestatic 78, 3) := by decide +kernel
theorem dX0_hireBill_39 : decode cX0_hireBill 39 = .ok (.invokestatic 141, 3) := by decide +kernel
theorem dX0_hireBill_42 : decode cX0_hireBill 42 = .ok (.aload_n 0, 1) := by decide +kernel
theorem dX0_hireBill_43 : decode cX0_hireBill 43 = .ok (.getfield 9, 3) := by decide +kernel
theorem dX0_hireBill_46 : decode cX0_hireBill 46 = .ok (.iconst 1, 1) := by decide +kernel
theorem dX0_hireBill_47 : decode cX0_hireBill 47 = .ok (.invokestatic 78, 3) := by decide +kernel
theorem dX0_hireBill_50 : decode cX0_hireBill 50 = .ok (.imul, 1) := by decide +kernel
theorem dX0_hireBill_51 : decode cX0_hireBill 51 = .ok (.ireturn, 1) := by decide +kernel
theorem dX0_billForHire_0 : decode cX0_billForHire 0 = .ok (.aload_n 0, 1) := by decide +kernel
theorem dX0_billForHire_1 : decode cX0_billForHire 1 = .ok (.iload_n 1, 1) := by decide +kernel
theorem dX0_billForHire_2 : decode cX0_billForHire 2 = .ok (.iconst 0, 1) := by decide +kernel
theorem dX0_billForHire_3 : decode cX0_billForHire 3 = .ok (.invokevirtual 144, 3) := by decide +kernel
theorem dX0_billForHire_6 : decode cX0_billForHire 6 = .ok (.istore_n 2, 1) := by decide +kernel
theorem dX0_billForHire_7 : decode cX0_billForHire 7 = .ok (.aload_n 0, 1) := by decide +kernel
theorem dX0_billForHire_8 : decode cX0_billForHire 8 = .ok (.getfield 36, 3) := by decide +kernel
theorem dX0_billForHire_11 : decode cX0_billForHire 11 = .ok (.aload_n 0, 1) := by decide +kernel
theorem dX0_billForHire_12 : decode cX0_billForHire 12 = .ok (.getfield 15, 3) := by decide +kernel
theorem dX0_billForHire_15 : decode cX0_billForHire 15 = .ok (.iload_n 1, 1) := by decide +kernel
theorem dX0_billForHire_16 : decode cX0_billForHire 16 = .ok (.invokestatic 78, 3) := by decide +kernel
theorem dX0_billForHire_19 : decode cX0_billForHire 19 = .ok (.iload_n 2, 1) := by decide +kernel
theorem dX0_billForHire_20 : decode cX0_billForHire 20 = .ok (.invokestatic 105, 3) := by decide +kernel
theorem dX0_billForHire_23 : decode cX0_billForHire 23 = .ok (.iload_n 2, 1) := by decide +kernel
theorem dX0_billForHire_24 : decode cX0_billForHire 24 = .ok (.ireturn, 1) := by decide +kernel
theorem dX0_comeHome_0 : decode cX0_comeHome 0 = .ok (.aload_n 0, 1) := by decide +kernel
theorem dX0_comeHome_1 : decode cX0_comeHome 1 = .ok (.getfield 15, 3) := by decide +kernel
theorem dX0_comeHome_4 : decode cX0_comeHome 4 = .ok (.iload_n 1, 1) := by decide +kernel
theorem dX0_comeHome_5 : decode cX0_comeHome 5 = .ok (.iconst (-1), 1) := by decide +kernel
theorem dX0_comeHome_6 : decode cX0_comeHome 6 = .ok (.invokestatic 98, 3) := by decide +kernel
theorem dX0_comeHome_9 : decode cX0_comeHome 9 = .ok (.aload_n 0, 1) := by decide +kernel
theorem dX0_comeHome_10 : decode cX0_comeHome 10 = .ok (.getfield 18, 3) := by decide +kernel
theorem dX0_comeHome_13 : decode cX0_comeHome 13 = .ok (.iload_n 1, 1) := by decide +kernel
theorem dX0_comeHome_14 : decode cX0_comeHome 14 = .ok (.aload_n 0, 1) := by decide +kernel
theorem dX0_comeHome_15 : decode cX0_comeHome 15 = .ok (.getfield 58, 3) := by decide +kernel
theorem dX0_comeHome_18 : decode cX0_comeHome 18 = .ok (.invokestatic 98, 3) := by decide +kernel
theorem dX0_comeHome_21 : decode cX0_comeHome 21 = .ok (.return_, 1) := by decide +kernel
theorem dX0_moveTo_0 : decode cX0_moveTo 0 = .ok (.aload_n 0, 1) := by decide +kernel
theorem dX0_moveTo_1 : decode cX0_moveTo 1 = .ok (.iload_n 1, 1) := by decide +kernel
theorem dX0_moveTo_2 : decode cX0_moveTo 2 = .ok (.invokevirtual 147, 3) := by decide +kernel
theorem dX0_moveTo_5 : decode cX0_moveTo 5 = .ok (.istore_n 3, 1) := by decide +kernel
theorem dX0_moveTo_6 : decode cX0_moveTo 6 = .ok (.aload_n 0, 1) := by decide +kernel
theorem dX0_moveTo_7 : decode cX0_moveTo 7 = .ok (.iload_n 1, 1) := by decide +kernel
theorem dX0_moveTo_8 : decode cX0_moveTo 8 = .ok (.iload_n 2, 1) := by decide +kernel
theorem dX0_moveTo_9 : decode cX0_moveTo 9 = .ok (.invokevirtual 134, 3) := by decide +kernel
theorem dX0_moveTo_12 : decode cX0_moveTo 12 = .ok (.iload_n 3, 1) := by decide +kernel
theorem dX0_moveTo_13 : decode cX0_moveTo 13 = .ok (.ireturn, 1) := by decide +kernel
theorem dX0_takeBack_0 : decode cX0_takeBack 0 = .ok (.aload_n 0, 1) := by decide +kernel
theorem dX0_takeBack_1 : decode cX0_takeBack 1 = .ok (.iload_n 1, 1) := by decide +kernel
theorem dX0_takeBack_2 : decode cX0_takeBack 2 = .ok (.invokevirtual 147, 3) := by decide +kernel
theorem dX0_takeBack_5 : decode cX0_takeBack 5 = .ok (.istore_n 2, 1) := by decide +kernel
theorem dX0_takeBack_6 : decode cX0_takeBack 6 = .ok (.aload_n 0, 1) := by decide +kernel
theorem dX0_takeBack_7 : decode cX0_takeBack 7 = .ok (.iload_n 1, 1) := by decide +kernel
theorem dX0_takeBack_8 : decode cX0_takeBack 8 = .ok (.invokevirtual 150, 3) := by decide +kernel
theorem dX0_takeBack_11 : decode cX0_takeBack 11 = .ok (.iload_n 2, 1) := by decide +kernel
theorem dX0_takeBack_12 : decode cX0_takeBack 12 = .ok (.ireturn, 1) := by decide +kernel
theorem dX0_takeBackShort_0 : decode cX0_takeBackShort 0 = .ok (.aload_n 0, 1) := by decide +kernel
theorem dX0_takeBackShort_1 : decode cX0_takeBackShort 1 = .ok (.iload_n 1, 1) := by decide +kernel
theorem dX0_takeBackShort_2 : decode cX0_takeBackShort 2 = .ok (.iload_n 2, 1) := by decide +kernel
theorem dX0_takeBackShort_3 : decode cX0_takeBackShort 3 = .ok (.iload_n 3, 1) := by decide +kernel
theorem dX0_takeBackShort_4 : decode cX0_takeBackShort 4 = .ok (.invokevirtual 116, 3) := by decide +kernel
theorem dX0_takeBackShort_7 : decode cX0_takeBackShort 7 = .ok (.istore 4, 2) := by decide +kernel
theorem dX0_takeBackShort_9 : decode cX0_takeBackShort 9 = .ok (.aload_n 0, 1) := by decide +kernel
theorem dX0_takeBackShort_10 : decode cX0_takeBackShort 10 = .ok (.getfield 39, 3) := by decide +kernel
theorem dX0_takeBackShort_13 : decode cX0_takeBackShort 13 = .ok (.aload_n 0, 1) := by decide +kernel
theorem dX0_takeBackShort_14 : decode cX0_takeBackShort 14 = .ok (.getfield 15, 3) := by decide +kernel
theorem dX0_takeBackShort_17 : decode cX0_takeBackShort 17 = .ok (.iload_n 1, 1) := by decide +kernel
theorem dX0_takeBackShort_18 : decode cX0_takeBackShort 18 = .ok (.invokestatic 78, 3) := by decide +kernel
theorem dX0_takeBackShort_21 : decode cX0_takeBackShort 21 = .ok (.iload 4, 2) := by decide +kernel
theorem dX0_takeBackShort_23 : decode cX0_takeBackShort 23 = .ok (.invokestatic 105, 3) := by decide +kernel
theorem dX0_takeBackShort_26 : decode cX0_takeBackShort 26 = .ok (.aload_n 0, 1) := by decide +kernel
theorem dX0_takeBackShort_27 : decode cX0_takeBackShort 27 = .ok (.iload_n 1, 1) := by decide +kernel
theorem dX0_takeBackShort_28 : decode cX0_takeBackShort 28 = .ok (.invokevirtual 154, 3) := by decide +kernel
theorem dX0_takeBackShort_31 : decode cX0_takeBackShort 31 = .ok (.iload 4, 2) := by decide +kernel
theorem dX0_takeBackShort_33 : decode cX0_takeBackShort 33 = .ok (.iadd, 1) := by decide +kernel
theorem dX0_takeBackShort_34 : decode cX0_takeBackShort 34 = .ok (.ireturn, 1) := by decide +kernel
theorem dX0_billedSoFar_0 : decode cX0_billedSoFar 0 = .ok (.aload_n 0, 1) := by decide +kernel
theorem dX0_billedSoFar_1 : decode cX0_billedSoFar 1 = .ok (.getfield 36, 3) := by decide +kernel
theorem dX0_billedSoFar_4 : decode cX0_billedSoFar 4 = .ok (.iload_n 1, 1) := by decide +kernel
theorem dX0_billedSoFar_5 : decode cX0_billedSoFar 5 = .ok (.invokestatic 78, 3) := by decide +kernel
theorem dX0_billedSoFar_8 : decode cX0_billedSoFar 8 = .ok (.aload_n 0, 1) := by decide +kernel
theorem dX0_billedSoFar_9 : decode cX0_billedSoFar 9 = .ok (.getfield 39, 3) := by decide +kernel
theorem dX0_billedSoFar_12 : decode cX0_billedSoFar 12 = .ok (.iload_n 1, 1) := by decide +kernel
theorem dX0_billedSoFar_13 : decode cX0_billedSoFar 13 = .ok (.invokestatic 78, 3) := by decide +kernel
theorem dX0_billedSoFar_16 : decode cX0_billedSoFar 16 = .ok (.iadd, 1) := by decide +kernel
theorem dX0_billedSoFar_17 : decode cX0_billedSoFar 17 = .ok (.aload_n 0, 1) := by decide +kernel
theorem dX0_billedSoFar_18 : decode cX0_billedSoFar 18 = .ok (.getfield 42, 3) := by decide +kernel
theorem dX0_billedSoFar_21 : decode cX0_billedSoFar 21 = .ok (.iload_n 1, 1) := by decide +kernel
theorem dX0_billedSoFar_22 : decode cX0_billedSoFar 22 = .ok (.invokestatic 78, 3) := by decide +kernel
theorem dX0_billedSoFar_25 : decode cX0_billedSoFar 25 = .ok (.iadd, 1) := by decide +kernel
theorem dX0_billedSoFar_26 : decode cX0_billedSoFar 26 = .ok (.ireturn, 1) := by decide +kernel
theorem dX0_billOf_0 : decode cX0_billOf 0 = .ok (.aload_n 0, 1) := by decide +kernel
theorem dX0_billOf_1 : decode cX0_billOf 1 = .ok (.iload_n 1, 1) := by decide +kernel
theorem dX0_billOf_2 : decode cX0_billOf 2 = .ok (.invokevirtual 157, 3) := by decide +kernel
theorem dX0_billOf_5 : decode cX0_billOf 5 = .ok (.aload_n 0, 1) := by decide +kernel
theorem dX0_billOf_6 : decode cX0_billOf 6 = .ok (.getfield 45, 3) := by decide +kernel
theorem dX0_billOf_9 : decode cX0_billOf 9 = .ok (.iload_n 1, 1) := by decide +kernel
theorem dX0_billOf_10 : decode cX0_billOf 10 = .ok (.invokestatic 78, 3) := by decide +kernel
theorem dX0_billOf_13 : decode cX0_billOf 13 = .ok (.isub, 1) := by decide +kernel
theorem dX0_billOf_14 : decode cX0_billOf 14 = .ok (.ireturn, 1) := by decide +kernel
theorem dX0_setsOn_0 : decode cX0_setsOn 0 = .ok (.iconst 0, 1) := by decide +kernel
theorem dX0_setsOn_1 : decode cX0_setsOn 1 = .ok (.istore_n 2, 1) := by decide +kernel
theorem dX0_setsOn_2 : decode cX0_setsOn 2 = .ok (.iconst 0, 1) := by decide +kernel
theorem dX0_setsOn_3 : decode cX0_setsOn 3 = .ok (.istore_n 3, 1) := by decide +kernel
theorem dX0_setsOn_4 : decode cX0_setsOn 4 = .ok (.iload_n 3, 1) := by decide +kernel
theorem dX0_setsOn_5 : decode cX0_setsOn 5 = .ok (.aload_n 0, 1) := by decide +kernel
theorem dX0_setsOn_6 : decode cX0_setsOn 6 = .ok (.getfield 54, 3) := by decide +kernel
theorem dX0_setsOn_9 : decode cX0_setsOn 9 = .ok (.if_icmp .ge 21, 3) := by decide +kernel
theorem dX0_setsOn_12 : decode cX0_setsOn 12 = .ok (.aload_n 0, 1) := by decide +kernel
theorem dX0_setsOn_13 : decode cX0_setsOn 13 = .ok (.iload_n 3, 1) := by decide +kernel
theorem dX0_setsOn_14 : decode cX0_setsOn 14 = .ok (.iload_n 1, 1) := by decide +kernel
theorem dX0_setsOn_15 : decode cX0_setsOn 15 = .ok (.invokevirtual 130, 3) := by decide +kernel
theorem dX0_setsOn_18 : decode cX0_setsOn 18 = .ok (.ifCond .eq 6, 3) := by decide +kernel
theorem dX0_setsOn_21 : decode cX0_setsOn 21 = .ok (.iinc 2 1, 3) := by decide +kernel
theorem dX0_setsOn_24 : decode cX0_setsOn 24 = .ok (.iinc 3 1, 3) := by decide +kernel
theorem dX0_setsOn_27 : decode cX0_setsOn 27 = .ok (.goto (-23), 3) := by decide +kernel
theorem dX0_setsOn_30 : decode cX0_setsOn 30 = .ok (.iload_n 2, 1) := by decide +kernel
theorem dX0_setsOn_31 : decode cX0_setsOn 31 = .ok (.ireturn, 1) := by decide +kernel
theorem dX0_billIfAllLeft_0 : decode cX0_billIfAllLeft 0 = .ok (.iconst 0, 1) := by decide +kernel
theorem dX0_billIfAllLeft_1 : decode cX0_billIfAllLeft 1 = .ok (.istore_n 2, 1) := by decide +kernel
theorem dX0_billIfAllLeft_2 : decode cX0_billIfAllLeft 2 = .ok (.iconst 0, 1) := by decide +kernel
theorem dX0_billIfAllLeft_3 : decode cX0_billIfAllLeft 3 = .ok (.istore_n 3, 1) := by decide +kernel
theorem dX0_billIfAllLeft_4 : decode cX0_billIfAllLeft 4 = .ok (.iload_n 3, 1) := by decide +kernel
theorem dX0_billIfAllLeft_5 : decode cX0_billIfAllLeft 5 = .ok (.aload_n 0, 1) := by decide +kernel
theorem dX0_billIfAllLeft_6 : decode cX0_billIfAllLeft 6 = .ok (.getfield 54, 3) := by decide +kernel
theorem dX0_billIfAllLeft_9 : decode cX0_billIfAllLeft 9 = .ok (.if_icmp .ge 27, 3) := by decide +kernel
theorem dX0_billIfAllLeft_12 : decode cX0_billIfAllLeft 12 = .ok (.aload_n 0, 1) := by decide +kernel
theorem dX0_billIfAllLeft_13 : decode cX0_billIfAllLeft 13 = .ok (.iload_n 3, 1) := by decide +kernel
theorem dX0_billIfAllLeft_14 : decode cX0_billIfAllLeft 14 = .ok (.iload_n 1, 1) := by decide +kernel
theorem dX0_billIfAllLeft_15 : decode cX0_billIfAllLeft 15 = .ok (.invokevirtual 130, 3) := by decide +kernel
theorem dX0_billIfAllLeft_18 : decode cX0_billIfAllLeft 18 = .ok (.ifCond .eq 12, 3) := by decide +kernel
theorem dX0_billIfAllLeft_21 : decode cX0_billIfAllLeft 21 = .ok (.iload_n 2, 1) := by decide +kernel
theorem dX0_billIfAllLeft_22 : decode cX0_billIfAllLeft 22 = .ok (.aload_n 0, 1) := by decide +kernel
theorem dX0_billIfAllLeft_23 : decode cX0_billIfAllLeft 23 = .ok (.iload_n 3, 1) := by decide +kernel
theorem dX0_billIfAllLeft_24 : decode cX0_billIfAllLeft 24 = .ok (.iconst 0, 1) := by decide +kernel
theorem dX0_billIfAllLeft_25 : decode cX0_billIfAllLeft 25 = .ok (.invokevirtual 144, 3) := by decide +kernel
theorem dX0_billIfAllLeft_28 : decode cX0_billIfAllLeft 28 = .ok (.iadd, 1) := by decide +kernel
theorem dX0_billIfAllLeft_29 : decode cX0_billIfAllLeft 29 = .ok (.istore_n 2, 1) := by decide +kernel
theorem dX0_billIfAllLeft_30 : decode cX0_billIfAllLeft 30 = .ok (.iinc 3 1, 3) := by decide +kernel
theorem dX0_billIfAllLeft_33 : decode cX0_billIfAllLeft 33 = .ok (.goto (-29), 3) := by decide +kernel
theorem dX0_billIfAllLeft_36 : decode cX0_billIfAllLeft 36 = .ok (.iload_n 2, 1) := by decide +kernel
theorem dX0_billIfAllLeft_37 : decode cX0_billIfAllLeft 37 = .ok (.ireturn, 1) := by decide +kernel
theorem dX0_isWithinTerm_0 : decode cX0_isWithinTerm 0 = .ok (.aload_n 0, 1) := by decide +kernel
theorem dX0_isWithinTerm_1 : decode cX0_isWithinTerm 1 = .ok (.getfield 58, 3) := by decide +kernel
theorem dX0_isWithinTerm_4 : decode cX0_isWithinTerm 4 = .ok (.aload_n 0, 1) := by decide +kernel
theorem dX0_isWithinTerm_5 : decode cX0_isWithinTerm 5 = .ok (.getfield 18, 3) := by decide +kernel
theorem dX0_isWithinTerm_8 : decode cX0_isWithinTerm 8 = .ok (.iload_n 1, 1) := by decide +kernel
theorem dX0_isWithinTerm_9 : decode cX0_isWithinTerm 9 = .ok (.invokestatic 78, 3) := by decide +kernel
theorem dX0_isWithinTerm_12 : decode cX0_isWithinTerm 12 = .ok (.isub, 1) := by decide +kernel
theorem dX0_isWithinTerm_13 : decode cX0_isWithinTerm 13 = .ok (.aload_n 0, 1) := by decide +kernel
theorem dX0_isWithinTerm_14 : decode cX0_isWithinTerm 14 = .ok (.getfield 9, 3) := by decide +kernel
theorem dX0_isWithinTerm_17 : decode cX0_isWithinTerm 17 = .ok (.iconst 0, 1) := by decide +kernel
theorem dX0_isWithinTerm_18 : decode cX0_isWithinTerm 18 = .ok (.invokestatic 78, 3) := by decide +kernel
theorem dX0_isWithinTerm_21 : decode cX0_isWithinTerm 21 = .ok (.if_icmp .ge 7, 3) := by decide +kernel
theorem dX0_isWithinTerm_24 : decode cX0_isWithinTerm 24 = .ok (.iconst 1, 1) := by decide +kernel
theorem dX0_isWithinTerm_25 : decode cX0_isWithinTerm 25 = .ok (.goto 4, 3) := by decide +kernel
theorem dX0_isWithinTerm_28 : decode cX0_isWithinTerm 28 = .ok (.iconst 0, 1) := by decide +kernel
theorem dX0_isWithinTerm_29 : decode cX0_isWithinTerm 29 = .ok (.ireturn, 1) := by decide +kernel
theorem dX0_setsWithinTerm_0 : decode cX0_setsWithinTerm 0 = .ok (.iconst 0, 1) := by decide +kernel
theorem dX0_setsWithinTerm_1 : decode cX0_setsWithinTerm 1 = .ok (.istore_n 2, 1) := by decide +kernel
theorem dX0_setsWithinTerm_2 : decode cX0_setsWithinTerm 2 = .ok (.iconst 0, 1) := by decide +kernel
theorem dX0_setsWithinTerm_3 : decode cX0_setsWithinTerm 3 = .ok (.istore_n 3, 1) := by decide +kernel
theorem dX0_setsWithinTerm_4 : decode cX0_setsWithinTerm 4 = .ok (.iload_n 3, 1) := by decide +kernel
theorem dX0_setsWithinTerm_5 : decode cX0_setsWithinTerm 5 = .ok (.aload_n 0, 1) := by decide +kernel
theorem dX0_setsWithinTerm_6 : decode cX0_setsWithinTerm 6 = .ok (.getfield 54, 3) := by decide +kernel
theorem dX0_setsWithinTerm_9 : decode cX0_setsWithinTerm 9 = .ok (.if_icmp .ge 29, 3) := by decide +kernel
theorem dX0_setsWithinTerm_12 : decode cX0_setsWithinTerm 12 = .ok (.aload_n 0, 1) := by decide +kernel
theorem dX0_setsWithinTerm_13 : decode cX0_setsWithinTerm 13 = .ok (.iload_n 3, 1) := by decide +kernel
theorem dX0_setsWithinTerm_14 : decode cX0_setsWithinTerm 14 = .ok (.iload_n 1, 1) := by decide +kernel
theorem dX0_setsWithinTerm_15 : decode cX0_setsWithinTerm 15 = .ok (.invokevirtual 130, 3) := by decide +kernel
theorem dX0_setsWithinTerm_18 : decode cX0_setsWithinTerm 18 = .ok (.ifCond .eq 14, 3) := by decide +kernel
theorem dX0_setsWithinTerm_21 : decode cX0_setsWithinTerm 21 = .ok (.aload_n 0, 1) := by decide +kernel
theorem dX0_setsWithinTerm_22 : decode cX0_setsWithinTerm 22 = .ok (.iload_n 3, 1) := by decide +kernel
theorem dX0_setsWithinTerm_23 : decode cX0_setsWithinTerm 23 = .ok (.invokevirtual 160, 3) := by decide +kernel
theorem dX0_setsWithinTerm_26 : decode cX0_setsWithinTerm 26 = .ok (.ifCond .eq 6, 3) := by decide +kernel
theorem dX0_setsWithinTerm_29 : decode cX0_setsWithinTerm 29 = .ok (.iinc 2 1, 3) := by decide +kernel
theorem dX0_setsWithinTerm_32 : decode cX0_setsWithinTerm 32 = .ok (.iinc 3 1, 3) := by decide +kernel
theorem dX0_setsWithinTerm_35 : decode cX0_setsWithinTerm 35 = .ok (.goto (-31), 3) := by decide +kernel
theorem dX0_setsWithinTerm_38 : decode cX0_setsWithinTerm 38 = .ok (.iload_n 2, 1) := by decide +kernel
theorem dX0_setsWithinTerm_39 : decode cX0_setsWithinTerm 39 = .ok (.ireturn, 1) := by decide +kernel
theorem dX0_firstDue_0 : decode cX0_firstDue 0 = .ok (.iconst (-1), 1) := by decide +kernel
theorem dX0_firstDue_1 : decode cX0_firstDue 1 = .ok (.istore_n 2, 1) := by decide +kernel
theorem dX0_firstDue_2 : decode cX0_firstDue 2 = .ok (.iconst 0, 1) := by decide +kernel
theorem dX0_firstDue_3 : decode cX0_firstDue 3 = .ok (.istore_n 3, 1) := by decide +kernel
theorem dX0_firstDue_4 : decode cX0_firstDue 4 = .ok (.iload_n 3, 1) := by decide +kernel
theorem dX0_firstDue_5 : decode cX0_firstDue 5 = .ok (.aload_n 0, 1) := by decide +kernel
theorem dX0_firstDue_6 : decode cX0_firstDue 6 = .ok (.getfield 54, 3) := by decide +kernel
theorem dX0_firstDue_9 : decode cX0_firstDue 9 = .ok (.if_icmp .ge 52, 3) := by decide +kernel
theorem dX0_firstDue_12 : decode cX0_firstDue 12 = .ok (.aload_n 0, 1) := by decide +kernel
theorem dX0_firstDue_13 : decode cX0_firstDue 13 = .ok (.iload_n 3, 1) := by decide +kernel
theorem dX0_firstDue_14 : decode cX0_firstDue 14 = .ok (.iload_n 1, 1) := by decide +kernel
theorem dX0_firstDue_15 : decode cX0_firstDue 15 = .ok (.invokevirtual 130, 3) := by decide +kernel
theorem dX0_firstDue_18 : decode cX0_firstDue 18 = .ok (.ifCond .eq 37, 3) := by decide +kernel
theorem dX0_firstDue_21 : decode cX0_firstDue 21 = .ok (.aload_n 0, 1) := by decide +kernel
theorem dX0_firstDue_22 : decode cX0_firstDue 22 = .ok (.iload_n 3, 1) := by decide +kernel
theorem dX0_firstDue_23 : decode cX0_firstDue 23 = .ok (.invokevirtual 160, 3) := by decide +kernel
theorem dX0_firstDue_26 : decode cX0_firstDue 26 = .ok (.ifCond .ne 29, 3) := by decide +kernel
theorem dX0_firstDue_29 : decode cX0_firstDue 29 = .ok (.iload_n 2, 1) := by decide +kernel
theorem dX0_firstDue_30 : decode cX0_firstDue 30 = .ok (.iconst (-1), 1) := by decide +kernel
theorem dX0_firstDue_31 : decode cX0_firstDue 31 = .ok (.if_icmp .eq 22, 3) := by decide +kernel
theorem dX0_firstDue_34 : decode cX0_firstDue 34 = .ok (.aload_n 0, 1) := by decide +kernel
theorem dX0_firstDue_35 : decode cX0_firstDue 35 = .ok (.getfield 18, 3) := by decide +kernel
theorem dX0_firstDue_38 : decode cX0_firstDue 38 = .ok (.iload_n 3, 1) := by decide +kernel
theorem dX0_firstDue_39 : decode cX0_firstDue 39 = .ok (.invokestatic 78, 3) := by decide +kernel
theorem dX0_firstDue_42 : decode cX0_firstDue 42 = .ok (.aload_n 0, 1) := by decide +kernel
theorem dX0_firstDue_43 : decode cX0_firstDue 43 = .ok (.getfield 18, 3) := by decide +kernel
theorem dX0_firstDue_46 : decode cX0_firstDue 46 = .ok (.iload_n 2, 1) := by decide +kernel
theorem dX0_firstDue_47 : decode cX0_firstDue 47 = .ok (.invokestatic 78, 3) := by decide +kernel
theorem dX0_firstDue_50 : decode cX0_firstDue 50 = .ok (.if_icmp .ge 5, 3) := by decide +kernel
theorem dX0_firstDue_53 : decode cX0_firstDue 53 = .ok (.iload_n 3, 1) := by decide +kernel
theorem dX0_firstDue_54 : decode cX0_firstDue 54 = .ok (.istore_n 2, 1) := by decide +kernel
theorem dX0_firstDue_55 : decode cX0_firstDue 55 = .ok (.iinc 3 1, 3) := by decide +kernel
theorem dX0_firstDue_58 : decode cX0_firstDue 58 = .ok (.goto (-54), 3) := by decide +kernel
theorem dX0_firstDue_61 : decode cX0_firstDue 61 = .ok (.iload_n 2, 1) := by decide +kernel
theorem dX0_firstDue_62 : decode cX0_firstDue 62 = .ok (.ireturn, 1) := by decide +kernel
theorem dX0_bundleValue_0 : decode cX0_bundleValue 0 = .ok (.iload_n 2, 1) := by decide +kernel
theorem dX0_bundleValue_1 : decode cX0_bundleValue 1 = .ok (.tableswitch 114 0 8 #[51, 60, 69, 83, 89, 89, 89, 98, 105], 51) := by decide +kernel
theorem dX0_bundleValue_52 : decode cX0_bundleValue 52 = .ok (.aload_n 0, 1) := by decide +kernel
theorem dX0_bundleValue_53 : decode cX0_bundleValue 53 = .ok (.getfield 15, 3) := by decide +kernel
theorem dX0_bundleValue_56 : decode cX0_bundleValue 56 = .ok (.iload_n 1, 1) := by decide +kernel
theorem dX0_bundleValue_57 : decode cX0_bundleValue 57 = .ok (.invokestatic 78, 3) := by decide +kernel
theorem dX0_bundleValue_60 : decode cX0_bundleValue 60 = .ok (.ireturn, 1) := by decide +kernel
theorem dX0_bundleValue_61 : decode cX0_bundleValue 61 = .ok (.aload_n 0, 1) := by decide +kernel
theorem dX0_bundleValue_62 : decode cX0_bundleValue 62 = .ok (.getfield 18, 3) := by decide +kernel
theorem dX0_bundleValue_65 : decode cX0_bundleValue 65 = .ok (.iload_n 1, 1) := by decide +kernel
theorem dX0_bundleValue_66 : decode cX0_bundleValue 66 = .ok (.invokestatic 78, 3) := by decide +kernel
theorem dX0_bundleValue_69 : decode cX0_bundleValue 69 = .ok (.ireturn, 1) := by decide +kernel
theorem dX0_bundleValue_70 : decode cX0_bundleValue 70 = .ok (.aload_n 0, 1) := by decide +kernel
theorem dX0_bundleValue_71 : decode cX0_bundleValue 71 = .ok (.iload_n 1, 1) := by decide +kernel
theorem dX0_bundleValue_72 : decode cX0_bundleValue 72 = .ok (.invokevirtual 95, 3) := by decide +kernel
theorem dX0_bundleValue_75 : decode cX0_bundleValue 75 = .ok (.ifCond .eq 7, 3) := by decide +kernel
theorem dX0_bundleValue_78 : decode cX0_bundleValue 78 = .ok (.iconst 1, 1) := by decide +kernel
theorem dX0_bundleValue_79 : decode cX0_bundleValue 79 = .ok (.goto 4, 3) := by decide +kernel
theorem dX0_bundleValue_82 : decode cX0_bundleValue 82 = .ok (.iconst 0, 1) := by decide +kernel
theorem dX0_bundleValue_83 : decode cX0_bundleValue 83 = .ok (.ireturn, 1) := by decide +kernel
theorem dX0_bundleValue_84 : decode cX0_bundleValue 84 = .ok (.aload_n 0, 1) := by decide +kernel
theorem dX0_bundleValue_85 : decode cX0_bundleValue 85 = .ok (.iload_n 1, 1) := by decide +kernel
theorem dX0_bundleValue_86 : decode cX0_bundleValue 86 = .ok (.invokevirtual 163, 3) := by decide +kernel
theorem dX0_bundleValue_89 : decode cX0_bundleValue 89 = .ok (.ireturn, 1) := by decide +kernel
theorem dX0_bundleValue_90 : decode cX0_bundleValue 90 = .ok (.aload_n 0, 1) := by decide +kernel
theorem dX0_bundleValue_91 : decode cX0_bundleValue 91 = .ok (.iload_n 1, 1) := by decide +kernel
theorem dX0_bundleValue_92 : decode cX0_bundleValue 92 = .ok (.iload_n 2, 1) := by decide +kernel
theorem dX0_bundleValue_93 : decode cX0_bundleValue 93 = .ok (.iconst 4, 1) := by decide +kernel
theorem dX0_bundleValue_94 : decode cX0_bundleValue 94 = .ok (.isub, 1) := by decide +kernel
theorem dX0_bundleValue_95 : decode cX0_bundleValue 95 = .ok (.invokevirtual 127, 3) := by decide +kernel
theorem dX0_bundleValue_98 : decode cX0_bundleValue 98 = .ok (.ireturn, 1) := by decide +kernel
theorem dX0_bundleValue_99 : decode cX0_bundleValue 99 = .ok (.aload_n 0, 1) := by decide +kernel
theorem dX0_bundleValue_100 : decode cX0_bundleValue 100 = .ok (.iload_n 1, 1) := by decide +kernel
theorem dX0_bundleValue_101 : decode cX0_bundleValue 101 = .ok (.iconst 0, 1) := by decide +kernel
theorem dX0_bundleValue_102 : decode cX0_bundleValue 102 = .ok (.invokevirtual 144, 3) := by decide +kernel
theorem dX0_bundleValue_105 : decode cX0_bundleValue 105 = .ok (.ireturn, 1) := by decide +kernel
theorem dX0_bundleValue_106 : decode cX0_bundleValue 106 = .ok (.aload_n 0, 1) := by decide +kernel
theorem dX0_bundleValue_107 : decode cX0_bundleValue 107 = .ok (.getfield 21, 3) := by decide +kernel
theorem dX0_bundleValue_110 : decode cX0_bundleValue 110 = .ok (.iload_n 1, 1) := by decide +kernel
theorem dX0_bundleValue_111 : decode cX0_bundleValue 111 = .ok (.invokestatic 78, 3) := by decide +kernel
theorem dX0_bundleValue_114 : decode cX0_bundleValue 114 = .ok (.ireturn, 1) := by decide +kernel
theorem dX0_bundleValue_115 : decode cX0_bundleValue 115 = .ok (.aload_n 0, 1) := by decide +kernel
theorem dX0_bundleValue_116 : decode cX0_bundleValue 116 = .ok (.iload_n 1, 1) := by decide +kernel
theorem dX0_bundleValue_117 : decode cX0_bundleValue 117 = .ok (.iload_n 2, 1) := by decide +kernel
theorem dX0_bundleValue_118 : decode cX0_bundleValue 118 = .ok (.bipush 10, 2) := by decide +kernel
theorem dX0_bundleValue_120 : decode cX0_bundleValue 120 = .ok (.isub, 1) := by decide +kernel
theorem dX0_bundleValue_121 : decode cX0_bundleValue 121 = .ok (.invokevirtual 88, 3) := by decide +kernel
theorem dX0_bundleValue_124 : decode cX0_bundleValue 124 = .ok (.ireturn, 1) := by decide +kernel
theorem dX0_siteValue_0 : decode cX0_siteValue 0 = .ok (.iload_n 2, 1) := by decide +kernel
theorem dX0_siteValue_1 : decode cX0_siteValue 1 = .ok (.tableswitch 97 0 6 #[43, 49, 55, 64, 73, 82, 91], 43) := by decide +kernel
theorem dX0_siteValue_44 : decode cX0_siteValue 44 = .ok (.aload_n 0, 1) := by decide +kernel
theorem dX0_siteValue_45 : decode cX0_siteValue 45 = .ok (.iload_n 1, 1) := by decide +kernel
theorem dX0_siteValue_46 : decode cX0_siteValue 46 = .ok (.invokevirtual 166, 3) := by decide +kernel
theorem dX0_siteValue_49 : decode cX0_siteValue 49 = .ok (.ireturn, 1) := by decide +kernel
theorem dX0_siteValue_50 : decode cX0_siteValue 50 = .ok (.aload_n 0, 1) := by decide +kernel
theorem dX0_siteValue_51 : decode cX0_siteValue 51 = .ok (.iload_n 1, 1) := by decide +kernel
theorem dX0_siteValue_52 : decode cX0_siteValue 52 = .ok (.invokevirtual 169, 3) := by decide +kernel
theorem dX0_siteValue_55 : decode cX0_siteValue 55 = .ok (.ireturn, 1) := by decide +kernel
theorem dX0_siteValue_56 : decode cX0_siteValue 56 = .ok (.aload_n 0, 1) := by decide +kernel
theorem dX0_siteValue_57 : decode cX0_siteValue 57 = .ok (.getfield 36, 3) := by decide +kernel
theorem dX0_siteValue_60 : decode cX0_siteValue 60 = .ok (.iload_n 1, 1) := by decide +kernel
theorem dX0_siteValue_61 : decode cX0_siteValue 61 = .ok (.invokestatic 78, 3) := by decide +kernel
theorem dX0_siteValue_64 : decode cX0_siteValue 64 = .ok (.ireturn, 1) := by decide +kernel
theorem dX0_siteValue_65 : decode cX0_siteValue 65 = .ok (.aload_n 0, 1) := by decide +kernel
theorem dX0_siteValue_66 : decode cX0_siteValue 66 = .ok (.getfield 39, 3) := by decide +kernel
theorem dX0_siteValue_69 : decode cX0_siteValue 69 = .ok (.iload_n 1, 1) := by decide +kernel
theorem dX0_siteValue_70 : decode cX0_siteValue 70 = .ok (.invokestatic 78, 3) := by decide +kernel
theorem dX0_siteValue_73 : decode cX0_siteValue 73 = .ok (.ireturn, 1) := by decide +kernel
theorem dX0_siteValue_74 : decode cX0_siteValue 74 = .ok (.aload_n 0, 1) := by decide +kernel
theorem dX0_siteValue_75 : decode cX0_siteValue 75 = .ok (.getfield 42, 3) := by decide +kernel
theorem dX0_siteValue_78 : decode cX0_siteValue 78 = .ok (.iload_n 1, 1) := by decide +kernel
theorem dX0_siteValue_79 : decode cX0_siteValue 79 = .ok (.invokestatic 78, 3) := by decide +kernel
theorem dX0_siteValue_82 : decode cX0_siteValue 82 = .ok (.ireturn, 1) := by decide +kernel
theorem dX0_siteValue_83 : decode cX0_siteValue 83 = .ok (.aload_n 0, 1) := by decide +kernel
theorem dX0_siteValue_84 : decode cX0_siteValue 84 = .ok (.getfield 45, 3) := by decide +kernel
theorem dX0_siteValue_87 : decode cX0_siteValue 87 = .ok (.iload_n 1, 1) := by decide +kernel
theorem dX0_siteValue_88 : decode cX0_siteValue 88 = .ok (.invokestatic 78, 3) := by decide +kernel
theorem dX0_siteValue_91 : decode cX0_siteValue 91 = .ok (.ireturn, 1) := by decide +kernel
theorem dX0_siteValue_92 : decode cX0_siteValue 92 = .ok (.aload_n 0, 1) := by decide +kernel
theorem dX0_siteValue_93 : decode cX0_siteValue 93 = .ok (.iload_n 1, 1) := by decide +kernel
theorem dX0_siteValue_94 : decode cX0_siteValue 94 = .ok (.invokevirtual 172, 3) := by decide +kernel
theorem dX0_siteValue_97 : decode cX0_siteValue 97 = .ok (.ireturn, 1) := by decide +kernel
theorem dX0_siteValue_98 : decode cX0_siteValue 98 = .ok (.aload_n 0, 1) := by decide +kernel
theorem dX0_siteValue_99 : decode cX0_siteValue 99 = .ok (.iload_n 1, 1) := by decide +kernel
theorem dX0_siteValue_100 : decode cX0_siteValue 100 = .ok (.invokevirtual 175, 3) := by decide +kernel
theorem dX0_siteValue_103 : decode cX0_siteValue 103 = .ok (.ireturn, 1) := by decide +kernel
theorem dX0_partsInSets_0 : decode cX0_partsInSets 0 = .ok (.iconst 0, 1) := by decide +kernel
theorem dX0_partsInSets_1 : decode cX0_partsInSets 1 = .ok (.istore_n 2, 1) := by decide +kernel
theorem dX0_partsInSets_2 : decode cX0_partsInSets 2 = .ok (.iconst 0, 1) := by decide +kernel
theorem dX0_partsInSets_3 : decode cX0_partsInSets 3 = .ok (.istore_n 3, 1) := by decide +kernel
theorem dX0_partsInSets_4 : decode cX0_partsInSets 4 = .ok (.iload_n 3, 1) := by decide +kernel
theorem dX0_partsInSets_5 : decode cX0_partsInSets 5 = .ok (.aload_n 0, 1) := by decide +kernel
theorem dX0_partsInSets_6 : decode cX0_partsInSets 6 = .ok (.getfield 54, 3) := by decide +kernel
theorem dX0_partsInSets_9 : decode cX0_partsInSets 9 = .ok (.if_icmp .ge 18, 3) := by decide +kernel
theorem dX0_partsInSets_12 : decode cX0_partsInSets 12 = .ok (.iload_n 2, 1) := by decide +kernel
theorem dX0_partsInSets_13 : decode cX0_partsInSets 13 = .ok (.aload_n 0, 1) := by decide +kernel
theorem dX0_partsInSets_14 : decode cX0_partsInSets 14 = .ok (.iload_n 3, 1) := by decide +kernel
theorem dX0_partsInSets_15 : decode cX0_partsInSets 15 = .ok (.iload_n 1, 1) := by decide +kernel
theorem dX0_partsInSets_16 : decode cX0_partsInSets 16 = .ok (.invokevirtual 88, 3) := by decide +kernel
theorem dX0_partsInSets_19 : decode cX0_partsInSets 19 = .ok (.iadd, 1) := by decide +kernel
theorem dX0_partsInSets_20 : decode cX0_partsInSets 20 = .ok (.istore_n 2, 1) := by decide +kernel
theorem dX0_partsInSets_21 : decode cX0_partsInSets 21 = .ok (.iinc 3 1, 3) := by decide +kernel
theorem dX0_partsInSets_24 : decode cX0_partsInSets 24 = .ok (.goto (-20), 3) := by decide +kernel
theorem dX0_partsInSets_27 : decode cX0_partsInSets 27 = .ok (.iload_n 2, 1) := by decide +kernel
theorem dX0_partsInSets_28 : decode cX0_partsInSets 28 = .ok (.ireturn, 1) := by decide +kernel
theorem dX0_partsValue_0 : decode cX0_partsValue 0 = .ok (.iload_n 2, 1) := by decide +kernel
theorem dX0_partsValue_1 : decode cX0_partsValue 1 = .ok (.tableswitch 79 0 3 #[31, 37, 46, 55], 31) := by decide +kernel
theorem dX0_partsValue_32 : decode cX0_partsValue 32 = .ok (.aload_n 0, 1) := by decide +kernel
theorem dX0_partsValue_33 : decode cX0_partsValue 33 = .ok (.iload_n 1, 1) := by decide +kernel
theorem dX0_partsValue_34 : decode cX0_partsValue 34 = .ok (.invokevirtual 178, 3) := by decide +kernel
theorem dX0_partsValue_37 : decode cX0_partsValue 37 = .ok (.ireturn, 1) := by decide +kernel
theorem dX0_partsValue_38 : decode cX0_partsValue 38 = .ok (.aload_n 0, 1) := by decide +kernel
theorem dX0_partsValue_39 : decode cX0_partsValue 39 = .ok (.getfield 30, 3) := by decide +kernel
theorem dX0_partsValue_42 : decode cX0_partsValue 42 = .ok (.iload_n 1, 1) := by decide +kernel
theorem dX0_partsValue_43 : decode cX0_partsValue 43 = .ok (.invokestatic 78, 3) := by decide +kernel
theorem dX0_partsValue_46 : decode cX0_partsValue 46 = .ok (.ireturn, 1) := by decide +kernel
theorem dX0_partsValue_47 : decode cX0_partsValue 47 = .ok (.aload_n 0, 1) := by decide +kernel
theorem dX0_partsValue_48 : decode cX0_partsValue 48 = .ok (.getfield 33, 3) := by decide +kernel
theorem dX0_partsValue_51 : decode cX0_partsValue 51 = .ok (.iload_n 1, 1) := by decide +kernel
theorem dX0_partsValue_52 : decode cX0_partsValue 52 = .ok (.invokestatic 78, 3) := by decide +kernel
theorem dX0_partsValue_55 : decode cX0_partsValue 55 = .ok (.ireturn, 1) := by decide +kernel
theorem dX0_partsValue_56 : decode cX0_partsValue 56 = .ok (.aload_n 0, 1) := by decide +kernel
theorem dX0_partsValue_57 : decode cX0_partsValue 57 = .ok (.iload_n 1, 1) := by decide +kernel
theorem dX0_partsValue_58 : decode cX0_partsValue 58 = .ok (.invokevirtual 178, 3) := by decide +kernel
theorem dX0_partsValue_61 : decode cX0_partsValue 61 = .ok (.aload_n 0, 1) := by decide +kernel
theorem dX0_partsValue_62 : decode cX0_partsValue 62 = .ok (.getfield 30, 3) := by decide +kernel
theorem dX0_partsValue_65 : decode cX0_partsValue 65 = .ok (.iload_n 1, 1) := by decide +kernel
theorem dX0_partsValue_66 : decode cX0_partsValue 66 = .ok (.invokestatic 78, 3) := by decide +kernel
theorem dX0_partsValue_69 : decode cX0_partsValue 69 = .ok (.iadd, 1) := by decide +kernel
theorem dX0_partsValue_70 : decode cX0_partsValue 70 = .ok (.aload_n 0, 1) := by decide +kernel
theorem dX0_partsValue_71 : decode cX0_partsValue 71 = .ok (.getfield 33, 3) := by decide +kernel
theorem dX0_partsValue_74 : decode cX0_partsValue 74 = .ok (.iload_n 1, 1) := by decide +kernel
theorem dX0_partsValue_75 : decode cX0_partsValue 75 = .ok (.invokestatic 78, 3) := by decide +kernel
theorem dX0_partsValue_78 : decode cX0_partsValue 78 = .ok (.iadd, 1) := by decide +kernel
theorem dX0_partsValue_79 : decode cX0_partsValue 79 = .ok (.ireturn, 1) := by decide +kernel
theorem dX0_partsValue_80 : decode cX0_partsValue 80 = .ok (.aload_n 0, 1) := by decide +kernel
theorem dX0_partsValue_81 : decode cX0_partsValue 81 = .ok (.getfield 54, 3) := by decide +kernel
theorem dX0_partsValue_84 : decode cX0_partsValue 84 = .ok (.getstatic 85, 3) := by decide +kernel
theorem dX0_partsValue_87 : decode cX0_partsValue 87 = .ok (.iload_n 1, 1) := by decide +kernel
theorem dX0_partsValue_88 : decode cX0_partsValue 88 = .ok (.invokestatic 78, 3) := by decide +kernel
theorem dX0_partsValue_91 : decode cX0_partsValue 91 = .ok (.imul, 1) := by decide +kernel
theorem dX0_partsValue_92 : decode cX0_partsValue 92 = .ok (.aload_n 0, 1) := by decide +kernel
theorem dX0_partsValue_93 : decode cX0_partsValue 93 = .ok (.iload_n 1, 1) := by decide +kernel
theorem dX0_partsValue_94 : decode cX0_partsValue 94 = .ok (.invokevirtual 178, 3) := by decide +kernel
theorem dX0_partsValue_97 : decode cX0_partsValue 97 = .ok (.isub, 1) := by decide +kernel
theorem dX0_partsValue_98 : decode cX0_partsValue 98 = .ok (.ireturn, 1) := by decide +kernel
theorem dX0_billedToAll_0 : decode cX0_billedToAll 0 = .ok (.iconst 0, 1) := by decide +kernel
theorem dX0_billedToAll_1 : decode cX0_billedToAll 1 = .ok (.istore_n 1, 1) := by decide +kernel
theorem dX0_billedToAll_2 : decode cX0_billedToAll 2 = .ok (.iconst 0, 1) := by decide +kernel
theorem dX0_billedToAll_3 : decode cX0_billedToAll 3 = .ok (.istore_n 2, 1) := by decide +kernel
theorem dX0_billedToAll_4 : decode cX0_billedToAll 4 = .ok (.iload_n 2, 1) := by decide +kernel
theorem dX0_billedToAll_5 : decode cX0_billedToAll 5 = .ok (.bipush 6, 2) := by decide +kernel
theorem dX0_billedToAll_7 : decode cX0_billedToAll 7 = .ok (.if_icmp .ge 17, 3) := by decide +kernel
theorem dX0_billedToAll_10 : decode cX0_billedToAll 10 = .ok (.iload_n 1, 1) := by decide +kernel
theorem dX0_billedToAll_11 : decode cX0_billedToAll 11 = .ok (.aload_n 0, 1) := by decide +kernel
theorem dX0_billedToAll_12 : decode cX0_billedToAll 12 = .ok (.iload_n 2, 1) := by decide +kernel
theorem dX0_billedToAll_13 : decode cX0_billedToAll 13 = .ok (.invokevirtual 157, 3) := by decide +kernel
theorem dX0_billedToAll_16 : decode cX0_billedToAll 16 = .ok (.iadd, 1) := by decide +kernel
theorem dX0_billedToAll_17 : decode cX0_billedToAll 17 = .ok (.istore_n 1, 1) := by decide +kernel
theorem dX0_billedToAll_18 : decode cX0_billedToAll 18 = .ok (.iinc 2 1, 3) := by decide +kernel
theorem dX0_billedToAll_21 : decode cX0_billedToAll 21 = .ok (.goto (-17), 3) := by decide +kernel
theorem dX0_billedToAll_24 : decode cX0_billedToAll 24 = .ok (.iload_n 1, 1) := by decide +kernel
theorem dX0_billedToAll_25 : decode cX0_billedToAll 25 = .ok (.ireturn, 1) := by decide +kernel
theorem dX0_paidByAll_0 : decode cX0_paidByAll 0 = .ok (.iconst 0, 1) := by decide +kernel
theorem dX0_paidByAll_1 : decode cX0_paidByAll 1 = .ok (.istore_n 1, 1) := by decide +kernel
theorem dX0_paidByAll_2 : decode cX0_paidByAll 2 = .ok (.iconst 0, 1) := by decide +kernel
theorem dX0_paidByAll_3 : decode cX0_paidByAll 3 = .ok (.istore_n 2, 1) := by decide +kernel
theorem dX0_paidByAll_4 : decode cX0_paidByAll 4 = .ok (.iload_n 2, 1) := by decide +kernel
theorem dX0_paidByAll_5 : decode cX0_paidByAll 5 = .ok (.bipush 6, 2) := by decide +kernel
theorem dX0_paidByAll_7 : decode cX0_paidByAll 7 = .ok (.if_icmp .ge 20, 3) := by decide +kernel
theorem dX0_paidByAll_10 : decode cX0_paidByAll 10 = .ok (.iload_n 1, 1) := by decide +kernel
theorem dX0_paidByAll_11 : decode cX0_paidByAll 11 = .ok (.aload_n 0, 1) := by decide +kernel
theorem dX0_paidByAll_12 : decode cX0_paidByAll 12 = .ok (.getfield 45, 3) := by decide +kernel
theorem dX0_paidByAll_15 : decode cX0_paidByAll 15 = .ok (.iload_n 2, 1) := by decide +kernel
theorem dX0_paidByAll_16 : decode cX0_paidByAll 16 = .ok (.invokestatic 78, 3) := by decide +kernel
theorem dX0_paidByAll_19 : decode cX0_paidByAll 19 = .ok (.iadd, 1) := by decide +kernel
theorem dX0_paidByAll_20 : decode cX0_paidByAll 20 = .ok (.istore_n 1, 1) := by decide +kernel
theorem dX0_paidByAll_21 : decode cX0_paidByAll 21 = .ok (.iinc 2 1, 3) := by decide +kernel
theorem dX0_paidByAll_24 : decode cX0_paidByAll 24 = .ok (.goto (-20), 3) := by decide +kernel
theorem dX0_paidByAll_27 : decode cX0_paidByAll 27 = .ok (.iload_n 1, 1) := by decide +kernel
theorem dX0_paidByAll_28 : decode cX0_paidByAll 28 = .ok (.ireturn, 1) := by decide +kernel
theorem dX0_countValue_0 : decode cX0_countValue 0 = .ok (.iload_n 1, 1) := by decide +kernel
theorem dX0_countValue_1 : decode cX0_countValue 1 = .ok (.tableswitch 87 0 7 #[47, 52, 57, 62, 67, 72, 77, 82], 47) := by decide +kernel
theorem dX0_countValue_48 : decode cX0_countValue 48 = .ok (.aload_n 0, 1) := by decide +kernel
theorem dX0_countValue_49 : decode cX0_countValue 49 = .ok (.getfield 54, 3) := by decide +kernel
theorem dX0_countValue_52 : decode cX0_countValue 52 = .ok (.ireturn, 1) := by decide +kernel
theorem dX0_countValue_53 : decode cX0_countValue 53 = .ok (.aload_n 0, 1) := by decide +kernel
theorem dX0_countValue_54 : decode cX0_countValue 54 = .ok (.invokevirtual 181, 3) := by decide +kernel
theorem dX0_countValue_57 : decode cX0_countValue 57 = .ok (.ireturn, 1) := by decide +kernel
theorem dX0_countValue_58 : decode cX0_countValue 58 = .ok (.aload_n 0, 1) := by decide +kernel
theorem dX0_countValue_59 : decode cX0_countValue 59 = .ok (.invokevirtual 185, 3) := by decide +kernel
theorem dX0_countValue_62 : decode cX0_countValue 62 = .ok (.ireturn, 1) := by decide +kernel
theorem dX0_countValue_63 : decode cX0_countValue 63 = .ok (.aload_n 0, 1) := by decide +kernel
theorem dX0_countValue_64 : decode cX0_countValue 64 = .ok (.getfield 58, 3) := by decide +kernel
theorem dX0_countValue_67 : decode cX0_countValue 67 = .ok (.ireturn, 1) := by decide +kernel
theorem dX0_countValue_68 : decode cX0_countValue 68 = .ok (.aload_n 0, 1) := by decide +kernel
theorem dX0_countValue_69 : decode cX0_countValue 69 = .ok (.invokevirtual 188, 3) := by decide +kernel
theorem dX0_countValue_72 : decode cX0_countValue 72 = .ok (.ireturn, 1) := by decide +kernel
theorem dX0_countValue_73 : decode cX0_countValue 73 = .ok (.aload_n 0, 1) := by decide +kernel
theorem dX0_countValue_74 : decode cX0_countValue 74 = .ok (.invokevirtual 191, 3) := by decide +kernel
theorem dX0_countValue_77 : decode cX0_countValue 77 = .ok (.ireturn, 1) := by decide +kernel
theorem dX0_countValue_78 : decode cX0_countValue 78 = .ok (.aload_n 0, 1) := by decide +kernel
theorem dX0_countValue_79 : decode cX0_countValue 79 = .ok (.getfield 61, 3) := by decide +kernel
theorem dX0_countValue_82 : decode cX0_countValue 82 = .ok (.ireturn, 1) := by decide +kernel
theorem dX0_countValue_83 : decode cX0_countValue 83 = .ok (.aload_n 0, 1) := by decide +kernel
theorem dX0_countValue_84 : decode cX0_countValue 84 = .ok (.getfield 64, 3) := by decide +kernel
theorem dX0_countValue_87 : decode cX0_countValue 87 = .ok (.ireturn, 1) := by decide +kernel
theorem dX0_countValue_88 : decode cX0_countValue 88 = .ok (.aload_n 0, 1) := by decide +kernel
theorem dX0_countValue_89 : decode cX0_countValue 89 = .ok (.getfield 67, 3) := by decide +kernel
theorem dX0_countValue_92 : decode cX0_countValue 92 = .ok (.ireturn, 1) := by decide +kernel
theorem dX1_init_0 : decode cX1_init 0 = .ok (.aload_n 0, 1) := by decide +kernel
theorem dX1_init_1 : decode cX1_init 1 = .ok (.invokespecial 3, 3) := by decide +kernel
theorem dX1_init_4 : decode cX1_init 4 = .ok (.aload_n 0, 1) := by decide +kernel
theorem dX1_init_5 : decode cX1_init 5 = .ok (.bipush 6, 2) := by decide +kernel
theorem dX1_init_7 : decode cX1_init 7 = .ok (.anewarray 9, 3) := by decide +kernel
theorem dX1_init_10 : decode cX1_init 10 = .ok (.putfield 11, 3) := by decide +kernel
theorem dX1_init_13 : decode cX1_init 13 = .ok (.iconst 0, 1) := by decide +kernel
theorem dX1_init_14 : decode cX1_init 14 = .ok (.istore_n 1, 1) := by decide +kernel
theorem dX1_init_15 : decode cX1_init 15 = .ok (.iload_n 1, 1) := by decide +kernel
theorem dX1_init_16 : decode cX1_init 16 = .ok (.aload_n 0, 1) := by decide +kernel
theorem dX1_init_17 : decode cX1_init 17 = .ok (.getfield 11, 3) := by decide +kernel
theorem dX1_init_20 : decode cX1_init 20 = .ok (.arraylength, 1) := by decide +kernel
theorem dX1_init_21 : decode cX1_init 21 = .ok (.if_icmp .ge 22, 3) := by decide +kernel
theorem dX1_init_24 : decode cX1_init 24 = .ok (.aload_n 0, 1) := by decide +kernel
theorem dX1_init_25 : decode cX1_init 25 = .ok (.getfield 11, 3) := by decide +kernel
theorem dX1_init_28 : decode cX1_init 28 = .ok (.iload_n 1, 1) := by decide +kernel
theorem dX1_init_29 : decode cX1_init 29 = .ok (.new 9, 3) := by decide +kernel
theorem dX1_init_32 : decode cX1_init 32 = .ok (.dup, 1) := by decide +kernel
theorem dX1_init_33 : decode cX1_init 33 = .ok (.invokespecial 17, 3) := by decide +kernel
theorem dX1_init_36 : decode cX1_init 36 = .ok (.aastore, 1) := by decide +kernel
theorem dX1_init_37 : decode cX1_init 37 = .ok (.iinc 1 1, 3) := by decide +kernel
theorem dX1_init_40 : decode cX1_init 40 = .ok (.goto (-25), 3) := by decide +kernel
theorem dX1_init_43 : decode cX1_init 43 = .ok (.return_, 1) := by decide +kernel
theorem dX1_bookAt_0 : decode cX1_bookAt 0 = .ok (.iload_n 1, 1) := by decide +kernel
theorem dX1_bookAt_1 : decode cX1_bookAt 1 = .ok (.ifCond .lt 21, 3) := by decide +kernel
theorem dX1_bookAt_4 : decode cX1_bookAt 4 = .ok (.iload_n 1, 1) := by decide +kernel
theorem dX1_bookAt_5 : decode cX1_bookAt 5 = .ok (.aload_n 0, 1) := by decide +kernel
theorem dX1_bookAt_6 : decode cX1_bookAt 6 = .ok (.getfield 11, 3) := by decide +kernel
theorem dX1_bookAt_9 : decode cX1_bookAt 9 = .ok (.arraylength, 1) := by decide +kernel
theorem dX1_bookAt_10 : decode cX1_bookAt 10 = .ok (.if_icmp .ge 12, 3) := by decide +kernel
theorem dX1_bookAt_13 : decode cX1_bookAt 13 = .ok (.aload_n 0, 1) := by decide +kernel
theorem dX1_bookAt_14 : decode cX1_bookAt 14 = .ok (.getfield 11, 3) := by decide +kernel
theorem dX1_bookAt_17 : decode cX1_bookAt 17 = .ok (.iload_n 1, 1) := by decide +kernel
theorem dX1_bookAt_18 : decode cX1_bookAt 18 = .ok (.aaload, 1) := by decide +kernel
theorem dX1_bookAt_19 : decode cX1_bookAt 19 = .ok (.goto 4, 3) := by decide +kernel
theorem dX1_bookAt_22 : decode cX1_bookAt 22 = .ok (.aconst_null, 1) := by decide +kernel
theorem dX1_bookAt_23 : decode cX1_bookAt 23 = .ok (.areturn, 1) := by decide +kernel
theorem dX1_keep_0 : decode cX1_keep 0 = .ok (.aload_n 0, 1) := by decide +kernel
theorem dX1_keep_1 : decode cX1_keep 1 = .ok (.aload_n 0, 1) := by decide +kernel
theorem dX1_keep_2 : decode cX1_keep 2 = .ok (.getfield 18, 3) := by decide +kernel
theorem dX1_keep_5 : decode cX1_keep 5 = .ok (.invokevirtual 22, 3) := by decide +kernel
theorem dX1_keep_8 : decode cX1_keep 8 = .ok (.astore_n 2, 1) := by decide +kernel
theorem dX1_keep_9 : decode cX1_keep 9 = .ok (.aload_n 2, 1) := by decide +kernel
theorem dX1_keep_10 : decode cX1_keep 10 = .ok (.ifnonnull 4, 3) := by decide +kernel
theorem dX1_keep_13 : decode cX1_keep 13 = .ok (.return_, 1) := by decide +kernel
theorem dX1_keep_14 : decode cX1_keep 14 = .ok (.aload_n 2, 1) := by decide +kernel
theorem dX1_keep_15 : decode cX1_keep 15 = .ok (.aload_n 1, 1) := by decide +kernel
theorem dX1_keep_16 : decode cX1_keep 16 = .ok (.invokevirtual 26, 3) := by decide +kernel
theorem dX1_keep_19 : decode cX1_keep 19 = .ok (.aload_n 0, 1) := by decide +kernel
theorem dX1_keep_20 : decode cX1_keep 20 = .ok (.aload_n 0, 1) := by decide +kernel
theorem dX1_keep_21 : decode cX1_keep 21 = .ok (.getfield 18, 3) := by decide +kernel
theorem dX1_keep_24 : decode cX1_keep 24 = .ok (.iconst 1, 1) := by decide +kernel
theorem dX1_keep_25 : decode cX1_keep 25 = .ok (.iadd, 1) := by decide +kernel
theorem dX1_keep_26 : decode cX1_keep 26 = .ok (.bipush 6, 2) := by decide +kernel
theorem dX1_keep_28 : decode cX1_keep 28 = .ok (.irem, 1) := by decide +kernel
theorem dX1_keep_29 : decode cX1_keep 29 = .ok (.putfield 18, 3) := by decide +kernel
theorem dX1_keep_32 : decode cX1_keep 32 = .ok (.aload_n 0, 1) := by decide +kernel
theorem dX1_keep_33 : decode cX1_keep 33 = .ok (.aload_n 0, 1) := by decide +kernel
theorem dX1_keep_34 : decode cX1_keep 34 = .ok (.getfield 30, 3) := by decide +kernel
theorem dX1_keep_37 : decode cX1_keep 37 = .ok (.iconst 1, 1) := by decide +kernel
theorem dX1_keep_38 : decode cX1_keep 38 = .ok (.iadd, 1) := by decide +kernel
theorem dX1_keep_39 : decode cX1_keep 39 = .ok (.bipush 6, 2) := by decide +kernel
theorem dX1_keep_41 : decode cX1_keep 41 = .ok (.invokestatic 33, 3) := by decide +kernel
theorem dX1_keep_44 : decode cX1_keep 44 = .ok (.putfield 30, 3) := by decide +kernel
theorem dX1_keep_47 : decode cX1_keep 47 = .ok (.return_, 1) := by decide +kernel
theorem dX1_giveBack_0 : decode cX1_giveBack 0 = .ok (.aload_n 1, 1) := by decide +kernel
theorem dX1_giveBack_1 : decode cX1_giveBack 1 = .ok (.ifnull 11, 3) := by decide +kernel
theorem dX1_giveBack_4 : decode cX1_giveBack 4 = .ok (.aload_n 0, 1) := by decide +kernel
theorem dX1_giveBack_5 : decode cX1_giveBack 5 = .ok (.getfield 30, 3) := by decide +kernel
theorem dX1_giveBack_8 : decode cX1_giveBack 8 = .ok (.iconst 1, 1) := by decide +kernel
theorem dX1_giveBack_9 : decode cX1_giveBack 9 = .ok (.if_icmp .ge 4, 3) := by decide +kernel
theorem dX1_giveBack_12 : decode cX1_giveBack 12 = .ok (.return_, 1) := by decide +kernel
theorem dX1_giveBack_13 : decode cX1_giveBack 13 = .ok (.aload_n 0, 1) := by decide +kernel
theorem dX1_giveBack_14 : decode cX1_giveBack 14 = .ok (.aload_n 0, 1) := by decide +kernel
theorem dX1_giveBack_15 : decode cX1_giveBack 15 = .ok (.getfield 18, 3) := by decide +kernel
theorem dX1_giveBack_18 : decode cX1_giveBack 18 = .ok (.bipush 6, 2) := by decide +kernel
theorem dX1_giveBack_20 : decode cX1_giveBack 20 = .ok (.iadd, 1) := by decide +kernel
theorem dX1_giveBack_21 : decode cX1_giveBack 21 = .ok (.iconst 1, 1) := by decide +kernel
theorem dX1_giveBack_22 : decode cX1_giveBack 22 = .ok (.isub, 1) := by decide +kernel
theorem dX1_giveBack_23 : decode cX1_giveBack 23 = .ok (.bipush 6, 2) := by decide +kernel
theorem dX1_giveBack_25 : decode cX1_giveBack 25 = .ok (.irem, 1) := by decide +kernel
theorem dX1_giveBack_26 : decode cX1_giveBack 26 = .ok (.putfield 18, 3) := by decide +kernel
theorem dX1_giveBack_29 : decode cX1_giveBack 29 = .ok (.aload_n 1, 1) := by decide +kernel
theorem dX1_giveBack_30 : decode cX1_giveBack 30 = .ok (.aload_n 0, 1) := by decide +kernel
theorem dX1_giveBack_31 : decode cX1_giveBack 31 = .ok (.aload_n 0, 1) := by decide +kernel
theorem dX1_giveBack_32 : decode cX1_giveBack 32 = .ok (.getfield 18, 3) := by decide +kernel
theorem dX1_giveBack_35 : decode cX1_giveBack 35 = .ok (.invokevirtual 22, 3) := by decide +kernel
theorem dX1_giveBack_38 : decode cX1_giveBack 38 = .ok (.invokevirtual 26, 3) := by decide +kernel
theorem dX1_giveBack_41 : decode cX1_giveBack 41 = .ok (.aload_n 0, 1) := by decide +kernel
theorem dX1_giveBack_42 : decode cX1_giveBack 42 = .ok (.dup, 1) := by decide +kernel
theorem dX1_giveBack_43 : decode cX1_giveBack 43 = .ok (.getfield 30, 3) := by decide +kernel
theorem dX1_giveBack_46 : decode cX1_giveBack 46 = .ok (.iconst 1, 1) := by decide +kernel
theorem dX1_giveBack_47 : decode cX1_giveBack 47 = .ok (.isub, 1) := by decide +kernel
theorem dX1_giveBack_48 : decode cX1_giveBack 48 = .ok (.putfield 30, 3) := by decide +kernel
theorem dX1_giveBack_51 : decode cX1_giveBack 51 = .ok (.return_, 1) := by decide +kernel
theorem dX2_init_0 : decode cX2_init 0 = .ok (.aload_n 0, 1) := by decide +kernel
theorem dX2_init_1 : decode cX2_init 1 = .ok (.invokespecial 3, 3) := by decide +kernel
theorem dX2_init_4 : decode cX2_init 4 = .ok (.aload_n 0, 1) := by decide +kernel
theorem dX2_init_5 : decode cX2_init 5 = .ok (.bipush 60, 2) := by decide +kernel
theorem dX2_init_7 : decode cX2_init 7 = .ok (.newarray .int, 2) := by decide +kernel
theorem dX2_init_9 : decode cX2_init 9 = .ok (.putfield 9, 3) := by decide +kernel
theorem dX2_init_12 : decode cX2_init 12 = .ok (.return_, 1) := by decide +kernel
theorem dX2_write_0 : decode cX2_write 0 = .ok (.aload_n 0, 1) := by decide +kernel
theorem dX2_write_1 : decode cX2_write 1 = .ok (.getfield 15, 3) := by decide +kernel
theorem dX2_write_4 : decode cX2_write 4 = .ok (.bipush 60, 2) := by decide +kernel
theorem dX2_write_6 : decode cX2_write 6 = .ok (.if_icmp .ge 25, 3) := by decide +kernel
theorem dX2_write_9 : decode cX2_write 9 = .ok (.aload_n 0, 1) := by decide +kernel
theorem dX2_write_10 : decode cX2_write 10 = .ok (.getfield 9, 3) := by decide +kernel
theorem dX2_write_13 : decode cX2_write 13 = .ok (.aload_n 0, 1) := by decide +kernel
theorem dX2_write_14 : decode cX2_write 14 = .ok (.getfield 15, 3) := by decide +kernel
theorem dX2_write_17 : decode cX2_write 17 = .ok (.iload_n 1, 1) := by decide +kernel
theorem dX2_write_18 : decode cX2_write 18 = .ok (.invokestatic 19, 3) := by decide +kernel
theorem dX2_write_21 : decode cX2_write 21 = .ok (.aload_n 0, 1) := by decide +kernel
theorem dX2_write_22 : decode cX2_write 22 = .ok (.dup, 1) := by decide +kernel
theorem dX2_write_23 : decode cX2_write 23 = .ok (.getfield 15, 3) := by decide +kernel
theorem dX2_write_26 : decode cX2_write 26 = .ok (.iconst 1, 1) := by decide +kernel
theorem dX2_write_27 : decode cX2_write 27 = .ok (.iadd, 1) := by decide +kernel
theorem dX2_write_28 : decode cX2_write 28 = .ok (.putfield 15, 3) := by decide +kernel
theorem dX2_write_31 : decode cX2_write 31 = .ok (.return_, 1) := by decide +kernel
theorem dX2_wipe_0 : decode cX2_wipe 0 = .ok (.aload_n 0, 1) := by decide +kernel
theorem dX2_wipe_1 : decode cX2_wipe 1 = .ok (.iconst 0, 1) := by decide +kernel
theorem dX2_wipe_2 : decode cX2_wipe 2 = .ok (.putfield 15, 3) := by decide +kernel
theorem dX2_wipe_5 : decode cX2_wipe 5 = .ok (.return_, 1) := by decide +kernel
theorem dX2_rewind_0 : decode cX2_rewind 0 = .ok (.aload_n 0, 1) := by decide +kernel
theorem dX2_rewind_1 : decode cX2_rewind 1 = .ok (.iconst 0, 1) := by decide +kernel
theorem dX2_rewind_2 : decode cX2_rewind 2 = .ok (.putfield 23, 3) := by decide +kernel
theorem dX2_rewind_5 : decode cX2_rewind 5 = .ok (.return_, 1) := by decide +kernel
theorem dX2_sign_0 : decode cX2_sign 0 = .ok (.aload_n 0, 1) := by decide +kernel
theorem dX2_sign_1 : decode cX2_sign 1 = .ok (.getfield 23, 3) := by decide +kernel
theorem dX2_sign_4 : decode cX2_sign 4 = .ok (.aload_n 0, 1) := by decide +kernel
theorem dX2_sign_5 : decode cX2_sign 5 = .ok (.getfield 15, 3) := by decide +kernel
theorem dX2_sign_8 : decode cX2_sign 8 = .ok (.if_icmp .ge 17, 3) := by decide +kernel
theorem dX2_sign_11 : decode cX2_sign 11 = .ok (.aload_n 0, 1) := by decide +kernel
theorem dX2_sign_12 : decode cX2_sign 12 = .ok (.getfield 9, 3) := by decide +kernel
theorem dX2_sign_15 : decode cX2_sign 15 = .ok (.aload_n 0, 1) := by decide +kernel
theorem dX2_sign_16 : decode cX2_sign 16 = .ok (.getfield 23, 3) := by decide +kernel
theorem dX2_sign_19 : decode cX2_sign 19 = .ok (.invokestatic 26, 3) := by decide +kernel
theorem dX2_sign_22 : decode cX2_sign 22 = .ok (.goto 4, 3) := by decide +kernel
theorem dX2_sign_25 : decode cX2_sign 25 = .ok (.iconst (-1), 1) := by decide +kernel
theorem dX2_sign_26 : decode cX2_sign 26 = .ok (.ireturn, 1) := by decide +kernel
theorem dX2_digit_0 : decode cX2_digit 0 = .ok (.aload_n 0, 1) := by decide +kernel
theorem dX2_digit_1 : decode cX2_digit 1 = .ok (.getfield 23, 3) := by decide +kernel
theorem dX2_digit_4 : decode cX2_digit 4 = .ok (.aload_n 0, 1) := by decide +kernel
theorem dX2_digit_5 : decode cX2_digit 5 = .ok (.getfield 15, 3) := by decide +kernel
theorem dX2_digit_8 : decode cX2_digit 8 = .ok (.if_icmp .ge 17, 3) := by decide +kernel
theorem dX2_digit_11 : decode cX2_digit 11 = .ok (.aload_n 0, 1) := by decide +kernel
theorem dX2_digit_12 : decode cX2_digit 12 = .ok (.getfield 9, 3) := by decide +kernel
theorem dX2_digit_15 : decode cX2_digit 15 = .ok (.aload_n 0, 1) := by decide +kernel
theorem dX2_digit_16 : decode cX2_digit 16 = .ok (.getfield 23, 3) := by decide +kernel
theorem dX2_digit_19 : decode cX2_digit 19 = .ok (.invokestatic 26, 3) := by decide +kernel
theorem dX2_digit_22 : decode cX2_digit 22 = .ok (.goto 4, 3) := by decide +kernel
theorem dX2_digit_25 : decode cX2_digit 25 = .ok (.iconst (-1), 1) := by decide +kernel
theorem dX2_digit_26 : decode cX2_digit 26 = .ok (.istore_n 1, 1) := by decide +kernel
theorem dX2_digit_27 : decode cX2_digit 27 = .ok (.iload_n 1, 1) := by decide +kernel
theorem dX2_digit_28 : decode cX2_digit 28 = .ok (.bipush 48, 2) := by decide +kernel
theorem dX2_digit_30 : decode cX2_digit 30 = .ok (.if_icmp .lt 16, 3) := by decide +kernel
theorem dX2_digit_33 : decode cX2_digit 33 = .ok (.iload_n 1, 1) := by decide +kernel
theorem dX2_digit_34 : decode cX2_digit 34 = .ok (.bipush 57, 2) := by decide +kernel
theorem dX2_digit_36 : decode cX2_digit 36 = .ok (.if_icmp .gt 10, 3) := by decide +kernel
theorem dX2_digit_39 : decode cX2_digit 39 = .ok (.iload_n 1, 1) := by decide +kernel
theorem dX2_digit_40 : decode cX2_digit 40 = .ok (.bipush 48, 2) := by decide +kernel
theorem dX2_digit_42 : decode cX2_digit 42 = .ok (.isub, 1) := by decide +kernel
theorem dX2_digit_43 : decode cX2_digit 43 = .ok (.goto 4, 3) := by decide +kernel
theorem dX2_digit_46 : decode cX2_digit 46 = .ok (.iconst (-1), 1) := by decide +kernel
theorem dX2_digit_47 : decode cX2_digit 47 = .ok (.ireturn, 1) := by decide +kernel
theorem dX2_readSign_0 : decode cX2_readSign 0 = .ok (.aload_n 0, 1) := by decide +kernel
theorem dX2_readSign_1 : decode cX2_readSign 1 = .ok (.invokevirtual 30, 3) := by decide +kernel
theorem dX2_readSign_4 : decode cX2_readSign 4 = .ok (.iload_n 1, 1) := by decide +kernel
theorem dX2_readSign_5 : decode cX2_readSign 5 = .ok (.if_icmp .eq 5, 3) := by decide +kernel
theorem dX2_readSign_8 : decode cX2_readSign 8 = .ok (.iconst 0, 1) := by decide +kernel
theorem dX2_readSign_9 : decode cX2_readSign 9 = .ok (.ireturn, 1) := by decide +kernel
theorem dX2_readSign_10 : decode cX2_readSign 10 = .ok (.aload_n 0, 1) := by decide +kernel
theorem dX2_readSign_11 : decode cX2_readSign 11 = .ok (.dup, 1) := by decide +kernel
theorem dX2_readSign_12 : decode cX2_readSign 12 = .ok (.getfield 23, 3) := by decide +kernel
theorem dX2_readSign_15 : decode cX2_readSign 15 = .ok (.iconst 1, 1) := by decide +kernel
theorem dX2_readSign_16 : decode cX2_readSign 16 = .ok (.iadd, 1) := by decide +kernel
theorem dX2_readSign_17 : decode cX2_readSign 17 = .ok (.putfield 23, 3) := by decide +kernel
theorem dX2_readSign_20 : decode cX2_readSign 20 = .ok (.iconst 1, 1) := by decide +kernel
theorem dX2_readSign_21 : decode cX2_readSign 21 = .ok (.ireturn, 1) := by decide +kernel
theorem dX2_readNumber_0 : decode cX2_readNumber 0 = .ok (.aload_n 0, 1) := by decide +kernel
theorem dX2_readNumber_1 : decode cX2_readNumber 1 = .ok (.invokevirtual 34, 3) := by decide +kernel
theorem dX2_readNumber_4 : decode cX2_readNumber 4 = .ok (.istore_n 3, 1) := by decide +kernel
theorem dX2_readNumber_5 : decode cX2_readNumber 5 = .ok (.iload_n 3, 1) := by decide +kernel
theorem dX2_readNumber_6 : decode cX2_readNumber 6 = .ok (.iconst (-1), 1) := by decide +kernel
theorem dX2_readNumber_7 : decode cX2_readNumber 7 = .ok (.if_icmp .eq 13, 3) := by decide +kernel
theorem dX2_readNumber_10 : decode cX2_readNumber 10 = .ok (.iload_n 3, 1) := by decide +kernel
theorem dX2_readNumber_11 : decode cX2_readNumber 11 = .ok (.iload_n 1, 1) := by decide +kernel
theorem dX2_readNumber_12 : decode cX2_readNumber 12 = .ok (.if_icmp .lt 8, 3) := by decide +kernel
theorem dX2_readNumber_15 : decode cX2_readNumber 15 = .ok (.iload_n 3, 1) := by decide +kernel
theorem dX2_readNumber_16 : decode cX2_readNumber 16 = .ok (.iload_n 2, 1) := by decide +kernel
theorem dX2_readNumber_17 : decode cX2_readNumber 17 = .ok (.if_icmp .le 5, 3) := by decide +kernel
theorem dX2_readNumber_20 : decode cX2_readNumber 20 = .ok (.iconst (-1), 1) := by decide +kernel
theorem dX2_readNumber_21 : decode cX2_readNumber 21 = .ok (.ireturn, 1) := by decide +kernel
theorem dX2_readNumber_22 : decode cX2_readNumber 22 = .ok (.aload_n 0, 1) := by decide +kernel
theorem dX2_readNumber_23 : decode cX2_readNumber 23 = .ok (.dup, 1) := by decide +kernel
theorem dX2_readNumber_24 : decode cX2_readNumber 24 = .ok (.getfield 23, 3) := by decide +kernel
theorem dX2_readNumber_27 : decode cX2_readNumber 27 = .ok (.iconst 1, 1) := by decide +kernel
theorem dX2_readNumber_28 : decode cX2_readNumber 28 = .ok (.iadd, 1) := by decide +kernel
theorem dX2_readNumber_29 : decode cX2_readNumber 29 = .ok (.putfield 23, 3) := by decide +kernel
theorem dX2_readNumber_32 : decode cX2_readNumber 32 = .ok (.aload_n 0, 1) := by decide +kernel
theorem dX2_readNumber_33 : decode cX2_readNumber 33 = .ok (.invokevirtual 34, 3) := by decide +kernel
theorem dX2_readNumber_36 : decode cX2_readNumber 36 = .ok (.istore 4, 2) := by decide +kernel
theorem dX2_readNumber_38 : decode cX2_readNumber 38 = .ok (.iload_n 3, 1) := by decide +kernel
theorem dX2_readNumber_39 : decode cX2_readNumber 39 = .ok (.ifCond .eq 20, 3) := by decide +kernel
theorem dX2_readNumber_42 : decode cX2_readNumber 42 = .ok (.iload 4, 2) := by decide +kernel
theorem dX2_readNumber_44 : decode cX2_readNumber 44 = .ok (.iconst (-1), 1) := by decide +kernel
theorem dX2_readNumber_45 : decode cX2_readNumber 45 = .ok (.if_icmp .eq 14, 3) := by decide +kernel
theorem dX2_readNumber_48 : decode cX2_readNumber 48 = .ok (.iload_n 3, 1) := by decide +kernel
theorem dX2_readNumber_49 : decode cX2_readNumber 49 = .ok (.bipush 10, 2) := by decide +kernel
theorem dX2_readNumber_51 : decode cX2_readNumber 51 = .ok (.imul, 1) := by decide +kernel
theorem dX2_readNumber_52 : decode cX2_readNumber 52 = .ok (.iload 4, 2) := by decide +kernel
theorem dX2_readNumber_54 : decode cX2_readNumber 54 = .ok (.iadd, 1) := by decide +kernel
theorem dX2_readNumber_55 : decode cX2_readNumber 55 = .ok (.iload_n 2, 1) := by decide +kernel
theorem dX2_readNumber_56 : decode cX2_readNumber 56 = .ok (.if_icmp .le 5, 3) := by decide +kernel
theorem dX2_readNumber_59 : decode cX2_readNumber 59 = .ok (.iload_n 3, 1) := by decide +kernel
theorem dX2_readNumber_60 : decode cX2_readNumber 60 = .ok (.ireturn, 1) := by decide +kernel
theorem dX2_readNumber_61 : decode cX2_readNumber 61 = .ok (.aload_n 0, 1) := by decide +kernel
theorem dX2_readNumber_62 : decode cX2_readNumber 62 = .ok (.dup, 1) := by decide +kernel
theorem dX2_readNumber_63 : decode cX2_readNumber 63 = .ok (.getfield 23, 3) := by decide +kernel
theorem dX2_readNumber_66 : decode cX2_readNumber 66 = .ok (.iconst 1, 1) := by decide +kernel
theorem dX2_readNumber_67 : decode cX2_readNumber 67 = .ok (.iadd, 1) := by decide +kernel
theorem dX2_readNumber_68 : decode cX2_readNumber 68 = .ok (.putfield 23, 3) := by decide +kernel
theorem dX2_readNumber_71 : decode cX2_readNumber 71 = .ok (.iload_n 3, 1) := by decide +kernel
theorem dX2_readNumber_72 : decode cX2_readNumber 72 = .ok (.bipush 10, 2) := by decide +kernel
theorem dX2_readNumber_74 : decode cX2_readNumber 74 = .ok (.imul, 1) := by decide +kernel
theorem dX2_readNumber_75 : decode cX2_readNumber 75 = .ok (.iload 4, 2) := by decide +kernel
theorem dX2_readNumber_77 : decode cX2_readNumber 77 = .ok (.iadd, 1) := by decide +kernel
theorem dX2_readNumber_78 : decode cX2_readNumber 78 = .ok (.ireturn, 1) := by decide +kernel
theorem dX2_readOrder_0 : decode cX2_readOrder 0 = .ok (.aload_n 0, 1) := by decide +kernel
theorem dX2_readOrder_1 : decode cX2_readOrder 1 = .ok (.aload_n 0, 1) := by decide +kernel
theorem dX2_readOrder_2 : decode cX2_readOrder 2 = .ok (.invokevirtual 30, 3) := by decide +kernel
theorem dX2_readOrder_5 : decode cX2_readOrder 5 = .ok (.putfield 37, 3) := by decide +kernel
theorem dX2_readOrder_8 : decode cX2_readOrder 8 = .ok (.aload_n 0, 1) := by decide +kernel
theorem dX2_readOrder_9 : decode cX2_readOrder 9 = .ok (.getfield 37, 3) := by decide +kernel
theorem dX2_readOrder_12 : decode cX2_readOrder 12 = .ok (.lookupswitch 158 #[(98, 88), (100, 123), (104, 44), (109, 66)], 44) := by decide +kernel
theorem dX2_readOrder_56 : decode cX2_readOrder 56 = .ok (.aload_n 0, 1) := by decide +kernel
theorem dX2_readOrder_57 : decode cX2_readOrder 57 = .ok (.dup, 1) := by decide +kernel
theorem dX2_readOrder_58 : decode cX2_readOrder 58 = .ok (.getfield 23, 3) := by decide +kernel
theorem dX2_readOrder_61 : decode cX2_readOrder 61 = .ok (.iconst 1, 1) := by decide +kernel
theorem dX2_readOrder_62 : decode cX2_readOrder 62 = .ok (.iadd, 1) := by decide +kernel
theorem dX2_readOrder_63 : decode cX2_readOrder 63 = .ok (.putfield 23, 3) := by decide +kernel
theorem dX2_readOrder_66 : decode cX2_readOrder 66 = .ok (.aload_n 0, 1) := by decide +kernel
theorem dX2_readOrder_67 : decode cX2_readOrder 67 = .ok (.iconst 0, 1) := by decide +kernel
theorem dX2_readOrder_68 : decode cX2_readOrder 68 = .ok (.iconst 5, 1) := by decide +kernel
theorem dX2_readOrder_69 : decode cX2_readOrder 69 = .ok (.bipush 42, 2) := by decide +kernel
theorem dX2_readOrder_71 : decode cX2_readOrder 71 = .ok (.iconst 1, 1) := by decide +kernel
theorem dX2_readOrder_72 : decode cX2_readOrder 72 = .ok (.bipush 24, 2) := by decide +kernel
theorem dX2_readOrder_74 : decode cX2_readOrder 74 = .ok (.invokevirtual 40, 3) := by decide +kernel
theorem dX2_readOrder_77 : decode cX2_readOrder 77 = .ok (.ireturn, 1) := by decide +kernel
theorem dX2_readOrder_78 : decode cX2_readOrder 78 = .ok (.aload_n 0, 1) := by decide +kernel
theorem dX2_readOrder_79 : decode cX2_readOrder 79 = .ok (.dup, 1) := by decide +kernel
theorem dX2_readOrder_80 : decode cX2_readOrder 80 = .ok (.getfield 23, 3) := by decide +kernel
theorem dX2_readOrder_83 : decode cX2_readOrder 83 = .ok (.iconst 1, 1) := by decide +kernel
theorem dX2_readOrder_84 : decode cX2_readOrder 84 = .ok (.iadd, 1) := by decide +kernel
theorem dX2_readOrder_85 : decode cX2_readOrder 85 = .ok (.putfield 23, 3) := by decide +kernel
theorem dX2_readOrder_88 : decode cX2_readOrder 88 = .ok (.aload_n 0, 1) := by decide +kernel
theorem dX2_readOrder_89 : decode cX2_readOrder 89 = .ok (.iconst 0, 1) := by decide +kernel
theorem dX2_readOrder_90 : decode cX2_readOrder 90 = .ok (.bipush 23, 2) := by decide +kernel
theorem dX2_readOrder_92 : decode cX2_readOrder 92 = .ok (.bipush 62, 2) := by decide +kernel
theorem dX2_readOrder_94 : decode cX2_readOrder 94 = .ok (.iconst 0, 1) := by decide +kernel
theorem dX2_readOrder_95 : decode cX2_readOrder 95 = .ok (.iconst 5, 1) := by decide +kernel
theorem dX2_readOrder_96 : decode cX2_readOrder 96 = .ok (.invokevirtual 40, 3) := by decide +kernel
theorem dX2_readOrder_99 : decode cX2_readOrder 99 = .ok (.ireturn, 1) := by decide +kernel
theorem dX2_readOrder_100 : decode cX2_readOrder 100 = .ok (.aload_n 0, 1) := by decide +kernel
theorem dX2_readOrder_101 : decode cX2_readOrder 101 = .ok (.dup, 1) := by decide +kernel
theorem dX2_readOrder_102 : decode cX2_readOrder 102 = .ok (.getfield 23, 3) := by decide +kernel
theorem dX2_readOrder_105 : decode cX2_readOrder 105 = .ok (.iconst 1, 1) := by decide +kernel
theorem dX2_readOrder_106 : decode cX2_readOrder 106 = .ok (.iadd, 1) := by decide +kernel
theorem dX2_readOrder_107 : decode cX2_readOrder 107 = .ok (.putfield 23, 3) := by decide +kernel
theorem dX2_readOrder_110 : decode cX2_readOrder 110 = .ok (.aload_n 0, 1) := by decide +kernel
theorem dX2_readOrder_111 : decode cX2_readOrder 111 = .ok (.aload_n 0, 1) := by decide +kernel
theorem dX2_readOrder_112 : decode cX2_readOrder 112 = .ok (.iconst 0, 1) := by decide +kernel
theorem dX2_readOrder_113 : decode cX2_readOrder 113 = .ok (.bipush 23, 2) := by decide +kernel
theorem dX2_readOrder_115 : decode cX2_readOrder 115 = .ok (.invokevirtual 44, 3) := by decide +kernel
theorem dX2_readOrder_118 : decode cX2_readOrder 118 = .ok (.putfield 48, 3) := by decide +kernel
theorem dX2_readOrder_121 : decode cX2_readOrder 121 = .ok (.aload_n 0, 1) := by decide +kernel
theorem dX2_readOrder_122 : decode cX2_readOrder 122 = .ok (.getfield 48, 3) := by decide +kernel
theorem dX2_readOrder_125 : decode cX2_readOrder 125 = .ok (.iconst (-1), 1) := by decide +kernel
theorem dX2_readOrder_126 : decode cX2_readOrder 126 = .ok (.if_icmp .eq 7, 3) := by decide +kernel
theorem dX2_readOrder_129 : decode cX2_readOrder 129 = .ok (.iconst 1, 1) := by decide +kernel
theorem dX2_readOrder_130 : decode cX2_readOrder 130 = .ok (.goto 4, 3) := by decide +kernel
theorem dX2_readOrder_133 : decode cX2_readOrder 133 = .ok (.iconst 0, 1) := by decide +kernel
theorem dX2_readOrder_134 : decode cX2_readOrder 134 = .ok (.ireturn, 1) := by decide +kernel
theorem dX2_readOrder_135 : decode cX2_readOrder 135 = .ok (.aload_n 0, 1) := by decide +kernel
theorem dX2_readOrder_136 : decode cX2_readOrder 136 = .ok (.dup, 1) := by decide +kernel
theorem dX2_readOrder_137 : decode cX2_readOrder 137 = .ok (.getfield 23, 3) := by decide +kernel
theorem dX2_readOrder_140 : decode cX2_readOrder 140 = .ok (.iconst 1, 1) := by decide +kernel
theorem dX2_readOrder_141 : decode cX2_readOrder 141 = .ok (.iadd, 1) := by decide +kernel
theorem dX2_readOrder_142 : decode cX2_readOrder 142 = .ok (.putfield 23, 3) := by decide +kernel
theorem dX2_readOrder_145 : decode cX2_readOrder 145 = .ok (.aload_n 0, 1) := by decide +kernel
theorem dX2_readOrder_146 : decode cX2_readOrder 146 = .ok (.aload_n 0, 1) := by decide +kernel
theorem dX2_readOrder_147 : decode cX2_readOrder 147 = .ok (.iconst 1, 1) := by decide +kernel
theorem dX2_readOrder_148 : decode cX2_readOrder 148 = .ok (.bipush 99, 2) := by decide +kernel
theorem dX2_readOrder_150 : decode cX2_readOrder 150 = .ok (.invokevirtual 44, 3) := by decide +kernel
theorem dX2_readOrder_153 : decode cX2_readOrder 153 = .ok (.putfield 48, 3) := by decide +kernel
theorem dX2_readOrder_156 : decode cX2_readOrder 156 = .ok (.aload_n 0, 1) := by decide +kernel
theorem dX2_readOrder_157 : decode cX2_readOrder 157 = .ok (.getfield 48, 3) := by decide +kernel
theorem dX2_readOrder_160 : decode cX2_readOrder 160 = .ok (.iconst (-1), 1) := by decide +kernel
theorem dX2_readOrder_161 : decode cX2_readOrder 161 = .ok (.if_icmp .eq 7, 3) := by decide +kernel
theorem dX2_readOrder_164 : decode cX2_readOrder 164 = .ok (.iconst 1, 1) := by decide +kernel
theorem dX2_readOrder_165 : decode cX2_readOrder 165 = .ok (.goto 4, 3) := by decide +kernel
theorem dX2_readOrder_168 : decode cX2_readOrder 168 = .ok (.iconst 0, 1) := by decide +kernel
theorem dX2_readOrder_169 : decode cX2_readOrder 169 = .ok (.ireturn, 1) := by decide +kernel
theorem dX2_readOrder_170 : decode cX2_readOrder 170 = .ok (.iconst 0, 1) := by decide +kernel
theorem dX2_readOrder_171 : decode cX2_readOrder 171 = .ok (.ireturn, 1) := by decide +kernel
theorem dX2_readPair_0 : decode cX2_readPair 0 = .ok (.aload_n 0, 1) := by decide +kernel
theorem dX2_readPair_1 : decode cX2_readPair 1 = .ok (.aload_n 0, 1) := by decide +kernel
theorem dX2_readPair_2 : decode cX2_readPair 2 = .ok (.iload_n 1, 1) := by decide +kernel
theorem dX2_readPair_3 : decode cX2_readPair 3 = .ok (.iload_n 2, 1) := by decide +kernel
theorem dX2_readPair_4 : decode cX2_readPair 4 = .ok (.invokevirtual 44, 3) := by decide +kernel
theorem dX2_readPair_7 : decode cX2_readPair 7 = .ok (.putfield 48, 3) := by decide +kernel
theorem dX2_readPair_10 : decode cX2_readPair 10 = .ok (.aload_n 0, 1) := by decide +kernel
theorem dX2_readPair_11 : decode cX2_readPair 11 = .ok (.getfield 48, 3) := by decide +kernel
theorem dX2_readPair_14 : decode cX2_readPair 14 = .ok (.iconst (-1), 1) := by decide +kernel
theorem dX2_readPair_15 : decode cX2_readPair 15 = .ok (.if_icmp .eq 11, 3) := by decide +kernel
theorem dX2_readPair_18 : decode cX2_readPair 18 = .ok (.aload_n 0, 1) := by decide +kernel
theorem dX2_readPair_19 : decode cX2_readPair 19 = .ok (.iload_n 3, 1) := by decide +kernel
theorem dX2_readPair_20 : decode cX2_readPair 20 = .ok (.invokevirtual 51, 3) := by decide +kernel
theorem dX2_readPair_23 : decode cX2_readPair 23 = .ok (.ifCond .ne 5, 3) := by decide +kernel
theorem dX2_readPair_26 : decode cX2_readPair 26 = .ok (.iconst 0, 1) := by decide +kernel
theorem dX2_readPair_27 : decode cX2_readPair 27 = .ok (.ireturn, 1) := by decide +kernel
theorem dX2_readPair_28 : decode cX2_readPair 28 = .ok (.aload_n 0, 1) := by decide +kernel
theorem dX2_readPair_29 : decode cX2_readPair 29 = .ok (.aload_n 0, 1) := by decide +kernel
theorem dX2_readPair_30 : decode cX2_readPair 30 = .ok (.iload 4, 2) := by decide +kernel
theorem dX2_readPair_32 : decode cX2_readPair 32 = .ok (.iload 5, 2) := by decide +kernel
theorem dX2_readPair_34 : decode cX2_readPair 34 = .ok (.invokevirtual 44, 3) := by decide +kernel
theorem dX2_readPair_37 : decode cX2_readPair 37 = .ok (.putfield 55, 3) := by decide +kernel
theorem dX2_readPair_40 : decode cX2_readPair 40 = .ok (.aload_n 0, 1) := by decide +kernel
theorem dX2_readPair_41 : decode cX2_readPair 41 = .ok (.getfield 55, 3) := by decide +kernel
theorem dX2_readPair_44 : decode cX2_readPair 44 = .ok (.iconst (-1), 1) := by decide +kernel
theorem dX2_readPair_45 : decode cX2_readPair 45 = .ok (.if_icmp .eq 7, 3) := by decide +kernel
theorem dX2_readPair_48 : decode cX2_readPair 48 = .ok (.iconst 1, 1) := by decide +kernel
theorem dX2_readPair_49 : decode cX2_readPair 49 = .ok (.goto 4, 3) := by decide +kernel
theorem dX2_readPair_52 : decode cX2_readPair 52 = .ok (.iconst 0, 1) := by decide +kernel
theorem dX2_readPair_53 : decode cX2_readPair 53 = .ok (.ireturn, 1) := by decide +kernel
theorem dX2_firstFault_0 : decode cX2_firstFault 0 = .ok (.aload_n 0, 1) := by decide +kernel
theorem dX2_firstFault_1 : decode cX2_firstFault 1 = .ok (.invokevirtual 58, 3) := by decide +kernel
theorem dX2_firstFault_4 : decode cX2_firstFault 4 = .ok (.iconst 0, 1) := by decide +kernel
theorem dX2_firstFault_5 : decode cX2_firstFault 5 = .ok (.istore_n 1, 1) := by decide +kernel
theorem dX2_firstFault_6 : decode cX2_firstFault 6 = .ok (.iload_n 1, 1) := by decide +kernel
theorem dX2_firstFault_7 : decode cX2_firstFault 7 = .ok (.bipush 60, 2) := by decide +kernel
theorem dX2_firstFault_9 : decode cX2_firstFault 9 = .ok (.if_icmp .ge 30, 3) := by decide +kernel
theorem dX2_firstFault_12 : decode cX2_firstFault 12 = .ok (.aload_n 0, 1) := by decide +kernel
theorem dX2_firstFault_13 : decode cX2_firstFault 13 = .ok (.invokevirtual 61, 3) := by decide +kernel
theorem dX2_firstFault_16 : decode cX2_firstFault 16 = .ok (.ifCond .eq 12, 3) := by decide +kernel
theorem dX2_firstFault_19 : decode cX2_firstFault 19 = .ok (.aload_n 0, 1) := by decide +kernel
theorem dX2_firstFault_20 : decode cX2_firstFault 20 = .ok (.bipush 59, 2) := by decide +kernel
theorem dX2_firstFault_22 : decode cX2_firstFault 22 = .ok (.invokevirtual 51, 3) := by decide +kernel
theorem dX2_firstFault_25 : decode cX2_firstFault 25 = .ok (.ifCond .ne 8, 3) := by decide +kernel
theorem dX2_firstFault_28 : decode cX2_firstFault 28 = .ok (.aload_n 0, 1) := by decide +kernel
theorem dX2_firstFault_29 : decode cX2_firstFault 29 = .ok (.getfield 23, 3) := by decide +kernel
theorem dX2_firstFault_32 : decode cX2_firstFault 32 = .ok (.ireturn, 1) := by decide +kernel
theorem dX2_firstFault_33 : decode cX2_firstFault 33 = .ok (.iinc 1 1, 3) := by decide +kernel
theorem dX2_firstFault_36 : decode cX2_firstFault 36 = .ok (.goto (-30), 3) := by decide +kernel
theorem dX2_firstFault_39 : decode cX2_firstFault 39 = .ok (.aload_n 0, 1) := by decide +kernel
theorem dX2_firstFault_40 : decode cX2_firstFault 40 = .ok (.getfield 23, 3) := by decide +kernel
theorem dX2_firstFault_43 : decode cX2_firstFault 43 = .ok (.ireturn, 1) := by decide +kernel
theorem dX2_isRowOfOrders_0 : decode cX2_isRowOfOrders 0 = .ok (.aload_n 0, 1) := by decide +kernel
theorem dX2_isRowOfOrders_1 : decode cX2_isRowOfOrders 1 = .ok (.invokevirtual 58, 3) := by decide +kernel
theorem dX2_isRowOfOrders_4 : decode cX2_isRowOfOrders 4 = .ok (.iconst 0, 1) := by decide +kernel
theorem dX2_isRowOfOrders_5 : decode cX2_isRowOfOrders 5 = .ok (.istore_n 1, 1) := by decide +kernel
theorem dX2_isRowOfOrders_6 : decode cX2_isRowOfOrders 6 = .ok (.iload_n 1, 1) := by decide +kernel
theorem dX2_isRowOfOrders_7 : decode cX2_isRowOfOrders 7 = .ok (.bipush 60, 2) := by decide +kernel
theorem dX2_isRowOfOrders_9 : decode cX2_isRowOfOrders 9 = .ok (.if_icmp .ge 44, 3) := by decide +kernel
theorem dX2_isRowOfOrders_12 : decode cX2_isRowOfOrders 12 = .ok (.aload_n 0, 1) := by decide +kernel
theorem dX2_isRowOfOrders_13 : decode cX2_isRowOfOrders 13 = .ok (.invokevirtual 61, 3) := by decide +kernel
theorem dX2_isRowOfOrders_16 : decode cX2_isRowOfOrders 16 = .ok (.ifCond .ne 5, 3) := by decide +kernel
theorem dX2_isRowOfOrders_19 : decode cX2_isRowOfOrders 19 = .ok (.iconst 0, 1) := by decide +kernel
theorem dX2_isRowOfOrders_20 : decode cX2_isRowOfOrders 20 = .ok (.ireturn, 1) := by decide +kernel
theorem dX2_isRowOfOrders_21 : decode cX2_isRowOfOrders 21 = .ok (.aload_n 0, 1) := by decide +kernel
theorem dX2_isRowOfOrders_22 : decode cX2_isRowOfOrders 22 = .ok (.bipush 59, 2) := by decide +kernel
theorem dX2_isRowOfOrders_24 : decode cX2_isRowOfOrders 24 = .ok (.invokevirtual 51, 3) := by decide +kernel
theorem dX2_isRowOfOrders_27 : decode cX2_isRowOfOrders 27 = .ok (.ifCond .ne 20, 3) := by decide +kernel
theorem dX2_isRowOfOrders_30 : decode cX2_isRowOfOrders 30 = .ok (.aload_n 0, 1) := by decide +kernel
theorem dX2_isRowOfOrders_31 : decode cX2_isRowOfOrders 31 = .ok (.getfield 23, 3) := by decide +kernel
theorem dX2_isRowOfOrders_34 : decode cX2_isRowOfOrders 34 = .ok (.aload_n 0, 1) := by decide +kernel
theorem dX2_isRowOfOrders_35 : decode cX2_isRowOfOrders 35 = .ok (.getfield 15, 3) := by decide +kernel
theorem dX2_isRowOfOrders_38 : decode cX2_isRowOfOrders 38 = .ok (.if_icmp .lt 7, 3) := by decide +kernel
theorem dX2_isRowOfOrders_41 : decode cX2_isRowOfOrders 41 = .ok (.iconst 1, 1) := by decide +kernel
theorem dX2_isRowOfOrders_42 : decode cX2_isRowOfOrders 42 = .ok (.goto 4, 3) := by decide +kernel
theorem dX2_isRowOfOrders_45 : decode cX2_isRowOfOrders 45 = .ok (.iconst 0, 1) := by decide +kernel
theorem dX2_isRowOfOrders_46 : decode cX2_isRowOfOrders 46 = .ok (.ireturn, 1) := by decide +kernel
theorem dX2_isRowOfOrders_47 : decode cX2_isRowOfOrders 47 = .ok (.iinc 1 1, 3) := by decide +kernel
theorem dX2_isRowOfOrders_50 : decode cX2_isRowOfOrders 50 = .ok (.goto (-44), 3) := by decide +kernel
theorem dX2_isRowOfOrders_53 : decode cX2_isRowOfOrders 53 = .ok (.iconst 0, 1) := by decide +kernel
theorem dX2_isRowOfOrders_54 : decode cX2_isRowOfOrders 54 = .ok (.ireturn, 1) := by decide +kernel
theorem dJxe99ae_isNaN_b9ae7_0 : decode cJxe99ae_isNaN_b9ae7 0 = .ok (.dload_n 0, 1) := by decide +kernel
theorem dJxe99ae_isNaN_b9ae7_1 : decode cJxe99ae_isNaN_b9ae7 1 = .ok (.dload_n 0, 1) := by decide +kernel
theorem dJxe99ae_isNaN_b9ae7_2 : decode cJxe99ae_isNaN_b9ae7 2 = .ok (.dcmp .l, 1) := by decide +kernel
theorem dJxe99ae_isNaN_b9ae7_3 : decode cJxe99ae_isNaN_b9ae7 3 = .ok (.ifCond .eq 7, 3) := by decide +kernel
theorem dJxe99ae_isNaN_b9ae7_6 : decode cJxe99ae_isNaN_b9ae7 6 = .ok (.iconst 1, 1) := by decide +kernel
theorem dJxe99ae_isNaN_b9ae7_7 : decode cJxe99ae_isNaN_b9ae7 7 = .ok (.goto 4, 3) := by decide +kernel
theorem dJxe99ae_isNaN_b9ae7_10 : decode cJxe99ae_isNaN_b9ae7 10 = .ok (.iconst 0, 1) := by decide +kernel
theorem dJxe99ae_isNaN_b9ae7_11 : decode cJxe99ae_isNaN_b9ae7 11 = .ok (.ireturn, 1) := by decide +kernel
theorem dJxe99ae_doubleToLongBits_ccdee_0 : decode cJxe99ae_doubleToLongBits_ccdee 0 = .ok (.dload_n 0, 1) := by decide +kernel
theorem dJxe99ae_doubleToLongBits_ccdee_1 : decode cJxe99ae_doubleToLongBits_ccdee 1 = .ok (.invokestatic 122, 3) := by decide +kernel
theorem dJxe99ae_doubleToLongBits_ccdee_4 : decode cJxe99ae_doubleToLongBits_ccdee 4 = .ok (.ifCond .ne 8, 3) := by decide +kernel
theorem dJxe99ae_doubleToLongBits_ccdee_7 : decode cJxe99ae_doubleToLongBits_ccdee 7 = .ok (.dload_n 0, 1) := by decide +kernel
theorem dJxe99ae_doubleToLongBits_ccdee_8 : decode cJxe99ae_doubleToLongBits_ccdee 8 = .ok (.invokestatic 134, 3) := by decide +kernel
theorem dJxe99ae_doubleToLongBits_ccdee_11 : decode cJxe99ae_doubleToLongBits_ccdee 11 = .ok (.lreturn, 1) := by decide +kernel
theorem dJxe99ae_doubleToLongBits_ccdee_12 : decode cJxe99ae_doubleToLongBits_ccdee 12 = .ok (.ldc2_w 137, 3) := by decide +kernel
theorem dJxe99ae_doubleToLongBits_ccdee_15 : decode cJxe99ae_doubleToLongBits_ccdee 15 = .ok (.lreturn, 1) := by decide +kernel
theorem dJ9_max_7cf53_0 : decode cJ9_max_7cf53 0 = .ok (.iload_n 0, 1) := by decide +kernel
theorem dJ9_max_7cf53_1 : decode cJ9_max_7cf53 1 = .ok (.iload_n 1, 1) := by decide +kernel
theorem dJ9_max_7cf53_2 : decode cJ9_max_7cf53 2 = .ok (.if_icmp .lt 7, 3) := by decide +kernel
theorem dJ9_max_7cf53_5 : decode cJ9_max_7cf53 5 = .ok (.iload_n 0, 1) := by decide +kernel
theorem dJ9_max_7cf53_6 : decode cJ9_max_7cf53 6 = .ok (.goto 4, 3) := by decide +kernel
theorem dJ9_max_7cf53_9 : decode cJ9_max_7cf53 9 = .ok (.iload_n 1, 1) := by decide +kernel
theorem dJ9_max_7cf53_10 : decode cJ9_max_7cf53 10 = .ok (.ireturn, 1) := by decide +kernel
theorem dJ9_min_7cf53_0 : decode cJ9_min_7cf53 0 = .ok (.iload_n 0, 1) := by decide +kernel
theorem dJ9_min_7cf53_1 : decode cJ9_min_7cf53 1 = .ok (.iload_n 1, 1) := by decide +kernel
theorem dJ9_min_7cf53_2 : decode cJ9_min_7cf53 2 = .ok (.if_icmp .gt 7, 3) := by decide +kernel
theorem dJ9_min_7cf53_5 : decode cJ9_min_7cf53 5 = .ok (.iload_n 0, 1) := by decide +kernel
theorem dJ9_min_7cf53_6 : decode cJ9_min_7cf53 6 = .ok (.goto 4, 3) := by decide +kernel
theorem dJ9_min_7cf53_9 : decode cJ9_min_7cf53 9 = .ok (.iload_n 1, 1) := by decide +kernel
theorem dJ9_min_7cf53_10 : decode cJ9_min_7cf53 10 = .ok (.ireturn, 1) := by decide +kernel
theorem dJ7_fill_53178_0 : decode cJ7_fill_53178 0 = .ok (.iconst 0, 1) := by decide +kernel
theorem dJ7_fill_53178_1 : decode cJ7_fill_53178 1 = .ok (.istore_n 2, 1) := by decide +kernel
theorem dJ7_fill_53178_2 : decode cJ7_fill_53178 2 = .ok (.aload_n 0, 1) := by decide +kernel
theorem dJ7_fill_53178_3 : decode cJ7_fill_53178 3 = .ok (.arraylength, 1) := by decide +kernel
theorem dJ7_fill_53178_4 : decode cJ7_fill_53178 4 = .ok (.istore_n 3, 1) := by decide +kernel
theorem dJ7_fill_53178_5 : decode cJ7_fill_53178 5 = .ok (.iload_n 2, 1) := by decide +kernel
theorem dJ7_fill_53178_6 : decode cJ7_fill_53178 6 = .ok (.iload_n 3, 1) := by decide +kernel
theorem dJ7_fill_53178_7 : decode cJ7_fill_53178 7 = .ok (.if_icmp .ge 13, 3) := by decide +kernel
theorem dJ7_fill_53178_10 : decode cJ7_fill_53178 10 = .ok (.aload_n 0, 1) := by decide +kernel
theorem dJ7_fill_53178_11 : decode cJ7_fill_53178 11 = .ok (.iload_n 2, 1) := by decide +kernel
theorem dJ7_fill_53178_12 : decode cJ7_fill_53178 12 = .ok (.iload_n 1, 1) := by decide +kernel
theorem dJ7_fill_53178_13 : decode cJ7_fill_53178 13 = .ok (.iastore, 1) := by decide +kernel
theorem dJ7_fill_53178_14 : decode cJ7_fill_53178 14 = .ok (.iinc 2 1, 3) := by decide +kernel
theorem dJ7_fill_53178_17 : decode cJ7_fill_53178 17 = .ok (.goto (-12), 3) := by decide +kernel
theorem dJ7_fill_53178_20 : decode cJ7_fill_53178 20 = .ok (.return_, 1) := by decide +kernel
