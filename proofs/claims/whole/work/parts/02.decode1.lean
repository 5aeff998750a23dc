theorem dX0_init_0 : decode cX0_init 0 = .ok (.aload_n 0, 1) := by decide +kernel
theorem dX0_init_1 : decode cX0_init 1 = .ok (.invokespecial 3, 3) := by decide +kernel
theorem dX0_init_4 : decode cX0_init 4 = .ok (.aload_n 0, 1) := by decide +kernel
theorem dX0_init_5 : decode cX0_init 5 = .ok (.bipush 24, 2) := by decide +kernel
theorem dX0_init_7 : decode cX0_init 7 = .ok (.newarray .int, 2) := by decide +kernel
theorem dX0_init_9 : decode cX0_init 9 = .ok (.putfield 9, 3) := by decide +kernel
theorem dX0_init_12 : decode cX0_init 12 = .ok (.aload_n 0, 1) := by decide +kernel
theorem dX0_init_13 : decode cX0_init 13 = .ok (.bipush 12, 2) := by decide +kernel
theorem dX0_init_15 : decode cX0_init 15 = .ok (.newarray .int, 2) := by decide +kernel
theorem dX0_init_17 : decode cX0_init 17 = .ok (.putfield 15, 3) := by decide +kernel
theorem dX0_init_20 : decode cX0_init 20 = .ok (.aload_n 0, 1) := by decide +kernel
theorem dX0_init_21 : decode cX0_init 21 = .ok (.iconst 5, 1) := by decide +kernel
theorem dX0_init_22 : decode cX0_init 22 = .ok (.newarray .int, 2) := by decide +kernel
theorem dX0_init_24 : decode cX0_init 24 = .ok (.putfield 18, 3) := by decide +kernel
theorem dX0_init_27 : decode cX0_init 27 = .ok (.aload_n 0, 1) := by decide +kernel
theorem dX0_init_28 : decode cX0_init 28 = .ok (.iconst 5, 1) := by decide +kernel
theorem dX0_init_29 : decode cX0_init 29 = .ok (.newarray .int, 2) := by decide +kernel
theorem dX0_init_31 : decode cX0_init 31 = .ok (.putfield 21, 3) := by decide +kernel
theorem dX0_init_34 : decode cX0_init 34 = .ok (.aload_n 0, 1) := by decide +kernel
theorem dX0_init_35 : decode cX0_init 35 = .ok (.bipush 8, 2) := by decide +kernel
theorem dX0_init_37 : decode cX0_init 37 = .ok (.anewarray 24, 3) := by decide +kernel
theorem dX0_init_40 : decode cX0_init 40 = .ok (.putfield 26, 3) := by decide +kernel
theorem dX0_init_43 : decode cX0_init 43 = .ok (.aload_n 0, 1) := by decide +kernel
theorem dX0_init_44 : decode cX0_init 44 = .ok (.new 30, 3) := by decide +kernel
theorem dX0_init_47 : decode cX0_init 47 = .ok (.dup, 1) := by decide +kernel
theorem dX0_init_48 : decode cX0_init 48 = .ok (.invokespecial 32, 3) := by decide +kernel
theorem dX0_init_51 : decode cX0_init 51 = .ok (.putfield 33, 3) := by decide +kernel
theorem dX0_init_54 : decode cX0_init 54 = .ok (.aload_n 0, 1) := by decide +kernel
theorem dX0_init_55 : decode cX0_init 55 = .ok (.new 30, 3) := by decide +kernel
theorem dX0_init_58 : decode cX0_init 58 = .ok (.dup, 1) := by decide +kernel
theorem dX0_init_59 : decode cX0_init 59 = .ok (.invokespecial 32, 3) := by decide +kernel
theorem dX0_init_62 : decode cX0_init 62 = .ok (.putfield 37, 3) := by decide +kernel
theorem dX0_init_65 : decode cX0_init 65 = .ok (.aload_n 0, 1) := by decide +kernel
theorem dX0_init_66 : decode cX0_init 66 = .ok (.iconst 4, 1) := by decide +kernel
theorem dX0_init_67 : decode cX0_init 67 = .ok (.newarray .int, 2) := by decide +kernel
theorem dX0_init_69 : decode cX0_init 69 = .ok (.putfield 40, 3) := by decide +kernel
theorem dX0_init_72 : decode cX0_init 72 = .ok (.aload_n 0, 1) := by decide +kernel
theorem dX0_init_73 : decode cX0_init 73 = .ok (.bipush 12, 2) := by decide +kernel
theorem dX0_init_75 : decode cX0_init 75 = .ok (.newarray .int, 2) := by decide +kernel
theorem dX0_init_77 : decode cX0_init 77 = .ok (.putfield 43, 3) := by decide +kernel
theorem dX0_init_80 : decode cX0_init 80 = .ok (.aload_n 0, 1) := by decide +kernel
theorem dX0_init_81 : decode cX0_init 81 = .ok (.iconst 1, 1) := by decide +kernel
theorem dX0_init_82 : decode cX0_init 82 = .ok (.putfield 46, 3) := by decide +kernel
theorem dX0_init_85 : decode cX0_init 85 = .ok (.iconst 0, 1) := by decide +kernel
theorem dX0_init_86 : decode cX0_init 86 = .ok (.istore_n 1, 1) := by decide +kernel
theorem dX0_init_87 : decode cX0_init 87 = .ok (.iload_n 1, 1) := by decide +kernel
theorem dX0_init_88 : decode cX0_init 88 = .ok (.bipush 24, 2) := by decide +kernel
theorem dX0_init_90 : decode cX0_init 90 = .ok (.if_icmp .ge 17, 3) := by decide +kernel
theorem dX0_init_93 : decode cX0_init 93 = .ok (.aload_n 0, 1) := by decide +kernel
theorem dX0_init_94 : decode cX0_init 94 = .ok (.getfield 9, 3) := by decide +kernel
theorem dX0_init_97 : decode cX0_init 97 = .ok (.iload_n 1, 1) := by decide +kernel
theorem dX0_init_98 : decode cX0_init 98 = .ok (.bipush 30, 2) := by decide +kernel
theorem dX0_init_100 : decode cX0_init 100 = .ok (.iastore, 1) := by decide +kernel
theorem dX0_init_101 : decode cX0_init 101 = .ok (.iinc 1 1, 3) := by decide +kernel
theorem dX0_init_104 : decode cX0_init 104 = .ok (.goto (-17), 3) := by decide +kernel
theorem dX0_init_107 : decode cX0_init 107 = .ok (.iconst 0, 1) := by decide +kernel
theorem dX0_init_108 : decode cX0_init 108 = .ok (.istore_n 1, 1) := by decide +kernel
theorem dX0_init_109 : decode cX0_init 109 = .ok (.iload_n 1, 1) := by decide +kernel
theorem dX0_init_110 : decode cX0_init 110 = .ok (.bipush 8, 2) := by decide +kernel
theorem dX0_init_112 : decode cX0_init 112 = .ok (.if_icmp .ge 22, 3) := by decide +kernel
theorem dX0_init_115 : decode cX0_init 115 = .ok (.aload_n 0, 1) := by decide +kernel
theorem dX0_init_116 : decode cX0_init 116 = .ok (.getfield 26, 3) := by decide +kernel
theorem dX0_init_119 : decode cX0_init 119 = .ok (.iload_n 1, 1) := by decide +kernel
theorem dX0_init_120 : decode cX0_init 120 = .ok (.new 24, 3) := by decide +kernel
theorem dX0_init_123 : decode cX0_init 123 = .ok (.dup, 1) := by decide +kernel
theorem dX0_init_124 : decode cX0_init 124 = .ok (.invokespecial 50, 3) := by decide +kernel
theorem dX0_init_127 : decode cX0_init 127 = .ok (.aastore, 1) := by decide +kernel
theorem dX0_init_128 : decode cX0_init 128 = .ok (.iinc 1 1, 3) := by decide +kernel
theorem dX0_init_131 : decode cX0_init 131 = .ok (.goto (-22), 3) := by decide +kernel
theorem dX0_init_134 : decode cX0_init 134 = .ok (.return_, 1) := by decide +kernel
theorem dX0_copyFrom_0 : decode cX0_copyFrom 0 = .ok (.aload_n 1, 1) := by decide +kernel
theorem dX0_copyFrom_1 : decode cX0_copyFrom 1 = .ok (.getfield 9, 3) := by decide +kernel
theorem dX0_copyFrom_4 : decode cX0_copyFrom 4 = .ok (.iconst 0, 1) := by decide +kernel
theorem dX0_copyFrom_5 : decode cX0_copyFrom 5 = .ok (.aload_n 0, 1) := by decide +kernel
theorem dX0_copyFrom_6 : decode cX0_copyFrom 6 = .ok (.getfield 9, 3) := by decide +kernel
theorem dX0_copyFrom_9 : decode cX0_copyFrom 9 = .ok (.iconst 0, 1) := by decide +kernel
theorem dX0_copyFrom_10 : decode cX0_copyFrom 10 = .ok (.bipush 24, 2) := by decide +kernel
theorem dX0_copyFrom_12 : decode cX0_copyFrom 12 = .ok (.invokestatic 51, 3) := by decide +kernel
theorem dX0_copyFrom_15 : decode cX0_copyFrom 15 = .ok (.aload_n 1, 1) := by decide +kernel
theorem dX0_copyFrom_16 : decode cX0_copyFrom 16 = .ok (.getfield 15, 3) := by decide +kernel
theorem dX0_copyFrom_19 : decode cX0_copyFrom 19 = .ok (.iconst 0, 1) := by decide +kernel
theorem dX0_copyFrom_20 : decode cX0_copyFrom 20 = .ok (.aload_n 0, 1) := by decide +kernel
theorem dX0_copyFrom_21 : decode cX0_copyFrom 21 = .ok (.getfield 15, 3) := by decide +kernel
theorem dX0_copyFrom_24 : decode cX0_copyFrom 24 = .ok (.iconst 0, 1) := by decide +kernel
theorem dX0_copyFrom_25 : decode cX0_copyFrom 25 = .ok (.bipush 12, 2) := by decide +kernel
theorem dX0_copyFrom_27 : decode cX0_copyFrom 27 = .ok (.invokestatic 51, 3) := by decide +kernel
theorem dX0_copyFrom_30 : decode cX0_copyFrom 30 = .ok (.aload_n 1, 1) := by decide +kernel
theorem dX0_copyFrom_31 : decode cX0_copyFrom 31 = .ok (.getfield 18, 3) := by decide +kernel
theorem dX0_copyFrom_34 : decode cX0_copyFrom 34 = .ok (.iconst 0, 1) := by decide +kernel
theorem dX0_copyFrom_35 : decode cX0_copyFrom 35 = .ok (.aload_n 0, 1) := by decide +kernel
theorem dX0_copyFrom_36 : decode cX0_copyFrom 36 = .ok (.getfield 18, 3) := by decide +kernel
theorem dX0_copyFrom_39 : decode cX0_copyFrom 39 = .ok (.iconst 0, 1) := by decide +kernel
theorem dX0_copyFrom_40 : decode cX0_copyFrom 40 = .ok (.iconst 5, 1) := by decide +kernel
theorem dX0_copyFrom_41 : decode cX0_copyFrom 41 = .ok (.invokestatic 51, 3) := by decide +kernel
theorem dX0_copyFrom_44 : decode cX0_copyFrom 44 = .ok (.aload_n 1, 1) := by decide +kernel
theorem dX0_copyFrom_45 : decode cX0_copyFrom 45 = .ok (.getfield 21, 3) := by decide +kernel
theorem dX0_copyFrom_48 : decode cX0_copyFrom 48 = .ok (.iconst 0, 1) := by decide +kernel
theorem dX0_copyFrom_49 : decode cX0_copyFrom 49 = .ok (.aload_n 0, 1) := by decide +kernel
theorem dX0_copyFrom_50 : decode cX0_copyFrom 50 = .ok (.getfield 21, 3) := by decide +kernel
theorem dX0_copyFrom_53 : decode cX0_copyFrom 53 = .ok (.iconst 0, 1) := by decide +kernel
theorem dX0_copyFrom_54 : decode cX0_copyFrom 54 = .ok (.iconst 5, 1) := by decide +kernel
theorem dX0_copyFrom_55 : decode cX0_copyFrom 55 = .ok (.invokestatic 51, 3) := by decide +kernel
theorem dX0_copyFrom_58 : decode cX0_copyFrom 58 = .ok (.iconst 0, 1) := by decide +kernel
theorem dX0_copyFrom_59 : decode cX0_copyFrom 59 = .ok (.istore_n 2, 1) := by decide +kernel
theorem dX0_copyFrom_60 : decode cX0_copyFrom 60 = .ok (.iload_n 2, 1) := by decide +kernel
theorem dX0_copyFrom_61 : decode cX0_copyFrom 61 = .ok (.aload_n 1, 1) := by decide +kernel
theorem dX0_copyFrom_62 : decode cX0_copyFrom 62 = .ok (.getfield 57, 3) := by decide +kernel
theorem dX0_copyFrom_65 : decode cX0_copyFrom 65 = .ok (.if_icmp .ge 24, 3) := by decide +kernel
theorem dX0_copyFrom_68 : decode cX0_copyFrom 68 = .ok (.aload_n 0, 1) := by decide +kernel
theorem dX0_copyFrom_69 : decode cX0_copyFrom 69 = .ok (.getfield 26, 3) := by decide +kernel
theorem dX0_copyFrom_72 : decode cX0_copyFrom 72 = .ok (.iload_n 2, 1) := by decide +kernel
theorem dX0_copyFrom_73 : decode cX0_copyFrom 73 = .ok (.aaload, 1) := by decide +kernel
theorem dX0_copyFrom_74 : decode cX0_copyFrom 74 = .ok (.aload_n 1, 1) := by decide +kernel
theorem dX0_copyFrom_75 : decode cX0_copyFrom 75 = .ok (.getfield 26, 3) := by decide +kernel
theorem dX0_copyFrom_78 : decode cX0_copyFrom 78 = .ok (.iload_n 2, 1) := by decide +kernel
theorem dX0_copyFrom_79 : decode cX0_copyFrom 79 = .ok (.aaload, 1) := by decide +kernel
theorem dX0_copyFrom_80 : decode cX0_copyFrom 80 = .ok (.invokevirtual 60, 3) := by decide +kernel
theorem dX0_copyFrom_83 : decode cX0_copyFrom 83 = .ok (.iinc 2 1, 3) := by decide +kernel
theorem dX0_copyFrom_86 : decode cX0_copyFrom 86 = .ok (.goto (-26), 3) := by decide +kernel
theorem dX0_copyFrom_89 : decode cX0_copyFrom 89 = .ok (.aload_n 0, 1) := by decide +kernel
theorem dX0_copyFrom_90 : decode cX0_copyFrom 90 = .ok (.getfield 33, 3) := by decide +kernel
theorem dX0_copyFrom_93 : decode cX0_copyFrom 93 = .ok (.aload_n 1, 1) := by decide +kernel
theorem dX0_copyFrom_94 : decode cX0_copyFrom 94 = .ok (.getfield 33, 3) := by decide +kernel
theorem dX0_copyFrom_97 : decode cX0_copyFrom 97 = .ok (.getfield 64, 3) := by decide +kernel
theorem dX0_copyFrom_100 : decode cX0_copyFrom 100 = .ok (.aload_n 1, 1) := by decide +kernel
theorem dX0_copyFrom_101 : decode cX0_copyFrom 101 = .ok (.getfield 33, 3) := by decide +kernel
theorem dX0_copyFrom_104 : decode cX0_copyFrom 104 = .ok (.getfield 67, 3) := by decide +kernel
theorem dX0_copyFrom_107 : decode cX0_copyFrom 107 = .ok (.invokevirtual 68, 3) := by decide +kernel
theorem dX0_copyFrom_110 : decode cX0_copyFrom 110 = .ok (.aload_n 0, 1) := by decide +kernel
theorem dX0_copyFrom_111 : decode cX0_copyFrom 111 = .ok (.getfield 37, 3) := by decide +kernel
theorem dX0_copyFrom_114 : decode cX0_copyFrom 114 = .ok (.aload_n 1, 1) := by decide +kernel
theorem dX0_copyFrom_115 : decode cX0_copyFrom 115 = .ok (.getfield 37, 3) := by decide +kernel
theorem dX0_copyFrom_118 : decode cX0_copyFrom 118 = .ok (.getfield 64, 3) := by decide +kernel
theorem dX0_copyFrom_121 : decode cX0_copyFrom 121 = .ok (.aload_n 1, 1) := by decide +kernel
theorem dX0_copyFrom_122 : decode cX0_copyFrom 122 = .ok (.getfield 37, 3) := by decide +kernel
theorem dX0_copyFrom_125 : decode cX0_copyFrom 125 = .ok (.getfield 67, 3) := by decide +kernel
theorem dX0_copyFrom_128 : decode cX0_copyFrom 128 = .ok (.invokevirtual 68, 3) := by decide +kernel
theorem dX0_copyFrom_131 : decode cX0_copyFrom 131 = .ok (.aload_n 0, 1) := by decide +kernel
theorem dX0_copyFrom_132 : decode cX0_copyFrom 132 = .ok (.aload_n 1, 1) := by decide +kernel
theorem dX0_copyFrom_133 : decode cX0_copyFrom 133 = .ok (.getfield 57, 3) := by decide +kernel
theorem dX0_copyFrom_136 : decode cX0_copyFrom 136 = .ok (.putfield 57, 3) := by decide +kernel
theorem dX0_copyFrom_139 : decode cX0_copyFrom 139 = .ok (.aload_n 0, 1) := by decide +kernel
theorem dX0_copyFrom_140 : decode cX0_copyFrom 140 = .ok (.aload_n 1, 1) := by decide +kernel
theorem dX0_copyFrom_141 : decode cX0_copyFrom 141 = .ok (.getfield 72, 3) := by decide +kernel
theorem dX0_copyFrom_144 : decode cX0_copyFrom 144 = .ok (.putfield 72, 3) := by decide +kernel
theorem dX0_copyFrom_147 : decode cX0_copyFrom 147 = .ok (.aload_n 0, 1) := by decide +kernel
theorem dX0_copyFrom_148 : decode cX0_copyFrom 148 = .ok (.aload_n 1, 1) := by decide +kernel
theorem dX0_copyFrom_149 : decode cX0_copyFrom 149 = .ok (.getfield 75, 3) := by decide +kernel
theorem dX0_copyFrom_152 : decode cX0_copyFrom 152 = .ok (.putfield 75, 3) := by decide +kernel
theorem dX0_copyFrom_155 : decode cX0_copyFrom 155 = .ok (.aload_n 0, 1) := by decide +kernel
theorem dX0_copyFrom_156 : decode cX0_copyFrom 156 = .ok (.aload_n 1, 1) := by decide +kernel
theorem dX0_copyFrom_157 : decode cX0_copyFrom 157 = .ok (.getfield 46, 3) := by decide +kernel
theorem dX0_copyFrom_160 : decode cX0_copyFrom 160 = .ok (.putfield 46, 3) := by decide +kernel
theorem dX0_copyFrom_163 : decode cX0_copyFrom 163 = .ok (.return_, 1) := by decide +kernel
theorem dX0_law_0 : decode cX0_law 0 = .ok (.iload_n 1, 1) := by decide +kernel
theorem dX0_law_1 : decode cX0_law 1 = .ok (.ifCond .ne 10, 3) := by decide +kernel
theorem dX0_law_4 : decode cX0_law 4 = .ok (.aload_n 0, 1) := by decide +kernel
theorem dX0_law_5 : decode cX0_law 5 = .ok (.getfield 33, 3) := by decide +kernel
theorem dX0_law_8 : decode cX0_law 8 = .ok (.goto 7, 3) := by decide +kernel
theorem dX0_law_11 : decode cX0_law 11 = .ok (.aload_n 0, 1) := by decide +kernel
theorem dX0_law_12 : decode cX0_law 12 = .ok (.getfield 37, 3) := by decide +kernel
theorem dX0_law_15 : decode cX0_law 15 = .ok (.areturn, 1) := by decide +kernel
theorem dX0_addWheel_0 : decode cX0_addWheel 0 = .ok (.aload_n 0, 1) := by decide +kernel
theorem dX0_addWheel_1 : decode cX0_addWheel 1 = .ok (.getfield 57, 3) := by decide +kernel
theorem dX0_addWheel_4 : decode cX0_addWheel 4 = .ok (.bipush 8, 2) := by decide +kernel
theorem dX0_addWheel_6 : decode cX0_addWheel 6 = .ok (.if_icmp .ge 72, 3) := by decide +kernel
theorem dX0_addWheel_9 : decode cX0_addWheel 9 = .ok (.aload_n 0, 1) := by decide +kernel
theorem dX0_addWheel_10 : decode cX0_addWheel 10 = .ok (.getfield 26, 3) := by decide +kernel
theorem dX0_addWheel_13 : decode cX0_addWheel 13 = .ok (.aload_n 0, 1) := by decide +kernel
theorem dX0_addWheel_14 : decode cX0_addWheel 14 = .ok (.getfield 57, 3) := by decide +kernel
theorem dX0_addWheel_17 : decode cX0_addWheel 17 = .ok (.aaload, 1) := by decide +kernel
theorem dX0_addWheel_18 : decode cX0_addWheel 18 = .ok (.astore 4, 2) := by decide +kernel
theorem dX0_addWheel_20 : decode cX0_addWheel 20 = .ok (.aload 4, 2) := by decide +kernel
theorem dX0_addWheel_22 : decode cX0_addWheel 22 = .ok (.iload_n 1, 1) := by decide +kernel
theorem dX0_addWheel_23 : decode cX0_addWheel 23 = .ok (.bipush 10, 2) := by decide +kernel
theorem dX0_addWheel_25 : decode cX0_addWheel 25 = .ok (.idiv, 1) := by decide +kernel
theorem dX0_addWheel_26 : decode cX0_addWheel 26 = .ok (.putfield 78, 3) := by decide +kernel
theorem dX0_addWheel_29 : decode cX0_addWheel 29 = .ok (.aload 4, 2) := by decide +kernel
theorem dX0_addWheel_31 : decode cX0_addWheel 31 = .ok (.iload_n 1, 1) := by decide +kernel
theorem dX0_addWheel_32 : decode cX0_addWheel 32 = .ok (.bipush 10, 2) := by decide +kernel
theorem dX0_addWheel_34 : decode cX0_addWheel 34 = .ok (.irem, 1) := by decide +kernel
theorem dX0_addWheel_35 : decode cX0_addWheel 35 = .ok (.putfield 81, 3) := by decide +kernel
theorem dX0_addWheel_38 : decode cX0_addWheel 38 = .ok (.aload 4, 2) := by decide +kernel
theorem dX0_addWheel_40 : decode cX0_addWheel 40 = .ok (.iload_n 2, 1) := by decide +kernel
theorem dX0_addWheel_41 : decode cX0_addWheel 41 = .ok (.putfield 84, 3) := by decide +kernel
theorem dX0_addWheel_44 : decode cX0_addWheel 44 = .ok (.aload 4, 2) := by decide +kernel
theorem dX0_addWheel_46 : decode cX0_addWheel 46 = .ok (.iload_n 3, 1) := by decide +kernel
theorem dX0_addWheel_47 : decode cX0_addWheel 47 = .ok (.putfield 87, 3) := by decide +kernel
theorem dX0_addWheel_50 : decode cX0_addWheel 50 = .ok (.aload 4, 2) := by decide +kernel
theorem dX0_addWheel_52 : decode cX0_addWheel 52 = .ok (.iconst 1, 1) := by decide +kernel
theorem dX0_addWheel_53 : decode cX0_addWheel 53 = .ok (.putfield 90, 3) := by decide +kernel
theorem dX0_addWheel_56 : decode cX0_addWheel 56 = .ok (.aload 4, 2) := by decide +kernel
theorem dX0_addWheel_58 : decode cX0_addWheel 58 = .ok (.iconst 0, 1) := by decide +kernel
theorem dX0_addWheel_59 : decode cX0_addWheel 59 = .ok (.putfield 93, 3) := by decide +kernel
theorem dX0_addWheel_62 : decode cX0_addWheel 62 = .ok (.aload 4, 2) := by decide +kernel
theorem dX0_addWheel_64 : decode cX0_addWheel 64 = .ok (.iconst 0, 1) := by decide +kernel
theorem dX0_addWheel_65 : decode cX0_addWheel 65 = .ok (.putfield 96, 3) := by decide +kernel
theorem dX0_addWheel_68 : decode cX0_addWheel 68 = .ok (.aload_n 0, 1) := by decide +kernel
theorem dX0_addWheel_69 : decode cX0_addWheel 69 = .ok (.dup, 1) := by decide +kernel
theorem dX0_addWheel_70 : decode cX0_addWheel 70 = .ok (.getfield 57, 3) := by decide +kernel
theorem dX0_addWheel_73 : decode cX0_addWheel 73 = .ok (.iconst 1, 1) := by decide +kernel
theorem dX0_addWheel_74 : decode cX0_addWheel 74 = .ok (.iadd, 1) := by decide +kernel
theorem dX0_addWheel_75 : decode cX0_addWheel 75 = .ok (.putfield 57, 3) := by decide +kernel
theorem dX0_addWheel_78 : decode cX0_addWheel 78 = .ok (.return_, 1) := by decide +kernel
theorem dX0_openOnly_0 : decode cX0_openOnly 0 = .ok (.iconst 0, 1) := by decide +kernel
theorem dX0_openOnly_1 : decode cX0_openOnly 1 = .ok (.istore_n 2, 1) := by decide +kernel
theorem dX0_openOnly_2 : decode cX0_openOnly 2 = .ok (.iload_n 2, 1) := by decide +kernel
theorem dX0_openOnly_3 : decode cX0_openOnly 3 = .ok (.aload_n 0, 1) := by decide +kernel
theorem dX0_openOnly_4 : decode cX0_openOnly 4 = .ok (.getfield 57, 3) := by decide +kernel
theorem dX0_openOnly_7 : decode cX0_openOnly 7 = .ok (.if_icmp .ge 23, 3) := by decide +kernel
theorem dX0_openOnly_10 : decode cX0_openOnly 10 = .ok (.aload_n 0, 1) := by decide +kernel
theorem dX0_openOnly_11 : decode cX0_openOnly 11 = .ok (.getfield 26, 3) := by decide +kernel
theorem dX0_openOnly_14 : decode cX0_openOnly 14 = .ok (.iload_n 2, 1) := by decide +kernel
theorem dX0_openOnly_15 : decode cX0_openOnly 15 = .ok (.aaload, 1) := by decide +kernel
theorem dX0_openOnly_16 : decode cX0_openOnly 16 = .ok (.iload_n 1, 1) := by decide +kernel
theorem dX0_openOnly_17 : decode cX0_openOnly 17 = .ok (.iload_n 2, 1) := by decide +kernel
theorem dX0_openOnly_18 : decode cX0_openOnly 18 = .ok (.ishr, 1) := by decide +kernel
theorem dX0_openOnly_19 : decode cX0_openOnly 19 = .ok (.iconst 1, 1) := by decide +kernel
theorem dX0_openOnly_20 : decode cX0_openOnly 20 = .ok (.iand, 1) := by decide +kernel
theorem dX0_openOnly_21 : decode cX0_openOnly 21 = .ok (.putfield 90, 3) := by decide +kernel
theorem dX0_openOnly_24 : decode cX0_openOnly 24 = .ok (.iinc 2 1, 3) := by decide +kernel
theorem dX0_openOnly_27 : decode cX0_openOnly 27 = .ok (.goto (-25), 3) := by decide +kernel
theorem dX0_openOnly_30 : decode cX0_openOnly 30 = .ok (.return_, 1) := by decide +kernel
theorem dX0_forceNow_0 : decode cX0_forceNow 0 = .ok (.aload_n 0, 1) := by decide +kernel
theorem dX0_forceNow_1 : decode cX0_forceNow 1 = .ok (.getfield 9, 3) := by decide +kernel
theorem dX0_forceNow_4 : decode cX0_forceNow 4 = .ok (.aload_n 0, 1) := by decide +kernel
theorem dX0_forceNow_5 : decode cX0_forceNow 5 = .ok (.getfield 72, 3) := by decide +kernel
theorem dX0_forceNow_8 : decode cX0_forceNow 8 = .ok (.bipush 24, 2) := by decide +kernel
theorem dX0_forceNow_10 : decode cX0_forceNow 10 = .ok (.irem, 1) := by decide +kernel
theorem dX0_forceNow_11 : decode cX0_forceNow 11 = .ok (.iaload, 1) := by decide +kernel
theorem dX0_forceNow_12 : decode cX0_forceNow 12 = .ok (.ireturn, 1) := by decide +kernel
theorem dX0_letFlow_0 : decode cX0_letFlow 0 = .ok (.aload_n 0, 1) := by decide +kernel
theorem dX0_letFlow_1 : decode cX0_letFlow 1 = .ok (.invokevirtual 99, 3) := by decide +kernel
theorem dX0_letFlow_4 : decode cX0_letFlow 4 = .ok (.istore_n 1, 1) := by decide +kernel
theorem dX0_letFlow_5 : decode cX0_letFlow 5 = .ok (.aload_n 0, 1) := by decide +kernel
theorem dX0_letFlow_6 : decode cX0_letFlow 6 = .ok (.iconst 0, 1) := by decide +kernel
theorem dX0_letFlow_7 : decode cX0_letFlow 7 = .ok (.putfield 103, 3) := by decide +kernel
theorem dX0_letFlow_10 : decode cX0_letFlow 10 = .ok (.iconst 0, 1) := by decide +kernel
theorem dX0_letFlow_11 : decode cX0_letFlow 11 = .ok (.istore_n 2, 1) := by decide +kernel
theorem dX0_letFlow_12 : decode cX0_letFlow 12 = .ok (.iload_n 2, 1) := by decide +kernel
theorem dX0_letFlow_13 : decode cX0_letFlow 13 = .ok (.bipush 12, 2) := by decide +kernel
theorem dX0_letFlow_15 : decode cX0_letFlow 15 = .ok (.if_icmp .ge 97, 3) := by decide +kernel
theorem dX0_letFlow_18 : decode cX0_letFlow 18 = .ok (.aload_n 0, 1) := by decide +kernel
theorem dX0_letFlow_19 : decode cX0_letFlow 19 = .ok (.getfield 43, 3) := by decide +kernel
theorem dX0_letFlow_22 : decode cX0_letFlow 22 = .ok (.iload_n 2, 1) := by decide +kernel
theorem dX0_letFlow_23 : decode cX0_letFlow 23 = .ok (.iload_n 1, 1) := by decide +kernel
theorem dX0_letFlow_24 : decode cX0_letFlow 24 = .ok (.iastore, 1) := by decide +kernel
theorem dX0_letFlow_25 : decode cX0_letFlow 25 = .ok (.iload_n 1, 1) := by decide +kernel
theorem dX0_letFlow_26 : decode cX0_letFlow 26 = .ok (.aload_n 0, 1) := by decide +kernel
theorem dX0_letFlow_27 : decode cX0_letFlow 27 = .ok (.getfield 15, 3) := by decide +kernel
theorem dX0_letFlow_30 : decode cX0_letFlow 30 = .ok (.iload_n 2, 1) := by decide +kernel
theorem dX0_letFlow_31 : decode cX0_letFlow 31 = .ok (.iaload, 1) := by decide +kernel
theorem dX0_letFlow_32 : decode cX0_letFlow 32 = .ok (.invokestatic 106, 3) := by decide +kernel
theorem dX0_letFlow_35 : decode cX0_letFlow 35 = .ok (.istore_n 3, 1) := by decide +kernel
theorem dX0_letFlow_36 : decode cX0_letFlow 36 = .ok (.aload_n 0, 1) := by decide +kernel
theorem dX0_letFlow_37 : decode cX0_letFlow 37 = .ok (.dup, 1) := by decide +kernel
theorem dX0_letFlow_38 : decode cX0_letFlow 38 = .ok (.getfield 103, 3) := by decide +kernel
theorem dX0_letFlow_41 : decode cX0_letFlow 41 = .ok (.iload_n 3, 1) := by decide +kernel
theorem dX0_letFlow_42 : decode cX0_letFlow 42 = .ok (.iadd, 1) := by decide +kernel
theorem dX0_letFlow_43 : decode cX0_letFlow 43 = .ok (.putfield 103, 3) := by decide +kernel
theorem dX0_letFlow_46 : decode cX0_letFlow 46 = .ok (.iload_n 1, 1) := by decide +kernel
theorem dX0_letFlow_47 : decode cX0_letFlow 47 = .ok (.iload_n 3, 1) := by decide +kernel
theorem dX0_letFlow_48 : decode cX0_letFlow 48 = .ok (.isub, 1) := by decide +kernel
theorem dX0_letFlow_49 : decode cX0_letFlow 49 = .ok (.istore_n 1, 1) := by decide +kernel
theorem dX0_letFlow_50 : decode cX0_letFlow 50 = .ok (.iconst 0, 1) := by decide +kernel
theorem dX0_letFlow_51 : decode cX0_letFlow 51 = .ok (.istore 4, 2) := by decide +kernel
theorem dX0_letFlow_53 : decode cX0_letFlow 53 = .ok (.iload 4, 2) := by decide +kernel
theorem dX0_letFlow_55 : decode cX0_letFlow 55 = .ok (.aload_n 0, 1) := by decide +kernel
theorem dX0_letFlow_56 : decode cX0_letFlow 56 = .ok (.getfield 57, 3) := by decide +kernel
theorem dX0_letFlow_59 : decode cX0_letFlow 59 = .ok (.if_icmp .ge 47, 3) := by decide +kernel
theorem dX0_letFlow_62 : decode cX0_letFlow 62 = .ok (.aload_n 0, 1) := by decide +kernel
theorem dX0_letFlow_63 : decode cX0_letFlow 63 = .ok (.getfield 26, 3) := by decide +kernel
theorem dX0_letFlow_66 : decode cX0_letFlow 66 = .ok (.iload 4, 2) := by decide +kernel
theorem dX0_letFlow_68 : decode cX0_letFlow 68 = .ok (.aaload, 1) := by decide +kernel
theorem dX0_letFlow_69 : decode cX0_letFlow 69 = .ok (.astore 5, 2) := by decide +kernel
theorem dX0_letFlow_71 : decode cX0_letFlow 71 = .ok (.aload 5, 2) := by decide +kernel
theorem dX0_letFlow_73 : decode cX0_letFlow 73 = .ok (.getfield 84, 3) := by decide +kernel
theorem dX0_letFlow_76 : decode cX0_letFlow 76 = .ok (.iload_n 2, 1) := by decide +kernel
theorem dX0_letFlow_77 : decode cX0_letFlow 77 = .ok (.if_icmp .ne 23, 3) := by decide +kernel
theorem dX0_letFlow_80 : decode cX0_letFlow 80 = .ok (.aload 5, 2) := by decide +kernel
theorem dX0_letFlow_82 : decode cX0_letFlow 82 = .ok (.aload_n 0, 1) := by decide +kernel
theorem dX0_letFlow_83 : decode cX0_letFlow 83 = .ok (.aload 5, 2) := by decide +kernel
theorem dX0_letFlow_85 : decode cX0_letFlow 85 = .ok (.iload_n 1, 1) := by decide +kernel
theorem dX0_letFlow_86 : decode cX0_letFlow 86 = .ok (.invokevirtual 112, 3) := by decide +kernel
theorem dX0_letFlow_89 : decode cX0_letFlow 89 = .ok (.putfield 116, 3) := by decide +kernel
theorem dX0_letFlow_92 : decode cX0_letFlow 92 = .ok (.iload_n 1, 1) := by decide +kernel
theorem dX0_letFlow_93 : decode cX0_letFlow 93 = .ok (.aload 5, 2) := by decide +kernel
theorem dX0_letFlow_95 : decode cX0_letFlow 95 = .ok (.getfield 116, 3) := by decide +kernel
theorem dX0_letFlow_98 : decode cX0_letFlow 98 = .ok (.isub, 1) := by decide +kernel
theorem dX0_letFlow_99 : decode cX0_letFlow 99 = .ok (.istore_n 1, 1) := by decide +kernel
theorem dX0_letFlow_100 : decode cX0_letFlow 100 = .ok (.iinc 4 1, 3) := by decide +kernel
theorem dX0_letFlow_103 : decode cX0_letFlow 103 = .ok (.goto (-50), 3) := by decide +kernel
theorem dX0_letFlow_106 : decode cX0_letFlow 106 = .ok (.iinc 2 1, 3) := by decide +kernel
theorem dX0_letFlow_109 : decode cX0_letFlow 109 = .ok (.goto (-97), 3) := by decide +kernel
theorem dX0_letFlow_112 : decode cX0_letFlow 112 = .ok (.aload_n 0, 1) := by decide +kernel
theorem dX0_letFlow_113 : decode cX0_letFlow 113 = .ok (.iload_n 1, 1) := by decide +kernel
theorem dX0_letFlow_114 : decode cX0_letFlow 114 = .ok (.putfield 119, 3) := by decide +kernel
theorem dX0_letFlow_117 : decode cX0_letFlow 117 = .ok (.return_, 1) := by decide +kernel
theorem dX0_wants_0 : decode cX0_wants 0 = .ok (.aload_n 1, 1) := by decide +kernel
theorem dX0_wants_1 : decode cX0_wants 1 = .ok (.getfield 90, 3) := by decide +kernel
theorem dX0_wants_4 : decode cX0_wants 4 = .ok (.ifCond .eq 14, 3) := by decide +kernel
theorem dX0_wants_7 : decode cX0_wants 7 = .ok (.aload_n 1, 1) := by decide +kernel
theorem dX0_wants_8 : decode cX0_wants 8 = .ok (.getfield 81, 3) := by decide +kernel
theorem dX0_wants_11 : decode cX0_wants 11 = .ok (.aload_n 0, 1) := by decide +kernel
theorem dX0_wants_12 : decode cX0_wants 12 = .ok (.getfield 75, 3) := by decide +kernel
theorem dX0_wants_15 : decode cX0_wants 15 = .ok (.if_icmp .ge 5, 3) := by decide +kernel
theorem dX0_wants_18 : decode cX0_wants 18 = .ok (.iconst 0, 1) := by decide +kernel
theorem dX0_wants_19 : decode cX0_wants 19 = .ok (.ireturn, 1) := by decide +kernel
theorem dX0_wants_20 : decode cX0_wants 20 = .ok (.aload_n 1, 1) := by decide +kernel
theorem dX0_wants_21 : decode cX0_wants 21 = .ok (.getfield 78, 3) := by decide +kernel
theorem dX0_wants_24 : decode cX0_wants 24 = .ok (.tableswitch 87 1 6 #[40, 54, 64, 40, 64, 75], 40) := by decide +kernel
theorem dX0_wants_64 : decode cX0_wants 64 = .ok (.iload_n 2, 1) := by decide +kernel
theorem dX0_wants_65 : decode cX0_wants 65 = .ok (.iconst 3, 1) := by decide +kernel
theorem dX0_wants_66 : decode cX0_wants 66 = .ok (.idiv, 1) := by decide +kernel
theorem dX0_wants_67 : decode cX0_wants 67 = .ok (.aload_n 1, 1) := by decide +kernel
theorem dX0_wants_68 : decode cX0_wants 68 = .ok (.getfield 81, 3) := by decide +kernel
theorem dX0_wants_71 : decode cX0_wants 71 = .ok (.iadd, 1) := by decide +kernel
theorem dX0_wants_72 : decode cX0_wants 72 = .ok (.iconst 0, 1) := by decide +kernel
theorem dX0_wants_73 : decode cX0_wants 73 = .ok (.iload_n 2, 1) := by decide +kernel
theorem dX0_wants_74 : decode cX0_wants 74 = .ok (.invokestatic 122, 3) := by decide +kernel
theorem dX0_wants_77 : decode cX0_wants 77 = .ok (.ireturn, 1) := by decide +kernel
theorem dX0_wants_78 : decode cX0_wants 78 = .ok (.aload_n 1, 1) := by decide +kernel
theorem dX0_wants_79 : decode cX0_wants 79 = .ok (.getfield 81, 3) := by decide +kernel
theorem dX0_wants_82 : decode cX0_wants 82 = .ok (.iconst 0, 1) := by decide +kernel
theorem dX0_wants_83 : decode cX0_wants 83 = .ok (.iload_n 2, 1) := by decide +kernel
theorem dX0_wants_84 : decode cX0_wants 84 = .ok (.invokestatic 122, 3) := by decide +kernel
theorem dX0_wants_87 : decode cX0_wants 87 = .ok (.ireturn, 1) := by decide +kernel
theorem dX0_wants_88 : decode cX0_wants 88 = .ok (.iload_n 2, 1) := by decide +kernel
theorem dX0_wants_89 : decode cX0_wants 89 = .ok (.iconst 3, 1) := by decide +kernel
theorem dX0_wants_90 : decode cX0_wants 90 = .ok (.idiv, 1) := by decide +kernel
theorem dX0_wants_91 : decode cX0_wants 91 = .ok (.iconst 2, 1) := by decide +kernel
theorem dX0_wants_92 : decode cX0_wants 92 = .ok (.imul, 1) := by decide +kernel
theorem dX0_wants_93 : decode cX0_wants 93 = .ok (.iconst 0, 1) := by decide +kernel
theorem dX0_wants_94 : decode cX0_wants 94 = .ok (.iload_n 2, 1) := by decide +kernel
theorem dX0_wants_95 : decode cX0_wants 95 = .ok (.invokestatic 122, 3) := by decide +kernel
theorem dX0_wants_98 : decode cX0_wants 98 = .ok (.ireturn, 1) := by decide +kernel
theorem dX0_wants_99 : decode cX0_wants 99 = .ok (.aload_n 0, 1) := by decide +kernel
theorem dX0_wants_100 : decode cX0_wants 100 = .ok (.aload_n 1, 1) := by decide +kernel
theorem dX0_wants_101 : decode cX0_wants 101 = .ok (.iload_n 2, 1) := by decide +kernel
theorem dX0_wants_102 : decode cX0_wants 102 = .ok (.invokevirtual 126, 3) := by decide +kernel
theorem dX0_wants_105 : decode cX0_wants 105 = .ok (.iconst 0, 1) := by decide +kernel
theorem dX0_wants_106 : decode cX0_wants 106 = .ok (.iload_n 2, 1) := by decide +kernel
theorem dX0_wants_107 : decode cX0_wants 107 = .ok (.invokestatic 122, 3) := by decide +kernel
theorem dX0_wants_110 : decode cX0_wants 110 = .ok (.ireturn, 1) := by decide +kernel
theorem dX0_wants_111 : decode cX0_wants 111 = .ok (.iload_n 2, 1) := by decide +kernel
theorem dX0_wants_112 : decode cX0_wants 112 = .ok (.iconst 3, 1) := by decide +kernel
theorem dX0_wants_113 : decode cX0_wants 113 = .ok (.idiv, 1) := by decide +kernel
theorem dX0_wants_114 : decode cX0_wants 114 = .ok (.iconst 0, 1) := by decide +kernel
theorem dX0_wants_115 : decode cX0_wants 115 = .ok (.iload_n 2, 1) := by decide +kernel
theorem dX0_wants_116 : decode cX0_wants 116 = .ok (.invokestatic 122, 3) := by decide +kernel
theorem dX0_wants_119 : decode cX0_wants 119 = .ok (.ireturn, 1) := by decide +kernel
theorem dX0_toldTakes_0 : decode cX0_toldTakes 0 = .ok (.aload_n 0, 1) := by decide +kernel
theorem dX0_toldTakes_1 : decode cX0_toldTakes 1 = .ok (.getfield 33, 3) := by decide +kernel
theorem dX0_toldTakes_4 : decode cX0_toldTakes 4 = .ok (.getfield 67, 3) := by decide +kernel
theorem dX0_toldTakes_7 : decode cX0_toldTakes 7 = .ok (.ifCond .ne 7, 3) := by decide +kernel
theorem dX0_toldTakes_10 : decode cX0_toldTakes 10 = .ok (.iload_n 2, 1) := by decide +kernel
theorem dX0_toldTakes_11 : decode cX0_toldTakes 11 = .ok (.iconst 2, 1) := by decide +kernel
theorem dX0_toldTakes_12 : decode cX0_toldTakes 12 = .ok (.idiv, 1) := by decide +kernel
theorem dX0_toldTakes_13 : decode cX0_toldTakes 13 = .ok (.ireturn, 1) := by decide +kernel
theorem dX0_toldTakes_14 : decode cX0_toldTakes 14 = .ok (.aload_n 0, 1) := by decide +kernel
theorem dX0_toldTakes_15 : decode cX0_toldTakes 15 = .ok (.getfield 40, 3) := by decide +kernel
theorem dX0_toldTakes_18 : decode cX0_toldTakes 18 = .ok (.iconst 0, 1) := by decide +kernel
theorem dX0_toldTakes_19 : decode cX0_toldTakes 19 = .ok (.iload_n 2, 1) := by decide +kernel
theorem dX0_toldTakes_20 : decode cX0_toldTakes 20 = .ok (.iastore, 1) := by decide +kernel
theorem dX0_toldTakes_21 : decode cX0_toldTakes 21 = .ok (.aload_n 0, 1) := by decide +kernel
theorem dX0_toldTakes_22 : decode cX0_toldTakes 22 = .ok (.getfield 40, 3) := by decide +kernel
theorem dX0_toldTakes_25 : decode cX0_toldTakes 25 = .ok (.iconst 1, 1) := by decide +kernel
theorem dX0_toldTakes_26 : decode cX0_toldTakes 26 = .ok (.aload_n 1, 1) := by decide +kernel
theorem dX0_toldTakes_27 : decode cX0_toldTakes 27 = .ok (.getfield 84, 3) := by decide +kernel
theorem dX0_toldTakes_30 : decode cX0_toldTakes 30 = .ok (.iastore, 1) := by decide +kernel
theorem dX0_toldTakes_31 : decode cX0_toldTakes 31 = .ok (.aload_n 0, 1) := by decide +kernel
theorem dX0_toldTakes_32 : decode cX0_toldTakes 32 = .ok (.getfield 40, 3) := by decide +kernel
theorem dX0_toldTakes_35 : decode cX0_toldTakes 35 = .ok (.iconst 2, 1) := by decide +kernel
theorem dX0_toldTakes_36 : decode cX0_toldTakes 36 = .ok (.aload_n 0, 1) := by decide +kernel
theorem dX0_toldTakes_37 : decode cX0_toldTakes 37 = .ok (.getfield 72, 3) := by decide +kernel
theorem dX0_toldTakes_40 : decode cX0_toldTakes 40 = .ok (.bipush 24, 2) := by decide +kernel
theorem dX0_toldTakes_42 : decode cX0_toldTakes 42 = .ok (.irem, 1) := by decide +kernel
theorem dX0_toldTakes_43 : decode cX0_toldTakes 43 = .ok (.iastore, 1) := by decide +kernel
theorem dX0_toldTakes_44 : decode cX0_toldTakes 44 = .ok (.aload_n 0, 1) := by decide +kernel
theorem dX0_toldTakes_45 : decode cX0_toldTakes 45 = .ok (.getfield 40, 3) := by decide +kernel
theorem dX0_toldTakes_48 : decode cX0_toldTakes 48 = .ok (.iconst 3, 1) := by decide +kernel
theorem dX0_toldTakes_49 : decode cX0_toldTakes 49 = .ok (.aload_n 1, 1) := by decide +kernel
theorem dX0_toldTakes_50 : decode cX0_toldTakes 50 = .ok (.getfield 81, 3) := by decide +kernel
theorem dX0_toldTakes_53 : decode cX0_toldTakes 53 = .ok (.iastore, 1) := by decide +kernel
theorem dX0_toldTakes_54 : decode cX0_toldTakes 54 = .ok (.aload_n 0, 1) := by decide +kernel
theorem dX0_toldTakes_55 : decode cX0_toldTakes 55 = .ok (.getfield 33, 3) := by decide +kernel
theorem dX0_toldTakes_58 : decode cX0_toldTakes 58 = .ok (.aload_n 0, 1) := by decide +kernel
theorem dX0_toldTakes_59 : decode cX0_toldTakes 59 = .ok (.getfield 40, 3) := by decide +kernel
theorem dX0_toldTakes_62 : decode cX0_toldTakes 62 = .ok (.invokevirtual 129, 3) := by decide +kernel
theorem dX0_toldTakes_65 : decode cX0_toldTakes 65 = .ok (.ireturn, 1) := by decide +kernel
theorem dX0_turnsBy_0 : decode cX0_turnsBy 0 = .ok (.aload_n 1, 1) := by decide +kernel
theorem dX0_turnsBy_1 : decode cX0_turnsBy 1 = .ok (.getfield 78, 3) := by decide +kernel
theorem dX0_turnsBy_4 : decode cX0_turnsBy 4 = .ok (.tableswitch 101 1 6 #[40, 101, 74, 51, 85, 87], 40) := by decide +kernel
theorem dX0_turnsBy_44 : decode cX0_turnsBy 44 = .ok (.iload_n 2, 1) := by decide +kernel
theorem dX0_turnsBy_45 : decode cX0_turnsBy 45 = .ok (.iconst 2, 1) := by decide +kernel
theorem dX0_turnsBy_46 : decode cX0_turnsBy 46 = .ok (.idiv, 1) := by decide +kernel
theorem dX0_turnsBy_47 : decode cX0_turnsBy 47 = .ok (.iconst 0, 1) := by decide +kernel
theorem dX0_turnsBy_48 : decode cX0_turnsBy 48 = .ok (.sipush 9999, 3) := by decide +kernel
theorem dX0_turnsBy_51 : decode cX0_turnsBy 51 = .ok (.invokestatic 122, 3) := by decide +kernel
theorem dX0_turnsBy_54 : decode cX0_turnsBy 54 = .ok (.ireturn, 1) := by decide +kernel
theorem dX0_turnsBy_55 : decode cX0_turnsBy 55 = .ok (.iload_n 2, 1) := by decide +kernel
theorem dX0_turnsBy_56 : decode cX0_turnsBy 56 = .ok (.iconst 2, 1) := by decide +kernel
theorem dX0_turnsBy_57 : decode cX0_turnsBy 57 = .ok (.idiv, 1) := by decide +kernel
theorem dX0_turnsBy_58 : decode cX0_turnsBy 58 = .ok (.ifCond .le 11, 3) := by decide +kernel
theorem dX0_turnsBy_61 : decode cX0_turnsBy 61 = .ok (.iload_n 2, 1) := by decide +kernel
theorem dX0_turnsBy_62 : decode cX0_turnsBy 62 = .ok (.iconst 2, 1) := by decide +kernel
theorem dX0_turnsBy_63 : decode cX0_turnsBy 63 = .ok (.idiv, 1) := by decide +kernel
theorem dX0_turnsBy_64 : decode cX0_turnsBy 64 = .ok (.iconst 1, 1) := by decide +kernel
theorem dX0_turnsBy_65 : decode cX0_turnsBy 65 = .ok (.iadd, 1) := by decide +kernel
theorem dX0_turnsBy_66 : decode cX0_turnsBy 66 = .ok (.goto 4, 3) := by decide +kernel
theorem dX0_turnsBy_69 : decode cX0_turnsBy 69 = .ok (.iconst 0, 1) := by decide +kernel
theorem dX0_turnsBy_70 : decode cX0_turnsBy 70 = .ok (.iconst 0, 1) := by decide +kernel
theorem dX0_turnsBy_71 : decode cX0_turnsBy 71 = .ok (.sipush 9999, 3) := by decide +kernel
theorem dX0_turnsBy_74 : decode cX0_turnsBy 74 = .ok (.invokestatic 122, 3) := by decide +kernel
theorem dX0_turnsBy_77 : decode cX0_turnsBy 77 = .ok (.ireturn, 1) := by decide +kernel
theorem dX0_turnsBy_78 : decode cX0_turnsBy 78 = .ok (.iconst 2, 1) := by decide +kernel
theorem dX0_turnsBy_79 : decode cX0_turnsBy 79 = .ok (.iload_n 2, 1) := by decide +kernel
theorem dX0_turnsBy_80 : decode cX0_turnsBy 80 = .ok (.imul, 1) := by decide +kernel
theorem dX0_turnsBy_81 : decode cX0_turnsBy 81 = .ok (.iconst 0, 1) := by decide +kernel
theorem dX0_turnsBy_82 : decode cX0_turnsBy 82 = .ok (.sipush 9999, 3) := by decide +kernel
theorem dX0_turnsBy_85 : decode cX0_turnsBy 85 = .ok (.invokestatic 122, 3) := by decide +kernel
theorem dX0_turnsBy_88 : decode cX0_turnsBy 88 = .ok (.ireturn, 1) := by decide +kernel
theorem dX0_turnsBy_89 : decode cX0_turnsBy 89 = .ok (.iconst 0, 1) := by decide +kernel
theorem dX0_turnsBy_90 : decode cX0_turnsBy 90 = .ok (.ireturn, 1) := by decide +kernel
theorem dX0_turnsBy_91 : decode cX0_turnsBy 91 = .ok (.aload_n 0, 1) := by decide +kernel
theorem dX0_turnsBy_92 : decode cX0_turnsBy 92 = .ok (.aload_n 1, 1) := by decide +kernel
theorem dX0_turnsBy_93 : decode cX0_turnsBy 93 = .ok (.iload_n 2, 1) := by decide +kernel
theorem dX0_turnsBy_94 : decode cX0_turnsBy 94 = .ok (.invokevirtual 133, 3) := by decide +kernel
theorem dX0_turnsBy_97 : decode cX0_turnsBy 97 = .ok (.iconst 0, 1) := by decide +kernel
theorem dX0_turnsBy_98 : decode cX0_turnsBy 98 = .ok (.sipush 9999, 3) := by decide +kernel
theorem dX0_turnsBy_101 : decode cX0_turnsBy 101 = .ok (.invokestatic 122, 3) := by decide +kernel
theorem dX0_turnsBy_104 : decode cX0_turnsBy 104 = .ok (.ireturn, 1) := by decide +kernel
theorem dX0_turnsBy_105 : decode cX0_turnsBy 105 = .ok (.iload_n 2, 1) := by decide +kernel
theorem dX0_turnsBy_106 : decode cX0_turnsBy 106 = .ok (.iconst 0, 1) := by decide +kernel
theorem dX0_turnsBy_107 : decode cX0_turnsBy 107 = .ok (.sipush 9999, 3) := by decide +kernel
theorem dX0_turnsBy_110 : decode cX0_turnsBy 110 = .ok (.invokestatic 122, 3) := by decide +kernel
theorem dX0_turnsBy_113 : decode cX0_turnsBy 113 = .ok (.ireturn, 1) := by decide +kernel
theorem dX0_toldTurns_0 : decode cX0_toldTurns 0 = .ok (.aload_n 0, 1) := by decide +kernel
theorem dX0_toldTurns_1 : decode cX0_toldTurns 1 = .ok (.getfield 37, 3) := by decide +kernel
theorem dX0_toldTurns_4 : decode cX0_toldTurns 4 = .ok (.getfield 67, 3) := by decide +kernel
theorem dX0_toldTurns_7 : decode cX0_toldTurns 7 = .ok (.ifCond .ne 5, 3) := by decide +kernel
theorem dX0_toldTurns_10 : decode cX0_toldTurns 10 = .ok (.iload_n 2, 1) := by decide +kernel
theorem dX0_toldTurns_11 : decode cX0_toldTurns 11 = .ok (.ireturn, 1) := by decide +kernel
theorem dX0_toldTurns_12 : decode cX0_toldTurns 12 = .ok (.aload_n 0, 1) := by decide +kernel
theorem dX0_toldTurns_13 : decode cX0_toldTurns 13 = .ok (.getfield 40, 3) := by decide +kernel
theorem dX0_toldTurns_16 : decode cX0_toldTurns 16 = .ok (.iconst 0, 1) := by decide +kernel
theorem dX0_toldTurns_17 : decode cX0_toldTurns 17 = .ok (.iload_n 2, 1) := by decide +kernel
theorem dX0_toldTurns_18 : decode cX0_toldTurns 18 = .ok (.iastore, 1) := by decide +kernel
theorem dX0_toldTurns_19 : decode cX0_toldTurns 19 = .ok (.aload_n 0, 1) := by decide +kernel
theorem dX0_toldTurns_20 : decode cX0_toldTurns 20 = .ok (.getfield 40, 3) := by decide +kernel
theorem dX0_toldTurns_23 : decode cX0_toldTurns 23 = .ok (.iconst 1, 1) := by decide +kernel
theorem dX0_toldTurns_24 : decode cX0_toldTurns 24 = .ok (.aload_n 1, 1) := by decide +kernel
theorem dX0_toldTurns_25 : decode cX0_toldTurns 25 = .ok (.getfield 93, 3) := by decide +kernel
theorem dX0_toldTurns_28 : decode cX0_toldTurns 28 = .ok (.iastore, 1) := by decide +kernel
theorem dX0_toldTurns_29 : decode cX0_toldTurns 29 = .ok (.aload_n 0, 1) := by decide +kernel
theorem dX0_toldTurns_30 : decode cX0_toldTurns 30 = .ok (.getfield 40, 3) := by decide +kernel
theorem dX0_toldTurns_33 : decode cX0_toldTurns 33 = .ok (.iconst 2, 1) := by decide +kernel
theorem dX0_toldTurns_34 : decode cX0_toldTurns 34 = .ok (.aload_n 1, 1) := by decide +kernel
theorem dX0_toldTurns_35 : decode cX0_toldTurns 35 = .ok (.getfield 81, 3) := by decide +kernel
theorem dX0_toldTurns_38 : decode cX0_toldTurns 38 = .ok (.iastore, 1) := by decide +kernel
theorem dX0_toldTurns_39 : decode cX0_toldTurns 39 = .ok (.aload_n 0, 1) := by decide +kernel
theorem dX0_toldTurns_40 : decode cX0_toldTurns 40 = .ok (.getfield 40, 3) := by decide +kernel
theorem dX0_toldTurns_43 : decode cX0_toldTurns 43 = .ok (.iconst 3, 1) := by decide +kernel
theorem dX0_toldTurns_44 : decode cX0_toldTurns 44 = .ok (.iconst 0, 1) := by decide +kernel
theorem dX0_toldTurns_45 : decode cX0_toldTurns 45 = .ok (.iastore, 1) := by decide +kernel
theorem dX0_toldTurns_46 : decode cX0_toldTurns 46 = .ok (.aload_n 0, 1) := by decide +kernel
theorem dX0_toldTurns_47 : decode cX0_toldTurns 47 = .ok (.getfield 37, 3) := by decide +kernel
theorem dX0_toldTurns_50 : decode cX0_toldTurns 50 = .ok (.aload_n 0, 1) := by decide +kernel
theorem dX0_toldTurns_51 : decode cX0_toldTurns 51 = .ok (.getfield 40, 3) := by decide +kernel
theorem dX0_toldTurns_54 : decode cX0_toldTurns 54 = .ok (.invokevirtual 129, 3) := by decide +kernel
theorem dX0_toldTurns_57 : decode cX0_toldTurns 57 = .ok (.ireturn, 1) := by decide +kernel
theorem dX0_showsBy_0 : decode cX0_showsBy 0 = .ok (.aload_n 0, 1) := by decide +kernel
theorem dX0_showsBy_1 : decode cX0_showsBy 1 = .ok (.getfield 78, 3) := by decide +kernel
theorem dX0_showsBy_4 : decode cX0_showsBy 4 = .ok (.tableswitch 49 2 5 #[45, 49, 32, 34], 32) := by decide +kernel
theorem dX0_showsBy_36 : decode cX0_showsBy 36 = .ok (.iconst 0, 1) := by decide +kernel
theorem dX0_showsBy_37 : decode cX0_showsBy 37 = .ok (.ireturn, 1) := by decide +kernel
theorem dX0_showsBy_38 : decode cX0_showsBy 38 = .ok (.iconst 2, 1) := by decide +kernel
theorem dX0_showsBy_39 : decode cX0_showsBy 39 = .ok (.iload_n 1, 1) := by decide +kernel
theorem dX0_showsBy_40 : decode cX0_showsBy 40 = .ok (.imul, 1) := by decide +kernel
theorem dX0_showsBy_41 : decode cX0_showsBy 41 = .ok (.iconst 0, 1) := by decide +kernel
theorem dX0_showsBy_42 : decode cX0_showsBy 42 = .ok (.sipush 9999, 3) := by decide +kernel
theorem dX0_showsBy_45 : decode cX0_showsBy 45 = .ok (.invokestatic 122, 3) := by decide +kernel
theorem dX0_showsBy_48 : decode cX0_showsBy 48 = .ok (.ireturn, 1) := by decide +kernel
theorem dX0_showsBy_49 : decode cX0_showsBy 49 = .ok (.iload_n 2, 1) := by decide +kernel
theorem dX0_showsBy_50 : decode cX0_showsBy 50 = .ok (.iconst 2, 1) := by decide +kernel
theorem dX0_showsBy_51 : decode cX0_showsBy 51 = .ok (.idiv, 1) := by decide +kernel
theorem dX0_showsBy_52 : decode cX0_showsBy 52 = .ok (.ireturn, 1) := by decide +kernel
theorem dX0_showsBy_53 : decode cX0_showsBy 53 = .ok (.iload_n 2, 1) := by decide +kernel
theorem dX0_showsBy_54 : decode cX0_showsBy 54 = .ok (.ireturn, 1) := by decide +kernel
theorem dX0_passHour_0 : decode cX0_passHour 0 = .ok (.iconst 0, 1) := by decide +kernel
theorem dX0_passHour_1 : decode cX0_passHour 1 = .ok (.istore_n 1, 1) := by decide +kernel
theorem dX0_passHour_2 : decode cX0_passHour 2 = .ok (.aload_n 0, 1) := by decide +kernel
theorem dX0_passHour_3 : decode cX0_passHour 3 = .ok (.invokevirtual 136, 3) := by decide +kernel
theorem dX0_passHour_6 : decode cX0_passHour 6 = .ok (.iconst 0, 1) := by decide +kernel
theorem dX0_passHour_7 : decode cX0_passHour 7 = .ok (.istore_n 2, 1) := by decide +kernel
theorem dX0_passHour_8 : decode cX0_passHour 8 = .ok (.iload_n 2, 1) := by decide +kernel
theorem dX0_passHour_9 : decode cX0_passHour 9 = .ok (.aload_n 0, 1) := by decide +kernel
theorem dX0_passHour_10 : decode cX0_passHour 10 = .ok (.getfield 57, 3) := by decide +kernel
theorem dX0_passHour_13 : decode cX0_passHour 13 = .ok (.if_icmp .ge 71, 3) := by decide +kernel
theorem dX0_passHour_16 : decode cX0_passHour 16 = .ok (.aload_n 0, 1) := by decide +kernel
theorem dX0_passHour_17 : decode cX0_passHour 17 = .ok (.getfield 26, 3) := by decide +kernel
theorem dX0_passHour_20 : decode cX0_passHour 20 = .ok (.iload_n 2, 1) := by decide +kernel
theorem dX0_passHour_21 : decode cX0_passHour 21 = .ok (.aaload, 1) := by decide +kernel
theorem dX0_passHour_22 : decode cX0_passHour 22 = .ok (.astore_n 3, 1) := by decide +kernel
theorem dX0_passHour_23 : decode cX0_passHour 23 = .ok (.iload_n 1, 1) := by decide +kernel
theorem dX0_passHour_24 : decode cX0_passHour 24 = .ok (.aload_n 3, 1) := by decide +kernel
theorem dX0_passHour_25 : decode cX0_passHour 25 = .ok (.getfield 116, 3) := by decide +kernel
theorem dX0_passHour_28 : decode cX0_passHour 28 = .ok (.iadd, 1) := by decide +kernel
theorem dX0_passHour_29 : decode cX0_passHour 29 = .ok (.istore_n 1, 1) := by decide +kernel
theorem dX0_passHour_30 : decode cX0_passHour 30 = .ok (.aload_n 3, 1) := by decide +kernel
theorem dX0_passHour_31 : decode cX0_passHour 31 = .ok (.aload_n 0, 1) := by decide +kernel
theorem dX0_passHour_32 : decode cX0_passHour 32 = .ok (.aload_n 3, 1) := by decide +kernel
theorem dX0_passHour_33 : decode cX0_passHour 33 = .ok (.aload_n 3, 1) := by decide +kernel
theorem dX0_passHour_34 : decode cX0_passHour 34 = .ok (.getfield 116, 3) := by decide +kernel
theorem dX0_passHour_37 : decode cX0_passHour 37 = .ok (.invokevirtual 139, 3) := by decide +kernel
theorem dX0_passHour_40 : decode cX0_passHour 40 = .ok (.putfield 142, 3) := by decide +kernel
theorem dX0_passHour_43 : decode cX0_passHour 43 = .ok (.aload_n 0, 1) := by decide +kernel
theorem dX0_passHour_44 : decode cX0_passHour 44 = .ok (.aload_n 3, 1) := by decide +kernel
theorem dX0_passHour_45 : decode cX0_passHour 45 = .ok (.aload_n 3, 1) := by decide +kernel
theorem dX0_passHour_46 : decode cX0_passHour 46 = .ok (.getfield 142, 3) := by decide +kernel
theorem dX0_passHour_49 : decode cX0_passHour 49 = .ok (.invokevirtual 144, 3) := by decide +kernel
theorem dX0_passHour_52 : decode cX0_passHour 52 = .ok (.aload_n 3, 1) := by decide +kernel
theorem dX0_passHour_53 : decode cX0_passHour 53 = .ok (.aload_n 3, 1) := by decide +kernel
theorem dX0_passHour_54 : decode cX0_passHour 54 = .ok (.getfield 93, 3) := by decide +kernel
theorem dX0_passHour_57 : decode cX0_passHour 57 = .ok (.aload_n 3, 1) := by decide +kernel
theorem dX0_passHour_58 : decode cX0_passHour 58 = .ok (.aload_n 3, 1) := by decide +kernel
theorem dX0_passHour_59 : decode cX0_passHour 59 = .ok (.getfield 116, 3) := by decide +kernel
theorem dX0_passHour_62 : decode cX0_passHour 62 = .ok (.aload_n 3, 1) := by decide +kernel
theorem dX0_passHour_63 : decode cX0_passHour 63 = .ok (.getfield 142, 3) := by decide +kernel
theorem dX0_passHour_66 : decode cX0_passHour 66 = .ok (.invokestatic 148, 3) := by decide +kernel
theorem dX0_passHour_69 : decode cX0_passHour 69 = .ok (.iadd, 1) := by decide +kernel
theorem dX0_passHour_70 : decode cX0_passHour 70 = .ok (.ldc 152, 2) := by decide +kernel
theorem dX0_passHour_72 : decode cX0_passHour 72 = .ok (.invokestatic 106, 3) := by decide +kernel
theorem dX0_passHour_75 : decode cX0_passHour 75 = .ok (.putfield 93, 3) := by decide +kernel
theorem dX0_passHour_78 : decode cX0_passHour 78 = .ok (.iinc 2 1, 3) := by decide +kernel
theorem dX0_passHour_81 : decode cX0_passHour 81 = .ok (.goto (-73), 3) := by decide +kernel
theorem dX0_passHour_84 : decode cX0_passHour 84 = .ok (.aload_n 0, 1) := by decide +kernel
theorem dX0_passHour_85 : decode cX0_passHour 85 = .ok (.dup, 1) := by decide +kernel
theorem dX0_passHour_86 : decode cX0_passHour 86 = .ok (.getfield 72, 3) := by decide +kernel
theorem dX0_passHour_89 : decode cX0_passHour 89 = .ok (.iconst 1, 1) := by decide +kernel
theorem dX0_passHour_90 : decode cX0_passHour 90 = .ok (.iadd, 1) := by decide +kernel
theorem dX0_passHour_91 : decode cX0_passHour 91 = .ok (.putfield 72, 3) := by decide +kernel
theorem dX0_passHour_94 : decode cX0_passHour 94 = .ok (.iload_n 1, 1) := by decide +kernel
theorem dX0_passHour_95 : decode cX0_passHour 95 = .ok (.ireturn, 1) := by decide +kernel
theorem dX0_passHours_0 : decode cX0_passHours 0 = .ok (.iconst 0, 1) := by decide +kernel
theorem dX0_passHours_1 : decode cX0_passHours 1 = .ok (.istore_n 2, 1) := by decide +kernel
theorem dX0_passHours_2 : decode cX0_passHours 2 = .ok (.iconst 0, 1) := by decide +kernel
theorem dX0_passHours_3 : decode cX0_passHours 3 = .ok (.istore_n 3, 1) := by decide +kernel
theorem dX0_passHours_4 : decode cX0_passHours 4 = .ok (.iload_n 3, 1) := by decide +kernel
theorem dX0_passHours_5 : decode cX0_passHours 5 = .ok (.iload_n 1, 1) := by decide +kernel
theorem dX0_passHours_6 : decode cX0_passHours 6 = .ok (.if_icmp .ge 16, 3) := by decide +kernel
theorem dX0_passHours_9 : decode cX0_passHours 9 = .ok (.iload_n 2, 1) := by decide +kernel
theorem dX0_passHours_10 : decode cX0_passHours 10 = .ok (.aload_n 0, 1) := by decide +kernel
theorem dX0_passHours_11 : decode cX0_passHours 11 = .ok (.invokevirtual 153, 3) := by decide +kernel
theorem dX0_passHours_14 : decode cX0_passHours 14 = .ok (.iadd, 1) := by decide +kernel
theorem dX0_passHours_15 : decode cX0_passHours 15 = .ok (.istore_n 2, 1) := by decide +kernel
theorem dX0_passHours_16 : decode cX0_passHours 16 = .ok (.iinc 3 1, 3) := by decide +kernel
theorem dX0_passHours_19 : decode cX0_passHours 19 = .ok (.goto (-15), 3) := by decide +kernel
theorem dX0_passHours_22 : decode cX0_passHours 22 = .ok (.iload_n 2, 1) := by decide +kernel
theorem dX0_passHours_23 : decode cX0_passHours 23 = .ok (.ireturn, 1) := by decide +kernel
theorem dX0_turnsIn_0 : decode cX0_turnsIn 0 = .ok (.iconst 0, 1) := by decide +kernel
theorem dX0_turnsIn_1 : decode cX0_turnsIn 1 = .ok (.istore 4, 2) := by decide +kernel
theorem dX0_turnsIn_3 : decode cX0_turnsIn 3 = .ok (.iconst 0, 1) := by decide +kernel
theorem dX0_turnsIn_4 : decode cX0_turnsIn 4 = .ok (.istore 5, 2) := by decide +kernel
theorem dX0_turnsIn_6 : decode cX0_turnsIn 6 = .ok (.iload 5, 2) := by decide +kernel
theorem dX0_turnsIn_8 : decode cX0_turnsIn 8 = .ok (.iload_n 1, 1) := by decide +kernel
theorem dX0_turnsIn_9 : decode cX0_turnsIn 9 = .ok (.if_icmp .ge 53, 3) := by decide +kernel
theorem dX0_turnsIn_12 : decode cX0_turnsIn 12 = .ok (.aload_n 0, 1) := by decide +kernel
theorem dX0_turnsIn_13 : decode cX0_turnsIn 13 = .ok (.invokevirtual 153, 3) := by decide +kernel
theorem dX0_turnsIn_16 : decode cX0_turnsIn 16 = .ok (.pop, 1) := by decide +kernel
theorem dX0_turnsIn_17 : decode cX0_turnsIn 17 = .ok (.iload_n 2, 1) := by decide +kernel
theorem dX0_turnsIn_18 : decode cX0_turnsIn 18 = .ok (.istore 6, 2) := by decide +kernel
theorem dX0_turnsIn_20 : decode cX0_turnsIn 20 = .ok (.iload 6, 2) := by decide +kernel
theorem dX0_turnsIn_22 : decode cX0_turnsIn 22 = .ok (.iload_n 3, 1) := by decide +kernel
theorem dX0_turnsIn_23 : decode cX0_turnsIn 23 = .ok (.if_icmp .ge 33, 3) := by decide +kernel
theorem dX0_turnsIn_26 : decode cX0_turnsIn 26 = .ok (.iload 6, 2) := by decide +kernel
theorem dX0_turnsIn_28 : decode cX0_turnsIn 28 = .ok (.aload_n 0, 1) := by decide +kernel
theorem dX0_turnsIn_29 : decode cX0_turnsIn 29 = .ok (.getfield 57, 3) := by decide +kernel
theorem dX0_turnsIn_32 : decode cX0_turnsIn 32 = .ok (.if_icmp .ge 24, 3) := by decide +kernel
theorem dX0_turnsIn_35 : decode cX0_turnsIn 35 = .ok (.iload 4, 2) := by decide +kernel
theorem dX0_turnsIn_37 : decode cX0_turnsIn 37 = .ok (.aload_n 0, 1) := by decide +kernel
theorem dX0_turnsIn_38 : decode cX0_turnsIn 38 = .ok (.getfield 26, 3) := by decide +kernel
theorem dX0_turnsIn_41 : decode cX0_turnsIn 41 = .ok (.iload 6, 2) := by decide +kernel
theorem dX0_turnsIn_43 : decode cX0_turnsIn 43 = .ok (.aaload, 1) := by decide +kernel
theorem dX0_turnsIn_44 : decode cX0_turnsIn 44 = .ok (.getfield 142, 3) := by decide +kernel
theorem dX0_turnsIn_47 : decode cX0_turnsIn 47 = .ok (.iadd, 1) := by decide +kernel
theorem dX0_turnsIn_48 : decode cX0_turnsIn 48 = .ok (.istore 4, 2) := by decide +kernel
theorem dX0_turnsIn_50 : decode cX0_turnsIn 50 = .ok (.iinc 6 1, 3) := by decide +kernel
theorem dX0_turnsIn_53 : decode cX0_turnsIn 53 = .ok (.goto (-33), 3) := by decide +kernel
theorem dX0_turnsIn_56 : decode cX0_turnsIn 56 = .ok (.iinc 5 1, 3) := by decide +kernel
theorem dX0_turnsIn_59 : decode cX0_turnsIn 59 = .ok (.goto (-53), 3) := by decide +kernel
theorem dX0_turnsIn_62 : decode cX0_turnsIn 62 = .ok (.iload 4, 2) := by decide +kernel
theorem dX0_turnsIn_64 : decode cX0_turnsIn 64 = .ok (.ireturn, 1) := by decide +kernel
theorem dX0_turnMore_0 : decode cX0_turnMore 0 = .ok (.aload_n 1, 1) := by decide +kernel
theorem dX0_turnMore_1 : decode cX0_turnMore 1 = .ok (.aload_n 1, 1) := by decide +kernel
theorem dX0_turnMore_2 : decode cX0_turnMore 2 = .ok (.getfield 96, 3) := by decide +kernel
theorem dX0_turnMore_5 : decode cX0_turnMore 5 = .ok (.iload_n 2, 1) := by decide +kernel
theorem dX0_turnMore_6 : decode cX0_turnMore 6 = .ok (.iadd, 1) := by decide +kernel
theorem dX0_turnMore_7 : decode cX0_turnMore 7 = .ok (.ldc 152, 2) := by decide +kernel
theorem dX0_turnMore_9 : decode cX0_turnMore 9 = .ok (.invokestatic 106, 3) := by decide +kernel
theorem dX0_turnMore_12 : decode cX0_turnMore 12 = .ok (.putfield 96, 3) := by decide +kernel
theorem dX0_turnMore_15 : decode cX0_turnMore 15 = .ok (.aload_n 0, 1) := by decide +kernel
theorem dX0_turnMore_16 : decode cX0_turnMore 16 = .ok (.getfield 21, 3) := by decide +kernel
theorem dX0_turnMore_19 : decode cX0_turnMore 19 = .ok (.aload_n 1, 1) := by decide +kernel
theorem dX0_turnMore_20 : decode cX0_turnMore 20 = .ok (.getfield 87, 3) := by decide +kernel
theorem dX0_turnMore_23 : decode cX0_turnMore 23 = .ok (.aload_n 0, 1) := by decide +kernel
theorem dX0_turnMore_24 : decode cX0_turnMore 24 = .ok (.getfield 21, 3) := by decide +kernel
theorem dX0_turnMore_27 : decode cX0_turnMore 27 = .ok (.aload_n 1, 1) := by decide +kernel
theorem dX0_turnMore_28 : decode cX0_turnMore 28 = .ok (.getfield 87, 3) := by decide +kernel
theorem dX0_turnMore_31 : decode cX0_turnMore 31 = .ok (.iaload, 1) := by decide +kernel
theorem dX0_turnMore_32 : decode cX0_turnMore 32 = .ok (.iload_n 2, 1) := by decide +kernel
theorem dX0_turnMore_33 : decode cX0_turnMore 33 = .ok (.iadd, 1) := by decide +kernel
theorem dX0_turnMore_34 : decode cX0_turnMore 34 = .ok (.ldc 152, 2) := by decide +kernel
theorem dX0_turnMore_36 : decode cX0_turnMore 36 = .ok (.invokestatic 106, 3) := by decide +kernel
theorem dX0_turnMore_39 : decode cX0_turnMore 39 = .ok (.iastore, 1) := by decide +kernel
theorem dX0_turnMore_40 : decode cX0_turnMore 40 = .ok (.return_, 1) := by decide +kernel
theorem dX0_drawWeather_0 : decode cX0_drawWeather 0 = .ok (.aload_n 0, 1) := by decide +kernel
theorem dX0_drawWeather_1 : decode cX0_drawWeather 1 = .ok (.aload_n 0, 1) := by decide +kernel
theorem dX0_drawWeather_2 : decode cX0_drawWeather 2 = .ok (.getfield 46, 3) := by decide +kernel
theorem dX0_drawWeather_5 : decode cX0_drawWeather 5 = .ok (.ldc 156, 2) := by decide +kernel
theorem dX0_drawWeather_7 : decode cX0_drawWeather 7 = .ok (.imul, 1) := by decide +kernel
theorem dX0_drawWeather_8 : decode cX0_drawWeather 8 = .ok (.sipush 12345, 3) := by decide +kernel
theorem dX0_drawWeather_11 : decode cX0_drawWeather 11 = .ok (.iadd, 1) := by decide +kernel
theorem dX0_drawWeather_12 : decode cX0_drawWeather 12 = .ok (.putfield 46, 3) := by decide +kernel
theorem dX0_drawWeather_15 : decode cX0_drawWeather 15 = .ok (.aload_n 0, 1) := by decide +kernel
theorem dX0_drawWeather_16 : decode cX0_drawWeather 16 = .ok (.getfield 46, 3) := by decide +kernel
theorem dX0_drawWeather_19 : decode cX0_drawWeather 19 = .ok (.bipush 8, 2) := by decide +kernel
theorem dX0_drawWeather_21 : decode cX0_drawWeather 21 = .ok (.iushr, 1) := by decide +kernel
theorem dX0_drawWeather_22 : decode cX0_drawWeather 22 = .ok (.bipush 16, 2) := by decide +kernel
theorem dX0_drawWeather_24 : decode cX0_drawWeather 24 = .ok (.irem, 1) := by decide +kernel
theorem dX0_drawWeather_25 : decode cX0_drawWeather 25 = .ok (.istore_n 1, 1) := by decide +kernel
theorem dX0_drawWeather_26 : decode cX0_drawWeather 26 = .ok (.iload_n 1, 1) := by decide +kernel
theorem dX0_drawWeather_27 : decode cX0_drawWeather 27 = .ok (.ifCond .ne 9, 3) := by decide +kernel
theorem dX0_drawWeather_30 : decode cX0_drawWeather 30 = .ok (.aload_n 0, 1) := by decide +kernel
theorem dX0_drawWeather_31 : decode cX0_drawWeather 31 = .ok (.invokevirtual 157, 3) := by decide +kernel
theorem dX0_drawWeather_34 : decode cX0_drawWeather 34 = .ok (.iconst 1, 1) := by decide +kernel
theorem dX0_drawWeather_35 : decode cX0_drawWeather 35 = .ok (.ireturn, 1) := by decide +kernel
theorem dX0_drawWeather_36 : decode cX0_drawWeather 36 = .ok (.iload_n 1, 1) := by decide +kernel
theorem dX0_drawWeather_37 : decode cX0_drawWeather 37 = .ok (.iconst 3, 1) := by decide +kernel
theorem dX0_drawWeather_38 : decode cX0_drawWeather 38 = .ok (.if_icmp .gt 21, 3) := by decide +kernel
theorem dX0_drawWeather_41 : decode cX0_drawWeather 41 = .ok (.aload_n 0, 1) := by decide +kernel
theorem dX0_drawWeather_42 : decode cX0_drawWeather 42 = .ok (.aload_n 0, 1) := by decide +kernel
theorem dX0_drawWeather_43 : decode cX0_drawWeather 43 = .ok (.getfield 75, 3) := by decide +kernel
theorem dX0_drawWeather_46 : decode cX0_drawWeather 46 = .ok (.iconst 1, 1) := by decide +kernel
theorem dX0_drawWeather_47 : decode cX0_drawWeather 47 = .ok (.iadd, 1) := by decide +kernel
theorem dX0_drawWeather_48 : decode cX0_drawWeather 48 = .ok (.bipush 9, 2) := by decide +kernel
theorem dX0_drawWeather_50 : decode cX0_drawWeather 50 = .ok (.invokestatic 106, 3) := by decide +kernel
theorem dX0_drawWeather_53 : decode cX0_drawWeather 53 = .ok (.putfield 75, 3) := by decide +kernel
theorem dX0_drawWeather_56 : decode cX0_drawWeather 56 = .ok (.goto 23, 3) := by decide +kernel
theorem dX0_drawWeather_59 : decode cX0_drawWeather 59 = .ok (.iload_n 1, 1) := by decide +kernel
theorem dX0_drawWeather_60 : decode cX0_drawWeather 60 = .ok (.bipush 6, 2) := by decide +kernel
theorem dX0_drawWeather_62 : decode cX0_drawWeather 62 = .ok (.if_icmp .gt 17, 3) := by decide +kernel
theorem dX0_drawWeather_65 : decode cX0_drawWeather 65 = .ok (.aload_n 0, 1) := by decide +kernel
theorem dX0_drawWeather_66 : decode cX0_drawWeather 66 = .ok (.aload_n 0, 1) := by decide +kernel
theorem dX0_drawWeather_67 : decode cX0_drawWeather 67 = .ok (.getfield 75, 3) := by decide +kernel
theorem dX0_drawWeather_70 : decode cX0_drawWeather 70 = .ok (.iconst 1, 1) := by decide +kernel
theorem dX0_drawWeather_71 : decode cX0_drawWeather 71 = .ok (.isub, 1) := by decide +kernel
theorem dX0_drawWeather_72 : decode cX0_drawWeather 72 = .ok (.iconst 0, 1) := by decide +kernel
theorem dX0_drawWeather_73 : decode cX0_drawWeather 73 = .ok (.invokestatic 160, 3) := by decide +kernel
theorem dX0_drawWeather_76 : decode cX0_drawWeather 76 = .ok (.putfield 75, 3) := by decide +kernel
theorem dX0_drawWeather_79 : decode cX0_drawWeather 79 = .ok (.iconst 0, 1) := by decide +kernel
theorem dX0_drawWeather_80 : decode cX0_drawWeather 80 = .ok (.ireturn, 1) := by decide +kernel
theorem dX0_flood_0 : decode cX0_flood 0 = .ok (.iconst 0, 1) := by decide +kernel
theorem dX0_flood_1 : decode cX0_flood 1 = .ok (.istore_n 1, 1) := by decide +kernel
theorem dX0_flood_2 : decode cX0_flood 2 = .ok (.iload_n 1, 1) := by decide +kernel
theorem dX0_flood_3 : decode cX0_flood 3 = .ok (.aload_n 0, 1) := by decide +kernel
theorem dX0_flood_4 : decode cX0_flood 4 = .ok (.getfield 57, 3) := by decide +kernel
theorem dX0_flood_7 : decode cX0_flood 7 = .ok (.if_icmp .ge 41, 3) := by decide +kernel
theorem dX0_flood_10 : decode cX0_flood 10 = .ok (.aload_n 0, 1) := by decide +kernel
theorem dX0_flood_11 : decode cX0_flood 11 = .ok (.getfield 26, 3) := by decide +kernel
theorem dX0_flood_14 : decode cX0_flood 14 = .ok (.iload_n 1, 1) := by decide +kernel
theorem dX0_flood_15 : decode cX0_flood 15 = .ok (.aaload, 1) := by decide +kernel
theorem dX0_flood_16 : decode cX0_flood 16 = .ok (.getfield 90, 3) := by decide +kernel
theorem dX0_flood_19 : decode cX0_flood 19 = .ok (.iconst 1, 1) := by decide +kernel
theorem dX0_flood_20 : decode cX0_flood 20 = .ok (.if_icmp .ne 22, 3) := by decide +kernel
theorem dX0_flood_23 : decode cX0_flood 23 = .ok (.aload_n 0, 1) := by decide +kernel
theorem dX0_flood_24 : decode cX0_flood 24 = .ok (.aload_n 0, 1) := by decide +kernel
theorem dX0_flood_25 : decode cX0_flood 25 = .ok (.getfield 26, 3) := by decide +kernel
theorem dX0_flood_28 : decode cX0_flood 28 = .ok (.iload_n 1, 1) := by decide +kernel
theorem dX0_flood_29 : decode cX0_flood 29 = .ok (.aaload, 1) := by decide +kernel
theorem dX0_flood_30 : decode cX0_flood 30 = .ok (.aload_n 0, 1) := by decide +kernel
theorem dX0_flood_31 : decode cX0_flood 31 = .ok (.getfield 26, 3) := by decide +kernel
theorem dX0_flood_34 : decode cX0_flood 34 = .ok (.iload_n 1, 1) := by decide +kernel
theorem dX0_flood_35 : decode cX0_flood 35 = .ok (.aaload, 1) := by decide +kernel
theorem dX0_flood_36 : decode cX0_flood 36 = .ok (.getfield 81, 3) := by decide +kernel
theorem dX0_flood_39 : decode cX0_flood 39 = .ok (.invokevirtual 144, 3) := by decide +kernel
theorem dX0_flood_42 : decode cX0_flood 42 = .ok (.iinc 1 1, 3) := by decide +kernel
theorem dX0_flood_45 : decode cX0_flood 45 = .ok (.goto (-43), 3) := by decide +kernel
theorem dX0_flood_48 : decode cX0_flood 48 = .ok (.return_, 1) := by decide +kernel
theorem dX0_isPaid_0 : decode cX0_isPaid 0 = .ok (.aload_n 0, 1) := by decide +kernel
theorem dX0_isPaid_1 : decode cX0_isPaid 1 = .ok (.getfield 21, 3) := by decide +kernel
theorem dX0_isPaid_4 : decode cX0_isPaid 4 = .ok (.iload_n 1, 1) := by decide +kernel
theorem dX0_isPaid_5 : decode cX0_isPaid 5 = .ok (.iaload, 1) := by decide +kernel
theorem dX0_isPaid_6 : decode cX0_isPaid 6 = .ok (.aload_n 0, 1) := by decide +kernel
theorem dX0_isPaid_7 : decode cX0_isPaid 7 = .ok (.getfield 18, 3) := by decide +kernel
theorem dX0_isPaid_10 : decode cX0_isPaid 10 = .ok (.iload_n 1, 1) := by decide +kernel
theorem dX0_isPaid_11 : decode cX0_isPaid 11 = .ok (.iaload, 1) := by decide +kernel
theorem dX0_isPaid_12 : decode cX0_isPaid 12 = .ok (.if_icmp .lt 7, 3) := by decide +kernel
theorem dX0_isPaid_15 : decode cX0_isPaid 15 = .ok (.iconst 1, 1) := by decide +kernel
theorem dX0_isPaid_16 : decode cX0_isPaid 16 = .ok (.goto 4, 3) := by decide +kernel
theorem dX0_isPaid_19 : decode cX0_isPaid 19 = .ok (.iconst 0, 1) := by decide +kernel
theorem dX0_isPaid_20 : decode cX0_isPaid 20 = .ok (.ireturn, 1) := by decide +kernel
theorem dX0_allArePaid_0 : decode cX0_allArePaid 0 = .ok (.iconst 0, 1) := by decide +kernel
theorem dX0_allArePaid_1 : decode cX0_allArePaid 1 = .ok (.istore_n 1, 1) := by decide +kernel
theorem dX0_allArePaid_2 : decode cX0_allArePaid 2 = .ok (.iload_n 1, 1) := by decide +kernel
theorem dX0_allArePaid_3 : decode cX0_allArePaid 3 = .ok (.iconst 5, 1) := by decide +kernel
theorem dX0_allArePaid_4 : decode cX0_allArePaid 4 = .ok (.if_icmp .ge 19, 3) := by decide +kernel
theorem dX0_allArePaid_7 : decode cX0_allArePaid 7 = .ok (.aload_n 0, 1) := by decide +kernel
theorem dX0_allArePaid_8 : decode cX0_allArePaid 8 = .ok (.iload_n 1, 1) := by decide +kernel
theorem dX0_allArePaid_9 : decode cX0_allArePaid 9 = .ok (.invokevirtual 163, 3) := by decide +kernel
theorem dX0_allArePaid_12 : decode cX0_allArePaid 12 = .ok (.ifCond .ne 5, 3) := by decide +kernel
theorem dX0_allArePaid_15 : decode cX0_allArePaid 15 = .ok (.iconst 0, 1) := by decide +kernel
theorem dX0_allArePaid_16 : decode cX0_allArePaid 16 = .ok (.ireturn, 1) := by decide +kernel
theorem dX0_allArePaid_17 : decode cX0_allArePaid 17 = .ok (.iinc 1 1, 3) := by decide +kernel
theorem dX0_allArePaid_20 : decode cX0_allArePaid 20 = .ok (.goto (-18), 3) := by decide +kernel
theorem dX0_allArePaid_23 : decode cX0_allArePaid 23 = .ok (.iconst 1, 1) := by decide +kernel
theorem dX0_allArePaid_24 : decode cX0_allArePaid 24 = .ok (.ireturn, 1) := by decide +kernel
theorem dX0_prayedOfAll_0 : decode cX0_prayedOfAll 0 = .ok (.iconst 0, 1) := by decide +kernel
theorem dX0_prayedOfAll_1 : decode cX0_prayedOfAll 1 = .ok (.istore_n 1, 1) := by decide +kernel
theorem dX0_prayedOfAll_2 : decode cX0_prayedOfAll 2 = .ok (.iconst 0, 1) := by decide +kernel
theorem dX0_prayedOfAll_3 : decode cX0_prayedOfAll 3 = .ok (.istore_n 2, 1) := by decide +kernel
theorem dX0_prayedOfAll_4 : decode cX0_prayedOfAll 4 = .ok (.iload_n 2, 1) := by decide +kernel
theorem dX0_prayedOfAll_5 : decode cX0_prayedOfAll 5 = .ok (.iconst 5, 1) := by decide +kernel
theorem dX0_prayedOfAll_6 : decode cX0_prayedOfAll 6 = .ok (.if_icmp .ge 18, 3) := by decide +kernel
theorem dX0_prayedOfAll_9 : decode cX0_prayedOfAll 9 = .ok (.iload_n 1, 1) := by decide +kernel
theorem dX0_prayedOfAll_10 : decode cX0_prayedOfAll 10 = .ok (.aload_n 0, 1) := by decide +kernel
theorem dX0_prayedOfAll_11 : decode cX0_prayedOfAll 11 = .ok (.getfield 21, 3) := by decide +kernel
theorem dX0_prayedOfAll_14 : decode cX0_prayedOfAll 14 = .ok (.iload_n 2, 1) := by decide +kernel
theorem dX0_prayedOfAll_15 : decode cX0_prayedOfAll 15 = .ok (.iaload, 1) := by decide +kernel
theorem dX0_prayedOfAll_16 : decode cX0_prayedOfAll 16 = .ok (.iadd, 1) := by decide +kernel
theorem dX0_prayedOfAll_17 : decode cX0_prayedOfAll 17 = .ok (.istore_n 1, 1) := by decide +kernel
theorem dX0_prayedOfAll_18 : decode cX0_prayedOfAll 18 = .ok (.iinc 2 1, 3) := by decide +kernel
theorem dX0_prayedOfAll_21 : decode cX0_prayedOfAll 21 = .ok (.goto (-17), 3) := by decide +kernel
theorem dX0_prayedOfAll_24 : decode cX0_prayedOfAll 24 = .ok (.iload_n 1, 1) := by decide +kernel
theorem dX0_prayedOfAll_25 : decode cX0_prayedOfAll 25 = .ok (.ireturn, 1) := by decide +kernel
theorem dX0_familyPart_0 : decode cX0_familyPart 0 = .ok (.iload_n 2, 1) := by decide +kernel
theorem dX0_familyPart_1 : decode cX0_familyPart 1 = .ok (.tableswitch 55 0 2 #[27, 34, 41], 27) := by decide +kernel
theorem dX0_familyPart_28 : decode cX0_familyPart 28 = .ok (.aload_n 0, 1) := by decide +kernel
theorem dX0_familyPart_29 : decode cX0_familyPart 29 = .ok (.getfield 18, 3) := by decide +kernel
theorem dX0_familyPart_32 : decode cX0_familyPart 32 = .ok (.iload_n 1, 1) := by decide +kernel
theorem dX0_familyPart_33 : decode cX0_familyPart 33 = .ok (.iaload, 1) := by decide +kernel
theorem dX0_familyPart_34 : decode cX0_familyPart 34 = .ok (.ireturn, 1) := by decide +kernel
theorem dX0_familyPart_35 : decode cX0_familyPart 35 = .ok (.aload_n 0, 1) := by decide +kernel
theorem dX0_familyPart_36 : decode cX0_familyPart 36 = .ok (.getfield 21, 3) := by decide +kernel
theorem dX0_familyPart_39 : decode cX0_familyPart 39 = .ok (.iload_n 1, 1) := by decide +kernel
theorem dX0_familyPart_40 : decode cX0_familyPart 40 = .ok (.iaload, 1) := by decide +kernel
theorem dX0_familyPart_41 : decode cX0_familyPart 41 = .ok (.ireturn, 1) := by decide +kernel
theorem dX0_familyPart_42 : decode cX0_familyPart 42 = .ok (.aload_n 0, 1) := by decide +kernel
theorem dX0_familyPart_43 : decode cX0_familyPart 43 = .ok (.iload_n 1, 1) := by decide +kernel
theorem dX0_familyPart_44 : decode cX0_familyPart 44 = .ok (.invokevirtual 163, 3) := by decide +kernel
theorem dX0_familyPart_47 : decode cX0_familyPart 47 = .ok (.ifCond .eq 7, 3) := by decide +kernel
theorem dX0_familyPart_50 : decode cX0_familyPart 50 = .ok (.iconst 1, 1) := by decide +kernel
theorem dX0_familyPart_51 : decode cX0_familyPart 51 = .ok (.goto 4, 3) := by decide +kernel
theorem dX0_familyPart_54 : decode cX0_familyPart 54 = .ok (.iconst 0, 1) := by decide +kernel
theorem dX0_familyPart_55 : decode cX0_familyPart 55 = .ok (.ireturn, 1) := by decide +kernel
theorem dX0_familyPart_56 : decode cX0_familyPart 56 = .ok (.aload_n 0, 1) := by decide +kernel
theorem dX0_familyPart_57 : decode cX0_familyPart 57 = .ok (.iload_n 1, 1) := by decide +kernel
theorem dX0_familyPart_58 : decode cX0_familyPart 58 = .ok (.invokevirtual 167, 3) := by decide +kernel
theorem dX0_familyPart_61 : decode cX0_familyPart 61 = .ok (.ireturn, 1) := by decide +kernel
theorem dX0_wheelsFor_0 : decode cX0_wheelsFor 0 = .ok (.iconst 0, 1) := by decide +kernel
theorem dX0_wheelsFor_1 : decode cX0_wheelsFor 1 = .ok (.istore_n 2, 1) := by decide +kernel
theorem dX0_wheelsFor_2 : decode cX0_wheelsFor 2 = .ok (.iconst 0, 1) := by decide +kernel
theorem dX0_wheelsFor_3 : decode cX0_wheelsFor 3 = .ok (.istore_n 3, 1) := by decide +kernel
theorem dX0_wheelsFor_4 : decode cX0_wheelsFor 4 = .ok (.iload_n 3, 1) := by decide +kernel
theorem dX0_wheelsFor_5 : decode cX0_wheelsFor 5 = .ok (.aload_n 0, 1) := by decide +kernel
theorem dX0_wheelsFor_6 : decode cX0_wheelsFor 6 = .ok (.getfield 57, 3) := by decide +kernel
theorem dX0_wheelsFor_9 : decode cX0_wheelsFor 9 = .ok (.if_icmp .ge 25, 3) := by decide +kernel
theorem dX0_wheelsFor_12 : decode cX0_wheelsFor 12 = .ok (.aload_n 0, 1) := by decide +kernel
theorem dX0_wheelsFor_13 : decode cX0_wheelsFor 13 = .ok (.getfield 26, 3) := by decide +kernel
theorem dX0_wheelsFor_16 : decode cX0_wheelsFor 16 = .ok (.iload_n 3, 1) := by decide +kernel
theorem dX0_wheelsFor_17 : decode cX0_wheelsFor 17 = .ok (.aaload, 1) := by decide +kernel
theorem dX0_wheelsFor_18 : decode cX0_wheelsFor 18 = .ok (.getfield 87, 3) := by decide +kernel
theorem dX0_wheelsFor_21 : decode cX0_wheelsFor 21 = .ok (.iload_n 1, 1) := by decide +kernel
theorem dX0_wheelsFor_22 : decode cX0_wheelsFor 22 = .ok (.if_icmp .ne 6, 3) := by decide +kernel
theorem dX0_wheelsFor_25 : decode cX0_wheelsFor 25 = .ok (.iinc 2 1, 3) := by decide +kernel
theorem dX0_wheelsFor_28 : decode cX0_wheelsFor 28 = .ok (.iinc 3 1, 3) := by decide +kernel
theorem dX0_wheelsFor_31 : decode cX0_wheelsFor 31 = .ok (.goto (-27), 3) := by decide +kernel
theorem dX0_wheelsFor_34 : decode cX0_wheelsFor 34 = .ok (.iload_n 2, 1) := by decide +kernel
theorem dX0_wheelsFor_35 : decode cX0_wheelsFor 35 = .ok (.ireturn, 1) := by decide +kernel
theorem dX0_wheelPart_0 : decode cX0_wheelPart 0 = .ok (.aload_n 0, 1) := by decide +kernel
theorem dX0_wheelPart_1 : decode cX0_wheelPart 1 = .ok (.getfield 26, 3) := by decide +kernel
theorem dX0_wheelPart_4 : decode cX0_wheelPart 4 = .ok (.iload_n 1, 1) := by decide +kernel
theorem dX0_wheelPart_5 : decode cX0_wheelPart 5 = .ok (.aaload, 1) := by decide +kernel
theorem dX0_wheelPart_6 : decode cX0_wheelPart 6 = .ok (.astore_n 3, 1) := by decide +kernel
theorem dX0_wheelPart_7 : decode cX0_wheelPart 7 = .ok (.iload_n 2, 1) := by decide +kernel
theorem dX0_wheelPart_8 : decode cX0_wheelPart 8 = .ok (.bipush 7, 2) := by decide +kernel
theorem dX0_wheelPart_10 : decode cX0_wheelPart 10 = .ok (.if_icmp .ge 9, 3) := by decide +kernel
theorem dX0_wheelPart_13 : decode cX0_wheelPart 13 = .ok (.aload_n 3, 1) := by decide +kernel
theorem dX0_wheelPart_14 : decode cX0_wheelPart 14 = .ok (.iload_n 2, 1) := by decide +kernel
theorem dX0_wheelPart_15 : decode cX0_wheelPart 15 = .ok (.invokevirtual 171, 3) := by decide +kernel
theorem dX0_wheelPart_18 : decode cX0_wheelPart 18 = .ok (.ireturn, 1) := by decide +kernel
theorem dX0_wheelPart_19 : decode cX0_wheelPart 19 = .ok (.aload_n 0, 1) := by decide +kernel
theorem dX0_wheelPart_20 : decode cX0_wheelPart 20 = .ok (.invokevirtual 136, 3) := by decide +kernel
theorem dX0_wheelPart_23 : decode cX0_wheelPart 23 = .ok (.iload_n 2, 1) := by decide +kernel
theorem dX0_wheelPart_24 : decode cX0_wheelPart 24 = .ok (.bipush 7, 2) := by decide +kernel
theorem dX0_wheelPart_26 : decode cX0_wheelPart 26 = .ok (.if_icmp .ne 8, 3) := by decide +kernel
theorem dX0_wheelPart_29 : decode cX0_wheelPart 29 = .ok (.aload_n 3, 1) := by decide +kernel
theorem dX0_wheelPart_30 : decode cX0_wheelPart 30 = .ok (.getfield 116, 3) := by decide +kernel
theorem dX0_wheelPart_33 : decode cX0_wheelPart 33 = .ok (.ireturn, 1) := by decide +kernel
theorem dX0_wheelPart_34 : decode cX0_wheelPart 34 = .ok (.aload_n 0, 1) := by decide +kernel
theorem dX0_wheelPart_35 : decode cX0_wheelPart 35 = .ok (.aload_n 3, 1) := by decide +kernel
theorem dX0_wheelPart_36 : decode cX0_wheelPart 36 = .ok (.aload_n 3, 1) := by decide +kernel
theorem dX0_wheelPart_37 : decode cX0_wheelPart 37 = .ok (.getfield 116, 3) := by decide +kernel
theorem dX0_wheelPart_40 : decode cX0_wheelPart 40 = .ok (.invokevirtual 139, 3) := by decide +kernel
theorem dX0_wheelPart_43 : decode cX0_wheelPart 43 = .ok (.istore 4, 2) := by decide +kernel
theorem dX0_wheelPart_45 : decode cX0_wheelPart 45 = .ok (.iload_n 2, 1) := by decide +kernel
theorem dX0_wheelPart_46 : decode cX0_wheelPart 46 = .ok (.bipush 8, 2) := by decide +kernel
theorem dX0_wheelPart_48 : decode cX0_wheelPart 48 = .ok (.if_icmp .ne 8, 3) := by decide +kernel
theorem dX0_wheelPart_51 : decode cX0_wheelPart 51 = .ok (.iload 4, 2) := by decide +kernel
theorem dX0_wheelPart_53 : decode cX0_wheelPart 53 = .ok (.goto 13, 3) := by decide +kernel
theorem dX0_wheelPart_56 : decode cX0_wheelPart 56 = .ok (.aload_n 3, 1) := by decide +kernel
theorem dX0_wheelPart_57 : decode cX0_wheelPart 57 = .ok (.aload_n 3, 1) := by decide +kernel
theorem dX0_wheelPart_58 : decode cX0_wheelPart 58 = .ok (.getfield 116, 3) := by decide +kernel
theorem dX0_wheelPart_61 : decode cX0_wheelPart 61 = .ok (.iload 4, 2) := by decide +kernel
theorem dX0_wheelPart_63 : decode cX0_wheelPart 63 = .ok (.invokestatic 148, 3) := by decide +kernel
theorem dX0_wheelPart_66 : decode cX0_wheelPart 66 = .ok (.ireturn, 1) := by decide +kernel
theorem dX1_init_0 : decode cX1_init 0 = .ok (.aload_n 0, 1) := by decide +kernel
theorem dX1_init_1 : decode cX1_init 1 = .ok (.invokespecial 3, 3) := by decide +kernel
theorem dX1_init_4 : decode cX1_init 4 = .ok (.aload_n 0, 1) := by decide +kernel
theorem dX1_init_5 : decode cX1_init 5 = .ok (.bipush 60, 2) := by decide +kernel
theorem dX1_init_7 : decode cX1_init 7 = .ok (.newarray .byte, 2) := by decide +kernel
theorem dX1_init_9 : decode cX1_init 9 = .ok (.putfield 9, 3) := by decide +kernel
theorem dX1_init_12 : decode cX1_init 12 = .ok (.aload_n 0, 1) := by decide +kernel
theorem dX1_init_13 : decode cX1_init 13 = .ok (.bipush 24, 2) := by decide +kernel
theorem dX1_init_15 : decode cX1_init 15 = .ok (.newarray .int, 2) := by decide +kernel
theorem dX1_init_17 : decode cX1_init 17 = .ok (.putfield 15, 3) := by decide +kernel
theorem dX1_init_20 : decode cX1_init 20 = .ok (.return_, 1) := by decide +kernel
theorem dX1_addBytes_0 : decode cX1_addBytes 0 = .ok (.iconst 0, 1) := by decide +kernel
theorem dX1_addBytes_1 : decode cX1_addBytes 1 = .ok (.istore 4, 2) := by decide +kernel
theorem dX1_addBytes_3 : decode cX1_addBytes 3 = .ok (.iload 4, 2) := by decide +kernel
theorem dX1_addBytes_5 : decode cX1_addBytes 5 = .ok (.iload_n 3, 1) := by decide +kernel
theorem dX1_addBytes_6 : decode cX1_addBytes 6 = .ok (.if_icmp .ge 46, 3) := by decide +kernel
theorem dX1_addBytes_9 : decode cX1_addBytes 9 = .ok (.aload_n 0, 1) := by decide +kernel
theorem dX1_addBytes_10 : decode cX1_addBytes 10 = .ok (.getfield 19, 3) := by decide +kernel
theorem dX1_addBytes_13 : decode cX1_addBytes 13 = .ok (.bipush 60, 2) := by decide +kernel
theorem dX1_addBytes_15 : decode cX1_addBytes 15 = .ok (.if_icmp .ge 37, 3) := by decide +kernel
theorem dX1_addBytes_18 : decode cX1_addBytes 18 = .ok (.aload_n 0, 1) := by decide +kernel
theorem dX1_addBytes_19 : decode cX1_addBytes 19 = .ok (.getfield 9, 3) := by decide +kernel
theorem dX1_addBytes_22 : decode cX1_addBytes 22 = .ok (.aload_n 0, 1) := by decide +kernel
theorem dX1_addBytes_23 : decode cX1_addBytes 23 = .ok (.getfield 19, 3) := by decide +kernel
theorem dX1_addBytes_26 : decode cX1_addBytes 26 = .ok (.lload_n 1, 1) := by decide +kernel
theorem dX1_addBytes_27 : decode cX1_addBytes 27 = .ok (.bipush 8, 2) := by decide +kernel
theorem dX1_addBytes_29 : decode cX1_addBytes 29 = .ok (.iload 4, 2) := by decide +kernel
theorem dX1_addBytes_31 : decode cX1_addBytes 31 = .ok (.imul, 1) := by decide +kernel
theorem dX1_addBytes_32 : decode cX1_addBytes 32 = .ok (.lushr, 1) := by decide +kernel
theorem dX1_addBytes_33 : decode cX1_addBytes 33 = .ok (.l2i, 1) := by decide +kernel
theorem dX1_addBytes_34 : decode cX1_addBytes 34 = .ok (.i2b, 1) := by decide +kernel
theorem dX1_addBytes_35 : decode cX1_addBytes 35 = .ok (.bastore, 1) := by decide +kernel
theorem dX1_addBytes_36 : decode cX1_addBytes 36 = .ok (.aload_n 0, 1) := by decide +kernel
theorem dX1_addBytes_37 : decode cX1_addBytes 37 = .ok (.dup, 1) := by decide +kernel
theorem dX1_addBytes_38 : decode cX1_addBytes 38 = .ok (.getfield 19, 3) := by decide +kernel
theorem dX1_addBytes_41 : decode cX1_addBytes 41 = .ok (.iconst 1, 1) := by decide +kernel
theorem dX1_addBytes_42 : decode cX1_addBytes 42 = .ok (.iadd, 1) := by decide +kernel
theorem dX1_addBytes_43 : decode cX1_addBytes 43 = .ok (.putfield 19, 3) := by decide +kernel
theorem dX1_addBytes_46 : decode cX1_addBytes 46 = .ok (.iinc 4 1, 3) := by decide +kernel
theorem dX1_addBytes_49 : decode cX1_addBytes 49 = .ok (.goto (-46), 3) := by decide +kernel
theorem dX1_addBytes_52 : decode cX1_addBytes 52 = .ok (.return_, 1) := by decide +kernel
theorem dX1_copyFrom_0 : decode cX1_copyFrom 0 = .ok (.aload_n 1, 1) := by decide +kernel
theorem dX1_copyFrom_1 : decode cX1_copyFrom 1 = .ok (.getfield 9, 3) := by decide +kernel
theorem dX1_copyFrom_4 : decode cX1_copyFrom 4 = .ok (.iconst 0, 1) := by decide +kernel
theorem dX1_copyFrom_5 : decode cX1_copyFrom 5 = .ok (.aload_n 0, 1) := by decide +kernel
theorem dX1_copyFrom_6 : decode cX1_copyFrom 6 = .ok (.getfield 9, 3) := by decide +kernel
theorem dX1_copyFrom_9 : decode cX1_copyFrom 9 = .ok (.iconst 0, 1) := by decide +kernel
theorem dX1_copyFrom_10 : decode cX1_copyFrom 10 = .ok (.bipush 60, 2) := by decide +kernel
theorem dX1_copyFrom_12 : decode cX1_copyFrom 12 = .ok (.invokestatic 23, 3) := by decide +kernel
theorem dX1_copyFrom_15 : decode cX1_copyFrom 15 = .ok (.aload_n 1, 1) := by decide +kernel
theorem dX1_copyFrom_16 : decode cX1_copyFrom 16 = .ok (.getfield 15, 3) := by decide +kernel
theorem dX1_copyFrom_19 : decode cX1_copyFrom 19 = .ok (.iconst 0, 1) := by decide +kernel
theorem dX1_copyFrom_20 : decode cX1_copyFrom 20 = .ok (.aload_n 0, 1) := by decide +kernel
theorem dX1_copyFrom_21 : decode cX1_copyFrom 21 = .ok (.getfield 15, 3) := by decide +kernel
theorem dX1_copyFrom_24 : decode cX1_copyFrom 24 = .ok (.iconst 0, 1) := by decide +kernel
theorem dX1_copyFrom_25 : decode cX1_copyFrom 25 = .ok (.bipush 24, 2) := by decide +kernel
theorem dX1_copyFrom_27 : decode cX1_copyFrom 27 = .ok (.invokestatic 23, 3) := by decide +kernel
theorem dX1_copyFrom_30 : decode cX1_copyFrom 30 = .ok (.aload_n 0, 1) := by decide +kernel
theorem dX1_copyFrom_31 : decode cX1_copyFrom 31 = .ok (.aload_n 1, 1) := by decide +kernel
theorem dX1_copyFrom_32 : decode cX1_copyFrom 32 = .ok (.getfield 19, 3) := by decide +kernel
theorem dX1_copyFrom_35 : decode cX1_copyFrom 35 = .ok (.putfield 19, 3) := by decide +kernel
theorem dX1_copyFrom_38 : decode cX1_copyFrom 38 = .ok (.aload_n 0, 1) := by decide +kernel
theorem dX1_copyFrom_39 : decode cX1_copyFrom 39 = .ok (.aload_n 1, 1) := by decide +kernel
theorem dX1_copyFrom_40 : decode cX1_copyFrom 40 = .ok (.getfield 29, 3) := by decide +kernel
theorem dX1_copyFrom_43 : decode cX1_copyFrom 43 = .ok (.putfield 29, 3) := by decide +kernel
theorem dX1_copyFrom_46 : decode cX1_copyFrom 46 = .ok (.return_, 1) := by decide +kernel
theorem dX2_init_0 : decode cX2_init 0 = .ok (.aload_n 0, 1) := by decide +kernel
theorem dX2_init_1 : decode cX2_init 1 = .ok (.invokespecial 3, 3) := by decide +kernel
theorem dX2_init_4 : decode cX2_init 4 = .ok (.aload_n 0, 1) := by decide +kernel
theorem dX2_init_5 : decode cX2_init 5 = .ok (.bipush 60, 2) := by decide +kernel
theorem dX2_init_7 : decode cX2_init 7 = .ok (.newarray .int, 2) := by decide +kernel
theorem dX2_init_9 : decode cX2_init 9 = .ok (.putfield 9, 3) := by decide +kernel
theorem dX2_init_12 : decode cX2_init 12 = .ok (.aload_n 0, 1) := by decide +kernel
theorem dX2_init_13 : decode cX2_init 13 = .ok (.bipush 60, 2) := by decide +kernel
theorem dX2_init_15 : decode cX2_init 15 = .ok (.newarray .int, 2) := by decide +kernel
theorem dX2_init_17 : decode cX2_init 17 = .ok (.putfield 15, 3) := by decide +kernel
theorem dX2_init_20 : decode cX2_init 20 = .ok (.return_, 1) := by decide +kernel
theorem dX2_learn_0 : decode cX2_learn 0 = .ok (.iload_n 2, 1) := by decide +kernel
theorem dX2_learn_1 : decode cX2_learn 1 = .ok (.ifCond .lt 31, 3) := by decide +kernel
theorem dX2_learn_4 : decode cX2_learn 4 = .ok (.iload_n 2, 1) := by decide +kernel
theorem dX2_learn_5 : decode cX2_learn 5 = .ok (.bipush 60, 2) := by decide +kernel
theorem dX2_learn_7 : decode cX2_learn 7 = .ok (.if_icmp .gt 25, 3) := by decide +kernel
theorem dX2_learn_10 : decode cX2_learn 10 = .ok (.iload_n 2, 1) := by decide +kernel
theorem dX2_learn_11 : decode cX2_learn 11 = .ok (.aload_n 1, 1) := by decide +kernel
theorem dX2_learn_12 : decode cX2_learn 12 = .ok (.arraylength, 1) := by decide +kernel
theorem dX2_learn_13 : decode cX2_learn 13 = .ok (.if_icmp .gt 19, 3) := by decide +kernel
theorem dX2_learn_16 : decode cX2_learn 16 = .ok (.aload_n 1, 1) := by decide +kernel
theorem dX2_learn_17 : decode cX2_learn 17 = .ok (.iconst 0, 1) := by decide +kernel
theorem dX2_learn_18 : decode cX2_learn 18 = .ok (.aload_n 0, 1) := by decide +kernel
theorem dX2_learn_19 : decode cX2_learn 19 = .ok (.getfield 9, 3) := by decide +kernel
theorem dX2_learn_22 : decode cX2_learn 22 = .ok (.iconst 0, 1) := by decide +kernel
theorem dX2_learn_23 : decode cX2_learn 23 = .ok (.iload_n 2, 1) := by decide +kernel
theorem dX2_learn_24 : decode cX2_learn 24 = .ok (.invokestatic 18, 3) := by decide +kernel
theorem dX2_learn_27 : decode cX2_learn 27 = .ok (.aload_n 0, 1) := by decide +kernel
theorem dX2_learn_28 : decode cX2_learn 28 = .ok (.iload_n 2, 1) := by decide +kernel
theorem dX2_learn_29 : decode cX2_learn 29 = .ok (.putfield 24, 3) := by decide +kernel
theorem dX2_learn_32 : decode cX2_learn 32 = .ok (.return_, 1) := by decide +kernel
theorem dX2_value_0 : decode cX2_value 0 = .ok (.iconst 0, 1) := by decide +kernel
theorem dX2_value_1 : decode cX2_value 1 = .ok (.istore_n 2, 1) := by decide +kernel
theorem dX2_value_2 : decode cX2_value 2 = .ok (.iconst 0, 1) := by decide +kernel
theorem dX2_value_3 : decode cX2_value 3 = .ok (.istore_n 3, 1) := by decide +kernel
theorem dX2_value_4 : decode cX2_value 4 = .ok (.iload_n 3, 1) := by decide +kernel
theorem dX2_value_5 : decode cX2_value 5 = .ok (.aload_n 0, 1) := by decide +kernel
theorem dX2_value_6 : decode cX2_value 6 = .ok (.getfield 24, 3) := by decide +kernel
theorem dX2_value_9 : decode cX2_value 9 = .ok (.if_icmp .ge 144, 3) := by decide +kernel
theorem dX2_value_12 : decode cX2_value 12 = .ok (.iload_n 3, 1) := by decide +kernel
theorem dX2_value_13 : decode cX2_value 13 = .ok (.bipush 60, 2) := by decide +kernel
theorem dX2_value_15 : decode cX2_value 15 = .ok (.if_icmp .ge 138, 3) := by decide +kernel
theorem dX2_value_18 : decode cX2_value 18 = .ok (.aload_n 0, 1) := by decide +kernel
theorem dX2_value_19 : decode cX2_value 19 = .ok (.getfield 9, 3) := by decide +kernel
theorem dX2_value_22 : decode cX2_value 22 = .ok (.iload_n 3, 1) := by decide +kernel
theorem dX2_value_23 : decode cX2_value 23 = .ok (.iaload, 1) := by decide +kernel
theorem dX2_value_24 : decode cX2_value 24 = .ok (.istore 4, 2) := by decide +kernel
theorem dX2_value_26 : decode cX2_value 26 = .ok (.iload 4, 2) := by decide +kernel
theorem dX2_value_28 : decode cX2_value 28 = .ok (.ifCond .lt 44, 3) := by decide +kernel
theorem dX2_value_31 : decode cX2_value 31 = .ok (.iload_n 2, 1) := by decide +kernel
theorem dX2_value_32 : decode cX2_value 32 = .ok (.bipush 60, 2) := by decide +kernel
theorem dX2_value_34 : decode cX2_value 34 = .ok (.if_icmp .ge 113, 3) := by decide +kernel
theorem dX2_value_37 : decode cX2_value 37 = .ok (.aload_n 0, 1) := by decide +kernel
theorem dX2_value_38 : decode cX2_value 38 = .ok (.getfield 15, 3) := by decide +kernel
theorem dX2_value_41 : decode cX2_value 41 = .ok (.iload_n 2, 1) := by decide +kernel
theorem dX2_value_42 : decode cX2_value 42 = .ok (.iload 4, 2) := by decide +kernel
theorem dX2_value_44 : decode cX2_value 44 = .ok (.sipush 10000, 3) := by decide +kernel
theorem dX2_value_47 : decode cX2_value 47 = .ok (.if_icmp .ge 8, 3) := by decide +kernel
theorem dX2_value_50 : decode cX2_value 50 = .ok (.iload 4, 2) := by decide +kernel
theorem dX2_value_52 : decode cX2_value 52 = .ok (.goto 13, 3) := by decide +kernel
theorem dX2_value_55 : decode cX2_value 55 = .ok (.aload_n 1, 1) := by decide +kernel
theorem dX2_value_56 : decode cX2_value 56 = .ok (.iload 4, 2) := by decide +kernel
theorem dX2_value_58 : decode cX2_value 58 = .ok (.sipush 10000, 3) := by decide +kernel
theorem dX2_value_61 : decode cX2_value 61 = .ok (.isub, 1) := by decide +kernel
theorem dX2_value_62 : decode cX2_value 62 = .ok (.invokestatic 28, 3) := by decide +kernel
theorem dX2_value_65 : decode cX2_value 65 = .ok (.iastore, 1) := by decide +kernel
theorem dX2_value_66 : decode cX2_value 66 = .ok (.iinc 2 1, 3) := by decide +kernel
theorem dX2_value_69 : decode cX2_value 69 = .ok (.goto 78, 3) := by decide +kernel
theorem dX2_value_72 : decode cX2_value 72 = .ok (.iload 4, 2) := by decide +kernel
theorem dX2_value_74 : decode cX2_value 74 = .ok (.bipush (-33), 2) := by decide +kernel
theorem dX2_value_76 : decode cX2_value 76 = .ok (.if_icmp .ne 35, 3) := by decide +kernel
theorem dX2_value_79 : decode cX2_value 79 = .ok (.iload_n 2, 1) := by decide +kernel
theorem dX2_value_80 : decode cX2_value 80 = .ok (.iconst 1, 1) := by decide +kernel
theorem dX2_value_81 : decode cX2_value 81 = .ok (.if_icmp .lt 66, 3) := by decide +kernel
theorem dX2_value_84 : decode cX2_value 84 = .ok (.aload_n 0, 1) := by decide +kernel
theorem dX2_value_85 : decode cX2_value 85 = .ok (.getfield 15, 3) := by decide +kernel
theorem dX2_value_88 : decode cX2_value 88 = .ok (.iload_n 2, 1) := by decide +kernel
theorem dX2_value_89 : decode cX2_value 89 = .ok (.iconst 1, 1) := by decide +kernel
theorem dX2_value_90 : decode cX2_value 90 = .ok (.isub, 1) := by decide +kernel
theorem dX2_value_91 : decode cX2_value 91 = .ok (.aload_n 0, 1) := by decide +kernel
theorem dX2_value_92 : decode cX2_value 92 = .ok (.getfield 15, 3) := by decide +kernel
theorem dX2_value_95 : decode cX2_value 95 = .ok (.iload_n 2, 1) := by decide +kernel
theorem dX2_value_96 : decode cX2_value 96 = .ok (.iconst 1, 1) := by decide +kernel
theorem dX2_value_97 : decode cX2_value 97 = .ok (.isub, 1) := by decide +kernel
theorem dX2_value_98 : decode cX2_value 98 = .ok (.iaload, 1) := by decide +kernel
theorem dX2_value_99 : decode cX2_value 99 = .ok (.ifCond .ne 7, 3) := by decide +kernel
theorem dX2_value_102 : decode cX2_value 102 = .ok (.iconst 1, 1) := by decide +kernel
theorem dX2_value_103 : decode cX2_value 103 = .ok (.goto 4, 3) := by decide +kernel
theorem dX2_value_106 : decode cX2_value 106 = .ok (.iconst 0, 1) := by decide +kernel
theorem dX2_value_107 : decode cX2_value 107 = .ok (.iastore, 1) := by decide +kernel
theorem dX2_value_108 : decode cX2_value 108 = .ok (.goto 39, 3) := by decide +kernel
theorem dX2_value_111 : decode cX2_value 111 = .ok (.iload_n 2, 1) := by decide +kernel
theorem dX2_value_112 : decode cX2_value 112 = .ok (.iconst 2, 1) := by decide +kernel
theorem dX2_value_113 : decode cX2_value 113 = .ok (.if_icmp .lt 34, 3) := by decide +kernel
theorem dX2_value_116 : decode cX2_value 116 = .ok (.iinc 2 (-1), 3) := by decide +kernel
theorem dX2_value_119 : decode cX2_value 119 = .ok (.aload_n 0, 1) := by decide +kernel
theorem dX2_value_120 : decode cX2_value 120 = .ok (.getfield 15, 3) := by decide +kernel
theorem dX2_value_123 : decode cX2_value 123 = .ok (.iload_n 2, 1) := by decide +kernel
theorem dX2_value_124 : decode cX2_value 124 = .ok (.iconst 1, 1) := by decide +kernel
theorem dX2_value_125 : decode cX2_value 125 = .ok (.isub, 1) := by decide +kernel
theorem dX2_value_126 : decode cX2_value 126 = .ok (.iload 4, 2) := by decide +kernel
theorem dX2_value_128 : decode cX2_value 128 = .ok (.ineg, 1) := by decide +kernel
theorem dX2_value_129 : decode cX2_value 129 = .ok (.aload_n 0, 1) := by decide +kernel
theorem dX2_value_130 : decode cX2_value 130 = .ok (.getfield 15, 3) := by decide +kernel
theorem dX2_value_133 : decode cX2_value 133 = .ok (.iload_n 2, 1) := by decide +kernel
theorem dX2_value_134 : decode cX2_value 134 = .ok (.iconst 1, 1) := by decide +kernel
theorem dX2_value_135 : decode cX2_value 135 = .ok (.isub, 1) := by decide +kernel
theorem dX2_value_136 : decode cX2_value 136 = .ok (.iaload, 1) := by decide +kernel
theorem dX2_value_137 : decode cX2_value 137 = .ok (.aload_n 0, 1) := by decide +kernel
theorem dX2_value_138 : decode cX2_value 138 = .ok (.getfield 15, 3) := by decide +kernel
theorem dX2_value_141 : decode cX2_value 141 = .ok (.iload_n 2, 1) := by decide +kernel
theorem dX2_value_142 : decode cX2_value 142 = .ok (.iaload, 1) := by decide +kernel
theorem dX2_value_143 : decode cX2_value 143 = .ok (.invokestatic 32, 3) := by decide +kernel
theorem dX2_value_146 : decode cX2_value 146 = .ok (.iastore, 1) := by decide +kernel
theorem dX2_value_147 : decode cX2_value 147 = .ok (.iinc 3 1, 3) := by decide +kernel
theorem dX2_value_150 : decode cX2_value 150 = .ok (.goto (-146), 3) := by decide +kernel
theorem dX2_value_153 : decode cX2_value 153 = .ok (.iload_n 2, 1) := by decide +kernel
theorem dX2_value_154 : decode cX2_value 154 = .ok (.iconst 1, 1) := by decide +kernel
theorem dX2_value_155 : decode cX2_value 155 = .ok (.if_icmp .ne 12, 3) := by decide +kernel
theorem dX2_value_158 : decode cX2_value 158 = .ok (.aload_n 0, 1) := by decide +kernel
theorem dX2_value_159 : decode cX2_value 159 = .ok (.getfield 15, 3) := by decide +kernel
theorem dX2_value_162 : decode cX2_value 162 = .ok (.iconst 0, 1) := by decide +kernel
theorem dX2_value_163 : decode cX2_value 163 = .ok (.iaload, 1) := by decide +kernel
theorem dX2_value_164 : decode cX2_value 164 = .ok (.goto 4, 3) := by decide +kernel
theorem dX2_value_167 : decode cX2_value 167 = .ok (.iconst 0, 1) := by decide +kernel
theorem dX2_value_168 : decode cX2_value 168 = .ok (.ireturn, 1) := by decide +kernel
theorem dX2_nameOf_0 : decode cX2_nameOf 0 = .ok (.iload_n 1, 1) := by decide +kernel
theorem dX2_nameOf_1 : decode cX2_nameOf 1 = .ok (.ifCond .lt 15, 3) := by decide +kernel
theorem dX2_nameOf_4 : decode cX2_nameOf 4 = .ok (.iload_n 1, 1) := by decide +kernel
theorem dX2_nameOf_5 : decode cX2_nameOf 5 = .ok (.aload_n 0, 1) := by decide +kernel
theorem dX2_nameOf_6 : decode cX2_nameOf 6 = .ok (.arraylength, 1) := by decide +kernel
theorem dX2_nameOf_7 : decode cX2_nameOf 7 = .ok (.if_icmp .ge 9, 3) := by decide +kernel
theorem dX2_nameOf_10 : decode cX2_nameOf 10 = .ok (.aload_n 0, 1) := by decide +kernel
theorem dX2_nameOf_11 : decode cX2_nameOf 11 = .ok (.iload_n 1, 1) := by decide +kernel
theorem dX2_nameOf_12 : decode cX2_nameOf 12 = .ok (.iaload, 1) := by decide +kernel
theorem dX2_nameOf_13 : decode cX2_nameOf 13 = .ok (.goto 4, 3) := by decide +kernel
theorem dX2_nameOf_16 : decode cX2_nameOf 16 = .ok (.iconst 0, 1) := by decide +kernel
theorem dX2_nameOf_17 : decode cX2_nameOf 17 = .ok (.ireturn, 1) := by decide +kernel
theorem dX2_joined_0 : decode cX2_joined 0 = .ok (.iload_n 0, 1) := by decide +kernel
theorem dX2_joined_1 : decode cX2_joined 1 = .ok (.lookupswitch 168 #[(38, 97), (42, 152), (43, 144), (45, 148), (47, 156), (60, 111), (61, 122), (62, 133), (124, 83)], 83) := by decide +kernel
theorem dX2_joined_84 : decode cX2_joined 84 = .ok (.iload_n 1, 1) := by decide +kernel
theorem dX2_joined_85 : decode cX2_joined 85 = .ok (.ifCond .ne 7, 3) := by decide +kernel
theorem dX2_joined_88 : decode cX2_joined 88 = .ok (.iload_n 2, 1) := by decide +kernel
theorem dX2_joined_89 : decode cX2_joined 89 = .ok (.ifCond .eq 7, 3) := by decide +kernel
theorem dX2_joined_92 : decode cX2_joined 92 = .ok (.iconst 1, 1) := by decide +kernel
theorem dX2_joined_93 : decode cX2_joined 93 = .ok (.goto 4, 3) := by decide +kernel
theorem dX2_joined_96 : decode cX2_joined 96 = .ok (.iconst 0, 1) := by decide +kernel
theorem dX2_joined_97 : decode cX2_joined 97 = .ok (.ireturn, 1) := by decide +kernel
theorem dX2_joined_98 : decode cX2_joined 98 = .ok (.iload_n 1, 1) := by decide +kernel
theorem dX2_joined_99 : decode cX2_joined 99 = .ok (.ifCond .eq 11, 3) := by decide +kernel
theorem dX2_joined_102 : decode cX2_joined 102 = .ok (.iload_n 2, 1) := by decide +kernel
theorem dX2_joined_103 : decode cX2_joined 103 = .ok (.ifCond .eq 7, 3) := by decide +kernel
theorem dX2_joined_106 : decode cX2_joined 106 = .ok (.iconst 1, 1) := by decide +kernel
theorem dX2_joined_107 : decode cX2_joined 107 = .ok (.goto 4, 3) := by decide +kernel
theorem dX2_joined_110 : decode cX2_joined 110 = .ok (.iconst 0, 1) := by decide +kernel
theorem dX2_joined_111 : decode cX2_joined 111 = .ok (.ireturn, 1) := by decide +kernel
theorem dX2_joined_112 : decode cX2_joined 112 = .ok (.iload_n 1, 1) := by decide +kernel
theorem dX2_joined_113 : decode cX2_joined 113 = .ok (.iload_n 2, 1) := by decide +kernel
theorem dX2_joined_114 : decode cX2_joined 114 = .ok (.if_icmp .ge 7, 3) := by decide +kernel
theorem dX2_joined_117 : decode cX2_joined 117 = .ok (.iconst 1, 1) := by decide +kernel
theorem dX2_joined_118 : decode cX2_joined 118 = .ok (.goto 4, 3) := by decide +kernel
theorem dX2_joined_121 : decode cX2_joined 121 = .ok (.iconst 0, 1) := by decide +kernel
theorem dX2_joined_122 : decode cX2_joined 122 = .ok (.ireturn, 1) := by decide +kernel
theorem dX2_joined_123 : decode cX2_joined 123 = .ok (.iload_n 1, 1) := by decide +kernel
theorem dX2_joined_124 : decode cX2_joined 124 = .ok (.iload_n 2, 1) := by decide +kernel
theorem dX2_joined_125 : decode cX2_joined 125 = .ok (.if_icmp .ne 7, 3) := by decide +kernel
theorem dX2_joined_128 : decode cX2_joined 128 = .ok (.iconst 1, 1) := by decide +kernel
theorem dX2_joined_129 : decode cX2_joined 129 = .ok (.goto 4, 3) := by decide +kernel
theorem dX2_joined_132 : decode cX2_joined 132 = .ok (.iconst 0, 1) := by decide +kernel
theorem dX2_joined_133 : decode cX2_joined 133 = .ok (.ireturn, 1) := by decide +kernel
theorem dX2_joined_134 : decode cX2_joined 134 = .ok (.iload_n 1, 1) := by decide +kernel
theorem dX2_joined_135 : decode cX2_joined 135 = .ok (.iload_n 2, 1) := by decide +kernel
theorem dX2_joined_136 : decode cX2_joined 136 = .ok (.if_icmp .le 7, 3) := by decide +kernel
theorem dX2_joined_139 : decode cX2_joined 139 = .ok (.iconst 1, 1) := by decide +kernel
theorem dX2_joined_140 : decode cX2_joined 140 = .ok (.goto 4, 3) := by decide +kernel
theorem dX2_joined_143 : decode cX2_joined 143 = .ok (.iconst 0, 1) := by decide +kernel
theorem dX2_joined_144 : decode cX2_joined 144 = .ok (.ireturn, 1) := by decide +kernel
theorem dX2_joined_145 : decode cX2_joined 145 = .ok (.iload_n 1, 1) := by decide +kernel
theorem dX2_joined_146 : decode cX2_joined 146 = .ok (.iload_n 2, 1) := by decide +kernel
theorem dX2_joined_147 : decode cX2_joined 147 = .ok (.iadd, 1) := by decide +kernel
theorem dX2_joined_148 : decode cX2_joined 148 = .ok (.ireturn, 1) := by decide +kernel
theorem dX2_joined_149 : decode cX2_joined 149 = .ok (.iload_n 1, 1) := by decide +kernel
theorem dX2_joined_150 : decode cX2_joined 150 = .ok (.iload_n 2, 1) := by decide +kernel
theorem dX2_joined_151 : decode cX2_joined 151 = .ok (.isub, 1) := by decide +kernel
theorem dX2_joined_152 : decode cX2_joined 152 = .ok (.ireturn, 1) := by decide +kernel
theorem dX2_joined_153 : decode cX2_joined 153 = .ok (.iload_n 1, 1) := by decide +kernel
theorem dX2_joined_154 : decode cX2_joined 154 = .ok (.iload_n 2, 1) := by decide +kernel
theorem dX2_joined_155 : decode cX2_joined 155 = .ok (.imul, 1) := by decide +kernel
theorem dX2_joined_156 : decode cX2_joined 156 = .ok (.ireturn, 1) := by decide +kernel
theorem dX2_joined_157 : decode cX2_joined 157 = .ok (.iload_n 2, 1) := by decide +kernel
theorem dX2_joined_158 : decode cX2_joined 158 = .ok (.ifCond .ne 7, 3) := by decide +kernel
theorem dX2_joined_161 : decode cX2_joined 161 = .ok (.iconst 0, 1) := by decide +kernel
theorem dX2_joined_162 : decode cX2_joined 162 = .ok (.goto 6, 3) := by decide +kernel
theorem dX2_joined_165 : decode cX2_joined 165 = .ok (.iload_n 1, 1) := by decide +kernel
theorem dX2_joined_166 : decode cX2_joined 166 = .ok (.iload_n 2, 1) := by decide +kernel
theorem dX2_joined_167 : decode cX2_joined 167 = .ok (.idiv, 1) := by decide +kernel
theorem dX2_joined_168 : decode cX2_joined 168 = .ok (.ireturn, 1) := by decide +kernel
theorem dX2_joined_169 : decode cX2_joined 169 = .ok (.iload_n 2, 1) := by decide +kernel
theorem dX2_joined_170 : decode cX2_joined 170 = .ok (.ifCond .ne 7, 3) := by decide +kernel
theorem dX2_joined_173 : decode cX2_joined 173 = .ok (.iconst 0, 1) := by decide +kernel
theorem dX2_joined_174 : decode cX2_joined 174 = .ok (.goto 6, 3) := by decide +kernel
theorem dX2_joined_177 : decode cX2_joined 177 = .ok (.iload_n 1, 1) := by decide +kernel
theorem dX2_joined_178 : decode cX2_joined 178 = .ok (.iload_n 2, 1) := by decide +kernel
theorem dX2_joined_179 : decode cX2_joined 179 = .ok (.irem, 1) := by decide +kernel
theorem dX2_joined_180 : decode cX2_joined 180 = .ok (.ireturn, 1) := by decide +kernel
theorem dX3_init_0 : decode cX3_init 0 = .ok (.aload_n 0, 1) := by decide +kernel
theorem dX3_init_1 : decode cX3_init 1 = .ok (.invokespecial 3, 3) := by decide +kernel
theorem dX3_init_4 : decode cX3_init 4 = .ok (.aload_n 0, 1) := by decide +kernel
theorem dX3_init_5 : decode cX3_init 5 = .ok (.bipush 60, 2) := by decide +kernel
theorem dX3_init_7 : decode cX3_init 7 = .ok (.newarray .int, 2) := by decide +kernel
theorem dX3_init_9 : decode cX3_init 9 = .ok (.putfield 9, 3) := by decide +kernel
theorem dX3_init_12 : decode cX3_init 12 = .ok (.aload_n 0, 1) := by decide +kernel
theorem dX3_init_13 : decode cX3_init 13 = .ok (.bipush 60, 2) := by decide +kernel
theorem dX3_init_15 : decode cX3_init 15 = .ok (.newarray .int, 2) := by decide +kernel
theorem dX3_init_17 : decode cX3_init 17 = .ok (.putfield 15, 3) := by decide +kernel
theorem dX3_init_20 : decode cX3_init 20 = .ok (.return_, 1) := by decide +kernel
theorem dX3_read_0 : decode cX3_read 0 = .ok (.aload_n 0, 1) := by decide +kernel
theorem dX3_read_1 : decode cX3_read 1 = .ok (.iconst 0, 1) := by decide +kernel
theorem dX3_read_2 : decode cX3_read 2 = .ok (.putfield 18, 3) := by decide +kernel
theorem dX3_read_5 : decode cX3_read 5 = .ok (.aload_n 0, 1) := by decide +kernel
theorem dX3_read_6 : decode cX3_read 6 = .ok (.iconst 0, 1) := by decide +kernel
theorem dX3_read_7 : decode cX3_read 7 = .ok (.putfield 22, 3) := by decide +kernel
theorem dX3_read_10 : decode cX3_read 10 = .ok (.aload_n 0, 1) := by decide +kernel
theorem dX3_read_11 : decode cX3_read 11 = .ok (.iconst 0, 1) := by decide +kernel
theorem dX3_read_12 : decode cX3_read 12 = .ok (.putfield 25, 3) := by decide +kernel
theorem dX3_read_15 : decode cX3_read 15 = .ok (.aload_n 0, 1) := by decide +kernel
theorem dX3_read_16 : decode cX3_read 16 = .ok (.iconst 0, 1) := by decide +kernel
theorem dX3_read_17 : decode cX3_read 17 = .ok (.putfield 28, 3) := by decide +kernel
theorem dX3_read_20 : decode cX3_read 20 = .ok (.aload_n 0, 1) := by decide +kernel
theorem dX3_read_21 : decode cX3_read 21 = .ok (.iconst 0, 1) := by decide +kernel
theorem dX3_read_22 : decode cX3_read 22 = .ok (.putfield 31, 3) := by decide +kernel
theorem dX3_read_25 : decode cX3_read 25 = .ok (.aload_n 0, 1) := by decide +kernel
theorem dX3_read_26 : decode cX3_read 26 = .ok (.iconst 1, 1) := by decide +kernel
theorem dX3_read_27 : decode cX3_read 27 = .ok (.putfield 34, 3) := by decide +kernel
theorem dX3_read_30 : decode cX3_read 30 = .ok (.iconst 0, 1) := by decide +kernel
theorem dX3_read_31 : decode cX3_read 31 = .ok (.istore 4, 2) := by decide +kernel
theorem dX3_read_33 : decode cX3_read 33 = .ok (.iload 4, 2) := by decide +kernel
theorem dX3_read_35 : decode cX3_read 35 = .ok (.iload_n 2, 1) := by decide +kernel
theorem dX3_read_36 : decode cX3_read 36 = .ok (.if_icmp .ge 35, 3) := by decide +kernel
theorem dX3_read_39 : decode cX3_read 39 = .ok (.iload 4, 2) := by decide +kernel
theorem dX3_read_41 : decode cX3_read 41 = .ok (.aload_n 1, 1) := by decide +kernel
theorem dX3_read_42 : decode cX3_read 42 = .ok (.arraylength, 1) := by decide +kernel
theorem dX3_read_43 : decode cX3_read 43 = .ok (.if_icmp .ge 28, 3) := by decide +kernel
theorem dX3_read_46 : decode cX3_read 46 = .ok (.aload_n 0, 1) := by decide +kernel
theorem dX3_read_47 : decode cX3_read 47 = .ok (.aload_n 1, 1) := by decide +kernel
theorem dX3_read_48 : decode cX3_read 48 = .ok (.iload 4, 2) := by decide +kernel
theorem dX3_read_50 : decode cX3_read 50 = .ok (.baload, 1) := by decide +kernel
theorem dX3_read_51 : decode cX3_read 51 = .ok (.sipush 255, 3) := by decide +kernel
theorem dX3_read_54 : decode cX3_read 54 = .ok (.iand, 1) := by decide +kernel
theorem dX3_read_55 : decode cX3_read 55 = .ok (.iload_n 3, 1) := by decide +kernel
theorem dX3_read_56 : decode cX3_read 56 = .ok (.invokevirtual 38, 3) := by decide +kernel
theorem dX3_read_59 : decode cX3_read 59 = .ok (.ifCond .ne 6, 3) := by decide +kernel
theorem dX3_read_62 : decode cX3_read 62 = .ok (.iload 4, 2) := by decide +kernel
theorem dX3_read_64 : decode cX3_read 64 = .ok (.ireturn, 1) := by decide +kernel
theorem dX3_read_65 : decode cX3_read 65 = .ok (.iinc 4 1, 3) := by decide +kernel
theorem dX3_read_68 : decode cX3_read 68 = .ok (.goto (-35), 3) := by decide +kernel
theorem dX3_read_71 : decode cX3_read 71 = .ok (.aload_n 0, 1) := by decide +kernel
theorem dX3_read_72 : decode cX3_read 72 = .ok (.getfield 34, 3) := by decide +kernel
theorem dX3_read_75 : decode cX3_read 75 = .ok (.ifCond .ne 10, 3) := by decide +kernel
theorem dX3_read_78 : decode cX3_read 78 = .ok (.aload_n 0, 1) := by decide +kernel
theorem dX3_read_79 : decode cX3_read 79 = .ok (.getfield 28, 3) := by decide +kernel
theorem dX3_read_82 : decode cX3_read 82 = .ok (.ifCond .le 5, 3) := by decide +kernel
theorem dX3_read_85 : decode cX3_read 85 = .ok (.iload_n 2, 1) := by decide +kernel
theorem dX3_read_86 : decode cX3_read 86 = .ok (.ireturn, 1) := by decide +kernel
theorem dX3_read_87 : decode cX3_read 87 = .ok (.aload_n 0, 1) := by decide +kernel
theorem dX3_read_88 : decode cX3_read 88 = .ok (.iconst 1, 1) := by decide +kernel
theorem dX3_read_89 : decode cX3_read 89 = .ok (.invokevirtual 42, 3) := by decide +kernel
theorem dX3_read_92 : decode cX3_read 92 = .ok (.iconst (-1), 1) := by decide +kernel
theorem dX3_read_93 : decode cX3_read 93 = .ok (.ireturn, 1) := by decide +kernel
theorem dX3_goesOn_0 : decode cX3_goesOn 0 = .ok (.iload_n 1, 1) := by decide +kernel
theorem dX3_goesOn_1 : decode cX3_goesOn 1 = .ok (.bipush 48, 2) := by decide +kernel
theorem dX3_goesOn_3 : decode cX3_goesOn 3 = .ok (.if_icmp .lt 18, 3) := by decide +kernel
theorem dX3_goesOn_6 : decode cX3_goesOn 6 = .ok (.iload_n 1, 1) := by decide +kernel
theorem dX3_goesOn_7 : decode cX3_goesOn 7 = .ok (.bipush 57, 2) := by decide +kernel
theorem dX3_goesOn_9 : decode cX3_goesOn 9 = .ok (.if_icmp .gt 12, 3) := by decide +kernel
theorem dX3_goesOn_12 : decode cX3_goesOn 12 = .ok (.aload_n 0, 1) := by decide +kernel
theorem dX3_goesOn_13 : decode cX3_goesOn 13 = .ok (.iload_n 1, 1) := by decide +kernel
theorem dX3_goesOn_14 : decode cX3_goesOn 14 = .ok (.bipush 48, 2) := by decide +kernel
theorem dX3_goesOn_16 : decode cX3_goesOn 16 = .ok (.isub, 1) := by decide +kernel
theorem dX3_goesOn_17 : decode cX3_goesOn 17 = .ok (.invokevirtual 46, 3) := by decide +kernel
theorem dX3_goesOn_20 : decode cX3_goesOn 20 = .ok (.ireturn, 1) := by decide +kernel
theorem dX3_goesOn_21 : decode cX3_goesOn 21 = .ok (.aload_n 0, 1) := by decide +kernel
theorem dX3_goesOn_22 : decode cX3_goesOn 22 = .ok (.iconst 0, 1) := by decide +kernel
theorem dX3_goesOn_23 : decode cX3_goesOn 23 = .ok (.putfield 31, 3) := by decide +kernel
theorem dX3_goesOn_26 : decode cX3_goesOn 26 = .ok (.aload_n 0, 1) := by decide +kernel
theorem dX3_goesOn_27 : decode cX3_goesOn 27 = .ok (.getfield 34, 3) := by decide +kernel
theorem dX3_goesOn_30 : decode cX3_goesOn 30 = .ok (.ifCond .eq 12, 3) := by decide +kernel
theorem dX3_goesOn_33 : decode cX3_goesOn 33 = .ok (.aload_n 0, 1) := by decide +kernel
theorem dX3_goesOn_34 : decode cX3_goesOn 34 = .ok (.iload_n 1, 1) := by decide +kernel
theorem dX3_goesOn_35 : decode cX3_goesOn 35 = .ok (.iload_n 2, 1) := by decide +kernel
theorem dX3_goesOn_36 : decode cX3_goesOn 36 = .ok (.invokevirtual 50, 3) := by decide +kernel
theorem dX3_goesOn_39 : decode cX3_goesOn 39 = .ok (.goto 8, 3) := by decide +kernel
theorem dX3_goesOn_42 : decode cX3_goesOn 42 = .ok (.aload_n 0, 1) := by decide +kernel
theorem dX3_goesOn_43 : decode cX3_goesOn 43 = .ok (.iload_n 1, 1) := by decide +kernel
theorem dX3_goesOn_44 : decode cX3_goesOn 44 = .ok (.invokevirtual 53, 3) := by decide +kernel
theorem dX3_goesOn_47 : decode cX3_goesOn 47 = .ok (.ireturn, 1) := by decide +kernel
theorem dX3_digit_0 : decode cX3_digit 0 = .ok (.aload_n 0, 1) := by decide +kernel
theorem dX3_digit_1 : decode cX3_digit 1 = .ok (.getfield 34, 3) := by decide +kernel
theorem dX3_digit_4 : decode cX3_digit 4 = .ok (.ifCond .eq 20, 3) := by decide +kernel
theorem dX3_digit_7 : decode cX3_digit 7 = .ok (.aload_n 0, 1) := by decide +kernel
theorem dX3_digit_8 : decode cX3_digit 8 = .ok (.iload_n 1, 1) := by decide +kernel
theorem dX3_digit_9 : decode cX3_digit 9 = .ok (.invokevirtual 56, 3) := by decide +kernel
theorem dX3_digit_12 : decode cX3_digit 12 = .ok (.aload_n 0, 1) := by decide +kernel
theorem dX3_digit_13 : decode cX3_digit 13 = .ok (.iconst 0, 1) := by decide +kernel
theorem dX3_digit_14 : decode cX3_digit 14 = .ok (.putfield 34, 3) := by decide +kernel
theorem dX3_digit_17 : decode cX3_digit 17 = .ok (.aload_n 0, 1) := by decide +kernel
theorem dX3_digit_18 : decode cX3_digit 18 = .ok (.iconst 1, 1) := by decide +kernel
theorem dX3_digit_19 : decode cX3_digit 19 = .ok (.putfield 31, 3) := by decide +kernel
theorem dX3_digit_22 : decode cX3_digit 22 = .ok (.iconst 1, 1) := by decide +kernel
theorem dX3_digit_23 : decode cX3_digit 23 = .ok (.ireturn, 1) := by decide +kernel
theorem dX3_digit_24 : decode cX3_digit 24 = .ok (.aload_n 0, 1) := by decide +kernel
theorem dX3_digit_25 : decode cX3_digit 25 = .ok (.getfield 31, 3) := by decide +kernel
theorem dX3_digit_28 : decode cX3_digit 28 = .ok (.ifCond .eq 18, 3) := by decide +kernel
theorem dX3_digit_31 : decode cX3_digit 31 = .ok (.aload_n 0, 1) := by decide +kernel
theorem dX3_digit_32 : decode cX3_digit 32 = .ok (.getfield 31, 3) := by decide +kernel
theorem dX3_digit_35 : decode cX3_digit 35 = .ok (.iconst 4, 1) := by decide +kernel
theorem dX3_digit_36 : decode cX3_digit 36 = .ok (.if_icmp .ge 10, 3) := by decide +kernel
theorem dX3_digit_39 : decode cX3_digit 39 = .ok (.aload_n 0, 1) := by decide +kernel
theorem dX3_digit_40 : decode cX3_digit 40 = .ok (.getfield 18, 3) := by decide +kernel
theorem dX3_digit_43 : decode cX3_digit 43 = .ok (.ifCond .ne 5, 3) := by decide +kernel
theorem dX3_digit_46 : decode cX3_digit 46 = .ok (.iconst 0, 1) := by decide +kernel
theorem dX3_digit_47 : decode cX3_digit 47 = .ok (.ireturn, 1) := by decide +kernel
theorem dX3_digit_48 : decode cX3_digit 48 = .ok (.aload_n 0, 1) := by decide +kernel
theorem dX3_digit_49 : decode cX3_digit 49 = .ok (.getfield 9, 3) := by decide +kernel
theorem dX3_digit_52 : decode cX3_digit 52 = .ok (.aload_n 0, 1) := by decide +kernel
theorem dX3_digit_53 : decode cX3_digit 53 = .ok (.getfield 18, 3) := by decide +kernel
theorem dX3_digit_56 : decode cX3_digit 56 = .ok (.iconst 1, 1) := by decide +kernel
theorem dX3_digit_57 : decode cX3_digit 57 = .ok (.isub, 1) := by decide +kernel
theorem dX3_digit_58 : decode cX3_digit 58 = .ok (.aload_n 0, 1) := by decide +kernel
theorem dX3_digit_59 : decode cX3_digit 59 = .ok (.getfield 9, 3) := by decide +kernel
theorem dX3_digit_62 : decode cX3_digit 62 = .ok (.aload_n 0, 1) := by decide +kernel
theorem dX3_digit_63 : decode cX3_digit 63 = .ok (.getfield 18, 3) := by decide +kernel
theorem dX3_digit_66 : decode cX3_digit 66 = .ok (.iconst 1, 1) := by decide +kernel
theorem dX3_digit_67 : decode cX3_digit 67 = .ok (.isub, 1) := by decide +kernel
theorem dX3_digit_68 : decode cX3_digit 68 = .ok (.iaload, 1) := by decide +kernel
theorem dX3_digit_69 : decode cX3_digit 69 = .ok (.bipush 10, 2) := by decide +kernel
theorem dX3_digit_71 : decode cX3_digit 71 = .ok (.imul, 1) := by decide +kernel
theorem dX3_digit_72 : decode cX3_digit 72 = .ok (.iload_n 1, 1) := by decide +kernel
theorem dX3_digit_73 : decode cX3_digit 73 = .ok (.iadd, 1) := by decide +kernel
theorem dX3_digit_74 : decode cX3_digit 74 = .ok (.iastore, 1) := by decide +kernel
theorem dX3_digit_75 : decode cX3_digit 75 = .ok (.aload_n 0, 1) := by decide +kernel
theorem dX3_digit_76 : decode cX3_digit 76 = .ok (.dup, 1) := by decide +kernel
theorem dX3_digit_77 : decode cX3_digit 77 = .ok (.getfield 31, 3) := by decide +kernel
theorem dX3_digit_80 : decode cX3_digit 80 = .ok (.iconst 1, 1) := by decide +kernel
theorem dX3_digit_81 : decode cX3_digit 81 = .ok (.iadd, 1) := by decide +kernel
theorem dX3_digit_82 : decode cX3_digit 82 = .ok (.putfield 31, 3) := by decide +kernel
theorem dX3_digit_85 : decode cX3_digit 85 = .ok (.iconst 1, 1) := by decide +kernel
theorem dX3_digit_86 : decode cX3_digit 86 = .ok (.ireturn, 1) := by decide +kernel
theorem dX3_opens_0 : decode cX3_opens 0 = .ok (.iload_n 1, 1) := by decide +kernel
theorem dX3_opens_1 : decode cX3_opens 1 = .ok (.bipush 33, 2) := by decide +kernel
theorem dX3_opens_3 : decode cX3_opens 3 = .ok (.if_icmp .eq 9, 3) := by decide +kernel
theorem dX3_opens_6 : decode cX3_opens 6 = .ok (.iload_n 1, 1) := by decide +kernel
theorem dX3_opens_7 : decode cX3_opens 7 = .ok (.bipush 40, 2) := by decide +kernel
theorem dX3_opens_9 : decode cX3_opens 9 = .ok (.if_icmp .ne 50, 3) := by decide +kernel
theorem dX3_opens_12 : decode cX3_opens 12 = .ok (.aload_n 0, 1) := by decide +kernel
theorem dX3_opens_13 : decode cX3_opens 13 = .ok (.getfield 25, 3) := by decide +kernel
theorem dX3_opens_16 : decode cX3_opens 16 = .ok (.iconst 5, 1) := by decide +kernel
theorem dX3_opens_17 : decode cX3_opens 17 = .ok (.if_icmp .lt 5, 3) := by decide +kernel
theorem dX3_opens_20 : decode cX3_opens 20 = .ok (.iconst 0, 1) := by decide +kernel
theorem dX3_opens_21 : decode cX3_opens 21 = .ok (.ireturn, 1) := by decide +kernel
theorem dX3_opens_22 : decode cX3_opens 22 = .ok (.aload_n 0, 1) := by decide +kernel
theorem dX3_opens_23 : decode cX3_opens 23 = .ok (.dup, 1) := by decide +kernel
theorem dX3_opens_24 : decode cX3_opens 24 = .ok (.getfield 25, 3) := by decide +kernel
theorem dX3_opens_27 : decode cX3_opens 27 = .ok (.iconst 1, 1) := by decide +kernel
theorem dX3_opens_28 : decode cX3_opens 28 = .ok (.iadd, 1) := by decide +kernel
theorem dX3_opens_29 : decode cX3_opens 29 = .ok (.putfield 25, 3) := by decide +kernel
theorem dX3_opens_32 : decode cX3_opens 32 = .ok (.aload_n 0, 1) := by decide +kernel
theorem dX3_opens_33 : decode cX3_opens 33 = .ok (.dup, 1) := by decide +kernel
theorem dX3_opens_34 : decode cX3_opens 34 = .ok (.getfield 28, 3) := by decide +kernel
theorem dX3_opens_37 : decode cX3_opens 37 = .ok (.iload_n 1, 1) := by decide +kernel
theorem dX3_opens_38 : decode cX3_opens 38 = .ok (.bipush 40, 2) := by decide +kernel
theorem dX3_opens_40 : decode cX3_opens 40 = .ok (.if_icmp .ne 7, 3) := by decide +kernel
theorem dX3_opens_43 : decode cX3_opens 43 = .ok (.iconst 1, 1) := by decide +kernel
theorem dX3_opens_44 : decode cX3_opens 44 = .ok (.goto 4, 3) := by decide +kernel
theorem dX3_opens_47 : decode cX3_opens 47 = .ok (.iconst 0, 1) := by decide +kernel
theorem dX3_opens_48 : decode cX3_opens 48 = .ok (.iadd, 1) := by decide +kernel
theorem dX3_opens_49 : decode cX3_opens 49 = .ok (.putfield 28, 3) := by decide +kernel
theorem dX3_opens_52 : decode cX3_opens 52 = .ok (.aload_n 0, 1) := by decide +kernel
theorem dX3_opens_53 : decode cX3_opens 53 = .ok (.iload_n 1, 1) := by decide +kernel
theorem dX3_opens_54 : decode cX3_opens 54 = .ok (.invokevirtual 59, 3) := by decide +kernel
theorem dX3_opens_57 : decode cX3_opens 57 = .ok (.iconst 1, 1) := by decide +kernel
theorem dX3_opens_58 : decode cX3_opens 58 = .ok (.ireturn, 1) := by decide +kernel
theorem dX3_opens_59 : decode cX3_opens 59 = .ok (.iload_n 2, 1) := by decide +kernel
theorem dX3_opens_60 : decode cX3_opens 60 = .ok (.ifCond .ne 8, 3) := by decide +kernel
theorem dX3_opens_63 : decode cX3_opens 63 = .ok (.ldc 62, 2) := by decide +kernel
theorem dX3_opens_65 : decode cX3_opens 65 = .ok (.goto 5, 3) := by decide +kernel
theorem dX3_opens_68 : decode cX3_opens 68 = .ok (.ldc 64, 2) := by decide +kernel
theorem dX3_opens_70 : decode cX3_opens 70 = .ok (.iload_n 1, 1) := by decide +kernel
theorem dX3_opens_71 : decode cX3_opens 71 = .ok (.i2c, 1) := by decide +kernel
theorem dX3_opens_72 : decode cX3_opens 72 = .ok (.invokevirtual 66, 3) := by decide +kernel
theorem dX3_opens_75 : decode cX3_opens 75 = .ok (.istore_n 3, 1) := by decide +kernel
theorem dX3_opens_76 : decode cX3_opens 76 = .ok (.iload_n 3, 1) := by decide +kernel
theorem dX3_opens_77 : decode cX3_opens 77 = .ok (.ifCond .ge 5, 3) := by decide +kernel
theorem dX3_opens_80 : decode cX3_opens 80 = .ok (.iconst 0, 1) := by decide +kernel
theorem dX3_opens_81 : decode cX3_opens 81 = .ok (.ireturn, 1) := by decide +kernel
theorem dX3_opens_82 : decode cX3_opens 82 = .ok (.aload_n 0, 1) := by decide +kernel
theorem dX3_opens_83 : decode cX3_opens 83 = .ok (.sipush 10000, 3) := by decide +kernel
theorem dX3_opens_86 : decode cX3_opens 86 = .ok (.iload_n 3, 1) := by decide +kernel
theorem dX3_opens_87 : decode cX3_opens 87 = .ok (.iadd, 1) := by decide +kernel
theorem dX3_opens_88 : decode cX3_opens 88 = .ok (.invokevirtual 56, 3) := by decide +kernel
theorem dX3_opens_91 : decode cX3_opens 91 = .ok (.aload_n 0, 1) := by decide +kernel
theorem dX3_opens_92 : decode cX3_opens 92 = .ok (.iconst 0, 1) := by decide +kernel
theorem dX3_opens_93 : decode cX3_opens 93 = .ok (.putfield 34, 3) := by decide +kernel
theorem dX3_opens_96 : decode cX3_opens 96 = .ok (.iconst 1, 1) := by decide +kernel
theorem dX3_opens_97 : decode cX3_opens 97 = .ok (.ireturn, 1) := by decide +kernel
theorem dX3_follows_0 : decode cX3_follows 0 = .ok (.iload_n 1, 1) := by decide +kernel
theorem dX3_follows_1 : decode cX3_follows 1 = .ok (.bipush 41, 2) := by decide +kernel
theorem dX3_follows_3 : decode cX3_follows 3 = .ok (.if_icmp .ne 8, 3) := by decide +kernel
theorem dX3_follows_6 : decode cX3_follows 6 = .ok (.aload_n 0, 1) := by decide +kernel
theorem dX3_follows_7 : decode cX3_follows 7 = .ok (.invokevirtual 74, 3) := by decide +kernel
theorem dX3_follows_10 : decode cX3_follows 10 = .ok (.ireturn, 1) := by decide +kernel
theorem dX3_follows_11 : decode cX3_follows 11 = .ok (.iload_n 1, 1) := by decide +kernel
theorem dX3_follows_12 : decode cX3_follows 12 = .ok (.invokestatic 78, 3) := by decide +kernel
theorem dX3_follows_15 : decode cX3_follows 15 = .ok (.istore_n 2, 1) := by decide +kernel
theorem dX3_follows_16 : decode cX3_follows 16 = .ok (.iload_n 2, 1) := by decide +kernel
theorem dX3_follows_17 : decode cX3_follows 17 = .ok (.ifCond .ne 5, 3) := by decide +kernel
theorem dX3_follows_20 : decode cX3_follows 20 = .ok (.iconst 0, 1) := by decide +kernel
theorem dX3_follows_21 : decode cX3_follows 21 = .ok (.ireturn, 1) := by decide +kernel
theorem dX3_follows_22 : decode cX3_follows 22 = .ok (.aload_n 0, 1) := by decide +kernel
theorem dX3_follows_23 : decode cX3_follows 23 = .ok (.iload_n 2, 1) := by decide +kernel
theorem dX3_follows_24 : decode cX3_follows 24 = .ok (.iconst 3, 1) := by decide +kernel
theorem dX3_follows_25 : decode cX3_follows 25 = .ok (.if_icmp .ne 9, 3) := by decide +kernel
theorem dX3_follows_28 : decode cX3_follows 28 = .ok (.iload_n 2, 1) := by decide +kernel
theorem dX3_follows_29 : decode cX3_follows 29 = .ok (.iconst 1, 1) := by decide +kernel
theorem dX3_follows_30 : decode cX3_follows 30 = .ok (.iadd, 1) := by decide +kernel
theorem dX3_follows_31 : decode cX3_follows 31 = .ok (.goto 4, 3) := by decide +kernel
theorem dX3_follows_34 : decode cX3_follows 34 = .ok (.iload_n 2, 1) := by decide +kernel
theorem dX3_follows_35 : decode cX3_follows 35 = .ok (.invokevirtual 42, 3) := by decide +kernel
theorem dX3_follows_38 : decode cX3_follows 38 = .ok (.iload_n 2, 1) := by decide +kernel
theorem dX3_follows_39 : decode cX3_follows 39 = .ok (.iconst 3, 1) := by decide +kernel
theorem dX3_follows_40 : decode cX3_follows 40 = .ok (.if_icmp .ne 30, 3) := by decide +kernel
theorem dX3_follows_43 : decode cX3_follows 43 = .ok (.aload_n 0, 1) := by decide +kernel
theorem dX3_follows_44 : decode cX3_follows 44 = .ok (.getfield 22, 3) := by decide +kernel
theorem dX3_follows_47 : decode cX3_follows 47 = .ok (.ifCond .le 23, 3) := by decide +kernel
theorem dX3_follows_50 : decode cX3_follows 50 = .ok (.aload_n 0, 1) := by decide +kernel
theorem dX3_follows_51 : decode cX3_follows 51 = .ok (.getfield 15, 3) := by decide +kernel
theorem dX3_follows_54 : decode cX3_follows 54 = .ok (.aload_n 0, 1) := by decide +kernel
theorem dX3_follows_55 : decode cX3_follows 55 = .ok (.getfield 22, 3) := by decide +kernel
theorem dX3_follows_58 : decode cX3_follows 58 = .ok (.iconst 1, 1) := by decide +kernel
theorem dX3_follows_59 : decode cX3_follows 59 = .ok (.isub, 1) := by decide +kernel
theorem dX3_follows_60 : decode cX3_follows 60 = .ok (.iaload, 1) := by decide +kernel
theorem dX3_follows_61 : decode cX3_follows 61 = .ok (.invokestatic 78, 3) := by decide +kernel
theorem dX3_follows_64 : decode cX3_follows 64 = .ok (.iconst 3, 1) := by decide +kernel
theorem dX3_follows_65 : decode cX3_follows 65 = .ok (.if_icmp .ne 5, 3) := by decide +kernel
theorem dX3_follows_68 : decode cX3_follows 68 = .ok (.iconst 0, 1) := by decide +kernel
theorem dX3_follows_69 : decode cX3_follows 69 = .ok (.ireturn, 1) := by decide +kernel
theorem dX3_follows_70 : decode cX3_follows 70 = .ok (.aload_n 0, 1) := by decide +kernel
theorem dX3_follows_71 : decode cX3_follows 71 = .ok (.iload_n 1, 1) := by decide +kernel
theorem dX3_follows_72 : decode cX3_follows 72 = .ok (.invokevirtual 59, 3) := by decide +kernel
theorem dX3_follows_75 : decode cX3_follows 75 = .ok (.aload_n 0, 1) := by decide +kernel
theorem dX3_follows_76 : decode cX3_follows 76 = .ok (.iconst 1, 1) := by decide +kernel
theorem dX3_follows_77 : decode cX3_follows 77 = .ok (.putfield 34, 3) := by decide +kernel
theorem dX3_follows_80 : decode cX3_follows 80 = .ok (.iconst 1, 1) := by decide +kernel
theorem dX3_follows_81 : decode cX3_follows 81 = .ok (.ireturn, 1) := by decide +kernel
theorem dX3_closes_0 : decode cX3_closes 0 = .ok (.aload_n 0, 1) := by decide +kernel
theorem dX3_closes_1 : decode cX3_closes 1 = .ok (.getfield 28, 3) := by decide +kernel
theorem dX3_closes_4 : decode cX3_closes 4 = .ok (.ifCond .ne 5, 3) := by decide +kernel
theorem dX3_closes_7 : decode cX3_closes 7 = .ok (.iconst 0, 1) := by decide +kernel
theorem dX3_closes_8 : decode cX3_closes 8 = .ok (.ireturn, 1) := by decide +kernel
theorem dX3_closes_9 : decode cX3_closes 9 = .ok (.aload_n 0, 1) := by decide +kernel
theorem dX3_closes_10 : decode cX3_closes 10 = .ok (.iconst 1, 1) := by decide +kernel
theorem dX3_closes_11 : decode cX3_closes 11 = .ok (.invokevirtual 42, 3) := by decide +kernel
theorem dX3_closes_14 : decode cX3_closes 14 = .ok (.aload_n 0, 1) := by decide +kernel
theorem dX3_closes_15 : decode cX3_closes 15 = .ok (.getfield 22, 3) := by decide +kernel
theorem dX3_closes_18 : decode cX3_closes 18 = .ok (.ifCond .le 13, 3) := by decide +kernel
theorem dX3_closes_21 : decode cX3_closes 21 = .ok (.aload_n 0, 1) := by decide +kernel
theorem dX3_closes_22 : decode cX3_closes 22 = .ok (.dup, 1) := by decide +kernel
theorem dX3_closes_23 : decode cX3_closes 23 = .ok (.getfield 22, 3) := by decide +kernel
theorem dX3_closes_26 : decode cX3_closes 26 = .ok (.iconst 1, 1) := by decide +kernel
theorem dX3_closes_27 : decode cX3_closes 27 = .ok (.isub, 1) := by decide +kernel
theorem dX3_closes_28 : decode cX3_closes 28 = .ok (.putfield 22, 3) := by decide +kernel
theorem dX3_closes_31 : decode cX3_closes 31 = .ok (.aload_n 0, 1) := by decide +kernel
theorem dX3_closes_32 : decode cX3_closes 32 = .ok (.dup, 1) := by decide +kernel
theorem dX3_closes_33 : decode cX3_closes 33 = .ok (.getfield 28, 3) := by decide +kernel
theorem dX3_closes_36 : decode cX3_closes 36 = .ok (.iconst 1, 1) := by decide +kernel
theorem dX3_closes_37 : decode cX3_closes 37 = .ok (.isub, 1) := by decide +kernel
theorem dX3_closes_38 : decode cX3_closes 38 = .ok (.putfield 28, 3) := by decide +kernel
theorem dX3_closes_41 : decode cX3_closes 41 = .ok (.aload_n 0, 1) := by decide +kernel
theorem dX3_closes_42 : decode cX3_closes 42 = .ok (.dup, 1) := by decide +kernel
theorem dX3_closes_43 : decode cX3_closes 43 = .ok (.getfield 25, 3) := by decide +kernel
theorem dX3_closes_46 : decode cX3_closes 46 = .ok (.iconst 1, 1) := by decide +kernel
theorem dX3_closes_47 : decode cX3_closes 47 = .ok (.isub, 1) := by decide +kernel
theorem dX3_closes_48 : decode cX3_closes 48 = .ok (.putfield 25, 3) := by decide +kernel
theorem dX3_closes_51 : decode cX3_closes 51 = .ok (.iconst 1, 1) := by decide +kernel
theorem dX3_closes_52 : decode cX3_closes 52 = .ok (.ireturn, 1) := by decide +kernel
theorem dX3_writeSigns_0 : decode cX3_writeSigns 0 = .ok (.iconst 0, 1) := by decide +kernel
theorem dX3_writeSigns_1 : decode cX3_writeSigns 1 = .ok (.istore_n 2, 1) := by decide +kernel
theorem dX3_writeSigns_2 : decode cX3_writeSigns 2 = .ok (.iload_n 2, 1) := by decide +kernel
theorem dX3_writeSigns_3 : decode cX3_writeSigns 3 = .ok (.bipush 60, 2) := by decide +kernel
theorem dX3_writeSigns_5 : decode cX3_writeSigns 5 = .ok (.if_icmp .ge 79, 3) := by decide +kernel
theorem dX3_writeSigns_8 : decode cX3_writeSigns 8 = .ok (.aload_n 0, 1) := by decide +kernel
theorem dX3_writeSigns_9 : decode cX3_writeSigns 9 = .ok (.getfield 22, 3) := by decide +kernel
theorem dX3_writeSigns_12 : decode cX3_writeSigns 12 = .ok (.ifCond .le 72, 3) := by decide +kernel
theorem dX3_writeSigns_15 : decode cX3_writeSigns 15 = .ok (.aload_n 0, 1) := by decide +kernel
theorem dX3_writeSigns_16 : decode cX3_writeSigns 16 = .ok (.getfield 15, 3) := by decide +kernel
theorem dX3_writeSigns_19 : decode cX3_writeSigns 19 = .ok (.aload_n 0, 1) := by decide +kernel
theorem dX3_writeSigns_20 : decode cX3_writeSigns 20 = .ok (.getfield 22, 3) := by decide +kernel
theorem dX3_writeSigns_23 : decode cX3_writeSigns 23 = .ok (.iconst 1, 1) := by decide +kernel
theorem dX3_writeSigns_24 : decode cX3_writeSigns 24 = .ok (.isub, 1) := by decide +kernel
theorem dX3_writeSigns_25 : decode cX3_writeSigns 25 = .ok (.iaload, 1) := by decide +kernel
theorem dX3_writeSigns_26 : decode cX3_writeSigns 26 = .ok (.istore_n 3, 1) := by decide +kernel
theorem dX3_writeSigns_27 : decode cX3_writeSigns 27 = .ok (.iload_n 3, 1) := by decide +kernel
theorem dX3_writeSigns_28 : decode cX3_writeSigns 28 = .ok (.bipush 33, 2) := by decide +kernel
theorem dX3_writeSigns_30 : decode cX3_writeSigns 30 = .ok (.if_icmp .eq 12, 3) := by decide +kernel
theorem dX3_writeSigns_33 : decode cX3_writeSigns 33 = .ok (.iload_n 3, 1) := by decide +kernel
theorem dX3_writeSigns_34 : decode cX3_writeSigns 34 = .ok (.invokestatic 78, 3) := by decide +kernel
theorem dX3_writeSigns_37 : decode cX3_writeSigns 37 = .ok (.iload_n 1, 1) := by decide +kernel
theorem dX3_writeSigns_38 : decode cX3_writeSigns 38 = .ok (.if_icmp .ge 4, 3) := by decide +kernel
theorem dX3_writeSigns_41 : decode cX3_writeSigns 41 = .ok (.return_, 1) := by decide +kernel
theorem dX3_writeSigns_42 : decode cX3_writeSigns 42 = .ok (.aload_n 0, 1) := by decide +kernel
theorem dX3_writeSigns_43 : decode cX3_writeSigns 43 = .ok (.dup, 1) := by decide +kernel
theorem dX3_writeSigns_44 : decode cX3_writeSigns 44 = .ok (.getfield 25, 3) := by decide +kernel
theorem dX3_writeSigns_47 : decode cX3_writeSigns 47 = .ok (.iload_n 3, 1) := by decide +kernel
theorem dX3_writeSigns_48 : decode cX3_writeSigns 48 = .ok (.bipush 33, 2) := by decide +kernel
theorem dX3_writeSigns_50 : decode cX3_writeSigns 50 = .ok (.if_icmp .ne 7, 3) := by decide +kernel
theorem dX3_writeSigns_53 : decode cX3_writeSigns 53 = .ok (.iconst 1, 1) := by decide +kernel
theorem dX3_writeSigns_54 : decode cX3_writeSigns 54 = .ok (.goto 4, 3) := by decide +kernel
theorem dX3_writeSigns_57 : decode cX3_writeSigns 57 = .ok (.iconst 0, 1) := by decide +kernel
theorem dX3_writeSigns_58 : decode cX3_writeSigns 58 = .ok (.isub, 1) := by decide +kernel
theorem dX3_writeSigns_59 : decode cX3_writeSigns 59 = .ok (.putfield 25, 3) := by decide +kernel
theorem dX3_writeSigns_62 : decode cX3_writeSigns 62 = .ok (.aload_n 0, 1) := by decide +kernel
theorem dX3_writeSigns_63 : decode cX3_writeSigns 63 = .ok (.dup, 1) := by decide +kernel
theorem dX3_writeSigns_64 : decode cX3_writeSigns 64 = .ok (.getfield 22, 3) := by decide +kernel
theorem dX3_writeSigns_67 : decode cX3_writeSigns 67 = .ok (.iconst 1, 1) := by decide +kernel
theorem dX3_writeSigns_68 : decode cX3_writeSigns 68 = .ok (.isub, 1) := by decide +kernel
theorem dX3_writeSigns_69 : decode cX3_writeSigns 69 = .ok (.putfield 22, 3) := by decide +kernel
theorem dX3_writeSigns_72 : decode cX3_writeSigns 72 = .ok (.aload_n 0, 1) := by decide +kernel
theorem dX3_writeSigns_73 : decode cX3_writeSigns 73 = .ok (.iload_n 3, 1) := by decide +kernel
theorem dX3_writeSigns_74 : decode cX3_writeSigns 74 = .ok (.ineg, 1) := by decide +kernel
theorem dX3_writeSigns_75 : decode cX3_writeSigns 75 = .ok (.invokevirtual 56, 3) := by decide +kernel
theorem dX3_writeSigns_78 : decode cX3_writeSigns 78 = .ok (.iinc 2 1, 3) := by decide +kernel
theorem dX3_writeSigns_81 : decode cX3_writeSigns 81 = .ok (.goto (-79), 3) := by decide +kernel
theorem dX3_writeSigns_84 : decode cX3_writeSigns 84 = .ok (.return_, 1) := by decide +kernel
theorem dX3_write_0 : decode cX3_write 0 = .ok (.aload_n 0, 1) := by decide +kernel
theorem dX3_write_1 : decode cX3_write 1 = .ok (.getfield 18, 3) := by decide +kernel
theorem dX3_write_4 : decode cX3_write 4 = .ok (.bipush 60, 2) := by decide +kernel
theorem dX3_write_6 : decode cX3_write 6 = .ok (.if_icmp .ge 23, 3) := by decide +kernel
theorem dX3_write_9 : decode cX3_write 9 = .ok (.aload_n 0, 1) := by decide +kernel
theorem dX3_write_10 : decode cX3_write 10 = .ok (.getfield 9, 3) := by decide +kernel
theorem dX3_write_13 : decode cX3_write 13 = .ok (.aload_n 0, 1) := by decide +kernel
theorem dX3_write_14 : decode cX3_write 14 = .ok (.getfield 18, 3) := by decide +kernel
theorem dX3_write_17 : decode cX3_write 17 = .ok (.iload_n 1, 1) := by decide +kernel
theorem dX3_write_18 : decode cX3_write 18 = .ok (.iastore, 1) := by decide +kernel
theorem dX3_write_19 : decode cX3_write 19 = .ok (.aload_n 0, 1) := by decide +kernel
theorem dX3_write_20 : decode cX3_write 20 = .ok (.dup, 1) := by decide +kernel
theorem dX3_write_21 : decode cX3_write 21 = .ok (.getfield 18, 3) := by decide +kernel
theorem dX3_write_24 : decode cX3_write 24 = .ok (.iconst 1, 1) := by decide +kernel
theorem dX3_write_25 : decode cX3_write 25 = .ok (.iadd, 1) := by decide +kernel
theorem dX3_write_26 : decode cX3_write 26 = .ok (.putfield 18, 3) := by decide +kernel
theorem dX3_write_29 : decode cX3_write 29 = .ok (.return_, 1) := by decide +kernel
theorem dX3_hold_0 : decode cX3_hold 0 = .ok (.aload_n 0, 1) := by decide +kernel
theorem dX3_hold_1 : decode cX3_hold 1 = .ok (.getfield 22, 3) := by decide +kernel
theorem dX3_hold_4 : decode cX3_hold 4 = .ok (.bipush 60, 2) := by decide +kernel
theorem dX3_hold_6 : decode cX3_hold 6 = .ok (.if_icmp .ge 23, 3) := by decide +kernel
theorem dX3_hold_9 : decode cX3_hold 9 = .ok (.aload_n 0, 1) := by decide +kernel
theorem dX3_hold_10 : decode cX3_hold 10 = .ok (.getfield 15, 3) := by decide +kernel
theorem dX3_hold_13 : decode cX3_hold 13 = .ok (.aload_n 0, 1) := by decide +kernel
theorem dX3_hold_14 : decode cX3_hold 14 = .ok (.getfield 22, 3) := by decide +kernel
theorem dX3_hold_17 : decode cX3_hold 17 = .ok (.iload_n 1, 1) := by decide +kernel
theorem dX3_hold_18 : decode cX3_hold 18 = .ok (.iastore, 1) := by decide +kernel
theorem dX3_hold_19 : decode cX3_hold 19 = .ok (.aload_n 0, 1) := by decide +kernel
theorem dX3_hold_20 : decode cX3_hold 20 = .ok (.dup, 1) := by decide +kernel
theorem dX3_hold_21 : decode cX3_hold 21 = .ok (.getfield 22, 3) := by decide +kernel
theorem dX3_hold_24 : decode cX3_hold 24 = .ok (.iconst 1, 1) := by decide +kernel
theorem dX3_hold_25 : decode cX3_hold 25 = .ok (.iadd, 1) := by decide +kernel
theorem dX3_hold_26 : decode cX3_hold 26 = .ok (.putfield 22, 3) := by decide +kernel
theorem dX3_hold_29 : decode cX3_hold 29 = .ok (.return_, 1) := by decide +kernel
theorem dX3_rankOf_0 : decode cX3_rankOf 0 = .ok (.iload_n 0, 1) := by decide +kernel
theorem dX3_rankOf_1 : decode cX3_rankOf 1 = .ok (.lookupswitch 101 #[(37, 99), (38, 93), (42, 99), (43, 97), (45, 97), (47, 99), (60, 95), (61, 95), (62, 95), (124, 91)], 91) := by decide +kernel
theorem dX3_rankOf_92 : decode cX3_rankOf 92 = .ok (.iconst 1, 1) := by decide +kernel
theorem dX3_rankOf_93 : decode cX3_rankOf 93 = .ok (.ireturn, 1) := by decide +kernel
theorem dX3_rankOf_94 : decode cX3_rankOf 94 = .ok (.iconst 2, 1) := by decide +kernel
theorem dX3_rankOf_95 : decode cX3_rankOf 95 = .ok (.ireturn, 1) := by decide +kernel
theorem dX3_rankOf_96 : decode cX3_rankOf 96 = .ok (.iconst 3, 1) := by decide +kernel
theorem dX3_rankOf_97 : decode cX3_rankOf 97 = .ok (.ireturn, 1) := by decide +kernel
theorem dX3_rankOf_98 : decode cX3_rankOf 98 = .ok (.iconst 4, 1) := by decide +kernel
theorem dX3_rankOf_99 : decode cX3_rankOf 99 = .ok (.ireturn, 1) := by decide +kernel
theorem dX3_rankOf_100 : decode cX3_rankOf 100 = .ok (.iconst 5, 1) := by decide +kernel
theorem dX3_rankOf_101 : decode cX3_rankOf 101 = .ok (.ireturn, 1) := by decide +kernel
theorem dX3_rankOf_102 : decode cX3_rankOf 102 = .ok (.iconst 0, 1) := by decide +kernel
theorem dX3_rankOf_103 : decode cX3_rankOf 103 = .ok (.ireturn, 1) := by decide +kernel
theorem dX4_init_0 : decode cX4_init 0 = .ok (.aload_n 0, 1) := by decide +kernel
theorem dX4_init_1 : decode cX4_init 1 = .ok (.invokespecial 3, 3) := by decide +kernel
theorem dX4_init_4 : decode cX4_init 4 = .ok (.aload_n 0, 1) := by decide +kernel
theorem dX4_init_5 : decode cX4_init 5 = .ok (.iconst 4, 1) := by decide +kernel
theorem dX4_init_6 : decode cX4_init 6 = .ok (.bipush 24, 2) := by decide +kernel
theorem dX4_init_8 : decode cX4_init 8 = .ok (.multianewarray 11 2, 4) := by decide +kernel
theorem dX4_init_12 : decode cX4_init 12 = .ok (.putfield 13, 3) := by decide +kernel
theorem dX4_init_15 : decode cX4_init 15 = .ok (.aload_n 0, 1) := by decide +kernel
theorem dX4_init_16 : decode cX4_init 16 = .ok (.iconst 4, 1) := by decide +kernel
theorem dX4_init_17 : decode cX4_init 17 = .ok (.newarray .int, 2) := by decide +kernel
theorem dX4_init_19 : decode cX4_init 19 = .ok (.putfield 16, 3) := by decide +kernel
theorem dX4_init_22 : decode cX4_init 22 = .ok (.aload_n 0, 1) := by decide +kernel
theorem dX4_init_23 : decode cX4_init 23 = .ok (.iconst 4, 1) := by decide +kernel
theorem dX4_init_24 : decode cX4_init 24 = .ok (.newarray .int, 2) := by decide +kernel
theorem dX4_init_26 : decode cX4_init 26 = .ok (.putfield 20, 3) := by decide +kernel
theorem dX4_init_29 : decode cX4_init 29 = .ok (.return_, 1) := by decide +kernel
theorem dX4_isMissing_0 : decode cX4_isMissing 0 = .ok (.aload_n 0, 1) := by decide +kernel
theorem dX4_isMissing_1 : decode cX4_isMissing 1 = .ok (.getfield 16, 3) := by decide +kernel
theorem dX4_isMissing_4 : decode cX4_isMissing 4 = .ok (.iload_n 1, 1) := by decide +kernel
theorem dX4_isMissing_5 : decode cX4_isMissing 5 = .ok (.iaload, 1) := by decide +kernel
theorem dX4_isMissing_6 : decode cX4_isMissing 6 = .ok (.ifCond .ne 7, 3) := by decide +kernel
theorem dX4_isMissing_9 : decode cX4_isMissing 9 = .ok (.iconst 1, 1) := by decide +kernel
theorem dX4_isMissing_10 : decode cX4_isMissing 10 = .ok (.goto 4, 3) := by decide +kernel
theorem dX4_isMissing_13 : decode cX4_isMissing 13 = .ok (.iconst 0, 1) := by decide +kernel
theorem dX4_isMissing_14 : decode cX4_isMissing 14 = .ok (.ireturn, 1) := by decide +kernel
theorem dX4_begin_0 : decode cX4_begin 0 = .ok (.iconst 0, 1) := by decide +kernel
theorem dX4_begin_1 : decode cX4_begin 1 = .ok (.istore 4, 2) := by decide +kernel
theorem dX4_begin_3 : decode cX4_begin 3 = .ok (.iload 4, 2) := by decide +kernel
theorem dX4_begin_5 : decode cX4_begin 5 = .ok (.bipush 24, 2) := by decide +kernel
theorem dX4_begin_7 : decode cX4_begin 7 = .ok (.if_icmp .ge 19, 3) := by decide +kernel
theorem dX4_begin_10 : decode cX4_begin 10 = .ok (.aload_n 0, 1) := by decide +kernel
theorem dX4_begin_11 : decode cX4_begin 11 = .ok (.getfield 13, 3) := by decide +kernel
theorem dX4_begin_14 : decode cX4_begin 14 = .ok (.iload_n 1, 1) := by decide +kernel
theorem dX4_begin_15 : decode cX4_begin 15 = .ok (.aaload, 1) := by decide +kernel
theorem dX4_begin_16 : decode cX4_begin 16 = .ok (.iload 4, 2) := by decide +kernel
theorem dX4_begin_18 : decode cX4_begin 18 = .ok (.iconst 0, 1) := by decide +kernel
theorem dX4_begin_19 : decode cX4_begin 19 = .ok (.iastore, 1) := by decide +kernel
theorem dX4_begin_20 : decode cX4_begin 20 = .ok (.iinc 4 1, 3) := by decide +kernel
theorem dX4_begin_23 : decode cX4_begin 23 = .ok (.goto (-20), 3) := by decide +kernel
theorem dX4_begin_26 : decode cX4_begin 26 = .ok (.aload_n 0, 1) := by decide +kernel
theorem dX4_begin_27 : decode cX4_begin 27 = .ok (.getfield 16, 3) := by decide +kernel
theorem dX4_begin_30 : decode cX4_begin 30 = .ok (.iload_n 1, 1) := by decide +kernel
theorem dX4_begin_31 : decode cX4_begin 31 = .ok (.iload_n 2, 1) := by decide +kernel
theorem dX4_begin_32 : decode cX4_begin 32 = .ok (.iastore, 1) := by decide +kernel
theorem dX4_begin_33 : decode cX4_begin 33 = .ok (.aload_n 0, 1) := by decide +kernel
theorem dX4_begin_34 : decode cX4_begin 34 = .ok (.getfield 20, 3) := by decide +kernel
theorem dX4_begin_37 : decode cX4_begin 37 = .ok (.iload_n 1, 1) := by decide +kernel
theorem dX4_begin_38 : decode cX4_begin 38 = .ok (.iload_n 3, 1) := by decide +kernel
theorem dX4_begin_39 : decode cX4_begin 39 = .ok (.iastore, 1) := by decide +kernel
theorem dX4_begin_40 : decode cX4_begin 40 = .ok (.return_, 1) := by decide +kernel
theorem dX4_lowest_0 : decode cX4_lowest 0 = .ok (.aload_n 0, 1) := by decide +kernel
theorem dX4_lowest_1 : decode cX4_lowest 1 = .ok (.getfield 16, 3) := by decide +kernel
theorem dX4_lowest_4 : decode cX4_lowest 4 = .ok (.iload_n 1, 1) := by decide +kernel
theorem dX4_lowest_5 : decode cX4_lowest 5 = .ok (.iaload, 1) := by decide +kernel
theorem dX4_lowest_6 : decode cX4_lowest 6 = .ok (.lookupswitch 32 #[(8, 26), (16, 29)], 26) := by decide +kernel
theorem dX4_lowest_32 : decode cX4_lowest 32 = .ok (.iload_n 2, 1) := by decide +kernel
theorem dX4_lowest_33 : decode cX4_lowest 33 = .ok (.i2b, 1) := by decide +kernel
theorem dX4_lowest_34 : decode cX4_lowest 34 = .ok (.ireturn, 1) := by decide +kernel
theorem dX4_lowest_35 : decode cX4_lowest 35 = .ok (.iload_n 2, 1) := by decide +kernel
theorem dX4_lowest_36 : decode cX4_lowest 36 = .ok (.i2s, 1) := by decide +kernel
theorem dX4_lowest_37 : decode cX4_lowest 37 = .ok (.ireturn, 1) := by decide +kernel
theorem dX4_lowest_38 : decode cX4_lowest 38 = .ok (.iload_n 2, 1) := by decide +kernel
theorem dX4_lowest_39 : decode cX4_lowest 39 = .ok (.ireturn, 1) := by decide +kernel
theorem dX4_stand_0 : decode cX4_stand 0 = .ok (.iload_n 2, 1) := by decide +kernel
theorem dX4_stand_1 : decode cX4_stand 1 = .ok (.ifCond .lt 33, 3) := by decide +kernel
theorem dX4_stand_4 : decode cX4_stand 4 = .ok (.iload_n 3, 1) := by decide +kernel
theorem dX4_stand_5 : decode cX4_stand 5 = .ok (.ifCond .lt 29, 3) := by decide +kernel
theorem dX4_stand_8 : decode cX4_stand 8 = .ok (.iload_n 3, 1) := by decide +kernel
theorem dX4_stand_9 : decode cX4_stand 9 = .ok (.aload_n 0, 1) := by decide +kernel
theorem dX4_stand_10 : decode cX4_stand 10 = .ok (.getfield 20, 3) := by decide +kernel
theorem dX4_stand_13 : decode cX4_stand 13 = .ok (.iload_n 1, 1) := by decide +kernel
theorem dX4_stand_14 : decode cX4_stand 14 = .ok (.iaload, 1) := by decide +kernel
theorem dX4_stand_15 : decode cX4_stand 15 = .ok (.if_icmp .gt 19, 3) := by decide +kernel
theorem dX4_stand_18 : decode cX4_stand 18 = .ok (.iload_n 2, 1) := by decide +kernel
theorem dX4_stand_19 : decode cX4_stand 19 = .ok (.aload_n 0, 1) := by decide +kernel
theorem dX4_stand_20 : decode cX4_stand 20 = .ok (.getfield 20, 3) := by decide +kernel
theorem dX4_stand_23 : decode cX4_stand 23 = .ok (.iload_n 1, 1) := by decide +kernel
theorem dX4_stand_24 : decode cX4_stand 24 = .ok (.iaload, 1) := by decide +kernel
theorem dX4_stand_25 : decode cX4_stand 25 = .ok (.iload_n 3, 1) := by decide +kernel
theorem dX4_stand_26 : decode cX4_stand 26 = .ok (.isub, 1) := by decide +kernel
theorem dX4_stand_27 : decode cX4_stand 27 = .ok (.if_icmp .gt 7, 3) := by decide +kernel
theorem dX4_stand_30 : decode cX4_stand 30 = .ok (.iconst 1, 1) := by decide +kernel
theorem dX4_stand_31 : decode cX4_stand 31 = .ok (.goto 4, 3) := by decide +kernel
theorem dX4_stand_34 : decode cX4_stand 34 = .ok (.iconst 0, 1) := by decide +kernel
theorem dX4_stand_35 : decode cX4_stand 35 = .ok (.ireturn, 1) := by decide +kernel
theorem dX5_init_0 : decode cX5_init 0 = .ok (.aload_n 0, 1) := by decide +kernel
theorem dX5_init_1 : decode cX5_init 1 = .ok (.invokespecial 3, 3) := by decide +kernel
theorem dX5_init_4 : decode cX5_init 4 = .ok (.aload_n 0, 1) := by decide +kernel
theorem dX5_init_5 : decode cX5_init 5 = .ok (.bipush 30, 2) := by decide +kernel
theorem dX5_init_7 : decode cX5_init 7 = .ok (.newarray .int, 2) := by decide +kernel
theorem dX5_init_9 : decode cX5_init 9 = .ok (.putfield 9, 3) := by decide +kernel
theorem dX5_init_12 : decode cX5_init 12 = .ok (.return_, 1) := by decide +kernel
theorem dX5_answer_0 : decode cX5_answer 0 = .ok (.aload_n 0, 1) := by decide +kernel
theorem dX5_answer_1 : decode cX5_answer 1 = .ok (.iload_n 1, 1) := by decide +kernel
theorem dX5_answer_2 : decode cX5_answer 2 = .ok (.putfield 15, 3) := by decide +kernel
theorem dX5_answer_5 : decode cX5_answer 5 = .ok (.aload_n 0, 1) := by decide +kernel
theorem dX5_answer_6 : decode cX5_answer 6 = .ok (.iload_n 2, 1) := by decide +kernel
theorem dX5_answer_7 : decode cX5_answer 7 = .ok (.putfield 19, 3) := by decide +kernel
theorem dX5_answer_10 : decode cX5_answer 10 = .ok (.aload_n 0, 1) := by decide +kernel
theorem dX5_answer_11 : decode cX5_answer 11 = .ok (.iload_n 3, 1) := by decide +kernel
theorem dX5_answer_12 : decode cX5_answer 12 = .ok (.putfield 22, 3) := by decide +kernel
theorem dX5_answer_15 : decode cX5_answer 15 = .ok (.aload_n 0, 1) := by decide +kernel
theorem dX5_answer_16 : decode cX5_answer 16 = .ok (.iconst 0, 1) := by decide +kernel
theorem dX5_answer_17 : decode cX5_answer 17 = .ok (.putfield 25, 3) := by decide +kernel
theorem dX5_answer_20 : decode cX5_answer 20 = .ok (.aload_n 0, 1) := by decide +kernel
theorem dX5_answer_21 : decode cX5_answer 21 = .ok (.iconst 0, 1) := by decide +kernel
theorem dX5_answer_22 : decode cX5_answer 22 = .ok (.putfield 28, 3) := by decide +kernel
theorem dX5_answer_25 : decode cX5_answer 25 = .ok (.aload_n 0, 1) := by decide +kernel
theorem dX5_answer_26 : decode cX5_answer 26 = .ok (.aload_n 0, 1) := by decide +kernel
theorem dX5_answer_27 : decode cX5_answer 27 = .ok (.getfield 15, 3) := by decide +kernel
theorem dX5_answer_30 : decode cX5_answer 30 = .ok (.iload 4, 2) := by decide +kernel
theorem dX5_answer_32 : decode cX5_answer 32 = .ok (.iload 5, 2) := by decide +kernel
theorem dX5_answer_34 : decode cX5_answer 34 = .ok (.iconst 0, 1) := by decide +kernel
theorem dX5_answer_35 : decode cX5_answer 35 = .ok (.invokevirtual 32, 3) := by decide +kernel
theorem dX5_answer_38 : decode cX5_answer 38 = .ok (.ireturn, 1) := by decide +kernel
theorem dX5_speak_0 : decode cX5_speak 0 = .ok (.iload 4, 2) := by decide +kernel
theorem dX5_speak_2 : decode cX5_speak 2 = .ok (.bipush 40, 2) := by decide +kernel
theorem dX5_speak_4 : decode cX5_speak 4 = .ok (.if_icmp .gt 12, 3) := by decide +kernel
theorem dX5_speak_7 : decode cX5_speak 7 = .ok (.iload_n 2, 1) := by decide +kernel
theorem dX5_speak_8 : decode cX5_speak 8 = .ok (.ifCond .lt 8, 3) := by decide +kernel
theorem dX5_speak_11 : decode cX5_speak 11 = .ok (.iload_n 2, 1) := by decide +kernel
theorem dX5_speak_12 : decode cX5_speak 12 = .ok (.iconst 3, 1) := by decide +kernel
theorem dX5_speak_13 : decode cX5_speak 13 = .ok (.if_icmp .le 5, 3) := by decide +kernel
theorem dX5_speak_16 : decode cX5_speak 16 = .ok (.iconst 0, 1) := by decide +kernel
theorem dX5_speak_17 : decode cX5_speak 17 = .ok (.ireturn, 1) := by decide +kernel
theorem dX5_speak_18 : decode cX5_speak 18 = .ok (.iload_n 1, 1) := by decide +kernel
theorem dX5_speak_19 : decode cX5_speak 19 = .ok (.istore 5, 2) := by decide +kernel
theorem dX5_speak_21 : decode cX5_speak 21 = .ok (.iconst 0, 1) := by decide +kernel
theorem dX5_speak_22 : decode cX5_speak 22 = .ok (.istore 6, 2) := by decide +kernel
theorem dX5_speak_24 : decode cX5_speak 24 = .ok (.iload 6, 2) := by decide +kernel
theorem dX5_speak_26 : decode cX5_speak 26 = .ok (.bipush 7, 2) := by decide +kernel
theorem dX5_speak_28 : decode cX5_speak 28 = .ok (.if_icmp .ge 30, 3) := by decide +kernel
theorem dX5_speak_31 : decode cX5_speak 31 = .ok (.getstatic 36, 3) := by decide +kernel
theorem dX5_speak_34 : decode cX5_speak 34 = .ok (.iconst 4, 1) := by decide +kernel
theorem dX5_speak_35 : decode cX5_speak 35 = .ok (.iload 5, 2) := by decide +kernel
theorem dX5_speak_37 : decode cX5_speak 37 = .ok (.imul, 1) := by decide +kernel
theorem dX5_speak_38 : decode cX5_speak 38 = .ok (.iload_n 2, 1) := by decide +kernel
theorem dX5_speak_39 : decode cX5_speak 39 = .ok (.iadd, 1) := by decide +kernel
theorem dX5_speak_40 : decode cX5_speak 40 = .ok (.iaload, 1) := by decide +kernel
theorem dX5_speak_41 : decode cX5_speak 41 = .ok (.ifCond .ne 17, 3) := by decide +kernel
theorem dX5_speak_44 : decode cX5_speak 44 = .ok (.getstatic 39, 3) := by decide +kernel
theorem dX5_speak_47 : decode cX5_speak 47 = .ok (.iload 5, 2) := by decide +kernel
theorem dX5_speak_49 : decode cX5_speak 49 = .ok (.iaload, 1) := by decide +kernel
theorem dX5_speak_50 : decode cX5_speak 50 = .ok (.istore 5, 2) := by decide +kernel
theorem dX5_speak_52 : decode cX5_speak 52 = .ok (.iinc 6 1, 3) := by decide +kernel
theorem dX5_speak_55 : decode cX5_speak 55 = .ok (.goto (-31), 3) := by decide +kernel
theorem dX5_speak_58 : decode cX5_speak 58 = .ok (.getstatic 36, 3) := by decide +kernel
theorem dX5_speak_61 : decode cX5_speak 61 = .ok (.iconst 4, 1) := by decide +kernel
theorem dX5_speak_62 : decode cX5_speak 62 = .ok (.iload 5, 2) := by decide +kernel
theorem dX5_speak_64 : decode cX5_speak 64 = .ok (.imul, 1) := by decide +kernel
theorem dX5_speak_65 : decode cX5_speak 65 = .ok (.iload_n 2, 1) := by decide +kernel
theorem dX5_speak_66 : decode cX5_speak 66 = .ok (.iadd, 1) := by decide +kernel
theorem dX5_speak_67 : decode cX5_speak 67 = .ok (.iaload, 1) := by decide +kernel
theorem dX5_speak_68 : decode cX5_speak 68 = .ok (.istore 6, 2) := by decide +kernel
theorem dX5_speak_70 : decode cX5_speak 70 = .ok (.aload_n 0, 1) := by decide +kernel
theorem dX5_speak_71 : decode cX5_speak 71 = .ok (.getfield 25, 3) := by decide +kernel
theorem dX5_speak_74 : decode cX5_speak 74 = .ok (.bipush 30, 2) := by decide +kernel
theorem dX5_speak_76 : decode cX5_speak 76 = .ok (.if_icmp .ge 24, 3) := by decide +kernel
theorem dX5_speak_79 : decode cX5_speak 79 = .ok (.aload_n 0, 1) := by decide +kernel
theorem dX5_speak_80 : decode cX5_speak 80 = .ok (.getfield 9, 3) := by decide +kernel
theorem dX5_speak_83 : decode cX5_speak 83 = .ok (.aload_n 0, 1) := by decide +kernel
theorem dX5_speak_84 : decode cX5_speak 84 = .ok (.getfield 25, 3) := by decide +kernel
theorem dX5_speak_87 : decode cX5_speak 87 = .ok (.iload 6, 2) := by decide +kernel
theorem dX5_speak_89 : decode cX5_speak 89 = .ok (.iastore, 1) := by decide +kernel
theorem dX5_speak_90 : decode cX5_speak 90 = .ok (.aload_n 0, 1) := by decide +kernel
theorem dX5_speak_91 : decode cX5_speak 91 = .ok (.dup, 1) := by decide +kernel
theorem dX5_speak_92 : decode cX5_speak 92 = .ok (.getfield 25, 3) := by decide +kernel
theorem dX5_speak_95 : decode cX5_speak 95 = .ok (.iconst 1, 1) := by decide +kernel
theorem dX5_speak_96 : decode cX5_speak 96 = .ok (.iadd, 1) := by decide +kernel
theorem dX5_speak_97 : decode cX5_speak 97 = .ok (.putfield 25, 3) := by decide +kernel
theorem dX5_speak_100 : decode cX5_speak 100 = .ok (.iload 6, 2) := by decide +kernel
theorem dX5_speak_102 : decode cX5_speak 102 = .ok (.bipush 20, 2) := by decide +kernel
theorem dX5_speak_104 : decode cX5_speak 104 = .ok (.if_icmp .ge 15, 3) := by decide +kernel
theorem dX5_speak_107 : decode cX5_speak 107 = .ok (.aload_n 0, 1) := by decide +kernel
theorem dX5_speak_108 : decode cX5_speak 108 = .ok (.iload 6, 2) := by decide +kernel
theorem dX5_speak_110 : decode cX5_speak 110 = .ok (.iload_n 3, 1) := by decide +kernel
theorem dX5_speak_111 : decode cX5_speak 111 = .ok (.iload 4, 2) := by decide +kernel
theorem dX5_speak_113 : decode cX5_speak 113 = .ok (.invokevirtual 42, 3) := by decide +kernel
theorem dX5_speak_116 : decode cX5_speak 116 = .ok (.goto 18, 3) := by decide +kernel
theorem dX5_speak_119 : decode cX5_speak 119 = .ok (.aload_n 0, 1) := by decide +kernel
theorem dX5_speak_120 : decode cX5_speak 120 = .ok (.iload 6, 2) := by decide +kernel
theorem dX5_speak_122 : decode cX5_speak 122 = .ok (.getstatic 39, 3) := by decide +kernel
theorem dX5_speak_125 : decode cX5_speak 125 = .ok (.iload 5, 2) := by decide +kernel
theorem dX5_speak_127 : decode cX5_speak 127 = .ok (.iaload, 1) := by decide +kernel
theorem dX5_speak_128 : decode cX5_speak 128 = .ok (.iload_n 3, 1) := by decide +kernel
theorem dX5_speak_129 : decode cX5_speak 129 = .ok (.iload 4, 2) := by decide +kernel
theorem dX5_speak_131 : decode cX5_speak 131 = .ok (.invokevirtual 46, 3) := by decide +kernel
theorem dX5_speak_134 : decode cX5_speak 134 = .ok (.ireturn, 1) := by decide +kernel
theorem dX5_ofWheel_0 : decode cX5_ofWheel 0 = .ok (.iload_n 1, 1) := by decide +kernel
theorem dX5_ofWheel_1 : decode cX5_ofWheel 1 = .ok (.tableswitch 69 10 12 #[27, 34, 50], 27) := by decide +kernel
theorem dX5_ofWheel_28 : decode cX5_ofWheel 28 = .ok (.iload_n 2, 1) := by decide +kernel
theorem dX5_ofWheel_29 : decode cX5_ofWheel 29 = .ok (.aload_n 0, 1) := by decide +kernel
theorem dX5_ofWheel_30 : decode cX5_ofWheel 30 = .ok (.getfield 19, 3) := by decide +kernel
theorem dX5_ofWheel_33 : decode cX5_ofWheel 33 = .ok (.iadd, 1) := by decide +kernel
theorem dX5_ofWheel_34 : decode cX5_ofWheel 34 = .ok (.ireturn, 1) := by decide +kernel
theorem dX5_ofWheel_35 : decode cX5_ofWheel 35 = .ok (.aload_n 0, 1) := by decide +kernel
theorem dX5_ofWheel_36 : decode cX5_ofWheel 36 = .ok (.aload_n 0, 1) := by decide +kernel
theorem dX5_ofWheel_37 : decode cX5_ofWheel 37 = .ok (.getfield 15, 3) := by decide +kernel
theorem dX5_ofWheel_40 : decode cX5_ofWheel 40 = .ok (.iconst 0, 1) := by decide +kernel
theorem dX5_ofWheel_41 : decode cX5_ofWheel 41 = .ok (.iload_n 2, 1) := by decide +kernel
theorem dX5_ofWheel_42 : decode cX5_ofWheel 42 = .ok (.iload_n 3, 1) := by decide +kernel
theorem dX5_ofWheel_43 : decode cX5_ofWheel 43 = .ok (.iconst 1, 1) := by decide +kernel
theorem dX5_ofWheel_44 : decode cX5_ofWheel 44 = .ok (.iadd, 1) := by decide +kernel
theorem dX5_ofWheel_45 : decode cX5_ofWheel 45 = .ok (.invokevirtual 32, 3) := by decide +kernel
theorem dX5_ofWheel_48 : decode cX5_ofWheel 48 = .ok (.iconst 2, 1) := by decide +kernel
theorem dX5_ofWheel_49 : decode cX5_ofWheel 49 = .ok (.imul, 1) := by decide +kernel
theorem dX5_ofWheel_50 : decode cX5_ofWheel 50 = .ok (.ireturn, 1) := by decide +kernel
theorem dX5_ofWheel_51 : decode cX5_ofWheel 51 = .ok (.aload_n 0, 1) := by decide +kernel
theorem dX5_ofWheel_52 : decode cX5_ofWheel 52 = .ok (.aload_n 0, 1) := by decide +kernel
theorem dX5_ofWheel_53 : decode cX5_ofWheel 53 = .ok (.getfield 15, 3) := by decide +kernel
theorem dX5_ofWheel_56 : decode cX5_ofWheel 56 = .ok (.iconst 1, 1) := by decide +kernel
theorem dX5_ofWheel_57 : decode cX5_ofWheel 57 = .ok (.iload_n 2, 1) := by decide +kernel
theorem dX5_ofWheel_58 : decode cX5_ofWheel 58 = .ok (.iload_n 3, 1) := by decide +kernel
theorem dX5_ofWheel_59 : decode cX5_ofWheel 59 = .ok (.iconst 1, 1) := by decide +kernel
theorem dX5_ofWheel_60 : decode cX5_ofWheel 60 = .ok (.iadd, 1) := by decide +kernel
theorem dX5_ofWheel_61 : decode cX5_ofWheel 61 = .ok (.invokevirtual 32, 3) := by decide +kernel
theorem dX5_ofWheel_64 : decode cX5_ofWheel 64 = .ok (.aload_n 0, 1) := by decide +kernel
theorem dX5_ofWheel_65 : decode cX5_ofWheel 65 = .ok (.getfield 22, 3) := by decide +kernel
theorem dX5_ofWheel_68 : decode cX5_ofWheel 68 = .ok (.isub, 1) := by decide +kernel
theorem dX5_ofWheel_69 : decode cX5_ofWheel 69 = .ok (.ireturn, 1) := by decide +kernel
theorem dX5_ofWheel_70 : decode cX5_ofWheel 70 = .ok (.aload_n 0, 1) := by decide +kernel
theorem dX5_ofWheel_71 : decode cX5_ofWheel 71 = .ok (.iload_n 2, 1) := by decide +kernel
theorem dX5_ofWheel_72 : decode cX5_ofWheel 72 = .ok (.aload_n 0, 1) := by decide +kernel
theorem dX5_ofWheel_73 : decode cX5_ofWheel 73 = .ok (.getfield 22, 3) := by decide +kernel
theorem dX5_ofWheel_76 : decode cX5_ofWheel 76 = .ok (.aload_n 0, 1) := by decide +kernel
theorem dX5_ofWheel_77 : decode cX5_ofWheel 77 = .ok (.getfield 19, 3) := by decide +kernel
theorem dX5_ofWheel_80 : decode cX5_ofWheel 80 = .ok (.isub, 1) := by decide +kernel
theorem dX5_ofWheel_81 : decode cX5_ofWheel 81 = .ok (.invokevirtual 49, 3) := by decide +kernel
theorem dX5_ofWheel_84 : decode cX5_ofWheel 84 = .ok (.ireturn, 1) := by decide +kernel
theorem dX5_divided_0 : decode cX5_divided 0 = .ok (.iload_n 2, 1) := by decide +kernel
theorem dX5_divided_1 : decode cX5_divided 1 = .ok (.ifCond .ne 10, 3) := by decide +kernel
theorem dX5_divided_4 : decode cX5_divided 4 = .ok (.aload_n 0, 1) := by decide +kernel
theorem dX5_divided_5 : decode cX5_divided 5 = .ok (.iconst 1, 1) := by decide +kernel
theorem dX5_divided_6 : decode cX5_divided 6 = .ok (.putfield 28, 3) := by decide +kernel
theorem dX5_divided_9 : decode cX5_divided 9 = .ok (.iconst 0, 1) := by decide +kernel
theorem dX5_divided_10 : decode cX5_divided 10 = .ok (.ireturn, 1) := by decide +kernel
theorem dX5_divided_11 : decode cX5_divided 11 = .ok (.iload_n 1, 1) := by decide +kernel
theorem dX5_divided_12 : decode cX5_divided 12 = .ok (.iload_n 2, 1) := by decide +kernel
theorem dX5_divided_13 : decode cX5_divided 13 = .ok (.idiv, 1) := by decide +kernel
theorem dX5_divided_14 : decode cX5_divided 14 = .ok (.ireturn, 1) := by decide +kernel
theorem dX5_ofOthers_0 : decode cX5_ofOthers 0 = .ok (.iload 4, 2) := by decide +kernel
theorem dX5_ofOthers_2 : decode cX5_ofOthers 2 = .ok (.iconst 1, 1) := by decide +kernel
theorem dX5_ofOthers_3 : decode cX5_ofOthers 3 = .ok (.iadd, 1) := by decide +kernel
theorem dX5_ofOthers_4 : decode cX5_ofOthers 4 = .ok (.istore 5, 2) := by decide +kernel
theorem dX5_ofOthers_6 : decode cX5_ofOthers 6 = .ok (.iload_n 1, 1) := by decide +kernel
theorem dX5_ofOthers_7 : decode cX5_ofOthers 7 = .ok (.lookupswitch 159 #[(20, 73), (21, 85), (30, 94), (40, 106), (50, 118), (51, 130), (60, 145), (70, 157)], 73) := by decide +kernel
theorem dX5_ofOthers_80 : decode cX5_ofOthers 80 = .ok (.aload_n 0, 1) := by decide +kernel
theorem dX5_ofOthers_81 : decode cX5_ofOthers 81 = .ok (.iload_n 2, 1) := by decide +kernel
theorem dX5_ofOthers_82 : decode cX5_ofOthers 82 = .ok (.iconst 0, 1) := by decide +kernel
theorem dX5_ofOthers_83 : decode cX5_ofOthers 83 = .ok (.iload_n 3, 1) := by decide +kernel
theorem dX5_ofOthers_84 : decode cX5_ofOthers 84 = .ok (.iload 5, 2) := by decide +kernel
theorem dX5_ofOthers_86 : decode cX5_ofOthers 86 = .ok (.invokevirtual 32, 3) := by decide +kernel
theorem dX5_ofOthers_89 : decode cX5_ofOthers 89 = .ok (.iconst 4, 1) := by decide +kernel
theorem dX5_ofOthers_90 : decode cX5_ofOthers 90 = .ok (.isub, 1) := by decide +kernel
theorem dX5_ofOthers_91 : decode cX5_ofOthers 91 = .ok (.ireturn, 1) := by decide +kernel
theorem dX5_ofOthers_92 : decode cX5_ofOthers 92 = .ok (.aload_n 0, 1) := by decide +kernel
theorem dX5_ofOthers_93 : decode cX5_ofOthers 93 = .ok (.iload_n 2, 1) := by decide +kernel
theorem dX5_ofOthers_94 : decode cX5_ofOthers 94 = .ok (.iload_n 3, 1) := by decide +kernel
theorem dX5_ofOthers_95 : decode cX5_ofOthers 95 = .ok (.iload 5, 2) := by decide +kernel
theorem dX5_ofOthers_97 : decode cX5_ofOthers 97 = .ok (.invokevirtual 53, 3) := by decide +kernel
theorem dX5_ofOthers_100 : decode cX5_ofOthers 100 = .ok (.ireturn, 1) := by decide +kernel
theorem dX5_ofOthers_101 : decode cX5_ofOthers 101 = .ok (.iconst 0, 1) := by decide +kernel
theorem dX5_ofOthers_102 : decode cX5_ofOthers 102 = .ok (.aload_n 0, 1) := by decide +kernel
theorem dX5_ofOthers_103 : decode cX5_ofOthers 103 = .ok (.iload_n 2, 1) := by decide +kernel
theorem dX5_ofOthers_104 : decode cX5_ofOthers 104 = .ok (.iconst 1, 1) := by decide +kernel
theorem dX5_ofOthers_105 : decode cX5_ofOthers 105 = .ok (.iload_n 3, 1) := by decide +kernel
theorem dX5_ofOthers_106 : decode cX5_ofOthers 106 = .ok (.iload 5, 2) := by decide +kernel
theorem dX5_ofOthers_108 : decode cX5_ofOthers 108 = .ok (.invokevirtual 32, 3) := by decide +kernel
theorem dX5_ofOthers_111 : decode cX5_ofOthers 111 = .ok (.isub, 1) := by decide +kernel
theorem dX5_ofOthers_112 : decode cX5_ofOthers 112 = .ok (.ireturn, 1) := by decide +kernel
theorem dX5_ofOthers_113 : decode cX5_ofOthers 113 = .ok (.aload_n 0, 1) := by decide +kernel
theorem dX5_ofOthers_114 : decode cX5_ofOthers 114 = .ok (.iload_n 2, 1) := by decide +kernel
theorem dX5_ofOthers_115 : decode cX5_ofOthers 115 = .ok (.iconst 2, 1) := by decide +kernel
theorem dX5_ofOthers_116 : decode cX5_ofOthers 116 = .ok (.iload_n 3, 1) := by decide +kernel
theorem dX5_ofOthers_117 : decode cX5_ofOthers 117 = .ok (.iconst 2, 1) := by decide +kernel
theorem dX5_ofOthers_118 : decode cX5_ofOthers 118 = .ok (.idiv, 1) := by decide +kernel
theorem dX5_ofOthers_119 : decode cX5_ofOthers 119 = .ok (.iload 5, 2) := by decide +kernel
theorem dX5_ofOthers_121 : decode cX5_ofOthers 121 = .ok (.invokevirtual 32, 3) := by decide +kernel
theorem dX5_ofOthers_124 : decode cX5_ofOthers 124 = .ok (.ireturn, 1) := by decide +kernel
theorem dX5_ofOthers_125 : decode cX5_ofOthers 125 = .ok (.aload_n 0, 1) := by decide +kernel
theorem dX5_ofOthers_126 : decode cX5_ofOthers 126 = .ok (.iload_n 2, 1) := by decide +kernel
theorem dX5_ofOthers_127 : decode cX5_ofOthers 127 = .ok (.iconst 0, 1) := by decide +kernel
theorem dX5_ofOthers_128 : decode cX5_ofOthers 128 = .ok (.iload_n 3, 1) := by decide +kernel
theorem dX5_ofOthers_129 : decode cX5_ofOthers 129 = .ok (.iload 5, 2) := by decide +kernel
theorem dX5_ofOthers_131 : decode cX5_ofOthers 131 = .ok (.invokevirtual 32, 3) := by decide +kernel
theorem dX5_ofOthers_134 : decode cX5_ofOthers 134 = .ok (.iconst 3, 1) := by decide +kernel
theorem dX5_ofOthers_135 : decode cX5_ofOthers 135 = .ok (.imul, 1) := by decide +kernel
theorem dX5_ofOthers_136 : decode cX5_ofOthers 136 = .ok (.ireturn, 1) := by decide +kernel
theorem dX5_ofOthers_137 : decode cX5_ofOthers 137 = .ok (.aload_n 0, 1) := by decide +kernel
theorem dX5_ofOthers_138 : decode cX5_ofOthers 138 = .ok (.iload_n 2, 1) := by decide +kernel
theorem dX5_ofOthers_139 : decode cX5_ofOthers 139 = .ok (.iconst 2, 1) := by decide +kernel
theorem dX5_ofOthers_140 : decode cX5_ofOthers 140 = .ok (.iload_n 3, 1) := by decide +kernel
theorem dX5_ofOthers_141 : decode cX5_ofOthers 141 = .ok (.iload 5, 2) := by decide +kernel
theorem dX5_ofOthers_143 : decode cX5_ofOthers 143 = .ok (.invokevirtual 32, 3) := by decide +kernel
theorem dX5_ofOthers_146 : decode cX5_ofOthers 146 = .ok (.aload_n 0, 1) := by decide +kernel
theorem dX5_ofOthers_147 : decode cX5_ofOthers 147 = .ok (.getfield 19, 3) := by decide +kernel
theorem dX5_ofOthers_150 : decode cX5_ofOthers 150 = .ok (.ixor, 1) := by decide +kernel
theorem dX5_ofOthers_151 : decode cX5_ofOthers 151 = .ok (.ireturn, 1) := by decide +kernel
theorem dX5_ofOthers_152 : decode cX5_ofOthers 152 = .ok (.aload_n 0, 1) := by decide +kernel
theorem dX5_ofOthers_153 : decode cX5_ofOthers 153 = .ok (.iload_n 2, 1) := by decide +kernel
theorem dX5_ofOthers_154 : decode cX5_ofOthers 154 = .ok (.iconst 1, 1) := by decide +kernel
theorem dX5_ofOthers_155 : decode cX5_ofOthers 155 = .ok (.iload_n 3, 1) := by decide +kernel
theorem dX5_ofOthers_156 : decode cX5_ofOthers 156 = .ok (.iconst 1, 1) := by decide +kernel
theorem dX5_ofOthers_157 : decode cX5_ofOthers 157 = .ok (.iadd, 1) := by decide +kernel
theorem dX5_ofOthers_158 : decode cX5_ofOthers 158 = .ok (.iload 5, 2) := by decide +kernel
theorem dX5_ofOthers_160 : decode cX5_ofOthers 160 = .ok (.invokevirtual 32, 3) := by decide +kernel
theorem dX5_ofOthers_163 : decode cX5_ofOthers 163 = .ok (.ireturn, 1) := by decide +kernel
theorem dX5_ofOthers_164 : decode cX5_ofOthers 164 = .ok (.iconst 2, 1) := by decide +kernel
theorem dX5_ofOthers_165 : decode cX5_ofOthers 165 = .ok (.ireturn, 1) := by decide +kernel
theorem dX5_ofOthers_166 : decode cX5_ofOthers 166 = .ok (.aload_n 0, 1) := by decide +kernel
theorem dX5_ofOthers_167 : decode cX5_ofOthers 167 = .ok (.iload_n 2, 1) := by decide +kernel
theorem dX5_ofOthers_168 : decode cX5_ofOthers 168 = .ok (.iconst 1, 1) := by decide +kernel
theorem dX5_ofOthers_169 : decode cX5_ofOthers 169 = .ok (.iload_n 3, 1) := by decide +kernel
theorem dX5_ofOthers_170 : decode cX5_ofOthers 170 = .ok (.iload 5, 2) := by decide +kernel
theorem dX5_ofOthers_172 : decode cX5_ofOthers 172 = .ok (.invokevirtual 32, 3) := by decide +kernel
theorem dX5_ofOthers_175 : decode cX5_ofOthers 175 = .ok (.aload_n 0, 1) := by decide +kernel
theorem dX5_ofOthers_176 : decode cX5_ofOthers 176 = .ok (.getfield 22, 3) := by decide +kernel
theorem dX5_ofOthers_179 : decode cX5_ofOthers 179 = .ok (.iadd, 1) := by decide +kernel
theorem dX5_ofOthers_180 : decode cX5_ofOthers 180 = .ok (.ireturn, 1) := by decide +kernel
theorem dX5_partsOfSlow_0 : decode cX5_partsOfSlow 0 = .ok (.aload_n 0, 1) := by decide +kernel
theorem dX5_partsOfSlow_1 : decode cX5_partsOfSlow 1 = .ok (.iload_n 1, 1) := by decide +kernel
theorem dX5_partsOfSlow_2 : decode cX5_partsOfSlow 2 = .ok (.iconst 3, 1) := by decide +kernel
theorem dX5_partsOfSlow_3 : decode cX5_partsOfSlow 3 = .ok (.iload_n 2, 1) := by decide +kernel
theorem dX5_partsOfSlow_4 : decode cX5_partsOfSlow 4 = .ok (.iload_n 3, 1) := by decide +kernel
theorem dX5_partsOfSlow_5 : decode cX5_partsOfSlow 5 = .ok (.invokevirtual 32, 3) := by decide +kernel
theorem dX5_partsOfSlow_8 : decode cX5_partsOfSlow 8 = .ok (.istore 4, 2) := by decide +kernel
theorem dX5_partsOfSlow_10 : decode cX5_partsOfSlow 10 = .ok (.aload_n 0, 1) := by decide +kernel
theorem dX5_partsOfSlow_11 : decode cX5_partsOfSlow 11 = .ok (.getfield 28, 3) := by decide +kernel
theorem dX5_partsOfSlow_14 : decode cX5_partsOfSlow 14 = .ok (.ifCond .eq 5, 3) := by decide +kernel
theorem dX5_partsOfSlow_17 : decode cX5_partsOfSlow 17 = .ok (.iconst 0, 1) := by decide +kernel
theorem dX5_partsOfSlow_18 : decode cX5_partsOfSlow 18 = .ok (.ireturn, 1) := by decide +kernel
theorem dX5_partsOfSlow_19 : decode cX5_partsOfSlow 19 = .ok (.iload 4, 2) := by decide +kernel
theorem dX5_partsOfSlow_21 : decode cX5_partsOfSlow 21 = .ok (.aload_n 0, 1) := by decide +kernel
theorem dX5_partsOfSlow_22 : decode cX5_partsOfSlow 22 = .ok (.aload_n 0, 1) := by decide +kernel
theorem dX5_partsOfSlow_23 : decode cX5_partsOfSlow 23 = .ok (.getfield 15, 3) := by decide +kernel
theorem dX5_partsOfSlow_26 : decode cX5_partsOfSlow 26 = .ok (.iconst 1, 1) := by decide +kernel
theorem dX5_partsOfSlow_27 : decode cX5_partsOfSlow 27 = .ok (.iconst 1, 1) := by decide +kernel
theorem dX5_partsOfSlow_28 : decode cX5_partsOfSlow 28 = .ok (.iload_n 3, 1) := by decide +kernel
theorem dX5_partsOfSlow_29 : decode cX5_partsOfSlow 29 = .ok (.invokevirtual 32, 3) := by decide +kernel
theorem dX5_partsOfSlow_32 : decode cX5_partsOfSlow 32 = .ok (.iadd, 1) := by decide +kernel
theorem dX5_partsOfSlow_33 : decode cX5_partsOfSlow 33 = .ok (.ireturn, 1) := by decide +kernel
theorem dX6_init_0 : decode cX6_init 0 = .ok (.aload_n 0, 1) := by decide +kernel
theorem dX6_init_1 : decode cX6_init 1 = .ok (.invokespecial 1, 3) := by decide +kernel
theorem dX6_init_4 : decode cX6_init 4 = .ok (.return_, 1) := by decide +kernel
theorem dX6_part_0 : decode cX6_part 0 = .ok (.iload_n 1, 1) := by decide +kernel
theorem dX6_part_1 : decode cX6_part 1 = .ok (.tableswitch 69 0 5 #[39, 44, 49, 54, 59, 64], 39) := by decide +kernel
theorem dX6_part_40 : decode cX6_part 40 = .ok (.aload_n 0, 1) := by decide +kernel
theorem dX6_part_41 : decode cX6_part 41 = .ok (.getfield 7, 3) := by decide +kernel
theorem dX6_part_44 : decode cX6_part 44 = .ok (.ireturn, 1) := by decide +kernel
theorem dX6_part_45 : decode cX6_part 45 = .ok (.aload_n 0, 1) := by decide +kernel
theorem dX6_part_46 : decode cX6_part 46 = .ok (.getfield 13, 3) := by decide +kernel
theorem dX6_part_49 : decode cX6_part 49 = .ok (.ireturn, 1) := by decide +kernel
theorem dX6_part_50 : decode cX6_part 50 = .ok (.aload_n 0, 1) := by decide +kernel
theorem dX6_part_51 : decode cX6_part 51 = .ok (.getfield 16, 3) := by decide +kernel
theorem dX6_part_54 : decode cX6_part 54 = .ok (.ireturn, 1) := by decide +kernel
theorem dX6_part_55 : decode cX6_part 55 = .ok (.aload_n 0, 1) := by decide +kernel
theorem dX6_part_56 : decode cX6_part 56 = .ok (.getfield 19, 3) := by decide +kernel
theorem dX6_part_59 : decode cX6_part 59 = .ok (.ireturn, 1) := by decide +kernel
theorem dX6_part_60 : decode cX6_part 60 = .ok (.aload_n 0, 1) := by decide +kernel
theorem dX6_part_61 : decode cX6_part 61 = .ok (.getfield 22, 3) := by decide +kernel
theorem dX6_part_64 : decode cX6_part 64 = .ok (.ireturn, 1) := by decide +kernel
theorem dX6_part_65 : decode cX6_part 65 = .ok (.aload_n 0, 1) := by decide +kernel
theorem dX6_part_66 : decode cX6_part 66 = .ok (.getfield 25, 3) := by decide +kernel
theorem dX6_part_69 : decode cX6_part 69 = .ok (.ireturn, 1) := by decide +kernel
theorem dX6_part_70 : decode cX6_part 70 = .ok (.aload_n 0, 1) := by decide +kernel
theorem dX6_part_71 : decode cX6_part 71 = .ok (.getfield 28, 3) := by decide +kernel
theorem dX6_part_74 : decode cX6_part 74 = .ok (.ireturn, 1) := by decide +kernel
theorem dX6_change_0 : decode cX6_change 0 = .ok (.iload_n 1, 1) := by decide +kernel
theorem dX6_change_1 : decode cX6_change 1 = .ok (.tableswitch 87 0 5 #[39, 47, 55, 63, 71, 79], 39) := by decide +kernel
theorem dX6_change_40 : decode cX6_change 40 = .ok (.aload_n 0, 1) := by decide +kernel
theorem dX6_change_41 : decode cX6_change 41 = .ok (.iload_n 2, 1) := by decide +kernel
theorem dX6_change_42 : decode cX6_change 42 = .ok (.putfield 7, 3) := by decide +kernel
theorem dX6_change_45 : decode cX6_change 45 = .ok (.goto 48, 3) := by decide +kernel
theorem dX6_change_48 : decode cX6_change 48 = .ok (.aload_n 0, 1) := by decide +kernel
theorem dX6_change_49 : decode cX6_change 49 = .ok (.iload_n 2, 1) := by decide +kernel
theorem dX6_change_50 : decode cX6_change 50 = .ok (.putfield 13, 3) := by decide +kernel
theorem dX6_change_53 : decode cX6_change 53 = .ok (.goto 40, 3) := by decide +kernel
theorem dX6_change_56 : decode cX6_change 56 = .ok (.aload_n 0, 1) := by decide +kernel
theorem dX6_change_57 : decode cX6_change 57 = .ok (.iload_n 2, 1) := by decide +kernel
theorem dX6_change_58 : decode cX6_change 58 = .ok (.putfield 16, 3) := by decide +kernel
theorem dX6_change_61 : decode cX6_change 61 = .ok (.goto 32, 3) := by decide +kernel
theorem dX6_change_64 : decode cX6_change 64 = .ok (.aload_n 0, 1) := by decide +kernel
theorem dX6_change_65 : decode cX6_change 65 = .ok (.iload_n 2, 1) := by decide +kernel
theorem dX6_change_66 : decode cX6_change 66 = .ok (.putfield 19, 3) := by decide +kernel
theorem dX6_change_69 : decode cX6_change 69 = .ok (.goto 24, 3) := by decide +kernel
theorem dX6_change_72 : decode cX6_change 72 = .ok (.aload_n 0, 1) := by decide +kernel
theorem dX6_change_73 : decode cX6_change 73 = .ok (.iload_n 2, 1) := by decide +kernel
theorem dX6_change_74 : decode cX6_change 74 = .ok (.putfield 22, 3) := by decide +kernel
theorem dX6_change_77 : decode cX6_change 77 = .ok (.goto 16, 3) := by decide +kernel
theorem dX6_change_80 : decode cX6_change 80 = .ok (.aload_n 0, 1) := by decide +kernel
theorem dX6_change_81 : decode cX6_change 81 = .ok (.iload_n 2, 1) := by decide +kernel
theorem dX6_change_82 : decode cX6_change 82 = .ok (.putfield 25, 3) := by decide +kernel
theorem dX6_change_85 : decode cX6_change 85 = .ok (.goto 8, 3) := by decide +kernel
theorem dX6_change_88 : decode cX6_change 88 = .ok (.aload_n 0, 1) := by decide +kernel
theorem dX6_change_89 : decode cX6_change 89 = .ok (.iload_n 2, 1) := by decide +kernel
theorem dX6_change_90 : decode cX6_change 90 = .ok (.putfield 28, 3) := by decide +kernel
theorem dX6_change_93 : decode cX6_change 93 = .ok (.return_, 1) := by decide +kernel
theorem dX6_copyFrom_0 : decode cX6_copyFrom 0 = .ok (.aload_n 0, 1) := by decide +kernel
theorem dX6_copyFrom_1 : decode cX6_copyFrom 1 = .ok (.aload_n 1, 1) := by decide +kernel
theorem dX6_copyFrom_2 : decode cX6_copyFrom 2 = .ok (.getfield 7, 3) := by decide +kernel
theorem dX6_copyFrom_5 : decode cX6_copyFrom 5 = .ok (.putfield 7, 3) := by decide +kernel
theorem dX6_copyFrom_8 : decode cX6_copyFrom 8 = .ok (.aload_n 0, 1) := by decide +kernel
theorem dX6_copyFrom_9 : decode cX6_copyFrom 9 = .ok (.aload_n 1, 1) := by decide +kernel
theorem dX6_copyFrom_10 : decode cX6_copyFrom 10 = .ok (.getfield 13, 3) := by decide +kernel
theorem dX6_copyFrom_13 : decode cX6_copyFrom 13 = .ok (.putfield 13, 3) := by decide +kernel
theorem dX6_copyFrom_16 : decode cX6_copyFrom 16 = .ok (.aload_n 0, 1) := by decide +kernel
theorem dX6_copyFrom_17 : decode cX6_copyFrom 17 = .ok (.aload_n 1, 1) := by decide +kernel
theorem dX6_copyFrom_18 : decode cX6_copyFrom 18 = .ok (.getfield 16, 3) := by decide +kernel
theorem dX6_copyFrom_21 : decode cX6_copyFrom 21 = .ok (.putfield 16, 3) := by decide +kernel
theorem dX6_copyFrom_24 : decode cX6_copyFrom 24 = .ok (.aload_n 0, 1) := by decide +kernel
theorem dX6_copyFrom_25 : decode cX6_copyFrom 25 = .ok (.aload_n 1, 1) := by decide +kernel
theorem dX6_copyFrom_26 : decode cX6_copyFrom 26 = .ok (.getfield 19, 3) := by decide +kernel
theorem dX6_copyFrom_29 : decode cX6_copyFrom 29 = .ok (.putfield 19, 3) := by decide +kernel
theorem dX6_copyFrom_32 : decode cX6_copyFrom 32 = .ok (.aload_n 0, 1) := by decide +kernel
theorem dX6_copyFrom_33 : decode cX6_copyFrom 33 = .ok (.aload_n 1, 1) := by decide +kernel
theorem dX6_copyFrom_34 : decode cX6_copyFrom 34 = .ok (.getfield 22, 3) := by decide +kernel
theorem dX6_copyFrom_37 : decode cX6_copyFrom 37 = .ok (.putfield 22, 3) := by decide +kernel
theorem dX6_copyFrom_40 : decode cX6_copyFrom 40 = .ok (.aload_n 0, 1) := by decide +kernel
theorem dX6_copyFrom_41 : decode cX6_copyFrom 41 = .ok (.aload_n 1, 1) := by decide +kernel
theorem dX6_copyFrom_42 : decode cX6_copyFrom 42 = .ok (.getfield 25, 3) := by decide +kernel
theorem dX6_copyFrom_45 : decode cX6_copyFrom 45 = .ok (.putfield 25, 3) := by decide +kernel
theorem dX6_copyFrom_48 : decode cX6_copyFrom 48 = .ok (.aload_n 0, 1) := by decide +kernel
theorem dX6_copyFrom_49 : decode cX6_copyFrom 49 = .ok (.aload_n 1, 1) := by decide +kernel
theorem dX6_copyFrom_50 : decode cX6_copyFrom 50 = .ok (.getfield 28, 3) := by decide +kernel
theorem dX6_copyFrom_53 : decode cX6_copyFrom 53 = .ok (.putfield 28, 3) := by decide +kernel
theorem dX6_copyFrom_56 : decode cX6_copyFrom 56 = .ok (.return_, 1) := by decide +kernel
theorem dX7_init_0 : decode cX7_init 0 = .ok (.aload_n 0, 1) := by decide +kernel
theorem dX7_init_1 : decode cX7_init 1 = .ok (.invokespecial 1, 3) := by decide +kernel
theorem dX7_init_4 : decode cX7_init 4 = .ok (.aload_n 0, 1) := by decide +kernel
theorem dX7_init_5 : decode cX7_init 5 = .ok (.new 7, 3) := by decide +kernel
theorem dX7_init_8 : decode cX7_init 8 = .ok (.dup, 1) := by decide +kernel
theorem dX7_init_9 : decode cX7_init 9 = .ok (.invokespecial 9, 3) := by decide +kernel
theorem dX7_init_12 : decode cX7_init 12 = .ok (.putfield 10, 3) := by decide +kernel
theorem dX7_init_15 : decode cX7_init 15 = .ok (.aload_n 0, 1) := by decide +kernel
theorem dX7_init_16 : decode cX7_init 16 = .ok (.new 7, 3) := by decide +kernel
theorem dX7_init_19 : decode cX7_init 19 = .ok (.dup, 1) := by decide +kernel
theorem dX7_init_20 : decode cX7_init 20 = .ok (.invokespecial 9, 3) := by decide +kernel
theorem dX7_init_23 : decode cX7_init 23 = .ok (.putfield 16, 3) := by decide +kernel
theorem dX7_init_26 : decode cX7_init 26 = .ok (.aload_n 0, 1) := by decide +kernel
theorem dX7_init_27 : decode cX7_init 27 = .ok (.new 7, 3) := by decide +kernel
theorem dX7_init_30 : decode cX7_init 30 = .ok (.dup, 1) := by decide +kernel
theorem dX7_init_31 : decode cX7_init 31 = .ok (.invokespecial 9, 3) := by decide +kernel
theorem dX7_init_34 : decode cX7_init 34 = .ok (.putfield 19, 3) := by decide +kernel
theorem dX7_init_37 : decode cX7_init 37 = .ok (.aload_n 0, 1) := by decide +kernel
theorem dX7_init_38 : decode cX7_init 38 = .ok (.new 22, 3) := by decide +kernel
theorem dX7_init_41 : decode cX7_init 41 = .ok (.dup, 1) := by decide +kernel
theorem dX7_init_42 : decode cX7_init 42 = .ok (.invokespecial 24, 3) := by decide +kernel
theorem dX7_init_45 : decode cX7_init 45 = .ok (.putfield 25, 3) := by decide +kernel
theorem dX7_init_48 : decode cX7_init 48 = .ok (.aload_n 0, 1) := by decide +kernel
theorem dX7_init_49 : decode cX7_init 49 = .ok (.new 22, 3) := by decide +kernel
theorem dX7_init_52 : decode cX7_init 52 = .ok (.dup, 1) := by decide +kernel
theorem dX7_init_53 : decode cX7_init 53 = .ok (.invokespecial 24, 3) := by decide +kernel
theorem dX7_init_56 : decode cX7_init 56 = .ok (.putfield 29, 3) := by decide +kernel
theorem dX7_init_59 : decode cX7_init 59 = .ok (.aload_n 0, 1) := by decide +kernel
theorem dX7_init_60 : decode cX7_init 60 = .ok (.new 32, 3) := by decide +kernel
theorem dX7_init_63 : decode cX7_init 63 = .ok (.dup, 1) := by decide +kernel
theorem dX7_init_64 : decode cX7_init 64 = .ok (.invokespecial 34, 3) := by decide +kernel
theorem dX7_init_67 : decode cX7_init 67 = .ok (.putfield 35, 3) := by decide +kernel
theorem dX7_init_70 : decode cX7_init 70 = .ok (.aload_n 0, 1) := by decide +kernel
theorem dX7_init_71 : decode cX7_init 71 = .ok (.new 39, 3) := by decide +kernel
theorem dX7_init_74 : decode cX7_init 74 = .ok (.dup, 1) := by decide +kernel
theorem dX7_init_75 : decode cX7_init 75 = .ok (.invokespecial 41, 3) := by decide +kernel
theorem dX7_init_78 : decode cX7_init 78 = .ok (.putfield 42, 3) := by decide +kernel
theorem dX7_init_81 : decode cX7_init 81 = .ok (.aload_n 0, 1) := by decide +kernel
theorem dX7_init_82 : decode cX7_init 82 = .ok (.new 46, 3) := by decide +kernel
theorem dX7_init_85 : decode cX7_init 85 = .ok (.dup, 1) := by decide +kernel
theorem dX7_init_86 : decode cX7_init 86 = .ok (.invokespecial 48, 3) := by decide +kernel
theorem dX7_init_89 : decode cX7_init 89 = .ok (.putfield 49, 3) := by decide +kernel
theorem dX7_init_92 : decode cX7_init 92 = .ok (.aload_n 0, 1) := by decide +kernel
theorem dX7_init_93 : decode cX7_init 93 = .ok (.bipush 7, 2) := by decide +kernel
theorem dX7_init_95 : decode cX7_init 95 = .ok (.newarray .int, 2) := by decide +kernel
theorem dX7_init_97 : decode cX7_init 97 = .ok (.putfield 53, 3) := by decide +kernel
theorem dX7_init_100 : decode cX7_init 100 = .ok (.return_, 1) := by decide +kernel
theorem dX7_force_0 : decode cX7_force 0 = .ok (.iload_n 1, 1) := by decide +kernel
theorem dX7_force_1 : decode cX7_force 1 = .ok (.iconst 0, 1) := by decide +kernel
theorem dX7_force_2 : decode cX7_force 2 = .ok (.bipush 23, 2) := by decide +kernel
theorem dX7_force_4 : decode cX7_force 4 = .ok (.invokestatic 57, 3) := by decide +kernel
theorem dX7_force_7 : decode cX7_force 7 = .ok (.ifCond .ne 13, 3) := by decide +kernel
theorem dX7_force_10 : decode cX7_force 10 = .ok (.iload_n 2, 1) := by decide +kernel
theorem dX7_force_11 : decode cX7_force 11 = .ok (.iconst 0, 1) := by decide +kernel
theorem dX7_force_12 : decode cX7_force 12 = .ok (.bipush 99, 2) := by decide +kernel
theorem dX7_force_14 : decode cX7_force 14 = .ok (.invokestatic 57, 3) := by decide +kernel
theorem dX7_force_17 : decode cX7_force 17 = .ok (.ifCond .eq 9, 3) := by decide +kernel
theorem dX7_force_20 : decode cX7_force 20 = .ok (.aload_n 0, 1) := by decide +kernel
theorem dX7_force_21 : decode cX7_force 21 = .ok (.iconst 1, 1) := by decide +kernel
theorem dX7_force_22 : decode cX7_force 22 = .ok (.invokevirtual 61, 3) := by decide +kernel
theorem dX7_force_25 : decode cX7_force 25 = .ok (.ireturn, 1) := by decide +kernel
theorem dX7_force_26 : decode cX7_force 26 = .ok (.aload_n 0, 1) := by decide +kernel
theorem dX7_force_27 : decode cX7_force 27 = .ok (.getfield 10, 3) := by decide +kernel
theorem dX7_force_30 : decode cX7_force 30 = .ok (.getfield 65, 3) := by decide +kernel
theorem dX7_force_33 : decode cX7_force 33 = .ok (.iload_n 1, 1) := by decide +kernel
theorem dX7_force_34 : decode cX7_force 34 = .ok (.iaload, 1) := by decide +kernel
theorem dX7_force_35 : decode cX7_force 35 = .ok (.istore_n 3, 1) := by decide +kernel
theorem dX7_force_36 : decode cX7_force 36 = .ok (.aload_n 0, 1) := by decide +kernel
theorem dX7_force_37 : decode cX7_force 37 = .ok (.getfield 10, 3) := by decide +kernel
theorem dX7_force_40 : decode cX7_force 40 = .ok (.getfield 65, 3) := by decide +kernel
theorem dX7_force_43 : decode cX7_force 43 = .ok (.iload_n 1, 1) := by decide +kernel
theorem dX7_force_44 : decode cX7_force 44 = .ok (.iload_n 2, 1) := by decide +kernel
theorem dX7_force_45 : decode cX7_force 45 = .ok (.iastore, 1) := by decide +kernel
theorem dX7_force_46 : decode cX7_force 46 = .ok (.iload_n 3, 1) := by decide +kernel
theorem dX7_force_47 : decode cX7_force 47 = .ok (.ireturn, 1) := by decide +kernel
theorem dX7_weed_0 : decode cX7_weed 0 = .ok (.iload_n 1, 1) := by decide +kernel
theorem dX7_weed_1 : decode cX7_weed 1 = .ok (.iconst 0, 1) := by decide +kernel
theorem dX7_weed_2 : decode cX7_weed 2 = .ok (.bipush 11, 2) := by decide +kernel
theorem dX7_weed_4 : decode cX7_weed 4 = .ok (.invokestatic 57, 3) := by decide +kernel
theorem dX7_weed_7 : decode cX7_weed 7 = .ok (.ifCond .ne 13, 3) := by decide +kernel
theorem dX7_weed_10 : decode cX7_weed 10 = .ok (.iload_n 2, 1) := by decide +kernel
theorem dX7_weed_11 : decode cX7_weed 11 = .ok (.iconst 0, 1) := by decide +kernel
theorem dX7_weed_12 : decode cX7_weed 12 = .ok (.bipush 9, 2) := by decide +kernel
theorem dX7_weed_14 : decode cX7_weed 14 = .ok (.invokestatic 57, 3) := by decide +kernel
theorem dX7_weed_17 : decode cX7_weed 17 = .ok (.ifCond .eq 9, 3) := by decide +kernel
theorem dX7_weed_20 : decode cX7_weed 20 = .ok (.aload_n 0, 1) := by decide +kernel
theorem dX7_weed_21 : decode cX7_weed 21 = .ok (.iconst 1, 1) := by decide +kernel
theorem dX7_weed_22 : decode cX7_weed 22 = .ok (.invokevirtual 61, 3) := by decide +kernel
theorem dX7_weed_25 : decode cX7_weed 25 = .ok (.ireturn, 1) := by decide +kernel
theorem dX7_weed_26 : decode cX7_weed 26 = .ok (.aload_n 0, 1) := by decide +kernel
theorem dX7_weed_27 : decode cX7_weed 27 = .ok (.getfield 10, 3) := by decide +kernel
theorem dX7_weed_30 : decode cX7_weed 30 = .ok (.getfield 68, 3) := by decide +kernel
theorem dX7_weed_33 : decode cX7_weed 33 = .ok (.iload_n 1, 1) := by decide +kernel
theorem dX7_weed_34 : decode cX7_weed 34 = .ok (.iaload, 1) := by decide +kernel
theorem dX7_weed_35 : decode cX7_weed 35 = .ok (.istore_n 3, 1) := by decide +kernel
theorem dX7_weed_36 : decode cX7_weed 36 = .ok (.aload_n 0, 1) := by decide +kernel
theorem dX7_weed_37 : decode cX7_weed 37 = .ok (.getfield 10, 3) := by decide +kernel
theorem dX7_weed_40 : decode cX7_weed 40 = .ok (.getfield 68, 3) := by decide +kernel
theorem dX7_weed_43 : decode cX7_weed 43 = .ok (.iload_n 1, 1) := by decide +kernel
theorem dX7_weed_44 : decode cX7_weed 44 = .ok (.iload_n 2, 1) := by decide +kernel
theorem dX7_weed_45 : decode cX7_weed 45 = .ok (.iastore, 1) := by decide +kernel
theorem dX7_weed_46 : decode cX7_weed 46 = .ok (.iload_n 3, 1) := by decide +kernel
theorem dX7_weed_47 : decode cX7_weed 47 = .ok (.ireturn, 1) := by decide +kernel
theorem dX7_frost_0 : decode cX7_frost 0 = .ok (.iload_n 1, 1) := by decide +kernel
theorem dX7_frost_1 : decode cX7_frost 1 = .ok (.iconst 0, 1) := by decide +kernel
theorem dX7_frost_2 : decode cX7_frost 2 = .ok (.bipush 9, 2) := by decide +kernel
theorem dX7_frost_4 : decode cX7_frost 4 = .ok (.invokestatic 57, 3) := by decide +kernel
theorem dX7_frost_7 : decode cX7_frost 7 = .ok (.ifCond .eq 9, 3) := by decide +kernel
theorem dX7_frost_10 : decode cX7_frost 10 = .ok (.aload_n 0, 1) := by decide +kernel
theorem dX7_frost_11 : decode cX7_frost 11 = .ok (.iconst 1, 1) := by decide +kernel
theorem dX7_frost_12 : decode cX7_frost 12 = .ok (.invokevirtual 61, 3) := by decide +kernel
theorem dX7_frost_15 : decode cX7_frost 15 = .ok (.ireturn, 1) := by decide +kernel
theorem dX7_frost_16 : decode cX7_frost 16 = .ok (.aload_n 0, 1) := by decide +kernel
theorem dX7_frost_17 : decode cX7_frost 17 = .ok (.getfield 10, 3) := by decide +kernel
theorem dX7_frost_20 : decode cX7_frost 20 = .ok (.getfield 71, 3) := by decide +kernel
theorem dX7_frost_23 : decode cX7_frost 23 = .ok (.istore_n 2, 1) := by decide +kernel
theorem dX7_frost_24 : decode cX7_frost 24 = .ok (.aload_n 0, 1) := by decide +kernel
theorem dX7_frost_25 : decode cX7_frost 25 = .ok (.getfield 10, 3) := by decide +kernel
theorem dX7_frost_28 : decode cX7_frost 28 = .ok (.iload_n 1, 1) := by decide +kernel
theorem dX7_frost_29 : decode cX7_frost 29 = .ok (.putfield 71, 3) := by decide +kernel
theorem dX7_frost_32 : decode cX7_frost 32 = .ok (.iload_n 2, 1) := by decide +kernel
theorem dX7_frost_33 : decode cX7_frost 33 = .ok (.ireturn, 1) := by decide +kernel
theorem dX7_owe_0 : decode cX7_owe 0 = .ok (.iload_n 1, 1) := by decide +kernel
theorem dX7_owe_1 : decode cX7_owe 1 = .ok (.iconst 0, 1) := by decide +kernel
theorem dX7_owe_2 : decode cX7_owe 2 = .ok (.iconst 4, 1) := by decide +kernel
theorem dX7_owe_3 : decode cX7_owe 3 = .ok (.invokestatic 57, 3) := by decide +kernel
theorem dX7_owe_6 : decode cX7_owe 6 = .ok (.ifCond .ne 13, 3) := by decide +kernel
theorem dX7_owe_9 : decode cX7_owe 9 = .ok (.iload_n 2, 1) := by decide +kernel
theorem dX7_owe_10 : decode cX7_owe 10 = .ok (.iconst 0, 1) := by decide +kernel
theorem dX7_owe_11 : decode cX7_owe 11 = .ok (.ldc 75, 2) := by decide +kernel
theorem dX7_owe_13 : decode cX7_owe 13 = .ok (.invokestatic 57, 3) := by decide +kernel
theorem dX7_owe_16 : decode cX7_owe 16 = .ok (.ifCond .eq 9, 3) := by decide +kernel
theorem dX7_owe_19 : decode cX7_owe 19 = .ok (.aload_n 0, 1) := by decide +kernel
theorem dX7_owe_20 : decode cX7_owe 20 = .ok (.iconst 1, 1) := by decide +kernel
theorem dX7_owe_21 : decode cX7_owe 21 = .ok (.invokevirtual 61, 3) := by decide +kernel
theorem dX7_owe_24 : decode cX7_owe 24 = .ok (.ireturn, 1) := by decide +kernel
theorem dX7_owe_25 : decode cX7_owe 25 = .ok (.aload_n 0, 1) := by decide +kernel
theorem dX7_owe_26 : decode cX7_owe 26 = .ok (.getfield 10, 3) := by decide +kernel
theorem dX7_owe_29 : decode cX7_owe 29 = .ok (.getfield 76, 3) := by decide +kernel
theorem dX7_owe_32 : decode cX7_owe 32 = .ok (.iload_n 1, 1) := by decide +kernel
theorem dX7_owe_33 : decode cX7_owe 33 = .ok (.iaload, 1) := by decide +kernel
theorem dX7_owe_34 : decode cX7_owe 34 = .ok (.istore_n 3, 1) := by decide +kernel
theorem dX7_owe_35 : decode cX7_owe 35 = .ok (.aload_n 0, 1) := by decide +kernel
theorem dX7_owe_36 : decode cX7_owe 36 = .ok (.getfield 10, 3) := by decide +kernel
theorem dX7_owe_39 : decode cX7_owe 39 = .ok (.getfield 76, 3) := by decide +kernel
theorem dX7_owe_42 : decode cX7_owe 42 = .ok (.iload_n 1, 1) := by decide +kernel
theorem dX7_owe_43 : decode cX7_owe 43 = .ok (.iload_n 2, 1) := by decide +kernel
theorem dX7_owe_44 : decode cX7_owe 44 = .ok (.iastore, 1) := by decide +kernel
theorem dX7_owe_45 : decode cX7_owe 45 = .ok (.iload_n 3, 1) := by decide +kernel
theorem dX7_owe_46 : decode cX7_owe 46 = .ok (.ireturn, 1) := by decide +kernel
theorem dX7_familyIs_0 : decode cX7_familyIs 0 = .ok (.iload_n 1, 1) := by decide +kernel
theorem dX7_familyIs_1 : decode cX7_familyIs 1 = .ok (.iconst 0, 1) := by decide +kernel
theorem dX7_familyIs_2 : decode cX7_familyIs 2 = .ok (.iconst 4, 1) := by decide +kernel
theorem dX7_familyIs_3 : decode cX7_familyIs 3 = .ok (.invokestatic 57, 3) := by decide +kernel
theorem dX7_familyIs_6 : decode cX7_familyIs 6 = .ok (.ifCond .ne 12, 3) := by decide +kernel
theorem dX7_familyIs_9 : decode cX7_familyIs 9 = .ok (.iload_n 2, 1) := by decide +kernel
theorem dX7_familyIs_10 : decode cX7_familyIs 10 = .ok (.iconst 0, 1) := by decide +kernel
theorem dX7_familyIs_11 : decode cX7_familyIs 11 = .ok (.iconst 3, 1) := by decide +kernel
theorem dX7_familyIs_12 : decode cX7_familyIs 12 = .ok (.invokestatic 57, 3) := by decide +kernel
theorem dX7_familyIs_15 : decode cX7_familyIs 15 = .ok (.ifCond .eq 9, 3) := by decide +kernel
theorem dX7_familyIs_18 : decode cX7_familyIs 18 = .ok (.aload_n 0, 1) := by decide +kernel
theorem dX7_familyIs_19 : decode cX7_familyIs 19 = .ok (.iconst 1, 1) := by decide +kernel
theorem dX7_familyIs_20 : decode cX7_familyIs 20 = .ok (.invokevirtual 61, 3) := by decide +kernel
theorem dX7_familyIs_23 : decode cX7_familyIs 23 = .ok (.ireturn, 1) := by decide +kernel
theorem dX7_familyIs_24 : decode cX7_familyIs 24 = .ok (.aload_n 0, 1) := by decide +kernel
theorem dX7_familyIs_25 : decode cX7_familyIs 25 = .ok (.getfield 10, 3) := by decide +kernel
theorem dX7_familyIs_28 : decode cX7_familyIs 28 = .ok (.iload_n 1, 1) := by decide +kernel
theorem dX7_familyIs_29 : decode cX7_familyIs 29 = .ok (.iload_n 2, 1) := by decide +kernel
theorem dX7_familyIs_30 : decode cX7_familyIs 30 = .ok (.invokevirtual 79, 3) := by decide +kernel
theorem dX7_familyIs_33 : decode cX7_familyIs 33 = .ok (.ireturn, 1) := by decide +kernel
theorem dX7_wheel_0 : decode cX7_wheel 0 = .ok (.iload_n 1, 1) := by decide +kernel
theorem dX7_wheel_1 : decode cX7_wheel 1 = .ok (.iconst 0, 1) := by decide +kernel
theorem dX7_wheel_2 : decode cX7_wheel 2 = .ok (.bipush 69, 2) := by decide +kernel
theorem dX7_wheel_4 : decode cX7_wheel 4 = .ok (.invokestatic 57, 3) := by decide +kernel
theorem dX7_wheel_7 : decode cX7_wheel 7 = .ok (.ifCond .ne 25, 3) := by decide +kernel
theorem dX7_wheel_10 : decode cX7_wheel 10 = .ok (.iload_n 2, 1) := by decide +kernel
theorem dX7_wheel_11 : decode cX7_wheel 11 = .ok (.iconst 0, 1) := by decide +kernel
theorem dX7_wheel_12 : decode cX7_wheel 12 = .ok (.bipush 119, 2) := by decide +kernel
theorem dX7_wheel_14 : decode cX7_wheel 14 = .ok (.invokestatic 57, 3) := by decide +kernel
theorem dX7_wheel_17 : decode cX7_wheel 17 = .ok (.ifCond .ne 15, 3) := by decide +kernel
theorem dX7_wheel_20 : decode cX7_wheel 20 = .ok (.iload_n 2, 1) := by decide +kernel
theorem dX7_wheel_21 : decode cX7_wheel 21 = .ok (.bipush 10, 2) := by decide +kernel
theorem dX7_wheel_23 : decode cX7_wheel 23 = .ok (.irem, 1) := by decide +kernel
theorem dX7_wheel_24 : decode cX7_wheel 24 = .ok (.iconst 0, 1) := by decide +kernel
theorem dX7_wheel_25 : decode cX7_wheel 25 = .ok (.iconst 4, 1) := by decide +kernel
theorem dX7_wheel_26 : decode cX7_wheel 26 = .ok (.invokestatic 57, 3) := by decide +kernel
theorem dX7_wheel_29 : decode cX7_wheel 29 = .ok (.ifCond .eq 9, 3) := by decide +kernel
theorem dX7_wheel_32 : decode cX7_wheel 32 = .ok (.aload_n 0, 1) := by decide +kernel
theorem dX7_wheel_33 : decode cX7_wheel 33 = .ok (.iconst 1, 1) := by decide +kernel
theorem dX7_wheel_34 : decode cX7_wheel 34 = .ok (.invokevirtual 61, 3) := by decide +kernel
theorem dX7_wheel_37 : decode cX7_wheel 37 = .ok (.ireturn, 1) := by decide +kernel
theorem dX7_wheel_38 : decode cX7_wheel 38 = .ok (.aload_n 0, 1) := by decide +kernel
theorem dX7_wheel_39 : decode cX7_wheel 39 = .ok (.getfield 10, 3) := by decide +kernel
theorem dX7_wheel_42 : decode cX7_wheel 42 = .ok (.getfield 83, 3) := by decide +kernel
theorem dX7_wheel_45 : decode cX7_wheel 45 = .ok (.bipush 8, 2) := by decide +kernel
theorem dX7_wheel_47 : decode cX7_wheel 47 = .ok (.if_icmp .lt 9, 3) := by decide +kernel
theorem dX7_wheel_50 : decode cX7_wheel 50 = .ok (.aload_n 0, 1) := by decide +kernel
theorem dX7_wheel_51 : decode cX7_wheel 51 = .ok (.iconst 4, 1) := by decide +kernel
theorem dX7_wheel_52 : decode cX7_wheel 52 = .ok (.invokevirtual 61, 3) := by decide +kernel
theorem dX7_wheel_55 : decode cX7_wheel 55 = .ok (.ireturn, 1) := by decide +kernel
theorem dX7_wheel_56 : decode cX7_wheel 56 = .ok (.aload_n 0, 1) := by decide +kernel
theorem dX7_wheel_57 : decode cX7_wheel 57 = .ok (.getfield 10, 3) := by decide +kernel
theorem dX7_wheel_60 : decode cX7_wheel 60 = .ok (.iload_n 1, 1) := by decide +kernel
theorem dX7_wheel_61 : decode cX7_wheel 61 = .ok (.iload_n 2, 1) := by decide +kernel
theorem dX7_wheel_62 : decode cX7_wheel 62 = .ok (.bipush 10, 2) := by decide +kernel
theorem dX7_wheel_64 : decode cX7_wheel 64 = .ok (.idiv, 1) := by decide +kernel
theorem dX7_wheel_65 : decode cX7_wheel 65 = .ok (.iload_n 2, 1) := by decide +kernel
theorem dX7_wheel_66 : decode cX7_wheel 66 = .ok (.bipush 10, 2) := by decide +kernel
theorem dX7_wheel_68 : decode cX7_wheel 68 = .ok (.irem, 1) := by decide +kernel
theorem dX7_wheel_69 : decode cX7_wheel 69 = .ok (.invokevirtual 86, 3) := by decide +kernel
theorem dX7_wheel_72 : decode cX7_wheel 72 = .ok (.aload_n 0, 1) := by decide +kernel
theorem dX7_wheel_73 : decode cX7_wheel 73 = .ok (.getfield 10, 3) := by decide +kernel
theorem dX7_wheel_76 : decode cX7_wheel 76 = .ok (.getfield 83, 3) := by decide +kernel
theorem dX7_wheel_79 : decode cX7_wheel 79 = .ok (.iconst 1, 1) := by decide +kernel
theorem dX7_wheel_80 : decode cX7_wheel 80 = .ok (.isub, 1) := by decide +kernel
theorem dX7_wheel_81 : decode cX7_wheel 81 = .ok (.ireturn, 1) := by decide +kernel
theorem dX7_wheelIs_0 : decode cX7_wheelIs 0 = .ok (.aload_n 0, 1) := by decide +kernel
theorem dX7_wheelIs_1 : decode cX7_wheelIs 1 = .ok (.iload_n 1, 1) := by decide +kernel
theorem dX7_wheelIs_2 : decode cX7_wheelIs 2 = .ok (.invokevirtual 90, 3) := by decide +kernel
theorem dX7_wheelIs_5 : decode cX7_wheelIs 5 = .ok (.ifCond .ne 13, 3) := by decide +kernel
theorem dX7_wheelIs_8 : decode cX7_wheelIs 8 = .ok (.iload_n 2, 1) := by decide +kernel
theorem dX7_wheelIs_9 : decode cX7_wheelIs 9 = .ok (.iconst 0, 1) := by decide +kernel
theorem dX7_wheelIs_10 : decode cX7_wheelIs 10 = .ok (.bipush 9, 2) := by decide +kernel
theorem dX7_wheelIs_12 : decode cX7_wheelIs 12 = .ok (.invokestatic 57, 3) := by decide +kernel
theorem dX7_wheelIs_15 : decode cX7_wheelIs 15 = .ok (.ifCond .eq 9, 3) := by decide +kernel
theorem dX7_wheelIs_18 : decode cX7_wheelIs 18 = .ok (.aload_n 0, 1) := by decide +kernel
theorem dX7_wheelIs_19 : decode cX7_wheelIs 19 = .ok (.iconst 1, 1) := by decide +kernel
theorem dX7_wheelIs_20 : decode cX7_wheelIs 20 = .ok (.invokevirtual 61, 3) := by decide +kernel
theorem dX7_wheelIs_23 : decode cX7_wheelIs 23 = .ok (.ireturn, 1) := by decide +kernel
theorem dX7_wheelIs_24 : decode cX7_wheelIs 24 = .ok (.aload_n 0, 1) := by decide +kernel
theorem dX7_wheelIs_25 : decode cX7_wheelIs 25 = .ok (.getfield 10, 3) := by decide +kernel
theorem dX7_wheelIs_28 : decode cX7_wheelIs 28 = .ok (.iload_n 1, 1) := by decide +kernel
theorem dX7_wheelIs_29 : decode cX7_wheelIs 29 = .ok (.iload_n 2, 1) := by decide +kernel
theorem dX7_wheelIs_30 : decode cX7_wheelIs 30 = .ok (.invokevirtual 94, 3) := by decide +kernel
theorem dX7_wheelIs_33 : decode cX7_wheelIs 33 = .ok (.ireturn, 1) := by decide +kernel
theorem dX7_as_0 : decode cX7_as 0 = .ok (.aload_n 0, 1) := by decide +kernel
theorem dX7_as_1 : decode cX7_as 1 = .ok (.iload_n 1, 1) := by decide +kernel
theorem dX7_as_2 : decode cX7_as 2 = .ok (.invokevirtual 90, 3) := by decide +kernel
theorem dX7_as_5 : decode cX7_as 5 = .ok (.ifCond .ne 13, 3) := by decide +kernel
theorem dX7_as_8 : decode cX7_as 8 = .ok (.iload_n 2, 1) := by decide +kernel
theorem dX7_as_9 : decode cX7_as 9 = .ok (.iconst 0, 1) := by decide +kernel
theorem dX7_as_10 : decode cX7_as 10 = .ok (.bipush 6, 2) := by decide +kernel
theorem dX7_as_12 : decode cX7_as 12 = .ok (.invokestatic 57, 3) := by decide +kernel
theorem dX7_as_15 : decode cX7_as 15 = .ok (.ifCond .eq 9, 3) := by decide +kernel
theorem dX7_as_18 : decode cX7_as 18 = .ok (.aload_n 0, 1) := by decide +kernel
theorem dX7_as_19 : decode cX7_as 19 = .ok (.iconst 1, 1) := by decide +kernel
theorem dX7_as_20 : decode cX7_as 20 = .ok (.invokevirtual 61, 3) := by decide +kernel
theorem dX7_as_23 : decode cX7_as 23 = .ok (.ireturn, 1) := by decide +kernel
theorem dX7_as_24 : decode cX7_as 24 = .ok (.aload_n 0, 1) := by decide +kernel
theorem dX7_as_25 : decode cX7_as 25 = .ok (.getfield 10, 3) := by decide +kernel
theorem dX7_as_28 : decode cX7_as 28 = .ok (.getfield 97, 3) := by decide +kernel
theorem dX7_as_31 : decode cX7_as 31 = .ok (.iload_n 1, 1) := by decide +kernel
theorem dX7_as_32 : decode cX7_as 32 = .ok (.aaload, 1) := by decide +kernel
theorem dX7_as_33 : decode cX7_as 33 = .ok (.astore_n 3, 1) := by decide +kernel
theorem dX7_as_34 : decode cX7_as 34 = .ok (.aload_n 3, 1) := by decide +kernel
theorem dX7_as_35 : decode cX7_as 35 = .ok (.getfield 101, 3) := by decide +kernel
theorem dX7_as_38 : decode cX7_as 38 = .ok (.iload_n 2, 1) := by decide +kernel
theorem dX7_as_39 : decode cX7_as 39 = .ok (.invokestatic 106, 3) := by decide +kernel
theorem dX7_as_42 : decode cX7_as 42 = .ok (.ifCond .ne 9, 3) := by decide +kernel
theorem dX7_as_45 : decode cX7_as 45 = .ok (.aload_n 0, 1) := by decide +kernel
theorem dX7_as_46 : decode cX7_as 46 = .ok (.iconst 5, 1) := by decide +kernel
theorem dX7_as_47 : decode cX7_as 47 = .ok (.invokevirtual 61, 3) := by decide +kernel
theorem dX7_as_50 : decode cX7_as 50 = .ok (.ireturn, 1) := by decide +kernel
theorem dX7_as_51 : decode cX7_as 51 = .ok (.aload_n 3, 1) := by decide +kernel
theorem dX7_as_52 : decode cX7_as 52 = .ok (.getfield 110, 3) := by decide +kernel
theorem dX7_as_55 : decode cX7_as 55 = .ok (.ireturn, 1) := by decide +kernel
theorem dX7_set_0 : decode cX7_set 0 = .ok (.aload_n 0, 1) := by decide +kernel
theorem dX7_set_1 : decode cX7_set 1 = .ok (.iload_n 1, 1) := by decide +kernel
theorem dX7_set_2 : decode cX7_set 2 = .ok (.invokevirtual 90, 3) := by decide +kernel
theorem dX7_set_5 : decode cX7_set 5 = .ok (.ifCond .ne 30, 3) := by decide +kernel
theorem dX7_set_8 : decode cX7_set 8 = .ok (.iload_n 2, 1) := by decide +kernel
theorem dX7_set_9 : decode cX7_set 9 = .ok (.iconst 0, 1) := by decide +kernel
theorem dX7_set_10 : decode cX7_set 10 = .ok (.getstatic 113, 3) := by decide +kernel
theorem dX7_set_13 : decode cX7_set 13 = .ok (.arraylength, 1) := by decide +kernel
theorem dX7_set_14 : decode cX7_set 14 = .ok (.iconst 1, 1) := by decide +kernel
theorem dX7_set_15 : decode cX7_set 15 = .ok (.isub, 1) := by decide +kernel
theorem dX7_set_16 : decode cX7_set 16 = .ok (.invokestatic 57, 3) := by decide +kernel
theorem dX7_set_19 : decode cX7_set 19 = .ok (.ifCond .ne 16, 3) := by decide +kernel
theorem dX7_set_22 : decode cX7_set 22 = .ok (.iload_n 3, 1) := by decide +kernel
theorem dX7_set_23 : decode cX7_set 23 = .ok (.iconst 0, 1) := by decide +kernel
theorem dX7_set_24 : decode cX7_set 24 = .ok (.getstatic 113, 3) := by decide +kernel
theorem dX7_set_27 : decode cX7_set 27 = .ok (.iload_n 2, 1) := by decide +kernel
theorem dX7_set_28 : decode cX7_set 28 = .ok (.iaload, 1) := by decide +kernel
theorem dX7_set_29 : decode cX7_set 29 = .ok (.invokestatic 57, 3) := by decide +kernel
theorem dX7_set_32 : decode cX7_set 32 = .ok (.ifCond .eq 9, 3) := by decide +kernel
theorem dX7_set_35 : decode cX7_set 35 = .ok (.aload_n 0, 1) := by decide +kernel
theorem dX7_set_36 : decode cX7_set 36 = .ok (.iconst 1, 1) := by decide +kernel
theorem dX7_set_37 : decode cX7_set 37 = .ok (.invokevirtual 61, 3) := by decide +kernel
theorem dX7_set_40 : decode cX7_set 40 = .ok (.ireturn, 1) := by decide +kernel
theorem dX7_set_41 : decode cX7_set 41 = .ok (.aload_n 0, 1) := by decide +kernel
theorem dX7_set_42 : decode cX7_set 42 = .ok (.getfield 10, 3) := by decide +kernel
theorem dX7_set_45 : decode cX7_set 45 = .ok (.getfield 97, 3) := by decide +kernel
theorem dX7_set_48 : decode cX7_set 48 = .ok (.iload_n 1, 1) := by decide +kernel
theorem dX7_set_49 : decode cX7_set 49 = .ok (.aaload, 1) := by decide +kernel
theorem dX7_set_50 : decode cX7_set 50 = .ok (.astore 4, 2) := by decide +kernel
theorem dX7_set_52 : decode cX7_set 52 = .ok (.aload 4, 2) := by decide +kernel
theorem dX7_set_54 : decode cX7_set 54 = .ok (.iload_n 2, 1) := by decide +kernel
theorem dX7_set_55 : decode cX7_set 55 = .ok (.invokevirtual 116, 3) := by decide +kernel
theorem dX7_set_58 : decode cX7_set 58 = .ok (.istore 5, 2) := by decide +kernel
theorem dX7_set_60 : decode cX7_set 60 = .ok (.aload 4, 2) := by decide +kernel
theorem dX7_set_62 : decode cX7_set 62 = .ok (.iload_n 2, 1) := by decide +kernel
theorem dX7_set_63 : decode cX7_set 63 = .ok (.iload_n 3, 1) := by decide +kernel
theorem dX7_set_64 : decode cX7_set 64 = .ok (.invokevirtual 119, 3) := by decide +kernel
theorem dX7_set_67 : decode cX7_set 67 = .ok (.iload 5, 2) := by decide +kernel
theorem dX7_set_69 : decode cX7_set 69 = .ok (.ireturn, 1) := by decide +kernel
theorem dX7_flows_0 : decode cX7_flows 0 = .ok (.iload_n 1, 1) := by decide +kernel
theorem dX7_flows_1 : decode cX7_flows 1 = .ok (.iconst 0, 1) := by decide +kernel
theorem dX7_flows_2 : decode cX7_flows 2 = .ok (.bipush 11, 2) := by decide +kernel
theorem dX7_flows_4 : decode cX7_flows 4 = .ok (.invokestatic 57, 3) := by decide +kernel
theorem dX7_flows_7 : decode cX7_flows 7 = .ok (.ifCond .eq 9, 3) := by decide +kernel
theorem dX7_flows_10 : decode cX7_flows 10 = .ok (.aload_n 0, 1) := by decide +kernel
theorem dX7_flows_11 : decode cX7_flows 11 = .ok (.iconst 1, 1) := by decide +kernel
theorem dX7_flows_12 : decode cX7_flows 12 = .ok (.invokevirtual 61, 3) := by decide +kernel
theorem dX7_flows_15 : decode cX7_flows 15 = .ok (.ireturn, 1) := by decide +kernel
theorem dX7_flows_16 : decode cX7_flows 16 = .ok (.aload_n 0, 1) := by decide +kernel
theorem dX7_flows_17 : decode cX7_flows 17 = .ok (.getfield 10, 3) := by decide +kernel
theorem dX7_flows_20 : decode cX7_flows 20 = .ok (.invokevirtual 123, 3) := by decide +kernel
theorem dX7_flows_23 : decode cX7_flows 23 = .ok (.aload_n 0, 1) := by decide +kernel
theorem dX7_flows_24 : decode cX7_flows 24 = .ok (.getfield 10, 3) := by decide +kernel
theorem dX7_flows_27 : decode cX7_flows 27 = .ok (.getfield 126, 3) := by decide +kernel
theorem dX7_flows_30 : decode cX7_flows 30 = .ok (.iload_n 1, 1) := by decide +kernel
theorem dX7_flows_31 : decode cX7_flows 31 = .ok (.iaload, 1) := by decide +kernel
theorem dX7_flows_32 : decode cX7_flows 32 = .ok (.ireturn, 1) := by decide +kernel
theorem dX7_feed_0 : decode cX7_feed 0 = .ok (.iload_n 3, 1) := by decide +kernel
theorem dX7_feed_1 : decode cX7_feed 1 = .ok (.iconst 1, 1) := by decide +kernel
theorem dX7_feed_2 : decode cX7_feed 2 = .ok (.bipush 8, 2) := by decide +kernel
theorem dX7_feed_4 : decode cX7_feed 4 = .ok (.invokestatic 57, 3) := by decide +kernel
theorem dX7_feed_7 : decode cX7_feed 7 = .ok (.ifCond .eq 9, 3) := by decide +kernel
theorem dX7_feed_10 : decode cX7_feed 10 = .ok (.aload_n 0, 1) := by decide +kernel
theorem dX7_feed_11 : decode cX7_feed 11 = .ok (.iconst 1, 1) := by decide +kernel
theorem dX7_feed_12 : decode cX7_feed 12 = .ok (.invokevirtual 61, 3) := by decide +kernel
theorem dX7_feed_15 : decode cX7_feed 15 = .ok (.ireturn, 1) := by decide +kernel
theorem dX7_feed_16 : decode cX7_feed 16 = .ok (.aload_n 0, 1) := by decide +kernel
theorem dX7_feed_17 : decode cX7_feed 17 = .ok (.getfield 25, 3) := by decide +kernel
theorem dX7_feed_20 : decode cX7_feed 20 = .ok (.getfield 129, 3) := by decide +kernel
theorem dX7_feed_23 : decode cX7_feed 23 = .ok (.iload_n 3, 1) := by decide +kernel
theorem dX7_feed_24 : decode cX7_feed 24 = .ok (.iadd, 1) := by decide +kernel
theorem dX7_feed_25 : decode cX7_feed 25 = .ok (.bipush 60, 2) := by decide +kernel
theorem dX7_feed_27 : decode cX7_feed 27 = .ok (.if_icmp .le 9, 3) := by decide +kernel
theorem dX7_feed_30 : decode cX7_feed 30 = .ok (.aload_n 0, 1) := by decide +kernel
theorem dX7_feed_31 : decode cX7_feed 31 = .ok (.iconst 4, 1) := by decide +kernel
theorem dX7_feed_32 : decode cX7_feed 32 = .ok (.invokevirtual 61, 3) := by decide +kernel
theorem dX7_feed_35 : decode cX7_feed 35 = .ok (.ireturn, 1) := by decide +kernel
theorem dX7_feed_36 : decode cX7_feed 36 = .ok (.aload_n 0, 1) := by decide +kernel
theorem dX7_feed_37 : decode cX7_feed 37 = .ok (.getfield 25, 3) := by decide +kernel
theorem dX7_feed_40 : decode cX7_feed 40 = .ok (.lload_n 1, 1) := by decide +kernel
theorem dX7_feed_41 : decode cX7_feed 41 = .ok (.iload_n 3, 1) := by decide +kernel
theorem dX7_feed_42 : decode cX7_feed 42 = .ok (.invokevirtual 132, 3) := by decide +kernel
theorem dX7_feed_45 : decode cX7_feed 45 = .ok (.aload_n 0, 1) := by decide +kernel
theorem dX7_feed_46 : decode cX7_feed 46 = .ok (.getfield 25, 3) := by decide +kernel
theorem dX7_feed_49 : decode cX7_feed 49 = .ok (.getfield 129, 3) := by decide +kernel
theorem dX7_feed_52 : decode cX7_feed 52 = .ok (.ireturn, 1) := by decide +kernel
theorem dX7_text_0 : decode cX7_text 0 = .ok (.iload_n 1, 1) := by decide +kernel
theorem dX7_text_1 : decode cX7_text 1 = .ok (.iconst 0, 1) := by decide +kernel
theorem dX7_text_2 : decode cX7_text 2 = .ok (.iconst 1, 1) := by decide +kernel
theorem dX7_text_3 : decode cX7_text 3 = .ok (.invokestatic 57, 3) := by decide +kernel
theorem dX7_text_6 : decode cX7_text 6 = .ok (.ifCond .eq 9, 3) := by decide +kernel
theorem dX7_text_9 : decode cX7_text 9 = .ok (.aload_n 0, 1) := by decide +kernel
theorem dX7_text_10 : decode cX7_text 10 = .ok (.iconst 1, 1) := by decide +kernel
theorem dX7_text_11 : decode cX7_text 11 = .ok (.invokevirtual 61, 3) := by decide +kernel
theorem dX7_text_14 : decode cX7_text 14 = .ok (.ireturn, 1) := by decide +kernel
theorem dX7_text_15 : decode cX7_text 15 = .ok (.aload_n 0, 1) := by decide +kernel
theorem dX7_text_16 : decode cX7_text 16 = .ok (.getfield 35, 3) := by decide +kernel
theorem dX7_text_19 : decode cX7_text 19 = .ok (.aload_n 0, 1) := by decide +kernel
theorem dX7_text_20 : decode cX7_text 20 = .ok (.getfield 25, 3) := by decide +kernel
theorem dX7_text_23 : decode cX7_text 23 = .ok (.getfield 136, 3) := by decide +kernel
theorem dX7_text_26 : decode cX7_text 26 = .ok (.aload_n 0, 1) := by decide +kernel
theorem dX7_text_27 : decode cX7_text 27 = .ok (.getfield 25, 3) := by decide +kernel
theorem dX7_text_30 : decode cX7_text 30 = .ok (.getfield 129, 3) := by decide +kernel
theorem dX7_text_33 : decode cX7_text 33 = .ok (.iload_n 1, 1) := by decide +kernel
theorem dX7_text_34 : decode cX7_text 34 = .ok (.invokevirtual 140, 3) := by decide +kernel
theorem dX7_text_37 : decode cX7_text 37 = .ok (.istore_n 2, 1) := by decide +kernel
theorem dX7_text_38 : decode cX7_text 38 = .ok (.aload_n 0, 1) := by decide +kernel
theorem dX7_text_39 : decode cX7_text 39 = .ok (.getfield 25, 3) := by decide +kernel
theorem dX7_text_42 : decode cX7_text 42 = .ok (.iconst 0, 1) := by decide +kernel
theorem dX7_text_43 : decode cX7_text 43 = .ok (.putfield 129, 3) := by decide +kernel
theorem dX7_text_46 : decode cX7_text 46 = .ok (.iload_n 2, 1) := by decide +kernel
theorem dX7_text_47 : decode cX7_text 47 = .ok (.ifCond .lt 8, 3) := by decide +kernel
theorem dX7_text_50 : decode cX7_text 50 = .ok (.bipush (-10), 2) := by decide +kernel
theorem dX7_text_52 : decode cX7_text 52 = .ok (.iload_n 2, 1) := by decide +kernel
theorem dX7_text_53 : decode cX7_text 53 = .ok (.isub, 1) := by decide +kernel
theorem dX7_text_54 : decode cX7_text 54 = .ok (.ireturn, 1) := by decide +kernel
theorem dX7_text_55 : decode cX7_text 55 = .ok (.aload_n 0, 1) := by decide +kernel
theorem dX7_text_56 : decode cX7_text 56 = .ok (.getfield 10, 3) := by decide +kernel
theorem dX7_text_59 : decode cX7_text 59 = .ok (.iload_n 1, 1) := by decide +kernel
theorem dX7_text_60 : decode cX7_text 60 = .ok (.invokevirtual 144, 3) := by decide +kernel
theorem dX7_text_63 : decode cX7_text 63 = .ok (.aload_n 0, 1) := by decide +kernel
theorem dX7_text_64 : decode cX7_text 64 = .ok (.getfield 35, 3) := by decide +kernel
theorem dX7_text_67 : decode cX7_text 67 = .ok (.getfield 148, 3) := by decide +kernel
theorem dX7_text_70 : decode cX7_text 70 = .ok (.aload_n 0, 1) := by decide +kernel
theorem dX7_text_71 : decode cX7_text 71 = .ok (.getfield 35, 3) := by decide +kernel
theorem dX7_text_74 : decode cX7_text 74 = .ok (.getfield 151, 3) := by decide +kernel
theorem dX7_text_77 : decode cX7_text 77 = .ok (.invokevirtual 152, 3) := by decide +kernel
theorem dX7_text_80 : decode cX7_text 80 = .ok (.iconst 1, 1) := by decide +kernel
theorem dX7_text_81 : decode cX7_text 81 = .ok (.ireturn, 1) := by decide +kernel
theorem dX7_untell_0 : decode cX7_untell 0 = .ok (.iload_n 1, 1) := by decide +kernel
theorem dX7_untell_1 : decode cX7_untell 1 = .ok (.iconst 0, 1) := by decide +kernel
theorem dX7_untell_2 : decode cX7_untell 2 = .ok (.iconst 1, 1) := by decide +kernel
theorem dX7_untell_3 : decode cX7_untell 3 = .ok (.invokestatic 57, 3) := by decide +kernel
theorem dX7_untell_6 : decode cX7_untell 6 = .ok (.ifCond .eq 9, 3) := by decide +kernel
theorem dX7_untell_9 : decode cX7_untell 9 = .ok (.aload_n 0, 1) := by decide +kernel
theorem dX7_untell_10 : decode cX7_untell 10 = .ok (.iconst 1, 1) := by decide +kernel
theorem dX7_untell_11 : decode cX7_untell 11 = .ok (.invokevirtual 61, 3) := by decide +kernel
theorem dX7_untell_14 : decode cX7_untell 14 = .ok (.ireturn, 1) := by decide +kernel
theorem dX7_untell_15 : decode cX7_untell 15 = .ok (.aload_n 0, 1) := by decide +kernel
theorem dX7_untell_16 : decode cX7_untell 16 = .ok (.getfield 10, 3) := by decide +kernel
theorem dX7_untell_19 : decode cX7_untell 19 = .ok (.iload_n 1, 1) := by decide +kernel
theorem dX7_untell_20 : decode cX7_untell 20 = .ok (.invokevirtual 144, 3) := by decide +kernel
theorem dX7_untell_23 : decode cX7_untell 23 = .ok (.astore_n 2, 1) := by decide +kernel
theorem dX7_untell_24 : decode cX7_untell 24 = .ok (.aload_n 2, 1) := by decide +kernel
theorem dX7_untell_25 : decode cX7_untell 25 = .ok (.getfield 158, 3) := by decide +kernel
theorem dX7_untell_28 : decode cX7_untell 28 = .ok (.ifCond .le 7, 3) := by decide +kernel
theorem dX7_untell_31 : decode cX7_untell 31 = .ok (.iconst 1, 1) := by decide +kernel
theorem dX7_untell_32 : decode cX7_untell 32 = .ok (.goto 4, 3) := by decide +kernel
theorem dX7_untell_35 : decode cX7_untell 35 = .ok (.iconst 0, 1) := by decide +kernel
theorem dX7_untell_36 : decode cX7_untell 36 = .ok (.istore_n 3, 1) := by decide +kernel
theorem dX7_untell_37 : decode cX7_untell 37 = .ok (.aload_n 2, 1) := by decide +kernel
theorem dX7_untell_38 : decode cX7_untell 38 = .ok (.iconst 0, 1) := by decide +kernel
theorem dX7_untell_39 : decode cX7_untell 39 = .ok (.putfield 158, 3) := by decide +kernel
theorem dX7_untell_42 : decode cX7_untell 42 = .ok (.iload_n 3, 1) := by decide +kernel
theorem dX7_untell_43 : decode cX7_untell 43 = .ok (.ireturn, 1) := by decide +kernel
theorem dX7_hours_0 : decode cX7_hours 0 = .ok (.iload_n 1, 1) := by decide +kernel
theorem dX7_hours_1 : decode cX7_hours 1 = .ok (.iconst 1, 1) := by decide +kernel
theorem dX7_hours_2 : decode cX7_hours 2 = .ok (.sipush 240, 3) := by decide +kernel
theorem dX7_hours_5 : decode cX7_hours 5 = .ok (.invokestatic 57, 3) := by decide +kernel
theorem dX7_hours_8 : decode cX7_hours 8 = .ok (.ifCond .eq 9, 3) := by decide +kernel
theorem dX7_hours_11 : decode cX7_hours 11 = .ok (.aload_n 0, 1) := by decide +kernel
theorem dX7_hours_12 : decode cX7_hours 12 = .ok (.iconst 1, 1) := by decide +kernel
theorem dX7_hours_13 : decode cX7_hours 13 = .ok (.invokevirtual 61, 3) := by decide +kernel
theorem dX7_hours_16 : decode cX7_hours 16 = .ok (.ireturn, 1) := by decide +kernel
theorem dX7_hours_17 : decode cX7_hours 17 = .ok (.aload_n 0, 1) := by decide +kernel
theorem dX7_hours_18 : decode cX7_hours 18 = .ok (.getfield 10, 3) := by decide +kernel
theorem dX7_hours_21 : decode cX7_hours 21 = .ok (.getfield 159, 3) := by decide +kernel
theorem dX7_hours_24 : decode cX7_hours 24 = .ok (.iload_n 1, 1) := by decide +kernel
theorem dX7_hours_25 : decode cX7_hours 25 = .ok (.iadd, 1) := by decide +kernel
theorem dX7_hours_26 : decode cX7_hours 26 = .ok (.sipush 9999, 3) := by decide +kernel
theorem dX7_hours_29 : decode cX7_hours 29 = .ok (.if_icmp .le 9, 3) := by decide +kernel
theorem dX7_hours_32 : decode cX7_hours 32 = .ok (.aload_n 0, 1) := by decide +kernel
theorem dX7_hours_33 : decode cX7_hours 33 = .ok (.iconst 3, 1) := by decide +kernel
theorem dX7_hours_34 : decode cX7_hours 34 = .ok (.invokevirtual 61, 3) := by decide +kernel
theorem dX7_hours_37 : decode cX7_hours 37 = .ok (.ireturn, 1) := by decide +kernel
theorem dX7_hours_38 : decode cX7_hours 38 = .ok (.aload_n 0, 1) := by decide +kernel
theorem dX7_hours_39 : decode cX7_hours 39 = .ok (.getfield 10, 3) := by decide +kernel
theorem dX7_hours_42 : decode cX7_hours 42 = .ok (.iload_n 1, 1) := by decide +kernel
theorem dX7_hours_43 : decode cX7_hours 43 = .ok (.invokevirtual 162, 3) := by decide +kernel
theorem dX7_hours_46 : decode cX7_hours 46 = .ok (.pop, 1) := by decide +kernel
theorem dX7_hours_47 : decode cX7_hours 47 = .ok (.aload_n 0, 1) := by decide +kernel
theorem dX7_hours_48 : decode cX7_hours 48 = .ok (.getfield 10, 3) := by decide +kernel
theorem dX7_hours_51 : decode cX7_hours 51 = .ok (.invokevirtual 165, 3) := by decide +kernel
theorem dX7_hours_54 : decode cX7_hours 54 = .ok (.ireturn, 1) := by decide +kernel
theorem dX7_draws_0 : decode cX7_draws 0 = .ok (.iload_n 1, 1) := by decide +kernel
theorem dX7_draws_1 : decode cX7_draws 1 = .ok (.iconst 1, 1) := by decide +kernel
theorem dX7_draws_2 : decode cX7_draws 2 = .ok (.bipush 60, 2) := by decide +kernel
theorem dX7_draws_4 : decode cX7_draws 4 = .ok (.invokestatic 57, 3) := by decide +kernel
theorem dX7_draws_7 : decode cX7_draws 7 = .ok (.ifCond .eq 9, 3) := by decide +kernel
theorem dX7_draws_10 : decode cX7_draws 10 = .ok (.aload_n 0, 1) := by decide +kernel
theorem dX7_draws_11 : decode cX7_draws 11 = .ok (.iconst 1, 1) := by decide +kernel
theorem dX7_draws_12 : decode cX7_draws 12 = .ok (.invokevirtual 61, 3) := by decide +kernel
theorem dX7_draws_15 : decode cX7_draws 15 = .ok (.ireturn, 1) := by decide +kernel
theorem dX7_draws_16 : decode cX7_draws 16 = .ok (.aload_n 0, 1) := by decide +kernel
theorem dX7_draws_17 : decode cX7_draws 17 = .ok (.getfield 10, 3) := by decide +kernel
theorem dX7_draws_20 : decode cX7_draws 20 = .ok (.getfield 159, 3) := by decide +kernel
theorem dX7_draws_23 : decode cX7_draws 23 = .ok (.iload_n 1, 1) := by decide +kernel
theorem dX7_draws_24 : decode cX7_draws 24 = .ok (.iadd, 1) := by decide +kernel
theorem dX7_draws_25 : decode cX7_draws 25 = .ok (.sipush 9999, 3) := by decide +kernel
theorem dX7_draws_28 : decode cX7_draws 28 = .ok (.if_icmp .le 9, 3) := by decide +kernel
theorem dX7_draws_31 : decode cX7_draws 31 = .ok (.aload_n 0, 1) := by decide +kernel
theorem dX7_draws_32 : decode cX7_draws 32 = .ok (.iconst 3, 1) := by decide +kernel
theorem dX7_draws_33 : decode cX7_draws 33 = .ok (.invokevirtual 61, 3) := by decide +kernel
theorem dX7_draws_36 : decode cX7_draws 36 = .ok (.ireturn, 1) := by decide +kernel
theorem dX7_draws_37 : decode cX7_draws 37 = .ok (.iconst 0, 1) := by decide +kernel
theorem dX7_draws_38 : decode cX7_draws 38 = .ok (.istore_n 2, 1) := by decide +kernel
theorem dX7_draws_39 : decode cX7_draws 39 = .ok (.iconst 0, 1) := by decide +kernel
theorem dX7_draws_40 : decode cX7_draws 40 = .ok (.istore_n 3, 1) := by decide +kernel
theorem dX7_draws_41 : decode cX7_draws 41 = .ok (.iload_n 3, 1) := by decide +kernel
theorem dX7_draws_42 : decode cX7_draws 42 = .ok (.iload_n 1, 1) := by decide +kernel
theorem dX7_draws_43 : decode cX7_draws 43 = .ok (.if_icmp .ge 27, 3) := by decide +kernel
theorem dX7_draws_46 : decode cX7_draws 46 = .ok (.iload_n 2, 1) := by decide +kernel
theorem dX7_draws_47 : decode cX7_draws 47 = .ok (.aload_n 0, 1) := by decide +kernel
theorem dX7_draws_48 : decode cX7_draws 48 = .ok (.getfield 10, 3) := by decide +kernel
theorem dX7_draws_51 : decode cX7_draws 51 = .ok (.invokevirtual 169, 3) := by decide +kernel
theorem dX7_draws_54 : decode cX7_draws 54 = .ok (.iadd, 1) := by decide +kernel
theorem dX7_draws_55 : decode cX7_draws 55 = .ok (.istore_n 2, 1) := by decide +kernel
theorem dX7_draws_56 : decode cX7_draws 56 = .ok (.aload_n 0, 1) := by decide +kernel
theorem dX7_draws_57 : decode cX7_draws 57 = .ok (.getfield 10, 3) := by decide +kernel
theorem dX7_draws_60 : decode cX7_draws 60 = .ok (.invokevirtual 172, 3) := by decide +kernel
theorem dX7_draws_63 : decode cX7_draws 63 = .ok (.pop, 1) := by decide +kernel
theorem dX7_draws_64 : decode cX7_draws 64 = .ok (.iinc 3 1, 3) := by decide +kernel
theorem dX7_draws_67 : decode cX7_draws 67 = .ok (.goto (-26), 3) := by decide +kernel
theorem dX7_draws_70 : decode cX7_draws 70 = .ok (.iload_n 2, 1) := by decide +kernel
theorem dX7_draws_71 : decode cX7_draws 71 = .ok (.ireturn, 1) := by decide +kernel
theorem dX7_seed_0 : decode cX7_seed 0 = .ok (.aload_n 0, 1) := by decide +kernel
theorem dX7_seed_1 : decode cX7_seed 1 = .ok (.getfield 10, 3) := by decide +kernel
theorem dX7_seed_4 : decode cX7_seed 4 = .ok (.getfield 175, 3) := by decide +kernel
theorem dX7_seed_7 : decode cX7_seed 7 = .ok (.istore_n 2, 1) := by decide +kernel
theorem dX7_seed_8 : decode cX7_seed 8 = .ok (.aload_n 0, 1) := by decide +kernel
theorem dX7_seed_9 : decode cX7_seed 9 = .ok (.getfield 10, 3) := by decide +kernel
theorem dX7_seed_12 : decode cX7_seed 12 = .ok (.iload_n 1, 1) := by decide +kernel
theorem dX7_seed_13 : decode cX7_seed 13 = .ok (.putfield 175, 3) := by decide +kernel
theorem dX7_seed_16 : decode cX7_seed 16 = .ok (.iload_n 2, 1) := by decide +kernel
theorem dX7_seed_17 : decode cX7_seed 17 = .ok (.ireturn, 1) := by decide +kernel
theorem dX7_sell_0 : decode cX7_sell 0 = .ok (.iload_n 1, 1) := by decide +kernel
theorem dX7_sell_1 : decode cX7_sell 1 = .ok (.iconst 0, 1) := by decide +kernel
theorem dX7_sell_2 : decode cX7_sell 2 = .ok (.iconst 4, 1) := by decide +kernel
theorem dX7_sell_3 : decode cX7_sell 3 = .ok (.invokestatic 57, 3) := by decide +kernel
theorem dX7_sell_6 : decode cX7_sell 6 = .ok (.ifCond .ne 28, 3) := by decide +kernel
theorem dX7_sell_9 : decode cX7_sell 9 = .ok (.iload_n 2, 1) := by decide +kernel
theorem dX7_sell_10 : decode cX7_sell 10 = .ok (.iconst 0, 1) := by decide +kernel
theorem dX7_sell_11 : decode cX7_sell 11 = .ok (.iconst 4, 1) := by decide +kernel
theorem dX7_sell_12 : decode cX7_sell 12 = .ok (.invokestatic 57, 3) := by decide +kernel
theorem dX7_sell_15 : decode cX7_sell 15 = .ok (.ifCond .ne 19, 3) := by decide +kernel
theorem dX7_sell_18 : decode cX7_sell 18 = .ok (.iload_n 1, 1) := by decide +kernel
theorem dX7_sell_19 : decode cX7_sell 19 = .ok (.iload_n 2, 1) := by decide +kernel
theorem dX7_sell_20 : decode cX7_sell 20 = .ok (.if_icmp .eq 14, 3) := by decide +kernel
theorem dX7_sell_23 : decode cX7_sell 23 = .ok (.iload_n 3, 1) := by decide +kernel
theorem dX7_sell_24 : decode cX7_sell 24 = .ok (.iconst 1, 1) := by decide +kernel
theorem dX7_sell_25 : decode cX7_sell 25 = .ok (.sipush 9999, 3) := by decide +kernel
theorem dX7_sell_28 : decode cX7_sell 28 = .ok (.invokestatic 57, 3) := by decide +kernel
theorem dX7_sell_31 : decode cX7_sell 31 = .ok (.ifCond .eq 9, 3) := by decide +kernel
theorem dX7_sell_34 : decode cX7_sell 34 = .ok (.aload_n 0, 1) := by decide +kernel
theorem dX7_sell_35 : decode cX7_sell 35 = .ok (.iconst 1, 1) := by decide +kernel
theorem dX7_sell_36 : decode cX7_sell 36 = .ok (.invokevirtual 61, 3) := by decide +kernel
theorem dX7_sell_39 : decode cX7_sell 39 = .ok (.ireturn, 1) := by decide +kernel
theorem dX7_sell_40 : decode cX7_sell 40 = .ok (.aload_n 0, 1) := by decide +kernel
theorem dX7_sell_41 : decode cX7_sell 41 = .ok (.getfield 10, 3) := by decide +kernel
theorem dX7_sell_44 : decode cX7_sell 44 = .ok (.getfield 178, 3) := by decide +kernel
theorem dX7_sell_47 : decode cX7_sell 47 = .ok (.iload_n 1, 1) := by decide +kernel
theorem dX7_sell_48 : decode cX7_sell 48 = .ok (.iaload, 1) := by decide +kernel
theorem dX7_sell_49 : decode cX7_sell 49 = .ok (.iload_n 3, 1) := by decide +kernel
theorem dX7_sell_50 : decode cX7_sell 50 = .ok (.if_icmp .ge 9, 3) := by decide +kernel
theorem dX7_sell_53 : decode cX7_sell 53 = .ok (.aload_n 0, 1) := by decide +kernel
theorem dX7_sell_54 : decode cX7_sell 54 = .ok (.iconst 3, 1) := by decide +kernel
theorem dX7_sell_55 : decode cX7_sell 55 = .ok (.invokevirtual 61, 3) := by decide +kernel
theorem dX7_sell_58 : decode cX7_sell 58 = .ok (.ireturn, 1) := by decide +kernel
theorem dX7_sell_59 : decode cX7_sell 59 = .ok (.aload_n 0, 1) := by decide +kernel
theorem dX7_sell_60 : decode cX7_sell 60 = .ok (.getfield 10, 3) := by decide +kernel
theorem dX7_sell_63 : decode cX7_sell 63 = .ok (.getfield 178, 3) := by decide +kernel
theorem dX7_sell_66 : decode cX7_sell 66 = .ok (.iload_n 1, 1) := by decide +kernel
theorem dX7_sell_67 : decode cX7_sell 67 = .ok (.dup2, 1) := by decide +kernel
theorem dX7_sell_68 : decode cX7_sell 68 = .ok (.iaload, 1) := by decide +kernel
theorem dX7_sell_69 : decode cX7_sell 69 = .ok (.iload_n 3, 1) := by decide +kernel
theorem dX7_sell_70 : decode cX7_sell 70 = .ok (.isub, 1) := by decide +kernel
theorem dX7_sell_71 : decode cX7_sell 71 = .ok (.iastore, 1) := by decide +kernel
theorem dX7_sell_72 : decode cX7_sell 72 = .ok (.aload_n 0, 1) := by decide +kernel
theorem dX7_sell_73 : decode cX7_sell 73 = .ok (.getfield 10, 3) := by decide +kernel
theorem dX7_sell_76 : decode cX7_sell 76 = .ok (.getfield 178, 3) := by decide +kernel
theorem dX7_sell_79 : decode cX7_sell 79 = .ok (.iload_n 2, 1) := by decide +kernel
theorem dX7_sell_80 : decode cX7_sell 80 = .ok (.aload_n 0, 1) := by decide +kernel
theorem dX7_sell_81 : decode cX7_sell 81 = .ok (.getfield 10, 3) := by decide +kernel
theorem dX7_sell_84 : decode cX7_sell 84 = .ok (.getfield 178, 3) := by decide +kernel
theorem dX7_sell_87 : decode cX7_sell 87 = .ok (.iload_n 2, 1) := by decide +kernel
theorem dX7_sell_88 : decode cX7_sell 88 = .ok (.iaload, 1) := by decide +kernel
theorem dX7_sell_89 : decode cX7_sell 89 = .ok (.iload_n 3, 1) := by decide +kernel
theorem dX7_sell_90 : decode cX7_sell 90 = .ok (.iadd, 1) := by decide +kernel
theorem dX7_sell_91 : decode cX7_sell 91 = .ok (.ldc 181, 2) := by decide +kernel
theorem dX7_sell_93 : decode cX7_sell 93 = .ok (.invokestatic 182, 3) := by decide +kernel
theorem dX7_sell_96 : decode cX7_sell 96 = .ok (.iastore, 1) := by decide +kernel
theorem dX7_sell_97 : decode cX7_sell 97 = .ok (.aload_n 0, 1) := by decide +kernel
theorem dX7_sell_98 : decode cX7_sell 98 = .ok (.getfield 10, 3) := by decide +kernel
theorem dX7_sell_101 : decode cX7_sell 101 = .ok (.getfield 178, 3) := by decide +kernel
theorem dX7_sell_104 : decode cX7_sell 104 = .ok (.iload_n 2, 1) := by decide +kernel
theorem dX7_sell_105 : decode cX7_sell 105 = .ok (.iaload, 1) := by decide +kernel
theorem dX7_sell_106 : decode cX7_sell 106 = .ok (.ireturn, 1) := by decide +kernel
theorem dX7_fair_0 : decode cX7_fair 0 = .ok (.iload_n 1, 1) := by decide +kernel
theorem dX7_fair_1 : decode cX7_fair 1 = .ok (.iconst 0, 1) := by decide +kernel
theorem dX7_fair_2 : decode cX7_fair 2 = .ok (.iconst 4, 1) := by decide +kernel
theorem dX7_fair_3 : decode cX7_fair 3 = .ok (.invokestatic 57, 3) := by decide +kernel
theorem dX7_fair_6 : decode cX7_fair 6 = .ok (.ifCond .ne 17, 3) := by decide +kernel
theorem dX7_fair_9 : decode cX7_fair 9 = .ok (.iload_n 2, 1) := by decide +kernel
theorem dX7_fair_10 : decode cX7_fair 10 = .ok (.iconst 0, 1) := by decide +kernel
theorem dX7_fair_11 : decode cX7_fair 11 = .ok (.iconst 4, 1) := by decide +kernel
theorem dX7_fair_12 : decode cX7_fair 12 = .ok (.invokestatic 57, 3) := by decide +kernel
theorem dX7_fair_15 : decode cX7_fair 15 = .ok (.ifCond .ne 8, 3) := by decide +kernel
theorem dX7_fair_18 : decode cX7_fair 18 = .ok (.iload_n 1, 1) := by decide +kernel
theorem dX7_fair_19 : decode cX7_fair 19 = .ok (.iload_n 2, 1) := by decide +kernel
theorem dX7_fair_20 : decode cX7_fair 20 = .ok (.if_icmp .ne 9, 3) := by decide +kernel
theorem dX7_fair_23 : decode cX7_fair 23 = .ok (.aload_n 0, 1) := by decide +kernel
theorem dX7_fair_24 : decode cX7_fair 24 = .ok (.iconst 1, 1) := by decide +kernel
theorem dX7_fair_25 : decode cX7_fair 25 = .ok (.invokevirtual 61, 3) := by decide +kernel
theorem dX7_fair_28 : decode cX7_fair 28 = .ok (.ireturn, 1) := by decide +kernel
theorem dX7_fair_29 : decode cX7_fair 29 = .ok (.aload_n 0, 1) := by decide +kernel
theorem dX7_fair_30 : decode cX7_fair 30 = .ok (.getfield 10, 3) := by decide +kernel
theorem dX7_fair_33 : decode cX7_fair 33 = .ok (.getfield 178, 3) := by decide +kernel
theorem dX7_fair_36 : decode cX7_fair 36 = .ok (.iload_n 1, 1) := by decide +kernel
theorem dX7_fair_37 : decode cX7_fair 37 = .ok (.iaload, 1) := by decide +kernel
theorem dX7_fair_38 : decode cX7_fair 38 = .ok (.aload_n 0, 1) := by decide +kernel
theorem dX7_fair_39 : decode cX7_fair 39 = .ok (.getfield 10, 3) := by decide +kernel
theorem dX7_fair_42 : decode cX7_fair 42 = .ok (.getfield 76, 3) := by decide +kernel
theorem dX7_fair_45 : decode cX7_fair 45 = .ok (.iload_n 1, 1) := by decide +kernel
theorem dX7_fair_46 : decode cX7_fair 46 = .ok (.iaload, 1) := by decide +kernel
theorem dX7_fair_47 : decode cX7_fair 47 = .ok (.isub, 1) := by decide +kernel
theorem dX7_fair_48 : decode cX7_fair 48 = .ok (.istore_n 3, 1) := by decide +kernel
theorem dX7_fair_49 : decode cX7_fair 49 = .ok (.aload_n 0, 1) := by decide +kernel
theorem dX7_fair_50 : decode cX7_fair 50 = .ok (.getfield 10, 3) := by decide +kernel
theorem dX7_fair_53 : decode cX7_fair 53 = .ok (.getfield 178, 3) := by decide +kernel
theorem dX7_fair_56 : decode cX7_fair 56 = .ok (.iload_n 2, 1) := by decide +kernel
theorem dX7_fair_57 : decode cX7_fair 57 = .ok (.iaload, 1) := by decide +kernel
theorem dX7_fair_58 : decode cX7_fair 58 = .ok (.aload_n 0, 1) := by decide +kernel
theorem dX7_fair_59 : decode cX7_fair 59 = .ok (.getfield 10, 3) := by decide +kernel
theorem dX7_fair_62 : decode cX7_fair 62 = .ok (.getfield 76, 3) := by decide +kernel
theorem dX7_fair_65 : decode cX7_fair 65 = .ok (.iload_n 2, 1) := by decide +kernel
theorem dX7_fair_66 : decode cX7_fair 66 = .ok (.iaload, 1) := by decide +kernel
theorem dX7_fair_67 : decode cX7_fair 67 = .ok (.isub, 1) := by decide +kernel
theorem dX7_fair_68 : decode cX7_fair 68 = .ok (.istore 4, 2) := by decide +kernel
theorem dX7_fair_70 : decode cX7_fair 70 = .ok (.iload_n 3, 1) := by decide +kernel
theorem dX7_fair_71 : decode cX7_fair 71 = .ok (.iload 4, 2) := by decide +kernel
theorem dX7_fair_73 : decode cX7_fair 73 = .ok (.isub, 1) := by decide +kernel
theorem dX7_fair_74 : decode cX7_fair 74 = .ok (.iconst 2, 1) := by decide +kernel
theorem dX7_fair_75 : decode cX7_fair 75 = .ok (.idiv, 1) := by decide +kernel
theorem dX7_fair_76 : decode cX7_fair 76 = .ok (.ireturn, 1) := by decide +kernel
theorem dX7_then_0 : decode cX7_then 0 = .ok (.iload_n 1, 1) := by decide +kernel
