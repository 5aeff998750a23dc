theorem dX8_turnsTold_40 : decode cX8_turnsTold 40 = .ok (.invokevirtual 90, 3) := by decide +kernel
theorem dX8_turnsTold_43 : decode cX8_turnsTold 43 = .ok (.iastore, 1) := by decide +kernel
theorem dX8_turnsTold_44 : decode cX8_turnsTold 44 = .ok (.aload_n 0, 1) := by decide +kernel
theorem dX8_turnsTold_45 : decode cX8_turnsTold 45 = .ok (.iconst 1, 1) := by decide +kernel
theorem dX8_turnsTold_46 : decode cX8_turnsTold 46 = .ok (.invokevirtual 182, 3) := by decide +kernel
theorem dX8_turnsTold_49 : decode cX8_turnsTold 49 = .ok (.ireturn, 1) := by decide +kernel
theorem dX8_turns_0 : decode cX8_turns 0 = .ok (.iload_n 2, 1) := by decide +kernel
theorem dX8_turns_1 : decode cX8_turns 1 = .ok (.istore_n 3, 1) := by decide +kernel
theorem dX8_turns_2 : decode cX8_turns 2 = .ok (.aload_n 0, 1) := by decide +kernel
theorem dX8_turns_3 : decode cX8_turns 3 = .ok (.iload_n 1, 1) := by decide +kernel
theorem dX8_turns_4 : decode cX8_turns 4 = .ok (.iconst 0, 1) := by decide +kernel
theorem dX8_turns_5 : decode cX8_turns 5 = .ok (.invokevirtual 90, 3) := by decide +kernel
theorem dX8_turns_8 : decode cX8_turns 8 = .ok (.tableswitch 88 1 6 #[40, 88, 47, 54, 73, 78], 40) := by decide +kernel
theorem dX8_turns_48 : decode cX8_turns 48 = .ok (.iload_n 2, 1) := by decide +kernel
theorem dX8_turns_49 : decode cX8_turns 49 = .ok (.iconst 2, 1) := by decide +kernel
theorem dX8_turns_50 : decode cX8_turns 50 = .ok (.idiv, 1) := by decide +kernel
theorem dX8_turns_51 : decode cX8_turns 51 = .ok (.istore_n 3, 1) := by decide +kernel
theorem dX8_turns_52 : decode cX8_turns 52 = .ok (.goto 44, 3) := by decide +kernel
theorem dX8_turns_55 : decode cX8_turns 55 = .ok (.iconst 2, 1) := by decide +kernel
theorem dX8_turns_56 : decode cX8_turns 56 = .ok (.iload_n 2, 1) := by decide +kernel
theorem dX8_turns_57 : decode cX8_turns 57 = .ok (.imul, 1) := by decide +kernel
theorem dX8_turns_58 : decode cX8_turns 58 = .ok (.istore_n 3, 1) := by decide +kernel
theorem dX8_turns_59 : decode cX8_turns 59 = .ok (.goto 37, 3) := by decide +kernel
theorem dX8_turns_62 : decode cX8_turns 62 = .ok (.iload_n 2, 1) := by decide +kernel
theorem dX8_turns_63 : decode cX8_turns 63 = .ok (.iconst 2, 1) := by decide +kernel
theorem dX8_turns_64 : decode cX8_turns 64 = .ok (.idiv, 1) := by decide +kernel
theorem dX8_turns_65 : decode cX8_turns 65 = .ok (.ifCond .le 11, 3) := by decide +kernel
theorem dX8_turns_68 : decode cX8_turns 68 = .ok (.iload_n 2, 1) := by decide +kernel
theorem dX8_turns_69 : decode cX8_turns 69 = .ok (.iconst 2, 1) := by decide +kernel
theorem dX8_turns_70 : decode cX8_turns 70 = .ok (.idiv, 1) := by decide +kernel
theorem dX8_turns_71 : decode cX8_turns 71 = .ok (.iconst 1, 1) := by decide +kernel
theorem dX8_turns_72 : decode cX8_turns 72 = .ok (.iadd, 1) := by decide +kernel
theorem dX8_turns_73 : decode cX8_turns 73 = .ok (.goto 4, 3) := by decide +kernel
theorem dX8_turns_76 : decode cX8_turns 76 = .ok (.iconst 0, 1) := by decide +kernel
theorem dX8_turns_77 : decode cX8_turns 77 = .ok (.istore_n 3, 1) := by decide +kernel
theorem dX8_turns_78 : decode cX8_turns 78 = .ok (.goto 18, 3) := by decide +kernel
theorem dX8_turns_81 : decode cX8_turns 81 = .ok (.iconst 0, 1) := by decide +kernel
theorem dX8_turns_82 : decode cX8_turns 82 = .ok (.istore_n 3, 1) := by decide +kernel
theorem dX8_turns_83 : decode cX8_turns 83 = .ok (.goto 13, 3) := by decide +kernel
theorem dX8_turns_86 : decode cX8_turns 86 = .ok (.aload_n 0, 1) := by decide +kernel
theorem dX8_turns_87 : decode cX8_turns 87 = .ok (.iload_n 1, 1) := by decide +kernel
theorem dX8_turns_88 : decode cX8_turns 88 = .ok (.iload_n 2, 1) := by decide +kernel
theorem dX8_turns_89 : decode cX8_turns 89 = .ok (.invokevirtual 188, 3) := by decide +kernel
theorem dX8_turns_92 : decode cX8_turns 92 = .ok (.istore_n 3, 1) := by decide +kernel
theorem dX8_turns_93 : decode cX8_turns 93 = .ok (.goto 3, 3) := by decide +kernel
theorem dX8_turns_96 : decode cX8_turns 96 = .ok (.iload_n 3, 1) := by decide +kernel
theorem dX8_turns_97 : decode cX8_turns 97 = .ok (.iconst 0, 1) := by decide +kernel
theorem dX8_turns_98 : decode cX8_turns 98 = .ok (.sipush 9999, 3) := by decide +kernel
theorem dX8_turns_101 : decode cX8_turns 101 = .ok (.invokestatic 61, 3) := by decide +kernel
theorem dX8_turns_104 : decode cX8_turns 104 = .ok (.ireturn, 1) := by decide +kernel
theorem dX8_shows_0 : decode cX8_shows 0 = .ok (.aload_n 0, 1) := by decide +kernel
theorem dX8_shows_1 : decode cX8_shows 1 = .ok (.iload_n 1, 1) := by decide +kernel
theorem dX8_shows_2 : decode cX8_shows 2 = .ok (.iload_n 2, 1) := by decide +kernel
theorem dX8_shows_3 : decode cX8_shows 3 = .ok (.aload_n 0, 1) := by decide +kernel
theorem dX8_shows_4 : decode cX8_shows 4 = .ok (.iload_n 1, 1) := by decide +kernel
theorem dX8_shows_5 : decode cX8_shows 5 = .ok (.iload_n 2, 1) := by decide +kernel
theorem dX8_shows_6 : decode cX8_shows 6 = .ok (.invokevirtual 106, 3) := by decide +kernel
theorem dX8_shows_9 : decode cX8_shows 9 = .ok (.invokevirtual 191, 3) := by decide +kernel
theorem dX8_shows_12 : decode cX8_shows 12 = .ok (.ireturn, 1) := by decide +kernel
theorem dX8_showsBy_0 : decode cX8_showsBy 0 = .ok (.aload_n 0, 1) := by decide +kernel
theorem dX8_showsBy_1 : decode cX8_showsBy 1 = .ok (.iload_n 1, 1) := by decide +kernel
theorem dX8_showsBy_2 : decode cX8_showsBy 2 = .ok (.iconst 0, 1) := by decide +kernel
theorem dX8_showsBy_3 : decode cX8_showsBy 3 = .ok (.invokevirtual 90, 3) := by decide +kernel
theorem dX8_showsBy_6 : decode cX8_showsBy 6 = .ok (.tableswitch 40 2 5 #[36, 40, 30, 32], 30) := by decide +kernel
theorem dX8_showsBy_36 : decode cX8_showsBy 36 = .ok (.iconst 0, 1) := by decide +kernel
theorem dX8_showsBy_37 : decode cX8_showsBy 37 = .ok (.ireturn, 1) := by decide +kernel
theorem dX8_showsBy_38 : decode cX8_showsBy 38 = .ok (.iconst 2, 1) := by decide +kernel
theorem dX8_showsBy_39 : decode cX8_showsBy 39 = .ok (.iload_n 2, 1) := by decide +kernel
theorem dX8_showsBy_40 : decode cX8_showsBy 40 = .ok (.imul, 1) := by decide +kernel
theorem dX8_showsBy_41 : decode cX8_showsBy 41 = .ok (.ireturn, 1) := by decide +kernel
theorem dX8_showsBy_42 : decode cX8_showsBy 42 = .ok (.iload_n 3, 1) := by decide +kernel
theorem dX8_showsBy_43 : decode cX8_showsBy 43 = .ok (.iconst 2, 1) := by decide +kernel
theorem dX8_showsBy_44 : decode cX8_showsBy 44 = .ok (.idiv, 1) := by decide +kernel
theorem dX8_showsBy_45 : decode cX8_showsBy 45 = .ok (.ireturn, 1) := by decide +kernel
theorem dX8_showsBy_46 : decode cX8_showsBy 46 = .ok (.iload_n 3, 1) := by decide +kernel
theorem dX8_showsBy_47 : decode cX8_showsBy 47 = .ok (.ireturn, 1) := by decide +kernel
theorem dX8_flow_0 : decode cX8_flow 0 = .ok (.aload_n 0, 1) := by decide +kernel
theorem dX8_flow_1 : decode cX8_flow 1 = .ok (.getfield 7, 3) := by decide +kernel
theorem dX8_flow_4 : decode cX8_flow 4 = .ok (.bipush 6, 2) := by decide +kernel
theorem dX8_flow_6 : decode cX8_flow 6 = .ok (.aload_n 0, 1) := by decide +kernel
theorem dX8_flow_7 : decode cX8_flow 7 = .ok (.invokevirtual 179, 3) := by decide +kernel
theorem dX8_flow_10 : decode cX8_flow 10 = .ok (.iadd, 1) := by decide +kernel
theorem dX8_flow_11 : decode cX8_flow 11 = .ok (.iaload, 1) := by decide +kernel
theorem dX8_flow_12 : decode cX8_flow 12 = .ok (.istore_n 1, 1) := by decide +kernel
theorem dX8_flow_13 : decode cX8_flow 13 = .ok (.aload_n 0, 1) := by decide +kernel
theorem dX8_flow_14 : decode cX8_flow 14 = .ok (.iconst 0, 1) := by decide +kernel
theorem dX8_flow_15 : decode cX8_flow 15 = .ok (.putfield 194, 3) := by decide +kernel
theorem dX8_flow_18 : decode cX8_flow 18 = .ok (.aload_n 0, 1) := by decide +kernel
theorem dX8_flow_19 : decode cX8_flow 19 = .ok (.iconst 0, 1) := by decide +kernel
theorem dX8_flow_20 : decode cX8_flow 20 = .ok (.putfield 197, 3) := by decide +kernel
theorem dX8_flow_23 : decode cX8_flow 23 = .ok (.iconst 0, 1) := by decide +kernel
theorem dX8_flow_24 : decode cX8_flow 24 = .ok (.istore_n 2, 1) := by decide +kernel
theorem dX8_flow_25 : decode cX8_flow 25 = .ok (.iload_n 2, 1) := by decide +kernel
theorem dX8_flow_26 : decode cX8_flow 26 = .ok (.bipush 12, 2) := by decide +kernel
theorem dX8_flow_28 : decode cX8_flow 28 = .ok (.if_icmp .ge 128, 3) := by decide +kernel
theorem dX8_flow_31 : decode cX8_flow 31 = .ok (.aload_n 0, 1) := by decide +kernel
theorem dX8_flow_32 : decode cX8_flow 32 = .ok (.getfield 31, 3) := by decide +kernel
theorem dX8_flow_35 : decode cX8_flow 35 = .ok (.iload_n 2, 1) := by decide +kernel
theorem dX8_flow_36 : decode cX8_flow 36 = .ok (.iload_n 1, 1) := by decide +kernel
theorem dX8_flow_37 : decode cX8_flow 37 = .ok (.iastore, 1) := by decide +kernel
theorem dX8_flow_38 : decode cX8_flow 38 = .ok (.aload_n 0, 1) := by decide +kernel
theorem dX8_flow_39 : decode cX8_flow 39 = .ok (.getfield 7, 3) := by decide +kernel
theorem dX8_flow_42 : decode cX8_flow 42 = .ok (.bipush 30, 2) := by decide +kernel
theorem dX8_flow_44 : decode cX8_flow 44 = .ok (.iload_n 2, 1) := by decide +kernel
theorem dX8_flow_45 : decode cX8_flow 45 = .ok (.iadd, 1) := by decide +kernel
theorem dX8_flow_46 : decode cX8_flow 46 = .ok (.iaload, 1) := by decide +kernel
theorem dX8_flow_47 : decode cX8_flow 47 = .ok (.iload_n 1, 1) := by decide +kernel
theorem dX8_flow_48 : decode cX8_flow 48 = .ok (.if_icmp .ge 15, 3) := by decide +kernel
theorem dX8_flow_51 : decode cX8_flow 51 = .ok (.aload_n 0, 1) := by decide +kernel
theorem dX8_flow_52 : decode cX8_flow 52 = .ok (.getfield 7, 3) := by decide +kernel
theorem dX8_flow_55 : decode cX8_flow 55 = .ok (.bipush 30, 2) := by decide +kernel
theorem dX8_flow_57 : decode cX8_flow 57 = .ok (.iload_n 2, 1) := by decide +kernel
theorem dX8_flow_58 : decode cX8_flow 58 = .ok (.iadd, 1) := by decide +kernel
theorem dX8_flow_59 : decode cX8_flow 59 = .ok (.iaload, 1) := by decide +kernel
theorem dX8_flow_60 : decode cX8_flow 60 = .ok (.goto 4, 3) := by decide +kernel
theorem dX8_flow_63 : decode cX8_flow 63 = .ok (.iload_n 1, 1) := by decide +kernel
theorem dX8_flow_64 : decode cX8_flow 64 = .ok (.istore_n 3, 1) := by decide +kernel
theorem dX8_flow_65 : decode cX8_flow 65 = .ok (.iload_n 1, 1) := by decide +kernel
theorem dX8_flow_66 : decode cX8_flow 66 = .ok (.iload_n 3, 1) := by decide +kernel
theorem dX8_flow_67 : decode cX8_flow 67 = .ok (.isub, 1) := by decide +kernel
theorem dX8_flow_68 : decode cX8_flow 68 = .ok (.istore_n 1, 1) := by decide +kernel
theorem dX8_flow_69 : decode cX8_flow 69 = .ok (.aload_n 0, 1) := by decide +kernel
theorem dX8_flow_70 : decode cX8_flow 70 = .ok (.dup, 1) := by decide +kernel
theorem dX8_flow_71 : decode cX8_flow 71 = .ok (.getfield 194, 3) := by decide +kernel
theorem dX8_flow_74 : decode cX8_flow 74 = .ok (.iload_n 3, 1) := by decide +kernel
theorem dX8_flow_75 : decode cX8_flow 75 = .ok (.iadd, 1) := by decide +kernel
theorem dX8_flow_76 : decode cX8_flow 76 = .ok (.putfield 194, 3) := by decide +kernel
theorem dX8_flow_79 : decode cX8_flow 79 = .ok (.iconst 0, 1) := by decide +kernel
theorem dX8_flow_80 : decode cX8_flow 80 = .ok (.istore 4, 2) := by decide +kernel
theorem dX8_flow_82 : decode cX8_flow 82 = .ok (.iload 4, 2) := by decide +kernel
theorem dX8_flow_84 : decode cX8_flow 84 = .ok (.aload_n 0, 1) := by decide +kernel
theorem dX8_flow_85 : decode cX8_flow 85 = .ok (.getfield 7, 3) := by decide +kernel
theorem dX8_flow_88 : decode cX8_flow 88 = .ok (.iconst 0, 1) := by decide +kernel
theorem dX8_flow_89 : decode cX8_flow 89 = .ok (.iaload, 1) := by decide +kernel
theorem dX8_flow_90 : decode cX8_flow 90 = .ok (.if_icmp .ge 60, 3) := by decide +kernel
theorem dX8_flow_93 : decode cX8_flow 93 = .ok (.aload_n 0, 1) := by decide +kernel
theorem dX8_flow_94 : decode cX8_flow 94 = .ok (.iload 4, 2) := by decide +kernel
theorem dX8_flow_96 : decode cX8_flow 96 = .ok (.iconst 2, 1) := by decide +kernel
theorem dX8_flow_97 : decode cX8_flow 97 = .ok (.invokevirtual 90, 3) := by decide +kernel
theorem dX8_flow_100 : decode cX8_flow 100 = .ok (.iload_n 2, 1) := by decide +kernel
theorem dX8_flow_101 : decode cX8_flow 101 = .ok (.if_icmp .ne 43, 3) := by decide +kernel
theorem dX8_flow_104 : decode cX8_flow 104 = .ok (.aload_n 0, 1) := by decide +kernel
theorem dX8_flow_105 : decode cX8_flow 105 = .ok (.getfield 34, 3) := by decide +kernel
theorem dX8_flow_108 : decode cX8_flow 108 = .ok (.iload 4, 2) := by decide +kernel
theorem dX8_flow_110 : decode cX8_flow 110 = .ok (.aload_n 0, 1) := by decide +kernel
theorem dX8_flow_111 : decode cX8_flow 111 = .ok (.iload 4, 2) := by decide +kernel
theorem dX8_flow_113 : decode cX8_flow 113 = .ok (.iload_n 1, 1) := by decide +kernel
theorem dX8_flow_114 : decode cX8_flow 114 = .ok (.invokevirtual 200, 3) := by decide +kernel
theorem dX8_flow_117 : decode cX8_flow 117 = .ok (.iastore, 1) := by decide +kernel
theorem dX8_flow_118 : decode cX8_flow 118 = .ok (.iload_n 1, 1) := by decide +kernel
theorem dX8_flow_119 : decode cX8_flow 119 = .ok (.aload_n 0, 1) := by decide +kernel
theorem dX8_flow_120 : decode cX8_flow 120 = .ok (.getfield 34, 3) := by decide +kernel
theorem dX8_flow_123 : decode cX8_flow 123 = .ok (.iload 4, 2) := by decide +kernel
theorem dX8_flow_125 : decode cX8_flow 125 = .ok (.iaload, 1) := by decide +kernel
theorem dX8_flow_126 : decode cX8_flow 126 = .ok (.isub, 1) := by decide +kernel
theorem dX8_flow_127 : decode cX8_flow 127 = .ok (.istore_n 1, 1) := by decide +kernel
theorem dX8_flow_128 : decode cX8_flow 128 = .ok (.aload_n 0, 1) := by decide +kernel
theorem dX8_flow_129 : decode cX8_flow 129 = .ok (.dup, 1) := by decide +kernel
theorem dX8_flow_130 : decode cX8_flow 130 = .ok (.getfield 197, 3) := by decide +kernel
theorem dX8_flow_133 : decode cX8_flow 133 = .ok (.aload_n 0, 1) := by decide +kernel
theorem dX8_flow_134 : decode cX8_flow 134 = .ok (.getfield 34, 3) := by decide +kernel
theorem dX8_flow_137 : decode cX8_flow 137 = .ok (.iload 4, 2) := by decide +kernel
theorem dX8_flow_139 : decode cX8_flow 139 = .ok (.iaload, 1) := by decide +kernel
theorem dX8_flow_140 : decode cX8_flow 140 = .ok (.iadd, 1) := by decide +kernel
theorem dX8_flow_141 : decode cX8_flow 141 = .ok (.putfield 197, 3) := by decide +kernel
theorem dX8_flow_144 : decode cX8_flow 144 = .ok (.iinc 4 1, 3) := by decide +kernel
theorem dX8_flow_147 : decode cX8_flow 147 = .ok (.goto (-65), 3) := by decide +kernel
theorem dX8_flow_150 : decode cX8_flow 150 = .ok (.iinc 2 1, 3) := by decide +kernel
theorem dX8_flow_153 : decode cX8_flow 153 = .ok (.goto (-128), 3) := by decide +kernel
theorem dX8_flow_156 : decode cX8_flow 156 = .ok (.aload_n 0, 1) := by decide +kernel
theorem dX8_flow_157 : decode cX8_flow 157 = .ok (.getfield 31, 3) := by decide +kernel
theorem dX8_flow_160 : decode cX8_flow 160 = .ok (.bipush 12, 2) := by decide +kernel
theorem dX8_flow_162 : decode cX8_flow 162 = .ok (.iload_n 1, 1) := by decide +kernel
theorem dX8_flow_163 : decode cX8_flow 163 = .ok (.iastore, 1) := by decide +kernel
theorem dX8_flow_164 : decode cX8_flow 164 = .ok (.return_, 1) := by decide +kernel
theorem dX8_flows_0 : decode cX8_flows 0 = .ok (.iload_n 1, 1) := by decide +kernel
theorem dX8_flows_1 : decode cX8_flows 1 = .ok (.invokestatic 79, 3) := by decide +kernel
theorem dX8_flows_4 : decode cX8_flows 4 = .ok (.ifCond .ne 9, 3) := by decide +kernel
theorem dX8_flows_7 : decode cX8_flows 7 = .ok (.aload_n 0, 1) := by decide +kernel
theorem dX8_flows_8 : decode cX8_flows 8 = .ok (.iconst 1, 1) := by decide +kernel
theorem dX8_flows_9 : decode cX8_flows 9 = .ok (.invokevirtual 76, 3) := by decide +kernel
theorem dX8_flows_12 : decode cX8_flows 12 = .ok (.ireturn, 1) := by decide +kernel
theorem dX8_flows_13 : decode cX8_flows 13 = .ok (.aload_n 0, 1) := by decide +kernel
theorem dX8_flows_14 : decode cX8_flows 14 = .ok (.invokevirtual 103, 3) := by decide +kernel
theorem dX8_flows_17 : decode cX8_flows 17 = .ok (.aload_n 0, 1) := by decide +kernel
theorem dX8_flows_18 : decode cX8_flows 18 = .ok (.getfield 31, 3) := by decide +kernel
theorem dX8_flows_21 : decode cX8_flows 21 = .ok (.iload_n 1, 1) := by decide +kernel
theorem dX8_flows_22 : decode cX8_flows 22 = .ok (.iaload, 1) := by decide +kernel
theorem dX8_flows_23 : decode cX8_flows 23 = .ok (.ireturn, 1) := by decide +kernel
theorem dX8_turn1_0 : decode cX8_turn1 0 = .ok (.aload_n 0, 1) := by decide +kernel
theorem dX8_turn1_1 : decode cX8_turn1 1 = .ok (.iload_n 1, 1) := by decide +kernel
theorem dX8_turn1_2 : decode cX8_turn1 2 = .ok (.bipush 6, 2) := by decide +kernel
theorem dX8_turn1_4 : decode cX8_turn1 4 = .ok (.aload_n 0, 1) := by decide +kernel
theorem dX8_turn1_5 : decode cX8_turn1 5 = .ok (.iload_n 1, 1) := by decide +kernel
theorem dX8_turn1_6 : decode cX8_turn1 6 = .ok (.bipush 6, 2) := by decide +kernel
theorem dX8_turn1_8 : decode cX8_turn1 8 = .ok (.invokevirtual 90, 3) := by decide +kernel
theorem dX8_turn1_11 : decode cX8_turn1 11 = .ok (.iload_n 2, 1) := by decide +kernel
theorem dX8_turn1_12 : decode cX8_turn1 12 = .ok (.iadd, 1) := by decide +kernel
theorem dX8_turn1_13 : decode cX8_turn1 13 = .ok (.iconst 0, 1) := by decide +kernel
theorem dX8_turn1_14 : decode cX8_turn1 14 = .ok (.ldc 60, 2) := by decide +kernel
theorem dX8_turn1_16 : decode cX8_turn1 16 = .ok (.invokestatic 61, 3) := by decide +kernel
theorem dX8_turn1_19 : decode cX8_turn1 19 = .ok (.invokevirtual 96, 3) := by decide +kernel
theorem dX8_turn1_22 : decode cX8_turn1 22 = .ok (.aload_n 0, 1) := by decide +kernel
theorem dX8_turn1_23 : decode cX8_turn1 23 = .ok (.aload_n 0, 1) := by decide +kernel
theorem dX8_turn1_24 : decode cX8_turn1 24 = .ok (.iload_n 1, 1) := by decide +kernel
theorem dX8_turn1_25 : decode cX8_turn1 25 = .ok (.iconst 3, 1) := by decide +kernel
theorem dX8_turn1_26 : decode cX8_turn1 26 = .ok (.invokevirtual 90, 3) := by decide +kernel
theorem dX8_turn1_29 : decode cX8_turn1 29 = .ok (.aload_n 0, 1) := by decide +kernel
theorem dX8_turn1_30 : decode cX8_turn1 30 = .ok (.aload_n 0, 1) := by decide +kernel
theorem dX8_turn1_31 : decode cX8_turn1 31 = .ok (.iload_n 1, 1) := by decide +kernel
theorem dX8_turn1_32 : decode cX8_turn1 32 = .ok (.iconst 3, 1) := by decide +kernel
theorem dX8_turn1_33 : decode cX8_turn1 33 = .ok (.invokevirtual 90, 3) := by decide +kernel
theorem dX8_turn1_36 : decode cX8_turn1 36 = .ok (.invokevirtual 65, 3) := by decide +kernel
theorem dX8_turn1_39 : decode cX8_turn1 39 = .ok (.iload_n 2, 1) := by decide +kernel
theorem dX8_turn1_40 : decode cX8_turn1 40 = .ok (.iadd, 1) := by decide +kernel
theorem dX8_turn1_41 : decode cX8_turn1 41 = .ok (.invokevirtual 203, 3) := by decide +kernel
theorem dX8_turn1_44 : decode cX8_turn1 44 = .ok (.return_, 1) := by decide +kernel
theorem dX8_hour_0 : decode cX8_hour 0 = .ok (.aload_n 0, 1) := by decide +kernel
theorem dX8_hour_1 : decode cX8_hour 1 = .ok (.invokevirtual 103, 3) := by decide +kernel
theorem dX8_hour_4 : decode cX8_hour 4 = .ok (.iconst 0, 1) := by decide +kernel
theorem dX8_hour_5 : decode cX8_hour 5 = .ok (.istore_n 1, 1) := by decide +kernel
theorem dX8_hour_6 : decode cX8_hour 6 = .ok (.iload_n 1, 1) := by decide +kernel
theorem dX8_hour_7 : decode cX8_hour 7 = .ok (.aload_n 0, 1) := by decide +kernel
theorem dX8_hour_8 : decode cX8_hour 8 = .ok (.getfield 7, 3) := by decide +kernel
theorem dX8_hour_11 : decode cX8_hour 11 = .ok (.iconst 0, 1) := by decide +kernel
theorem dX8_hour_12 : decode cX8_hour 12 = .ok (.iaload, 1) := by decide +kernel
theorem dX8_hour_13 : decode cX8_hour 13 = .ok (.if_icmp .ge 75, 3) := by decide +kernel
theorem dX8_hour_16 : decode cX8_hour 16 = .ok (.aload_n 0, 1) := by decide +kernel
theorem dX8_hour_17 : decode cX8_hour 17 = .ok (.getfield 37, 3) := by decide +kernel
theorem dX8_hour_20 : decode cX8_hour 20 = .ok (.iload_n 1, 1) := by decide +kernel
theorem dX8_hour_21 : decode cX8_hour 21 = .ok (.aload_n 0, 1) := by decide +kernel
theorem dX8_hour_22 : decode cX8_hour 22 = .ok (.iload_n 1, 1) := by decide +kernel
theorem dX8_hour_23 : decode cX8_hour 23 = .ok (.aload_n 0, 1) := by decide +kernel
theorem dX8_hour_24 : decode cX8_hour 24 = .ok (.getfield 34, 3) := by decide +kernel
theorem dX8_hour_27 : decode cX8_hour 27 = .ok (.iload_n 1, 1) := by decide +kernel
theorem dX8_hour_28 : decode cX8_hour 28 = .ok (.iaload, 1) := by decide +kernel
theorem dX8_hour_29 : decode cX8_hour 29 = .ok (.invokevirtual 106, 3) := by decide +kernel
theorem dX8_hour_32 : decode cX8_hour 32 = .ok (.iastore, 1) := by decide +kernel
theorem dX8_hour_33 : decode cX8_hour 33 = .ok (.aload_n 0, 1) := by decide +kernel
theorem dX8_hour_34 : decode cX8_hour 34 = .ok (.iload_n 1, 1) := by decide +kernel
theorem dX8_hour_35 : decode cX8_hour 35 = .ok (.aload_n 0, 1) := by decide +kernel
theorem dX8_hour_36 : decode cX8_hour 36 = .ok (.getfield 34, 3) := by decide +kernel
theorem dX8_hour_39 : decode cX8_hour 39 = .ok (.iload_n 1, 1) := by decide +kernel
theorem dX8_hour_40 : decode cX8_hour 40 = .ok (.iaload, 1) := by decide +kernel
theorem dX8_hour_41 : decode cX8_hour 41 = .ok (.aload_n 0, 1) := by decide +kernel
theorem dX8_hour_42 : decode cX8_hour 42 = .ok (.getfield 37, 3) := by decide +kernel
theorem dX8_hour_45 : decode cX8_hour 45 = .ok (.iload_n 1, 1) := by decide +kernel
theorem dX8_hour_46 : decode cX8_hour 46 = .ok (.iaload, 1) := by decide +kernel
theorem dX8_hour_47 : decode cX8_hour 47 = .ok (.invokevirtual 191, 3) := by decide +kernel
theorem dX8_hour_50 : decode cX8_hour 50 = .ok (.istore_n 2, 1) := by decide +kernel
theorem dX8_hour_51 : decode cX8_hour 51 = .ok (.aload_n 0, 1) := by decide +kernel
theorem dX8_hour_52 : decode cX8_hour 52 = .ok (.iload_n 1, 1) := by decide +kernel
theorem dX8_hour_53 : decode cX8_hour 53 = .ok (.aload_n 0, 1) := by decide +kernel
theorem dX8_hour_54 : decode cX8_hour 54 = .ok (.getfield 37, 3) := by decide +kernel
theorem dX8_hour_57 : decode cX8_hour 57 = .ok (.iload_n 1, 1) := by decide +kernel
theorem dX8_hour_58 : decode cX8_hour 58 = .ok (.iaload, 1) := by decide +kernel
theorem dX8_hour_59 : decode cX8_hour 59 = .ok (.invokevirtual 206, 3) := by decide +kernel
theorem dX8_hour_62 : decode cX8_hour 62 = .ok (.aload_n 0, 1) := by decide +kernel
theorem dX8_hour_63 : decode cX8_hour 63 = .ok (.iload_n 1, 1) := by decide +kernel
theorem dX8_hour_64 : decode cX8_hour 64 = .ok (.iconst 5, 1) := by decide +kernel
theorem dX8_hour_65 : decode cX8_hour 65 = .ok (.aload_n 0, 1) := by decide +kernel
theorem dX8_hour_66 : decode cX8_hour 66 = .ok (.iload_n 1, 1) := by decide +kernel
theorem dX8_hour_67 : decode cX8_hour 67 = .ok (.iconst 5, 1) := by decide +kernel
theorem dX8_hour_68 : decode cX8_hour 68 = .ok (.invokevirtual 90, 3) := by decide +kernel
theorem dX8_hour_71 : decode cX8_hour 71 = .ok (.iload_n 2, 1) := by decide +kernel
theorem dX8_hour_72 : decode cX8_hour 72 = .ok (.iadd, 1) := by decide +kernel
theorem dX8_hour_73 : decode cX8_hour 73 = .ok (.iconst 0, 1) := by decide +kernel
theorem dX8_hour_74 : decode cX8_hour 74 = .ok (.ldc 60, 2) := by decide +kernel
theorem dX8_hour_76 : decode cX8_hour 76 = .ok (.invokestatic 61, 3) := by decide +kernel
theorem dX8_hour_79 : decode cX8_hour 79 = .ok (.invokevirtual 96, 3) := by decide +kernel
theorem dX8_hour_82 : decode cX8_hour 82 = .ok (.iinc 1 1, 3) := by decide +kernel
theorem dX8_hour_85 : decode cX8_hour 85 = .ok (.goto (-79), 3) := by decide +kernel
theorem dX8_hour_88 : decode cX8_hour 88 = .ok (.aload_n 0, 1) := by decide +kernel
theorem dX8_hour_89 : decode cX8_hour 89 = .ok (.getfield 7, 3) := by decide +kernel
theorem dX8_hour_92 : decode cX8_hour 92 = .ok (.iconst 1, 1) := by decide +kernel
theorem dX8_hour_93 : decode cX8_hour 93 = .ok (.dup2, 1) := by decide +kernel
theorem dX8_hour_94 : decode cX8_hour 94 = .ok (.iaload, 1) := by decide +kernel
theorem dX8_hour_95 : decode cX8_hour 95 = .ok (.iconst 1, 1) := by decide +kernel
theorem dX8_hour_96 : decode cX8_hour 96 = .ok (.iadd, 1) := by decide +kernel
theorem dX8_hour_97 : decode cX8_hour 97 = .ok (.iastore, 1) := by decide +kernel
theorem dX8_hour_98 : decode cX8_hour 98 = .ok (.return_, 1) := by decide +kernel
theorem dX8_go_0 : decode cX8_go 0 = .ok (.iconst 0, 1) := by decide +kernel
theorem dX8_go_1 : decode cX8_go 1 = .ok (.istore_n 2, 1) := by decide +kernel
theorem dX8_go_2 : decode cX8_go 2 = .ok (.iload_n 2, 1) := by decide +kernel
theorem dX8_go_3 : decode cX8_go 3 = .ok (.iload_n 1, 1) := by decide +kernel
theorem dX8_go_4 : decode cX8_go 4 = .ok (.if_icmp .ge 13, 3) := by decide +kernel
theorem dX8_go_7 : decode cX8_go 7 = .ok (.aload_n 0, 1) := by decide +kernel
theorem dX8_go_8 : decode cX8_go 8 = .ok (.invokevirtual 209, 3) := by decide +kernel
theorem dX8_go_11 : decode cX8_go 11 = .ok (.iinc 2 1, 3) := by decide +kernel
theorem dX8_go_14 : decode cX8_go 14 = .ok (.goto (-12), 3) := by decide +kernel
theorem dX8_go_17 : decode cX8_go 17 = .ok (.return_, 1) := by decide +kernel
theorem dX8_allPrayed_0 : decode cX8_allPrayed 0 = .ok (.iconst 0, 1) := by decide +kernel
theorem dX8_allPrayed_1 : decode cX8_allPrayed 1 = .ok (.istore_n 1, 1) := by decide +kernel
theorem dX8_allPrayed_2 : decode cX8_allPrayed 2 = .ok (.iconst 0, 1) := by decide +kernel
theorem dX8_allPrayed_3 : decode cX8_allPrayed 3 = .ok (.istore_n 2, 1) := by decide +kernel
theorem dX8_allPrayed_4 : decode cX8_allPrayed 4 = .ok (.iload_n 2, 1) := by decide +kernel
theorem dX8_allPrayed_5 : decode cX8_allPrayed 5 = .ok (.iconst 5, 1) := by decide +kernel
theorem dX8_allPrayed_6 : decode cX8_allPrayed 6 = .ok (.if_icmp .ge 17, 3) := by decide +kernel
theorem dX8_allPrayed_9 : decode cX8_allPrayed 9 = .ok (.iload_n 1, 1) := by decide +kernel
theorem dX8_allPrayed_10 : decode cX8_allPrayed 10 = .ok (.aload_n 0, 1) := by decide +kernel
theorem dX8_allPrayed_11 : decode cX8_allPrayed 11 = .ok (.iload_n 2, 1) := by decide +kernel
theorem dX8_allPrayed_12 : decode cX8_allPrayed 12 = .ok (.invokevirtual 65, 3) := by decide +kernel
theorem dX8_allPrayed_15 : decode cX8_allPrayed 15 = .ok (.iadd, 1) := by decide +kernel
theorem dX8_allPrayed_16 : decode cX8_allPrayed 16 = .ok (.istore_n 1, 1) := by decide +kernel
theorem dX8_allPrayed_17 : decode cX8_allPrayed 17 = .ok (.iinc 2 1, 3) := by decide +kernel
theorem dX8_allPrayed_20 : decode cX8_allPrayed 20 = .ok (.goto (-16), 3) := by decide +kernel
theorem dX8_allPrayed_23 : decode cX8_allPrayed 23 = .ok (.iload_n 1, 1) := by decide +kernel
theorem dX8_allPrayed_24 : decode cX8_allPrayed 24 = .ok (.ireturn, 1) := by decide +kernel
theorem dX8_hours_0 : decode cX8_hours 0 = .ok (.iload_n 1, 1) := by decide +kernel
theorem dX8_hours_1 : decode cX8_hours 1 = .ok (.iconst 1, 1) := by decide +kernel
theorem dX8_hours_2 : decode cX8_hours 2 = .ok (.sipush 240, 3) := by decide +kernel
theorem dX8_hours_5 : decode cX8_hours 5 = .ok (.invokestatic 56, 3) := by decide +kernel
theorem dX8_hours_8 : decode cX8_hours 8 = .ok (.ifCond .ne 9, 3) := by decide +kernel
theorem dX8_hours_11 : decode cX8_hours 11 = .ok (.aload_n 0, 1) := by decide +kernel
theorem dX8_hours_12 : decode cX8_hours 12 = .ok (.iconst 1, 1) := by decide +kernel
theorem dX8_hours_13 : decode cX8_hours 13 = .ok (.invokevirtual 76, 3) := by decide +kernel
theorem dX8_hours_16 : decode cX8_hours 16 = .ok (.ireturn, 1) := by decide +kernel
theorem dX8_hours_17 : decode cX8_hours 17 = .ok (.aload_n 0, 1) := by decide +kernel
theorem dX8_hours_18 : decode cX8_hours 18 = .ok (.getfield 7, 3) := by decide +kernel
theorem dX8_hours_21 : decode cX8_hours 21 = .ok (.iconst 1, 1) := by decide +kernel
theorem dX8_hours_22 : decode cX8_hours 22 = .ok (.iaload, 1) := by decide +kernel
theorem dX8_hours_23 : decode cX8_hours 23 = .ok (.iload_n 1, 1) := by decide +kernel
theorem dX8_hours_24 : decode cX8_hours 24 = .ok (.iadd, 1) := by decide +kernel
theorem dX8_hours_25 : decode cX8_hours 25 = .ok (.sipush 9999, 3) := by decide +kernel
theorem dX8_hours_28 : decode cX8_hours 28 = .ok (.if_icmp .le 9, 3) := by decide +kernel
theorem dX8_hours_31 : decode cX8_hours 31 = .ok (.aload_n 0, 1) := by decide +kernel
theorem dX8_hours_32 : decode cX8_hours 32 = .ok (.iconst 3, 1) := by decide +kernel
theorem dX8_hours_33 : decode cX8_hours 33 = .ok (.invokevirtual 76, 3) := by decide +kernel
theorem dX8_hours_36 : decode cX8_hours 36 = .ok (.ireturn, 1) := by decide +kernel
theorem dX8_hours_37 : decode cX8_hours 37 = .ok (.aload_n 0, 1) := by decide +kernel
theorem dX8_hours_38 : decode cX8_hours 38 = .ok (.iload_n 1, 1) := by decide +kernel
theorem dX8_hours_39 : decode cX8_hours 39 = .ok (.invokevirtual 212, 3) := by decide +kernel
theorem dX8_hours_42 : decode cX8_hours 42 = .ok (.aload_n 0, 1) := by decide +kernel
theorem dX8_hours_43 : decode cX8_hours 43 = .ok (.invokevirtual 216, 3) := by decide +kernel
theorem dX8_hours_46 : decode cX8_hours 46 = .ok (.ireturn, 1) := by decide +kernel
theorem dX8_draw_0 : decode cX8_draw 0 = .ok (.aload_n 0, 1) := by decide +kernel
theorem dX8_draw_1 : decode cX8_draw 1 = .ok (.getfield 7, 3) := by decide +kernel
theorem dX8_draw_4 : decode cX8_draw 4 = .ok (.iconst 5, 1) := by decide +kernel
theorem dX8_draw_5 : decode cX8_draw 5 = .ok (.aload_n 0, 1) := by decide +kernel
theorem dX8_draw_6 : decode cX8_draw 6 = .ok (.getfield 7, 3) := by decide +kernel
theorem dX8_draw_9 : decode cX8_draw 9 = .ok (.iconst 5, 1) := by decide +kernel
theorem dX8_draw_10 : decode cX8_draw 10 = .ok (.iaload, 1) := by decide +kernel
theorem dX8_draw_11 : decode cX8_draw 11 = .ok (.ldc 219, 2) := by decide +kernel
theorem dX8_draw_13 : decode cX8_draw 13 = .ok (.imul, 1) := by decide +kernel
theorem dX8_draw_14 : decode cX8_draw 14 = .ok (.sipush 12345, 3) := by decide +kernel
theorem dX8_draw_17 : decode cX8_draw 17 = .ok (.iadd, 1) := by decide +kernel
theorem dX8_draw_18 : decode cX8_draw 18 = .ok (.iastore, 1) := by decide +kernel
theorem dX8_draw_19 : decode cX8_draw 19 = .ok (.aload_n 0, 1) := by decide +kernel
theorem dX8_draw_20 : decode cX8_draw 20 = .ok (.getfield 7, 3) := by decide +kernel
theorem dX8_draw_23 : decode cX8_draw 23 = .ok (.iconst 5, 1) := by decide +kernel
theorem dX8_draw_24 : decode cX8_draw 24 = .ok (.iaload, 1) := by decide +kernel
theorem dX8_draw_25 : decode cX8_draw 25 = .ok (.bipush 8, 2) := by decide +kernel
theorem dX8_draw_27 : decode cX8_draw 27 = .ok (.iushr, 1) := by decide +kernel
theorem dX8_draw_28 : decode cX8_draw 28 = .ok (.ireturn, 1) := by decide +kernel
theorem dX8_draws_0 : decode cX8_draws 0 = .ok (.iload_n 1, 1) := by decide +kernel
theorem dX8_draws_1 : decode cX8_draws 1 = .ok (.iconst 1, 1) := by decide +kernel
theorem dX8_draws_2 : decode cX8_draws 2 = .ok (.bipush 60, 2) := by decide +kernel
theorem dX8_draws_4 : decode cX8_draws 4 = .ok (.invokestatic 56, 3) := by decide +kernel
theorem dX8_draws_7 : decode cX8_draws 7 = .ok (.ifCond .ne 9, 3) := by decide +kernel
theorem dX8_draws_10 : decode cX8_draws 10 = .ok (.aload_n 0, 1) := by decide +kernel
theorem dX8_draws_11 : decode cX8_draws 11 = .ok (.iconst 1, 1) := by decide +kernel
theorem dX8_draws_12 : decode cX8_draws 12 = .ok (.invokevirtual 76, 3) := by decide +kernel
theorem dX8_draws_15 : decode cX8_draws 15 = .ok (.ireturn, 1) := by decide +kernel
theorem dX8_draws_16 : decode cX8_draws 16 = .ok (.aload_n 0, 1) := by decide +kernel
theorem dX8_draws_17 : decode cX8_draws 17 = .ok (.getfield 7, 3) := by decide +kernel
theorem dX8_draws_20 : decode cX8_draws 20 = .ok (.iconst 1, 1) := by decide +kernel
theorem dX8_draws_21 : decode cX8_draws 21 = .ok (.iaload, 1) := by decide +kernel
theorem dX8_draws_22 : decode cX8_draws 22 = .ok (.iload_n 1, 1) := by decide +kernel
theorem dX8_draws_23 : decode cX8_draws 23 = .ok (.iadd, 1) := by decide +kernel
theorem dX8_draws_24 : decode cX8_draws 24 = .ok (.sipush 9999, 3) := by decide +kernel
theorem dX8_draws_27 : decode cX8_draws 27 = .ok (.if_icmp .le 9, 3) := by decide +kernel
theorem dX8_draws_30 : decode cX8_draws 30 = .ok (.aload_n 0, 1) := by decide +kernel
theorem dX8_draws_31 : decode cX8_draws 31 = .ok (.iconst 3, 1) := by decide +kernel
theorem dX8_draws_32 : decode cX8_draws 32 = .ok (.invokevirtual 76, 3) := by decide +kernel
theorem dX8_draws_35 : decode cX8_draws 35 = .ok (.ireturn, 1) := by decide +kernel
theorem dX8_draws_36 : decode cX8_draws 36 = .ok (.iconst 0, 1) := by decide +kernel
theorem dX8_draws_37 : decode cX8_draws 37 = .ok (.istore_n 2, 1) := by decide +kernel
theorem dX8_draws_38 : decode cX8_draws 38 = .ok (.iconst 0, 1) := by decide +kernel
theorem dX8_draws_39 : decode cX8_draws 39 = .ok (.istore_n 3, 1) := by decide +kernel
theorem dX8_draws_40 : decode cX8_draws 40 = .ok (.iload_n 3, 1) := by decide +kernel
theorem dX8_draws_41 : decode cX8_draws 41 = .ok (.iload_n 1, 1) := by decide +kernel
theorem dX8_draws_42 : decode cX8_draws 42 = .ok (.if_icmp .ge 137, 3) := by decide +kernel
theorem dX8_draws_45 : decode cX8_draws 45 = .ok (.aload_n 0, 1) := by decide +kernel
theorem dX8_draws_46 : decode cX8_draws 46 = .ok (.invokevirtual 220, 3) := by decide +kernel
theorem dX8_draws_49 : decode cX8_draws 49 = .ok (.bipush 16, 2) := by decide +kernel
theorem dX8_draws_51 : decode cX8_draws 51 = .ok (.irem, 1) := by decide +kernel
theorem dX8_draws_52 : decode cX8_draws 52 = .ok (.istore 4, 2) := by decide +kernel
theorem dX8_draws_54 : decode cX8_draws 54 = .ok (.iload_n 2, 1) := by decide +kernel
theorem dX8_draws_55 : decode cX8_draws 55 = .ok (.iload 4, 2) := by decide +kernel
theorem dX8_draws_57 : decode cX8_draws 57 = .ok (.ifCond .ne 7, 3) := by decide +kernel
theorem dX8_draws_60 : decode cX8_draws 60 = .ok (.iconst 1, 1) := by decide +kernel
theorem dX8_draws_61 : decode cX8_draws 61 = .ok (.goto 4, 3) := by decide +kernel
theorem dX8_draws_64 : decode cX8_draws 64 = .ok (.iconst 0, 1) := by decide +kernel
theorem dX8_draws_65 : decode cX8_draws 65 = .ok (.iadd, 1) := by decide +kernel
theorem dX8_draws_66 : decode cX8_draws 66 = .ok (.istore_n 2, 1) := by decide +kernel
theorem dX8_draws_67 : decode cX8_draws 67 = .ok (.iconst 0, 1) := by decide +kernel
theorem dX8_draws_68 : decode cX8_draws 68 = .ok (.istore 5, 2) := by decide +kernel
theorem dX8_draws_70 : decode cX8_draws 70 = .ok (.iload 5, 2) := by decide +kernel
theorem dX8_draws_72 : decode cX8_draws 72 = .ok (.aload_n 0, 1) := by decide +kernel
theorem dX8_draws_73 : decode cX8_draws 73 = .ok (.getfield 7, 3) := by decide +kernel
theorem dX8_draws_76 : decode cX8_draws 76 = .ok (.iconst 0, 1) := by decide +kernel
theorem dX8_draws_77 : decode cX8_draws 77 = .ok (.iaload, 1) := by decide +kernel
theorem dX8_draws_78 : decode cX8_draws 78 = .ok (.if_icmp .ge 42, 3) := by decide +kernel
theorem dX8_draws_81 : decode cX8_draws 81 = .ok (.iload 4, 2) := by decide +kernel
theorem dX8_draws_83 : decode cX8_draws 83 = .ok (.ifCond .ne 37, 3) := by decide +kernel
theorem dX8_draws_86 : decode cX8_draws 86 = .ok (.aload_n 0, 1) := by decide +kernel
theorem dX8_draws_87 : decode cX8_draws 87 = .ok (.iload 5, 2) := by decide +kernel
theorem dX8_draws_89 : decode cX8_draws 89 = .ok (.aload_n 0, 1) := by decide +kernel
theorem dX8_draws_90 : decode cX8_draws 90 = .ok (.iload 5, 2) := by decide +kernel
theorem dX8_draws_92 : decode cX8_draws 92 = .ok (.iconst 4, 1) := by decide +kernel
theorem dX8_draws_93 : decode cX8_draws 93 = .ok (.invokevirtual 90, 3) := by decide +kernel
theorem dX8_draws_96 : decode cX8_draws 96 = .ok (.iconst 1, 1) := by decide +kernel
theorem dX8_draws_97 : decode cX8_draws 97 = .ok (.if_icmp .ne 13, 3) := by decide +kernel
theorem dX8_draws_100 : decode cX8_draws 100 = .ok (.aload_n 0, 1) := by decide +kernel
theorem dX8_draws_101 : decode cX8_draws 101 = .ok (.iload 5, 2) := by decide +kernel
theorem dX8_draws_103 : decode cX8_draws 103 = .ok (.iconst 1, 1) := by decide +kernel
theorem dX8_draws_104 : decode cX8_draws 104 = .ok (.invokevirtual 90, 3) := by decide +kernel
theorem dX8_draws_107 : decode cX8_draws 107 = .ok (.goto 4, 3) := by decide +kernel
theorem dX8_draws_110 : decode cX8_draws 110 = .ok (.iconst 0, 1) := by decide +kernel
theorem dX8_draws_111 : decode cX8_draws 111 = .ok (.invokevirtual 206, 3) := by decide +kernel
theorem dX8_draws_114 : decode cX8_draws 114 = .ok (.iinc 5 1, 3) := by decide +kernel
theorem dX8_draws_117 : decode cX8_draws 117 = .ok (.goto (-47), 3) := by decide +kernel
theorem dX8_draws_120 : decode cX8_draws 120 = .ok (.aload_n 0, 1) := by decide +kernel
theorem dX8_draws_121 : decode cX8_draws 121 = .ok (.getfield 7, 3) := by decide +kernel
theorem dX8_draws_124 : decode cX8_draws 124 = .ok (.iconst 2, 1) := by decide +kernel
theorem dX8_draws_125 : decode cX8_draws 125 = .ok (.aload_n 0, 1) := by decide +kernel
theorem dX8_draws_126 : decode cX8_draws 126 = .ok (.getfield 7, 3) := by decide +kernel
theorem dX8_draws_129 : decode cX8_draws 129 = .ok (.iconst 2, 1) := by decide +kernel
theorem dX8_draws_130 : decode cX8_draws 130 = .ok (.iaload, 1) := by decide +kernel
theorem dX8_draws_131 : decode cX8_draws 131 = .ok (.iload 4, 2) := by decide +kernel
theorem dX8_draws_133 : decode cX8_draws 133 = .ok (.iconst 1, 1) := by decide +kernel
theorem dX8_draws_134 : decode cX8_draws 134 = .ok (.iconst 3, 1) := by decide +kernel
theorem dX8_draws_135 : decode cX8_draws 135 = .ok (.invokestatic 56, 3) := by decide +kernel
theorem dX8_draws_138 : decode cX8_draws 138 = .ok (.ifCond .eq 7, 3) := by decide +kernel
theorem dX8_draws_141 : decode cX8_draws 141 = .ok (.iconst 1, 1) := by decide +kernel
theorem dX8_draws_142 : decode cX8_draws 142 = .ok (.goto 19, 3) := by decide +kernel
theorem dX8_draws_145 : decode cX8_draws 145 = .ok (.iload 4, 2) := by decide +kernel
theorem dX8_draws_147 : decode cX8_draws 147 = .ok (.iconst 4, 1) := by decide +kernel
theorem dX8_draws_148 : decode cX8_draws 148 = .ok (.bipush 6, 2) := by decide +kernel
theorem dX8_draws_150 : decode cX8_draws 150 = .ok (.invokestatic 56, 3) := by decide +kernel
theorem dX8_draws_153 : decode cX8_draws 153 = .ok (.ifCond .eq 7, 3) := by decide +kernel
theorem dX8_draws_156 : decode cX8_draws 156 = .ok (.iconst (-1), 1) := by decide +kernel
theorem dX8_draws_157 : decode cX8_draws 157 = .ok (.goto 4, 3) := by decide +kernel
theorem dX8_draws_160 : decode cX8_draws 160 = .ok (.iconst 0, 1) := by decide +kernel
theorem dX8_draws_161 : decode cX8_draws 161 = .ok (.iadd, 1) := by decide +kernel
theorem dX8_draws_162 : decode cX8_draws 162 = .ok (.iconst 0, 1) := by decide +kernel
theorem dX8_draws_163 : decode cX8_draws 163 = .ok (.bipush 9, 2) := by decide +kernel
theorem dX8_draws_165 : decode cX8_draws 165 = .ok (.invokestatic 61, 3) := by decide +kernel
theorem dX8_draws_168 : decode cX8_draws 168 = .ok (.iastore, 1) := by decide +kernel
theorem dX8_draws_169 : decode cX8_draws 169 = .ok (.aload_n 0, 1) := by decide +kernel
theorem dX8_draws_170 : decode cX8_draws 170 = .ok (.invokevirtual 209, 3) := by decide +kernel
theorem dX8_draws_173 : decode cX8_draws 173 = .ok (.iinc 3 1, 3) := by decide +kernel
theorem dX8_draws_176 : decode cX8_draws 176 = .ok (.goto (-136), 3) := by decide +kernel
theorem dX8_draws_179 : decode cX8_draws 179 = .ok (.iload_n 2, 1) := by decide +kernel
theorem dX8_draws_180 : decode cX8_draws 180 = .ok (.ireturn, 1) := by decide +kernel
theorem dX8_seed_0 : decode cX8_seed 0 = .ok (.aload_n 0, 1) := by decide +kernel
theorem dX8_seed_1 : decode cX8_seed 1 = .ok (.iconst 5, 1) := by decide +kernel
theorem dX8_seed_2 : decode cX8_seed 2 = .ok (.iload_n 1, 1) := by decide +kernel
theorem dX8_seed_3 : decode cX8_seed 3 = .ok (.invokevirtual 72, 3) := by decide +kernel
theorem dX8_seed_6 : decode cX8_seed 6 = .ok (.ireturn, 1) := by decide +kernel
theorem dX8_sell_0 : decode cX8_sell 0 = .ok (.iload_n 1, 1) := by decide +kernel
theorem dX8_sell_1 : decode cX8_sell 1 = .ok (.invokestatic 83, 3) := by decide +kernel
theorem dX8_sell_4 : decode cX8_sell 4 = .ok (.ifCond .eq 26, 3) := by decide +kernel
theorem dX8_sell_7 : decode cX8_sell 7 = .ok (.iload_n 2, 1) := by decide +kernel
theorem dX8_sell_8 : decode cX8_sell 8 = .ok (.invokestatic 83, 3) := by decide +kernel
theorem dX8_sell_11 : decode cX8_sell 11 = .ok (.ifCond .eq 19, 3) := by decide +kernel
theorem dX8_sell_14 : decode cX8_sell 14 = .ok (.iload_n 1, 1) := by decide +kernel
theorem dX8_sell_15 : decode cX8_sell 15 = .ok (.iload_n 2, 1) := by decide +kernel
theorem dX8_sell_16 : decode cX8_sell 16 = .ok (.if_icmp .eq 14, 3) := by decide +kernel
theorem dX8_sell_19 : decode cX8_sell 19 = .ok (.iload_n 3, 1) := by decide +kernel
theorem dX8_sell_20 : decode cX8_sell 20 = .ok (.iconst 1, 1) := by decide +kernel
theorem dX8_sell_21 : decode cX8_sell 21 = .ok (.sipush 9999, 3) := by decide +kernel
theorem dX8_sell_24 : decode cX8_sell 24 = .ok (.invokestatic 56, 3) := by decide +kernel
theorem dX8_sell_27 : decode cX8_sell 27 = .ok (.ifCond .ne 9, 3) := by decide +kernel
theorem dX8_sell_30 : decode cX8_sell 30 = .ok (.aload_n 0, 1) := by decide +kernel
theorem dX8_sell_31 : decode cX8_sell 31 = .ok (.iconst 1, 1) := by decide +kernel
theorem dX8_sell_32 : decode cX8_sell 32 = .ok (.invokevirtual 76, 3) := by decide +kernel
theorem dX8_sell_35 : decode cX8_sell 35 = .ok (.ireturn, 1) := by decide +kernel
theorem dX8_sell_36 : decode cX8_sell 36 = .ok (.aload_n 0, 1) := by decide +kernel
theorem dX8_sell_37 : decode cX8_sell 37 = .ok (.iload_n 1, 1) := by decide +kernel
theorem dX8_sell_38 : decode cX8_sell 38 = .ok (.invokevirtual 65, 3) := by decide +kernel
theorem dX8_sell_41 : decode cX8_sell 41 = .ok (.iload_n 3, 1) := by decide +kernel
theorem dX8_sell_42 : decode cX8_sell 42 = .ok (.if_icmp .ge 9, 3) := by decide +kernel
theorem dX8_sell_45 : decode cX8_sell 45 = .ok (.aload_n 0, 1) := by decide +kernel
theorem dX8_sell_46 : decode cX8_sell 46 = .ok (.iconst 3, 1) := by decide +kernel
theorem dX8_sell_47 : decode cX8_sell 47 = .ok (.invokevirtual 76, 3) := by decide +kernel
theorem dX8_sell_50 : decode cX8_sell 50 = .ok (.ireturn, 1) := by decide +kernel
theorem dX8_sell_51 : decode cX8_sell 51 = .ok (.aload_n 0, 1) := by decide +kernel
theorem dX8_sell_52 : decode cX8_sell 52 = .ok (.iload_n 1, 1) := by decide +kernel
theorem dX8_sell_53 : decode cX8_sell 53 = .ok (.aload_n 0, 1) := by decide +kernel
theorem dX8_sell_54 : decode cX8_sell 54 = .ok (.iload_n 1, 1) := by decide +kernel
theorem dX8_sell_55 : decode cX8_sell 55 = .ok (.invokevirtual 65, 3) := by decide +kernel
theorem dX8_sell_58 : decode cX8_sell 58 = .ok (.iload_n 3, 1) := by decide +kernel
theorem dX8_sell_59 : decode cX8_sell 59 = .ok (.isub, 1) := by decide +kernel
theorem dX8_sell_60 : decode cX8_sell 60 = .ok (.invokevirtual 203, 3) := by decide +kernel
theorem dX8_sell_63 : decode cX8_sell 63 = .ok (.aload_n 0, 1) := by decide +kernel
theorem dX8_sell_64 : decode cX8_sell 64 = .ok (.iload_n 2, 1) := by decide +kernel
theorem dX8_sell_65 : decode cX8_sell 65 = .ok (.aload_n 0, 1) := by decide +kernel
theorem dX8_sell_66 : decode cX8_sell 66 = .ok (.iload_n 2, 1) := by decide +kernel
theorem dX8_sell_67 : decode cX8_sell 67 = .ok (.invokevirtual 65, 3) := by decide +kernel
theorem dX8_sell_70 : decode cX8_sell 70 = .ok (.iload_n 3, 1) := by decide +kernel
theorem dX8_sell_71 : decode cX8_sell 71 = .ok (.iadd, 1) := by decide +kernel
theorem dX8_sell_72 : decode cX8_sell 72 = .ok (.invokevirtual 203, 3) := by decide +kernel
theorem dX8_sell_75 : decode cX8_sell 75 = .ok (.aload_n 0, 1) := by decide +kernel
theorem dX8_sell_76 : decode cX8_sell 76 = .ok (.iload_n 2, 1) := by decide +kernel
theorem dX8_sell_77 : decode cX8_sell 77 = .ok (.invokevirtual 65, 3) := by decide +kernel
theorem dX8_sell_80 : decode cX8_sell 80 = .ok (.ireturn, 1) := by decide +kernel
theorem dX8_fair_0 : decode cX8_fair 0 = .ok (.iload_n 1, 1) := by decide +kernel
theorem dX8_fair_1 : decode cX8_fair 1 = .ok (.invokestatic 83, 3) := by decide +kernel
theorem dX8_fair_4 : decode cX8_fair 4 = .ok (.ifCond .eq 15, 3) := by decide +kernel
theorem dX8_fair_7 : decode cX8_fair 7 = .ok (.iload_n 2, 1) := by decide +kernel
theorem dX8_fair_8 : decode cX8_fair 8 = .ok (.invokestatic 83, 3) := by decide +kernel
theorem dX8_fair_11 : decode cX8_fair 11 = .ok (.ifCond .eq 8, 3) := by decide +kernel
theorem dX8_fair_14 : decode cX8_fair 14 = .ok (.iload_n 1, 1) := by decide +kernel
theorem dX8_fair_15 : decode cX8_fair 15 = .ok (.iload_n 2, 1) := by decide +kernel
theorem dX8_fair_16 : decode cX8_fair 16 = .ok (.if_icmp .ne 9, 3) := by decide +kernel
theorem dX8_fair_19 : decode cX8_fair 19 = .ok (.aload_n 0, 1) := by decide +kernel
theorem dX8_fair_20 : decode cX8_fair 20 = .ok (.iconst 1, 1) := by decide +kernel
theorem dX8_fair_21 : decode cX8_fair 21 = .ok (.invokevirtual 76, 3) := by decide +kernel
theorem dX8_fair_24 : decode cX8_fair 24 = .ok (.ireturn, 1) := by decide +kernel
theorem dX8_fair_25 : decode cX8_fair 25 = .ok (.aload_n 0, 1) := by decide +kernel
theorem dX8_fair_26 : decode cX8_fair 26 = .ok (.iload_n 1, 1) := by decide +kernel
theorem dX8_fair_27 : decode cX8_fair 27 = .ok (.invokevirtual 65, 3) := by decide +kernel
theorem dX8_fair_30 : decode cX8_fair 30 = .ok (.aload_n 0, 1) := by decide +kernel
theorem dX8_fair_31 : decode cX8_fair 31 = .ok (.iload_n 1, 1) := by decide +kernel
theorem dX8_fair_32 : decode cX8_fair 32 = .ok (.invokevirtual 69, 3) := by decide +kernel
theorem dX8_fair_35 : decode cX8_fair 35 = .ok (.isub, 1) := by decide +kernel
theorem dX8_fair_36 : decode cX8_fair 36 = .ok (.aload_n 0, 1) := by decide +kernel
theorem dX8_fair_37 : decode cX8_fair 37 = .ok (.iload_n 2, 1) := by decide +kernel
theorem dX8_fair_38 : decode cX8_fair 38 = .ok (.invokevirtual 65, 3) := by decide +kernel
theorem dX8_fair_41 : decode cX8_fair 41 = .ok (.isub, 1) := by decide +kernel
theorem dX8_fair_42 : decode cX8_fair 42 = .ok (.aload_n 0, 1) := by decide +kernel
theorem dX8_fair_43 : decode cX8_fair 43 = .ok (.iload_n 2, 1) := by decide +kernel
theorem dX8_fair_44 : decode cX8_fair 44 = .ok (.invokevirtual 69, 3) := by decide +kernel
theorem dX8_fair_47 : decode cX8_fair 47 = .ok (.iadd, 1) := by decide +kernel
theorem dX8_fair_48 : decode cX8_fair 48 = .ok (.iconst 2, 1) := by decide +kernel
theorem dX8_fair_49 : decode cX8_fair 49 = .ok (.idiv, 1) := by decide +kernel
theorem dX8_fair_50 : decode cX8_fair 50 = .ok (.ireturn, 1) := by decide +kernel
theorem dX8_isAhead_0 : decode cX8_isAhead 0 = .ok (.iload_n 0, 1) := by decide +kernel
theorem dX8_isAhead_1 : decode cX8_isAhead 1 = .ok (.iconst 0, 1) := by decide +kernel
theorem dX8_isAhead_2 : decode cX8_isAhead 2 = .ok (.sipush 240, 3) := by decide +kernel
theorem dX8_isAhead_5 : decode cX8_isAhead 5 = .ok (.invokestatic 56, 3) := by decide +kernel
theorem dX8_isAhead_8 : decode cX8_isAhead 8 = .ok (.ireturn, 1) := by decide +kernel
theorem dX8_then_0 : decode cX8_then 0 = .ok (.iload_n 1, 1) := by decide +kernel
theorem dX8_then_1 : decode cX8_then 1 = .ok (.invokestatic 223, 3) := by decide +kernel
theorem dX8_then_4 : decode cX8_then 4 = .ok (.ifCond .eq 21, 3) := by decide +kernel
theorem dX8_then_7 : decode cX8_then 7 = .ok (.aload_n 0, 1) := by decide +kernel
theorem dX8_then_8 : decode cX8_then 8 = .ok (.iload_n 2, 1) := by decide +kernel
theorem dX8_then_9 : decode cX8_then 9 = .ok (.invokevirtual 112, 3) := by decide +kernel
theorem dX8_then_12 : decode cX8_then 12 = .ok (.ifCond .eq 13, 3) := by decide +kernel
theorem dX8_then_15 : decode cX8_then 15 = .ok (.iload_n 3, 1) := by decide +kernel
theorem dX8_then_16 : decode cX8_then 16 = .ok (.iconst 0, 1) := by decide +kernel
theorem dX8_then_17 : decode cX8_then 17 = .ok (.bipush 9, 2) := by decide +kernel
theorem dX8_then_19 : decode cX8_then 19 = .ok (.invokestatic 56, 3) := by decide +kernel
theorem dX8_then_22 : decode cX8_then 22 = .ok (.ifCond .ne 9, 3) := by decide +kernel
theorem dX8_then_25 : decode cX8_then 25 = .ok (.aload_n 0, 1) := by decide +kernel
theorem dX8_then_26 : decode cX8_then 26 = .ok (.iconst 1, 1) := by decide +kernel
theorem dX8_then_27 : decode cX8_then 27 = .ok (.invokevirtual 76, 3) := by decide +kernel
theorem dX8_then_30 : decode cX8_then 30 = .ok (.ireturn, 1) := by decide +kernel
theorem dX8_then_31 : decode cX8_then 31 = .ok (.aload_n 0, 1) := by decide +kernel
theorem dX8_then_32 : decode cX8_then 32 = .ok (.getfield 7, 3) := by decide +kernel
theorem dX8_then_35 : decode cX8_then 35 = .ok (.aload_n 0, 1) := by decide +kernel
theorem dX8_then_36 : decode cX8_then 36 = .ok (.getfield 16, 3) := by decide +kernel
theorem dX8_then_39 : decode cX8_then 39 = .ok (.invokestatic 226, 3) := by decide +kernel
theorem dX8_then_42 : decode cX8_then 42 = .ok (.aload_n 0, 1) := by decide +kernel
theorem dX8_then_43 : decode cX8_then 43 = .ok (.iload_n 1, 1) := by decide +kernel
theorem dX8_then_44 : decode cX8_then 44 = .ok (.invokevirtual 212, 3) := by decide +kernel
theorem dX8_then_47 : decode cX8_then 47 = .ok (.aload_n 0, 1) := by decide +kernel
theorem dX8_then_48 : decode cX8_then 48 = .ok (.iload_n 2, 1) := by decide +kernel
theorem dX8_then_49 : decode cX8_then 49 = .ok (.iload_n 3, 1) := by decide +kernel
theorem dX8_then_50 : decode cX8_then 50 = .ok (.invokevirtual 115, 3) := by decide +kernel
theorem dX8_then_53 : decode cX8_then 53 = .ok (.istore 4, 2) := by decide +kernel
theorem dX8_then_55 : decode cX8_then 55 = .ok (.aload_n 0, 1) := by decide +kernel
theorem dX8_then_56 : decode cX8_then 56 = .ok (.getfield 16, 3) := by decide +kernel
theorem dX8_then_59 : decode cX8_then 59 = .ok (.aload_n 0, 1) := by decide +kernel
theorem dX8_then_60 : decode cX8_then 60 = .ok (.getfield 7, 3) := by decide +kernel
theorem dX8_then_63 : decode cX8_then 63 = .ok (.invokestatic 226, 3) := by decide +kernel
theorem dX8_then_66 : decode cX8_then 66 = .ok (.iload 4, 2) := by decide +kernel
theorem dX8_then_68 : decode cX8_then 68 = .ok (.ireturn, 1) := by decide +kernel
theorem dX8_thenFamily_0 : decode cX8_thenFamily 0 = .ok (.iload_n 1, 1) := by decide +kernel
theorem dX8_thenFamily_1 : decode cX8_thenFamily 1 = .ok (.invokestatic 223, 3) := by decide +kernel
theorem dX8_thenFamily_4 : decode cX8_thenFamily 4 = .ok (.ifCond .eq 19, 3) := by decide +kernel
theorem dX8_thenFamily_7 : decode cX8_thenFamily 7 = .ok (.iload_n 2, 1) := by decide +kernel
theorem dX8_thenFamily_8 : decode cX8_thenFamily 8 = .ok (.invokestatic 83, 3) := by decide +kernel
theorem dX8_thenFamily_11 : decode cX8_thenFamily 11 = .ok (.ifCond .eq 12, 3) := by decide +kernel
theorem dX8_thenFamily_14 : decode cX8_thenFamily 14 = .ok (.iload_n 3, 1) := by decide +kernel
theorem dX8_thenFamily_15 : decode cX8_thenFamily 15 = .ok (.iconst 0, 1) := by decide +kernel
theorem dX8_thenFamily_16 : decode cX8_thenFamily 16 = .ok (.iconst 3, 1) := by decide +kernel
theorem dX8_thenFamily_17 : decode cX8_thenFamily 17 = .ok (.invokestatic 56, 3) := by decide +kernel
theorem dX8_thenFamily_20 : decode cX8_thenFamily 20 = .ok (.ifCond .ne 9, 3) := by decide +kernel
theorem dX8_thenFamily_23 : decode cX8_thenFamily 23 = .ok (.aload_n 0, 1) := by decide +kernel
theorem dX8_thenFamily_24 : decode cX8_thenFamily 24 = .ok (.iconst 1, 1) := by decide +kernel
theorem dX8_thenFamily_25 : decode cX8_thenFamily 25 = .ok (.invokevirtual 76, 3) := by decide +kernel
theorem dX8_thenFamily_28 : decode cX8_thenFamily 28 = .ok (.ireturn, 1) := by decide +kernel
theorem dX8_thenFamily_29 : decode cX8_thenFamily 29 = .ok (.aload_n 0, 1) := by decide +kernel
theorem dX8_thenFamily_30 : decode cX8_thenFamily 30 = .ok (.getfield 7, 3) := by decide +kernel
theorem dX8_thenFamily_33 : decode cX8_thenFamily 33 = .ok (.aload_n 0, 1) := by decide +kernel
theorem dX8_thenFamily_34 : decode cX8_thenFamily 34 = .ok (.getfield 16, 3) := by decide +kernel
theorem dX8_thenFamily_37 : decode cX8_thenFamily 37 = .ok (.invokestatic 226, 3) := by decide +kernel
theorem dX8_thenFamily_40 : decode cX8_thenFamily 40 = .ok (.aload_n 0, 1) := by decide +kernel
theorem dX8_thenFamily_41 : decode cX8_thenFamily 41 = .ok (.iload_n 1, 1) := by decide +kernel
theorem dX8_thenFamily_42 : decode cX8_thenFamily 42 = .ok (.invokevirtual 212, 3) := by decide +kernel
theorem dX8_thenFamily_45 : decode cX8_thenFamily 45 = .ok (.aload_n 0, 1) := by decide +kernel
theorem dX8_thenFamily_46 : decode cX8_thenFamily 46 = .ok (.iload_n 2, 1) := by decide +kernel
theorem dX8_thenFamily_47 : decode cX8_thenFamily 47 = .ok (.iload_n 3, 1) := by decide +kernel
theorem dX8_thenFamily_48 : decode cX8_thenFamily 48 = .ok (.invokevirtual 93, 3) := by decide +kernel
theorem dX8_thenFamily_51 : decode cX8_thenFamily 51 = .ok (.istore 4, 2) := by decide +kernel
theorem dX8_thenFamily_53 : decode cX8_thenFamily 53 = .ok (.aload_n 0, 1) := by decide +kernel
theorem dX8_thenFamily_54 : decode cX8_thenFamily 54 = .ok (.getfield 16, 3) := by decide +kernel
theorem dX8_thenFamily_57 : decode cX8_thenFamily 57 = .ok (.aload_n 0, 1) := by decide +kernel
theorem dX8_thenFamily_58 : decode cX8_thenFamily 58 = .ok (.getfield 7, 3) := by decide +kernel
theorem dX8_thenFamily_61 : decode cX8_thenFamily 61 = .ok (.invokestatic 226, 3) := by decide +kernel
theorem dX8_thenFamily_64 : decode cX8_thenFamily 64 = .ok (.iload 4, 2) := by decide +kernel
theorem dX8_thenFamily_66 : decode cX8_thenFamily 66 = .ok (.ireturn, 1) := by decide +kernel
theorem dX8_when_0 : decode cX8_when 0 = .ok (.iload_n 1, 1) := by decide +kernel
theorem dX8_when_1 : decode cX8_when 1 = .ok (.invokestatic 83, 3) := by decide +kernel
theorem dX8_when_4 : decode cX8_when 4 = .ok (.ifCond .eq 10, 3) := by decide +kernel
theorem dX8_when_7 : decode cX8_when 7 = .ok (.iload_n 2, 1) := by decide +kernel
theorem dX8_when_8 : decode cX8_when 8 = .ok (.invokestatic 223, 3) := by decide +kernel
theorem dX8_when_11 : decode cX8_when 11 = .ok (.ifCond .ne 9, 3) := by decide +kernel
theorem dX8_when_14 : decode cX8_when 14 = .ok (.aload_n 0, 1) := by decide +kernel
theorem dX8_when_15 : decode cX8_when 15 = .ok (.iconst 1, 1) := by decide +kernel
theorem dX8_when_16 : decode cX8_when 16 = .ok (.invokevirtual 76, 3) := by decide +kernel
theorem dX8_when_19 : decode cX8_when 19 = .ok (.ireturn, 1) := by decide +kernel
theorem dX8_when_20 : decode cX8_when 20 = .ok (.aload_n 0, 1) := by decide +kernel
theorem dX8_when_21 : decode cX8_when 21 = .ok (.getfield 7, 3) := by decide +kernel
theorem dX8_when_24 : decode cX8_when 24 = .ok (.aload_n 0, 1) := by decide +kernel
theorem dX8_when_25 : decode cX8_when 25 = .ok (.getfield 16, 3) := by decide +kernel
theorem dX8_when_28 : decode cX8_when 28 = .ok (.invokestatic 226, 3) := by decide +kernel
theorem dX8_when_31 : decode cX8_when 31 = .ok (.iconst 0, 1) := by decide +kernel
theorem dX8_when_32 : decode cX8_when 32 = .ok (.istore_n 3, 1) := by decide +kernel
theorem dX8_when_33 : decode cX8_when 33 = .ok (.iload_n 3, 1) := by decide +kernel
theorem dX8_when_34 : decode cX8_when 34 = .ok (.iload_n 2, 1) := by decide +kernel
theorem dX8_when_35 : decode cX8_when 35 = .ok (.if_icmp .ge 21, 3) := by decide +kernel
theorem dX8_when_38 : decode cX8_when 38 = .ok (.aload_n 0, 1) := by decide +kernel
theorem dX8_when_39 : decode cX8_when 39 = .ok (.iload_n 1, 1) := by decide +kernel
theorem dX8_when_40 : decode cX8_when 40 = .ok (.invokevirtual 87, 3) := by decide +kernel
theorem dX8_when_43 : decode cX8_when 43 = .ok (.ifCond .ne 13, 3) := by decide +kernel
theorem dX8_when_46 : decode cX8_when 46 = .ok (.aload_n 0, 1) := by decide +kernel
theorem dX8_when_47 : decode cX8_when 47 = .ok (.invokevirtual 209, 3) := by decide +kernel
theorem dX8_when_50 : decode cX8_when 50 = .ok (.iinc 3 1, 3) := by decide +kernel
theorem dX8_when_53 : decode cX8_when 53 = .ok (.goto (-20), 3) := by decide +kernel
theorem dX8_when_56 : decode cX8_when 56 = .ok (.aload_n 0, 1) := by decide +kernel
theorem dX8_when_57 : decode cX8_when 57 = .ok (.iload_n 1, 1) := by decide +kernel
theorem dX8_when_58 : decode cX8_when 58 = .ok (.invokevirtual 87, 3) := by decide +kernel
theorem dX8_when_61 : decode cX8_when 61 = .ok (.istore 4, 2) := by decide +kernel
theorem dX8_when_63 : decode cX8_when 63 = .ok (.aload_n 0, 1) := by decide +kernel
theorem dX8_when_64 : decode cX8_when 64 = .ok (.getfield 16, 3) := by decide +kernel
theorem dX8_when_67 : decode cX8_when 67 = .ok (.aload_n 0, 1) := by decide +kernel
theorem dX8_when_68 : decode cX8_when 68 = .ok (.getfield 7, 3) := by decide +kernel
theorem dX8_when_71 : decode cX8_when 71 = .ok (.invokestatic 226, 3) := by decide +kernel
theorem dX8_when_74 : decode cX8_when 74 = .ok (.iload 4, 2) := by decide +kernel
theorem dX8_when_76 : decode cX8_when 76 = .ok (.ifCond .eq 7, 3) := by decide +kernel
theorem dX8_when_79 : decode cX8_when 79 = .ok (.iload_n 3, 1) := by decide +kernel
theorem dX8_when_80 : decode cX8_when 80 = .ok (.goto 8, 3) := by decide +kernel
theorem dX8_when_83 : decode cX8_when 83 = .ok (.aload_n 0, 1) := by decide +kernel
theorem dX8_when_84 : decode cX8_when 84 = .ok (.iconst 2, 1) := by decide +kernel
theorem dX8_when_85 : decode cX8_when 85 = .ok (.invokevirtual 76, 3) := by decide +kernel
theorem dX8_when_88 : decode cX8_when 88 = .ok (.ireturn, 1) := by decide +kernel
theorem dX8_opens__0 : decode cX8_opens_ 0 = .ok (.iconst 0, 1) := by decide +kernel
theorem dX8_opens__1 : decode cX8_opens_ 1 = .ok (.istore_n 2, 1) := by decide +kernel
theorem dX8_opens__2 : decode cX8_opens_ 2 = .ok (.iload_n 2, 1) := by decide +kernel
theorem dX8_opens__3 : decode cX8_opens_ 3 = .ok (.aload_n 0, 1) := by decide +kernel
theorem dX8_opens__4 : decode cX8_opens_ 4 = .ok (.getfield 7, 3) := by decide +kernel
theorem dX8_opens__7 : decode cX8_opens_ 7 = .ok (.iconst 0, 1) := by decide +kernel
theorem dX8_opens__8 : decode cX8_opens_ 8 = .ok (.iaload, 1) := by decide +kernel
theorem dX8_opens__9 : decode cX8_opens_ 9 = .ok (.if_icmp .ge 20, 3) := by decide +kernel
theorem dX8_opens__12 : decode cX8_opens_ 12 = .ok (.aload_n 0, 1) := by decide +kernel
theorem dX8_opens__13 : decode cX8_opens_ 13 = .ok (.iload_n 2, 1) := by decide +kernel
theorem dX8_opens__14 : decode cX8_opens_ 14 = .ok (.iconst 4, 1) := by decide +kernel
theorem dX8_opens__15 : decode cX8_opens_ 15 = .ok (.iload_n 1, 1) := by decide +kernel
theorem dX8_opens__16 : decode cX8_opens_ 16 = .ok (.iload_n 2, 1) := by decide +kernel
theorem dX8_opens__17 : decode cX8_opens_ 17 = .ok (.ishr, 1) := by decide +kernel
theorem dX8_opens__18 : decode cX8_opens_ 18 = .ok (.iconst 1, 1) := by decide +kernel
theorem dX8_opens__19 : decode cX8_opens_ 19 = .ok (.iand, 1) := by decide +kernel
theorem dX8_opens__20 : decode cX8_opens_ 20 = .ok (.invokevirtual 96, 3) := by decide +kernel
theorem dX8_opens__23 : decode cX8_opens_ 23 = .ok (.iinc 2 1, 3) := by decide +kernel
theorem dX8_opens__26 : decode cX8_opens_ 26 = .ok (.goto (-24), 3) := by decide +kernel
theorem dX8_opens__29 : decode cX8_opens_ 29 = .ok (.return_, 1) := by decide +kernel
theorem dX8_areAllPaid_0 : decode cX8_areAllPaid 0 = .ok (.iconst 1, 1) := by decide +kernel
theorem dX8_areAllPaid_1 : decode cX8_areAllPaid 1 = .ok (.istore_n 1, 1) := by decide +kernel
theorem dX8_areAllPaid_2 : decode cX8_areAllPaid 2 = .ok (.iconst 0, 1) := by decide +kernel
theorem dX8_areAllPaid_3 : decode cX8_areAllPaid 3 = .ok (.istore_n 2, 1) := by decide +kernel
theorem dX8_areAllPaid_4 : decode cX8_areAllPaid 4 = .ok (.iload_n 2, 1) := by decide +kernel
theorem dX8_areAllPaid_5 : decode cX8_areAllPaid 5 = .ok (.iconst 5, 1) := by decide +kernel
theorem dX8_areAllPaid_6 : decode cX8_areAllPaid 6 = .ok (.if_icmp .ge 27, 3) := by decide +kernel
theorem dX8_areAllPaid_9 : decode cX8_areAllPaid 9 = .ok (.iload_n 1, 1) := by decide +kernel
theorem dX8_areAllPaid_10 : decode cX8_areAllPaid 10 = .ok (.ifCond .eq 15, 3) := by decide +kernel
theorem dX8_areAllPaid_13 : decode cX8_areAllPaid 13 = .ok (.aload_n 0, 1) := by decide +kernel
theorem dX8_areAllPaid_14 : decode cX8_areAllPaid 14 = .ok (.iload_n 2, 1) := by decide +kernel
theorem dX8_areAllPaid_15 : decode cX8_areAllPaid 15 = .ok (.invokevirtual 87, 3) := by decide +kernel
theorem dX8_areAllPaid_18 : decode cX8_areAllPaid 18 = .ok (.ifCond .eq 7, 3) := by decide +kernel
theorem dX8_areAllPaid_21 : decode cX8_areAllPaid 21 = .ok (.iconst 1, 1) := by decide +kernel
theorem dX8_areAllPaid_22 : decode cX8_areAllPaid 22 = .ok (.goto 4, 3) := by decide +kernel
theorem dX8_areAllPaid_25 : decode cX8_areAllPaid 25 = .ok (.iconst 0, 1) := by decide +kernel
theorem dX8_areAllPaid_26 : decode cX8_areAllPaid 26 = .ok (.istore_n 1, 1) := by decide +kernel
theorem dX8_areAllPaid_27 : decode cX8_areAllPaid 27 = .ok (.iinc 2 1, 3) := by decide +kernel
theorem dX8_areAllPaid_30 : decode cX8_areAllPaid 30 = .ok (.goto (-26), 3) := by decide +kernel
theorem dX8_areAllPaid_33 : decode cX8_areAllPaid 33 = .ok (.iload_n 1, 1) := by decide +kernel
theorem dX8_areAllPaid_34 : decode cX8_areAllPaid 34 = .ok (.ireturn, 1) := by decide +kernel
theorem dX8_sluices_0 : decode cX8_sluices 0 = .ok (.iload_n 1, 1) := by decide +kernel
theorem dX8_sluices_1 : decode cX8_sluices 1 = .ok (.iconst 1, 1) := by decide +kernel
theorem dX8_sluices_2 : decode cX8_sluices 2 = .ok (.bipush 6, 2) := by decide +kernel
theorem dX8_sluices_4 : decode cX8_sluices 4 = .ok (.invokestatic 56, 3) := by decide +kernel
theorem dX8_sluices_7 : decode cX8_sluices 7 = .ok (.ifCond .eq 12, 3) := by decide +kernel
theorem dX8_sluices_10 : decode cX8_sluices 10 = .ok (.iload_n 2, 1) := by decide +kernel
theorem dX8_sluices_11 : decode cX8_sluices 11 = .ok (.iconst 0, 1) := by decide +kernel
theorem dX8_sluices_12 : decode cX8_sluices 12 = .ok (.iconst 1, 1) := by decide +kernel
theorem dX8_sluices_13 : decode cX8_sluices 13 = .ok (.invokestatic 56, 3) := by decide +kernel
theorem dX8_sluices_16 : decode cX8_sluices 16 = .ok (.ifCond .ne 9, 3) := by decide +kernel
theorem dX8_sluices_19 : decode cX8_sluices 19 = .ok (.aload_n 0, 1) := by decide +kernel
theorem dX8_sluices_20 : decode cX8_sluices 20 = .ok (.iconst 1, 1) := by decide +kernel
theorem dX8_sluices_21 : decode cX8_sluices 21 = .ok (.invokevirtual 76, 3) := by decide +kernel
theorem dX8_sluices_24 : decode cX8_sluices 24 = .ok (.ireturn, 1) := by decide +kernel
theorem dX8_sluices_25 : decode cX8_sluices 25 = .ok (.iconst (-1), 1) := by decide +kernel
theorem dX8_sluices_26 : decode cX8_sluices 26 = .ok (.istore_n 3, 1) := by decide +kernel
theorem dX8_sluices_27 : decode cX8_sluices 27 = .ok (.iconst 0, 1) := by decide +kernel
theorem dX8_sluices_28 : decode cX8_sluices 28 = .ok (.istore 4, 2) := by decide +kernel
theorem dX8_sluices_30 : decode cX8_sluices 30 = .ok (.iconst 0, 1) := by decide +kernel
theorem dX8_sluices_31 : decode cX8_sluices 31 = .ok (.istore 5, 2) := by decide +kernel
theorem dX8_sluices_33 : decode cX8_sluices 33 = .ok (.iload 5, 2) := by decide +kernel
theorem dX8_sluices_35 : decode cX8_sluices 35 = .ok (.iconst 1, 1) := by decide +kernel
theorem dX8_sluices_36 : decode cX8_sluices 36 = .ok (.aload_n 0, 1) := by decide +kernel
theorem dX8_sluices_37 : decode cX8_sluices 37 = .ok (.getfield 7, 3) := by decide +kernel
theorem dX8_sluices_40 : decode cX8_sluices 40 = .ok (.iconst 0, 1) := by decide +kernel
theorem dX8_sluices_41 : decode cX8_sluices 41 = .ok (.iaload, 1) := by decide +kernel
theorem dX8_sluices_42 : decode cX8_sluices 42 = .ok (.ishl, 1) := by decide +kernel
theorem dX8_sluices_43 : decode cX8_sluices 43 = .ok (.if_icmp .ge 94, 3) := by decide +kernel
theorem dX8_sluices_46 : decode cX8_sluices 46 = .ok (.aload_n 0, 1) := by decide +kernel
theorem dX8_sluices_47 : decode cX8_sluices 47 = .ok (.getfield 7, 3) := by decide +kernel
theorem dX8_sluices_50 : decode cX8_sluices 50 = .ok (.aload_n 0, 1) := by decide +kernel
theorem dX8_sluices_51 : decode cX8_sluices 51 = .ok (.getfield 16, 3) := by decide +kernel
theorem dX8_sluices_54 : decode cX8_sluices 54 = .ok (.invokestatic 226, 3) := by decide +kernel
theorem dX8_sluices_57 : decode cX8_sluices 57 = .ok (.aload_n 0, 1) := by decide +kernel
theorem dX8_sluices_58 : decode cX8_sluices 58 = .ok (.iload 5, 2) := by decide +kernel
theorem dX8_sluices_60 : decode cX8_sluices 60 = .ok (.invokevirtual 230, 3) := by decide +kernel
theorem dX8_sluices_63 : decode cX8_sluices 63 = .ok (.iconst 0, 1) := by decide +kernel
theorem dX8_sluices_64 : decode cX8_sluices 64 = .ok (.istore 6, 2) := by decide +kernel
theorem dX8_sluices_66 : decode cX8_sluices 66 = .ok (.iconst 0, 1) := by decide +kernel
theorem dX8_sluices_67 : decode cX8_sluices 67 = .ok (.istore 7, 2) := by decide +kernel
theorem dX8_sluices_69 : decode cX8_sluices 69 = .ok (.iload 7, 2) := by decide +kernel
theorem dX8_sluices_71 : decode cX8_sluices 71 = .ok (.iload_n 1, 1) := by decide +kernel
theorem dX8_sluices_72 : decode cX8_sluices 72 = .ok (.if_icmp .ge 22, 3) := by decide +kernel
theorem dX8_sluices_75 : decode cX8_sluices 75 = .ok (.aload_n 0, 1) := by decide +kernel
theorem dX8_sluices_76 : decode cX8_sluices 76 = .ok (.invokevirtual 209, 3) := by decide +kernel
theorem dX8_sluices_79 : decode cX8_sluices 79 = .ok (.iload 6, 2) := by decide +kernel
theorem dX8_sluices_81 : decode cX8_sluices 81 = .ok (.aload_n 0, 1) := by decide +kernel
theorem dX8_sluices_82 : decode cX8_sluices 82 = .ok (.getfield 197, 3) := by decide +kernel
theorem dX8_sluices_85 : decode cX8_sluices 85 = .ok (.iadd, 1) := by decide +kernel
theorem dX8_sluices_86 : decode cX8_sluices 86 = .ok (.istore 6, 2) := by decide +kernel
theorem dX8_sluices_88 : decode cX8_sluices 88 = .ok (.iinc 7 1, 3) := by decide +kernel
theorem dX8_sluices_91 : decode cX8_sluices 91 = .ok (.goto (-22), 3) := by decide +kernel
theorem dX8_sluices_94 : decode cX8_sluices 94 = .ok (.aload_n 0, 1) := by decide +kernel
theorem dX8_sluices_95 : decode cX8_sluices 95 = .ok (.invokevirtual 232, 3) := by decide +kernel
theorem dX8_sluices_98 : decode cX8_sluices 98 = .ok (.ifCond .eq 22, 3) := by decide +kernel
theorem dX8_sluices_101 : decode cX8_sluices 101 = .ok (.iload_n 3, 1) := by decide +kernel
theorem dX8_sluices_102 : decode cX8_sluices 102 = .ok (.iconst (-1), 1) := by decide +kernel
theorem dX8_sluices_103 : decode cX8_sluices 103 = .ok (.if_icmp .eq 10, 3) := by decide +kernel
theorem dX8_sluices_106 : decode cX8_sluices 106 = .ok (.iload 6, 2) := by decide +kernel
theorem dX8_sluices_108 : decode cX8_sluices 108 = .ok (.iload 4, 2) := by decide +kernel
theorem dX8_sluices_110 : decode cX8_sluices 110 = .ok (.if_icmp .ge 10, 3) := by decide +kernel
theorem dX8_sluices_113 : decode cX8_sluices 113 = .ok (.iload 5, 2) := by decide +kernel
theorem dX8_sluices_115 : decode cX8_sluices 115 = .ok (.istore_n 3, 1) := by decide +kernel
theorem dX8_sluices_116 : decode cX8_sluices 116 = .ok (.iload 6, 2) := by decide +kernel
theorem dX8_sluices_118 : decode cX8_sluices 118 = .ok (.istore 4, 2) := by decide +kernel
theorem dX8_sluices_120 : decode cX8_sluices 120 = .ok (.aload_n 0, 1) := by decide +kernel
theorem dX8_sluices_121 : decode cX8_sluices 121 = .ok (.getfield 16, 3) := by decide +kernel
theorem dX8_sluices_124 : decode cX8_sluices 124 = .ok (.aload_n 0, 1) := by decide +kernel
theorem dX8_sluices_125 : decode cX8_sluices 125 = .ok (.getfield 7, 3) := by decide +kernel
theorem dX8_sluices_128 : decode cX8_sluices 128 = .ok (.invokestatic 226, 3) := by decide +kernel
theorem dX8_sluices_131 : decode cX8_sluices 131 = .ok (.iinc 5 1, 3) := by decide +kernel
theorem dX8_sluices_134 : decode cX8_sluices 134 = .ok (.goto (-101), 3) := by decide +kernel
theorem dX8_sluices_137 : decode cX8_sluices 137 = .ok (.iload_n 3, 1) := by decide +kernel
theorem dX8_sluices_138 : decode cX8_sluices 138 = .ok (.iconst (-1), 1) := by decide +kernel
theorem dX8_sluices_139 : decode cX8_sluices 139 = .ok (.if_icmp .ne 11, 3) := by decide +kernel
theorem dX8_sluices_142 : decode cX8_sluices 142 = .ok (.aload_n 0, 1) := by decide +kernel
theorem dX8_sluices_143 : decode cX8_sluices 143 = .ok (.iconst 2, 1) := by decide +kernel
theorem dX8_sluices_144 : decode cX8_sluices 144 = .ok (.invokevirtual 76, 3) := by decide +kernel
theorem dX8_sluices_147 : decode cX8_sluices 147 = .ok (.goto 13, 3) := by decide +kernel
theorem dX8_sluices_150 : decode cX8_sluices 150 = .ok (.iload_n 2, 1) := by decide +kernel
theorem dX8_sluices_151 : decode cX8_sluices 151 = .ok (.ifCond .ne 7, 3) := by decide +kernel
theorem dX8_sluices_154 : decode cX8_sluices 154 = .ok (.iload_n 3, 1) := by decide +kernel
theorem dX8_sluices_155 : decode cX8_sluices 155 = .ok (.goto 5, 3) := by decide +kernel
theorem dX8_sluices_158 : decode cX8_sluices 158 = .ok (.iload 4, 2) := by decide +kernel
theorem dX8_sluices_160 : decode cX8_sluices 160 = .ok (.ireturn, 1) := by decide +kernel
theorem dX8_findTurns_0 : decode cX8_findTurns 0 = .ok (.aload_n 0, 1) := by decide +kernel
theorem dX8_findTurns_1 : decode cX8_findTurns 1 = .ok (.iconst 0, 1) := by decide +kernel
theorem dX8_findTurns_2 : decode cX8_findTurns 2 = .ok (.putfield 235, 3) := by decide +kernel
theorem dX8_findTurns_5 : decode cX8_findTurns 5 = .ok (.aload_n 0, 1) := by decide +kernel
theorem dX8_findTurns_6 : decode cX8_findTurns 6 = .ok (.iconst 0, 1) := by decide +kernel
theorem dX8_findTurns_7 : decode cX8_findTurns 7 = .ok (.putfield 238, 3) := by decide +kernel
theorem dX8_findTurns_10 : decode cX8_findTurns 10 = .ok (.iconst 0, 1) := by decide +kernel
theorem dX8_findTurns_11 : decode cX8_findTurns 11 = .ok (.istore_n 3, 1) := by decide +kernel
theorem dX8_findTurns_12 : decode cX8_findTurns 12 = .ok (.iload_n 3, 1) := by decide +kernel
theorem dX8_findTurns_13 : decode cX8_findTurns 13 = .ok (.iload_n 2, 1) := by decide +kernel
theorem dX8_findTurns_14 : decode cX8_findTurns 14 = .ok (.if_icmp .ge 85, 3) := by decide +kernel
theorem dX8_findTurns_17 : decode cX8_findTurns 17 = .ok (.aload_n 0, 1) := by decide +kernel
theorem dX8_findTurns_18 : decode cX8_findTurns 18 = .ok (.invokevirtual 209, 3) := by decide +kernel
theorem dX8_findTurns_21 : decode cX8_findTurns 21 = .ok (.iconst 0, 1) := by decide +kernel
theorem dX8_findTurns_22 : decode cX8_findTurns 22 = .ok (.istore 4, 2) := by decide +kernel
theorem dX8_findTurns_24 : decode cX8_findTurns 24 = .ok (.iload 4, 2) := by decide +kernel
theorem dX8_findTurns_26 : decode cX8_findTurns 26 = .ok (.aload_n 0, 1) := by decide +kernel
theorem dX8_findTurns_27 : decode cX8_findTurns 27 = .ok (.getfield 7, 3) := by decide +kernel
theorem dX8_findTurns_30 : decode cX8_findTurns 30 = .ok (.iconst 0, 1) := by decide +kernel
theorem dX8_findTurns_31 : decode cX8_findTurns 31 = .ok (.iaload, 1) := by decide +kernel
theorem dX8_findTurns_32 : decode cX8_findTurns 32 = .ok (.if_icmp .ge 61, 3) := by decide +kernel
theorem dX8_findTurns_35 : decode cX8_findTurns 35 = .ok (.aload_n 0, 1) := by decide +kernel
theorem dX8_findTurns_36 : decode cX8_findTurns 36 = .ok (.dup, 1) := by decide +kernel
theorem dX8_findTurns_37 : decode cX8_findTurns 37 = .ok (.getfield 235, 3) := by decide +kernel
theorem dX8_findTurns_40 : decode cX8_findTurns 40 = .ok (.iload 4, 2) := by decide +kernel
theorem dX8_findTurns_42 : decode cX8_findTurns 42 = .ok (.iload_n 1, 1) := by decide +kernel
theorem dX8_findTurns_43 : decode cX8_findTurns 43 = .ok (.if_icmp .ge 13, 3) := by decide +kernel
theorem dX8_findTurns_46 : decode cX8_findTurns 46 = .ok (.aload_n 0, 1) := by decide +kernel
theorem dX8_findTurns_47 : decode cX8_findTurns 47 = .ok (.getfield 37, 3) := by decide +kernel
theorem dX8_findTurns_50 : decode cX8_findTurns 50 = .ok (.iload 4, 2) := by decide +kernel
theorem dX8_findTurns_52 : decode cX8_findTurns 52 = .ok (.iaload, 1) := by decide +kernel
theorem dX8_findTurns_53 : decode cX8_findTurns 53 = .ok (.goto 4, 3) := by decide +kernel
theorem dX8_findTurns_56 : decode cX8_findTurns 56 = .ok (.iconst 0, 1) := by decide +kernel
theorem dX8_findTurns_57 : decode cX8_findTurns 57 = .ok (.iadd, 1) := by decide +kernel
theorem dX8_findTurns_58 : decode cX8_findTurns 58 = .ok (.putfield 235, 3) := by decide +kernel
theorem dX8_findTurns_61 : decode cX8_findTurns 61 = .ok (.aload_n 0, 1) := by decide +kernel
theorem dX8_findTurns_62 : decode cX8_findTurns 62 = .ok (.dup, 1) := by decide +kernel
theorem dX8_findTurns_63 : decode cX8_findTurns 63 = .ok (.getfield 238, 3) := by decide +kernel
theorem dX8_findTurns_66 : decode cX8_findTurns 66 = .ok (.iload 4, 2) := by decide +kernel
theorem dX8_findTurns_68 : decode cX8_findTurns 68 = .ok (.iload_n 1, 1) := by decide +kernel
theorem dX8_findTurns_69 : decode cX8_findTurns 69 = .ok (.if_icmp .ge 7, 3) := by decide +kernel
theorem dX8_findTurns_72 : decode cX8_findTurns 72 = .ok (.iconst 0, 1) := by decide +kernel
theorem dX8_findTurns_73 : decode cX8_findTurns 73 = .ok (.goto 10, 3) := by decide +kernel
theorem dX8_findTurns_76 : decode cX8_findTurns 76 = .ok (.aload_n 0, 1) := by decide +kernel
theorem dX8_findTurns_77 : decode cX8_findTurns 77 = .ok (.getfield 37, 3) := by decide +kernel
theorem dX8_findTurns_80 : decode cX8_findTurns 80 = .ok (.iload 4, 2) := by decide +kernel
theorem dX8_findTurns_82 : decode cX8_findTurns 82 = .ok (.iaload, 1) := by decide +kernel
theorem dX8_findTurns_83 : decode cX8_findTurns 83 = .ok (.iadd, 1) := by decide +kernel
theorem dX8_findTurns_84 : decode cX8_findTurns 84 = .ok (.putfield 238, 3) := by decide +kernel
theorem dX8_findTurns_87 : decode cX8_findTurns 87 = .ok (.iinc 4 1, 3) := by decide +kernel
theorem dX8_findTurns_90 : decode cX8_findTurns 90 = .ok (.goto (-66), 3) := by decide +kernel
theorem dX8_findTurns_93 : decode cX8_findTurns 93 = .ok (.iinc 3 1, 3) := by decide +kernel
theorem dX8_findTurns_96 : decode cX8_findTurns 96 = .ok (.goto (-84), 3) := by decide +kernel
theorem dX8_findTurns_99 : decode cX8_findTurns 99 = .ok (.aload_n 0, 1) := by decide +kernel
theorem dX8_findTurns_100 : decode cX8_findTurns 100 = .ok (.getfield 16, 3) := by decide +kernel
theorem dX8_findTurns_103 : decode cX8_findTurns 103 = .ok (.aload_n 0, 1) := by decide +kernel
theorem dX8_findTurns_104 : decode cX8_findTurns 104 = .ok (.getfield 7, 3) := by decide +kernel
theorem dX8_findTurns_107 : decode cX8_findTurns 107 = .ok (.invokestatic 226, 3) := by decide +kernel
theorem dX8_findTurns_110 : decode cX8_findTurns 110 = .ok (.return_, 1) := by decide +kernel
theorem dX8_isTold_0 : decode cX8_isTold 0 = .ok (.iload_n 1, 1) := by decide +kernel
theorem dX8_isTold_1 : decode cX8_isTold 1 = .ok (.iconst 0, 1) := by decide +kernel
theorem dX8_isTold_2 : decode cX8_isTold 2 = .ok (.bipush 69, 2) := by decide +kernel
theorem dX8_isTold_4 : decode cX8_isTold 4 = .ok (.invokestatic 56, 3) := by decide +kernel
theorem dX8_isTold_7 : decode cX8_isTold 7 = .ok (.ifCond .eq 17, 3) := by decide +kernel
theorem dX8_isTold_10 : decode cX8_isTold 10 = .ok (.iload_n 2, 1) := by decide +kernel
theorem dX8_isTold_11 : decode cX8_isTold 11 = .ok (.iconst 1, 1) := by decide +kernel
theorem dX8_isTold_12 : decode cX8_isTold 12 = .ok (.bipush 48, 2) := by decide +kernel
theorem dX8_isTold_14 : decode cX8_isTold 14 = .ok (.invokestatic 56, 3) := by decide +kernel
theorem dX8_isTold_17 : decode cX8_isTold 17 = .ok (.ifCond .eq 7, 3) := by decide +kernel
theorem dX8_isTold_20 : decode cX8_isTold 20 = .ok (.iconst 1, 1) := by decide +kernel
theorem dX8_isTold_21 : decode cX8_isTold 21 = .ok (.goto 4, 3) := by decide +kernel
theorem dX8_isTold_24 : decode cX8_isTold 24 = .ok (.iconst 0, 1) := by decide +kernel
theorem dX8_isTold_25 : decode cX8_isTold 25 = .ok (.ireturn, 1) := by decide +kernel
theorem dX8_fewer_0 : decode cX8_fewer 0 = .ok (.aload_n 0, 1) := by decide +kernel
theorem dX8_fewer_1 : decode cX8_fewer 1 = .ok (.iload_n 1, 1) := by decide +kernel
theorem dX8_fewer_2 : decode cX8_fewer 2 = .ok (.iload_n 3, 1) := by decide +kernel
theorem dX8_fewer_3 : decode cX8_fewer 3 = .ok (.invokevirtual 241, 3) := by decide +kernel
theorem dX8_fewer_6 : decode cX8_fewer 6 = .ok (.ifCond .eq 10, 3) := by decide +kernel
theorem dX8_fewer_9 : decode cX8_fewer 9 = .ok (.iload_n 2, 1) := by decide +kernel
theorem dX8_fewer_10 : decode cX8_fewer 10 = .ok (.invokestatic 79, 3) := by decide +kernel
theorem dX8_fewer_13 : decode cX8_fewer 13 = .ok (.ifCond .ne 9, 3) := by decide +kernel
theorem dX8_fewer_16 : decode cX8_fewer 16 = .ok (.aload_n 0, 1) := by decide +kernel
theorem dX8_fewer_17 : decode cX8_fewer 17 = .ok (.iconst 1, 1) := by decide +kernel
theorem dX8_fewer_18 : decode cX8_fewer 18 = .ok (.invokevirtual 76, 3) := by decide +kernel
theorem dX8_fewer_21 : decode cX8_fewer 21 = .ok (.ireturn, 1) := by decide +kernel
theorem dX8_fewer_22 : decode cX8_fewer 22 = .ok (.aload_n 0, 1) := by decide +kernel
theorem dX8_fewer_23 : decode cX8_fewer 23 = .ok (.getfield 7, 3) := by decide +kernel
theorem dX8_fewer_26 : decode cX8_fewer 26 = .ok (.iconst 0, 1) := by decide +kernel
theorem dX8_fewer_27 : decode cX8_fewer 27 = .ok (.iaload, 1) := by decide +kernel
theorem dX8_fewer_28 : decode cX8_fewer 28 = .ok (.bipush 8, 2) := by decide +kernel
theorem dX8_fewer_30 : decode cX8_fewer 30 = .ok (.if_icmp .ne 9, 3) := by decide +kernel
theorem dX8_fewer_33 : decode cX8_fewer 33 = .ok (.aload_n 0, 1) := by decide +kernel
theorem dX8_fewer_34 : decode cX8_fewer 34 = .ok (.iconst 4, 1) := by decide +kernel
theorem dX8_fewer_35 : decode cX8_fewer 35 = .ok (.invokevirtual 76, 3) := by decide +kernel
theorem dX8_fewer_38 : decode cX8_fewer 38 = .ok (.ireturn, 1) := by decide +kernel
theorem dX8_fewer_39 : decode cX8_fewer 39 = .ok (.aload_n 0, 1) := by decide +kernel
theorem dX8_fewer_40 : decode cX8_fewer 40 = .ok (.getfield 7, 3) := by decide +kernel
theorem dX8_fewer_43 : decode cX8_fewer 43 = .ok (.iconst 0, 1) := by decide +kernel
theorem dX8_fewer_44 : decode cX8_fewer 44 = .ok (.iaload, 1) := by decide +kernel
theorem dX8_fewer_45 : decode cX8_fewer 45 = .ok (.istore 4, 2) := by decide +kernel
theorem dX8_fewer_47 : decode cX8_fewer 47 = .ok (.aload_n 0, 1) := by decide +kernel
theorem dX8_fewer_48 : decode cX8_fewer 48 = .ok (.getfield 7, 3) := by decide +kernel
theorem dX8_fewer_51 : decode cX8_fewer 51 = .ok (.aload_n 0, 1) := by decide +kernel
theorem dX8_fewer_52 : decode cX8_fewer 52 = .ok (.getfield 16, 3) := by decide +kernel
theorem dX8_fewer_55 : decode cX8_fewer 55 = .ok (.invokestatic 226, 3) := by decide +kernel
theorem dX8_fewer_58 : decode cX8_fewer 58 = .ok (.aload_n 0, 1) := by decide +kernel
theorem dX8_fewer_59 : decode cX8_fewer 59 = .ok (.iload 4, 2) := by decide +kernel
theorem dX8_fewer_61 : decode cX8_fewer 61 = .ok (.iload_n 3, 1) := by decide +kernel
theorem dX8_fewer_62 : decode cX8_fewer 62 = .ok (.invokevirtual 244, 3) := by decide +kernel
theorem dX8_fewer_65 : decode cX8_fewer 65 = .ok (.aload_n 0, 1) := by decide +kernel
theorem dX8_fewer_66 : decode cX8_fewer 66 = .ok (.getfield 235, 3) := by decide +kernel
theorem dX8_fewer_69 : decode cX8_fewer 69 = .ok (.istore 5, 2) := by decide +kernel
theorem dX8_fewer_71 : decode cX8_fewer 71 = .ok (.aload_n 0, 1) := by decide +kernel
theorem dX8_fewer_72 : decode cX8_fewer 72 = .ok (.iload_n 1, 1) := by decide +kernel
theorem dX8_fewer_73 : decode cX8_fewer 73 = .ok (.bipush 10, 2) := by decide +kernel
theorem dX8_fewer_75 : decode cX8_fewer 75 = .ok (.iload_n 2, 1) := by decide +kernel
theorem dX8_fewer_76 : decode cX8_fewer 76 = .ok (.imul, 1) := by decide +kernel
theorem dX8_fewer_77 : decode cX8_fewer 77 = .ok (.invokevirtual 100, 3) := by decide +kernel
theorem dX8_fewer_80 : decode cX8_fewer 80 = .ok (.istore 6, 2) := by decide +kernel
theorem dX8_fewer_82 : decode cX8_fewer 82 = .ok (.aload_n 0, 1) := by decide +kernel
theorem dX8_fewer_83 : decode cX8_fewer 83 = .ok (.iload 4, 2) := by decide +kernel
theorem dX8_fewer_85 : decode cX8_fewer 85 = .ok (.iload_n 3, 1) := by decide +kernel
theorem dX8_fewer_86 : decode cX8_fewer 86 = .ok (.invokevirtual 244, 3) := by decide +kernel
theorem dX8_fewer_89 : decode cX8_fewer 89 = .ok (.iload 5, 2) := by decide +kernel
theorem dX8_fewer_91 : decode cX8_fewer 91 = .ok (.aload_n 0, 1) := by decide +kernel
theorem dX8_fewer_92 : decode cX8_fewer 92 = .ok (.getfield 235, 3) := by decide +kernel
theorem dX8_fewer_95 : decode cX8_fewer 95 = .ok (.isub, 1) := by decide +kernel
theorem dX8_fewer_96 : decode cX8_fewer 96 = .ok (.ireturn, 1) := by decide +kernel
theorem dX8_bestPlace_0 : decode cX8_bestPlace 0 = .ok (.aload_n 0, 1) := by decide +kernel
theorem dX8_bestPlace_1 : decode cX8_bestPlace 1 = .ok (.iload_n 1, 1) := by decide +kernel
theorem dX8_bestPlace_2 : decode cX8_bestPlace 2 = .ok (.iload_n 2, 1) := by decide +kernel
theorem dX8_bestPlace_3 : decode cX8_bestPlace 3 = .ok (.invokevirtual 241, 3) := by decide +kernel
theorem dX8_bestPlace_6 : decode cX8_bestPlace 6 = .ok (.ifCond .ne 9, 3) := by decide +kernel
theorem dX8_bestPlace_9 : decode cX8_bestPlace 9 = .ok (.aload_n 0, 1) := by decide +kernel
theorem dX8_bestPlace_10 : decode cX8_bestPlace 10 = .ok (.iconst 1, 1) := by decide +kernel
theorem dX8_bestPlace_11 : decode cX8_bestPlace 11 = .ok (.invokevirtual 76, 3) := by decide +kernel
theorem dX8_bestPlace_14 : decode cX8_bestPlace 14 = .ok (.ireturn, 1) := by decide +kernel
theorem dX8_bestPlace_15 : decode cX8_bestPlace 15 = .ok (.aload_n 0, 1) := by decide +kernel
theorem dX8_bestPlace_16 : decode cX8_bestPlace 16 = .ok (.getfield 7, 3) := by decide +kernel
theorem dX8_bestPlace_19 : decode cX8_bestPlace 19 = .ok (.iconst 0, 1) := by decide +kernel
theorem dX8_bestPlace_20 : decode cX8_bestPlace 20 = .ok (.iaload, 1) := by decide +kernel
theorem dX8_bestPlace_21 : decode cX8_bestPlace 21 = .ok (.bipush 8, 2) := by decide +kernel
theorem dX8_bestPlace_23 : decode cX8_bestPlace 23 = .ok (.if_icmp .ne 9, 3) := by decide +kernel
theorem dX8_bestPlace_26 : decode cX8_bestPlace 26 = .ok (.aload_n 0, 1) := by decide +kernel
theorem dX8_bestPlace_27 : decode cX8_bestPlace 27 = .ok (.iconst 4, 1) := by decide +kernel
theorem dX8_bestPlace_28 : decode cX8_bestPlace 28 = .ok (.invokevirtual 76, 3) := by decide +kernel
theorem dX8_bestPlace_31 : decode cX8_bestPlace 31 = .ok (.ireturn, 1) := by decide +kernel
theorem dX8_bestPlace_32 : decode cX8_bestPlace 32 = .ok (.aload_n 0, 1) := by decide +kernel
theorem dX8_bestPlace_33 : decode cX8_bestPlace 33 = .ok (.getfield 7, 3) := by decide +kernel
theorem dX8_bestPlace_36 : decode cX8_bestPlace 36 = .ok (.iconst 0, 1) := by decide +kernel
theorem dX8_bestPlace_37 : decode cX8_bestPlace 37 = .ok (.iaload, 1) := by decide +kernel
theorem dX8_bestPlace_38 : decode cX8_bestPlace 38 = .ok (.istore_n 3, 1) := by decide +kernel
theorem dX8_bestPlace_39 : decode cX8_bestPlace 39 = .ok (.iconst 0, 1) := by decide +kernel
theorem dX8_bestPlace_40 : decode cX8_bestPlace 40 = .ok (.istore 4, 2) := by decide +kernel
theorem dX8_bestPlace_42 : decode cX8_bestPlace 42 = .ok (.iconst (-1), 1) := by decide +kernel
theorem dX8_bestPlace_43 : decode cX8_bestPlace 43 = .ok (.istore 5, 2) := by decide +kernel
theorem dX8_bestPlace_45 : decode cX8_bestPlace 45 = .ok (.aload_n 0, 1) := by decide +kernel
theorem dX8_bestPlace_46 : decode cX8_bestPlace 46 = .ok (.getfield 7, 3) := by decide +kernel
theorem dX8_bestPlace_49 : decode cX8_bestPlace 49 = .ok (.aload_n 0, 1) := by decide +kernel
theorem dX8_bestPlace_50 : decode cX8_bestPlace 50 = .ok (.getfield 16, 3) := by decide +kernel
theorem dX8_bestPlace_53 : decode cX8_bestPlace 53 = .ok (.invokestatic 226, 3) := by decide +kernel
theorem dX8_bestPlace_56 : decode cX8_bestPlace 56 = .ok (.iconst 0, 1) := by decide +kernel
theorem dX8_bestPlace_57 : decode cX8_bestPlace 57 = .ok (.istore 6, 2) := by decide +kernel
theorem dX8_bestPlace_59 : decode cX8_bestPlace 59 = .ok (.iload 6, 2) := by decide +kernel
theorem dX8_bestPlace_61 : decode cX8_bestPlace 61 = .ok (.bipush 12, 2) := by decide +kernel
theorem dX8_bestPlace_63 : decode cX8_bestPlace 63 = .ok (.if_icmp .ge 65, 3) := by decide +kernel
theorem dX8_bestPlace_66 : decode cX8_bestPlace 66 = .ok (.aload_n 0, 1) := by decide +kernel
theorem dX8_bestPlace_67 : decode cX8_bestPlace 67 = .ok (.iload_n 1, 1) := by decide +kernel
theorem dX8_bestPlace_68 : decode cX8_bestPlace 68 = .ok (.bipush 10, 2) := by decide +kernel
theorem dX8_bestPlace_70 : decode cX8_bestPlace 70 = .ok (.iload 6, 2) := by decide +kernel
theorem dX8_bestPlace_72 : decode cX8_bestPlace 72 = .ok (.imul, 1) := by decide +kernel
theorem dX8_bestPlace_73 : decode cX8_bestPlace 73 = .ok (.invokevirtual 100, 3) := by decide +kernel
theorem dX8_bestPlace_76 : decode cX8_bestPlace 76 = .ok (.istore 7, 2) := by decide +kernel
theorem dX8_bestPlace_78 : decode cX8_bestPlace 78 = .ok (.aload_n 0, 1) := by decide +kernel
theorem dX8_bestPlace_79 : decode cX8_bestPlace 79 = .ok (.iload_n 3, 1) := by decide +kernel
theorem dX8_bestPlace_80 : decode cX8_bestPlace 80 = .ok (.iload_n 2, 1) := by decide +kernel
theorem dX8_bestPlace_81 : decode cX8_bestPlace 81 = .ok (.invokevirtual 244, 3) := by decide +kernel
theorem dX8_bestPlace_84 : decode cX8_bestPlace 84 = .ok (.aload_n 0, 1) := by decide +kernel
theorem dX8_bestPlace_85 : decode cX8_bestPlace 85 = .ok (.getfield 238, 3) := by decide +kernel
theorem dX8_bestPlace_88 : decode cX8_bestPlace 88 = .ok (.iload 5, 2) := by decide +kernel
theorem dX8_bestPlace_90 : decode cX8_bestPlace 90 = .ok (.if_icmp .le 8, 3) := by decide +kernel
theorem dX8_bestPlace_93 : decode cX8_bestPlace 93 = .ok (.iload 6, 2) := by decide +kernel
theorem dX8_bestPlace_95 : decode cX8_bestPlace 95 = .ok (.goto 5, 3) := by decide +kernel
theorem dX8_bestPlace_98 : decode cX8_bestPlace 98 = .ok (.iload 4, 2) := by decide +kernel
theorem dX8_bestPlace_100 : decode cX8_bestPlace 100 = .ok (.istore 4, 2) := by decide +kernel
theorem dX8_bestPlace_102 : decode cX8_bestPlace 102 = .ok (.aload_n 0, 1) := by decide +kernel
theorem dX8_bestPlace_103 : decode cX8_bestPlace 103 = .ok (.getfield 238, 3) := by decide +kernel
theorem dX8_bestPlace_106 : decode cX8_bestPlace 106 = .ok (.iload 5, 2) := by decide +kernel
theorem dX8_bestPlace_108 : decode cX8_bestPlace 108 = .ok (.if_icmp .le 10, 3) := by decide +kernel
theorem dX8_bestPlace_111 : decode cX8_bestPlace 111 = .ok (.aload_n 0, 1) := by decide +kernel
theorem dX8_bestPlace_112 : decode cX8_bestPlace 112 = .ok (.getfield 238, 3) := by decide +kernel
theorem dX8_bestPlace_115 : decode cX8_bestPlace 115 = .ok (.goto 5, 3) := by decide +kernel
theorem dX8_bestPlace_118 : decode cX8_bestPlace 118 = .ok (.iload 5, 2) := by decide +kernel
theorem dX8_bestPlace_120 : decode cX8_bestPlace 120 = .ok (.istore 5, 2) := by decide +kernel
theorem dX8_bestPlace_122 : decode cX8_bestPlace 122 = .ok (.iinc 6 1, 3) := by decide +kernel
theorem dX8_bestPlace_125 : decode cX8_bestPlace 125 = .ok (.goto (-66), 3) := by decide +kernel
theorem dX8_bestPlace_128 : decode cX8_bestPlace 128 = .ok (.iload 4, 2) := by decide +kernel
theorem dX8_bestPlace_130 : decode cX8_bestPlace 130 = .ok (.ireturn, 1) := by decide +kernel
theorem dX8_who_0 : decode cX8_who 0 = .ok (.iload_n 1, 1) := by decide +kernel
theorem dX8_who_1 : decode cX8_who 1 = .ok (.iconst 0, 1) := by decide +kernel
theorem dX8_who_2 : decode cX8_who 2 = .ok (.bipush 99, 2) := by decide +kernel
theorem dX8_who_4 : decode cX8_who 4 = .ok (.invokestatic 56, 3) := by decide +kernel
theorem dX8_who_7 : decode cX8_who 7 = .ok (.ifCond .eq 12, 3) := by decide +kernel
theorem dX8_who_10 : decode cX8_who 10 = .ok (.iload_n 2, 1) := by decide +kernel
theorem dX8_who_11 : decode cX8_who 11 = .ok (.iconst 0, 1) := by decide +kernel
theorem dX8_who_12 : decode cX8_who 12 = .ok (.iconst 3, 1) := by decide +kernel
theorem dX8_who_13 : decode cX8_who 13 = .ok (.invokestatic 56, 3) := by decide +kernel
theorem dX8_who_16 : decode cX8_who 16 = .ok (.ifCond .ne 9, 3) := by decide +kernel
theorem dX8_who_19 : decode cX8_who 19 = .ok (.aload_n 0, 1) := by decide +kernel
theorem dX8_who_20 : decode cX8_who 20 = .ok (.iconst 1, 1) := by decide +kernel
theorem dX8_who_21 : decode cX8_who 21 = .ok (.invokevirtual 76, 3) := by decide +kernel
theorem dX8_who_24 : decode cX8_who 24 = .ok (.ireturn, 1) := by decide +kernel
theorem dX8_who_25 : decode cX8_who 25 = .ok (.iconst 1, 1) := by decide +kernel
theorem dX8_who_26 : decode cX8_who 26 = .ok (.aload_n 0, 1) := by decide +kernel
theorem dX8_who_27 : decode cX8_who 27 = .ok (.getfield 7, 3) := by decide +kernel
theorem dX8_who_30 : decode cX8_who 30 = .ok (.iconst 0, 1) := by decide +kernel
theorem dX8_who_31 : decode cX8_who 31 = .ok (.iaload, 1) := by decide +kernel
theorem dX8_who_32 : decode cX8_who 32 = .ok (.ishl, 1) := by decide +kernel
theorem dX8_who_33 : decode cX8_who 33 = .ok (.iconst 1, 1) := by decide +kernel
theorem dX8_who_34 : decode cX8_who 34 = .ok (.isub, 1) := by decide +kernel
theorem dX8_who_35 : decode cX8_who 35 = .ok (.istore_n 3, 1) := by decide +kernel
theorem dX8_who_36 : decode cX8_who 36 = .ok (.iconst 0, 1) := by decide +kernel
theorem dX8_who_37 : decode cX8_who 37 = .ok (.istore 4, 2) := by decide +kernel
theorem dX8_who_39 : decode cX8_who 39 = .ok (.iconst (-1), 1) := by decide +kernel
theorem dX8_who_40 : decode cX8_who 40 = .ok (.istore 5, 2) := by decide +kernel
theorem dX8_who_42 : decode cX8_who 42 = .ok (.iload_n 3, 1) := by decide +kernel
theorem dX8_who_43 : decode cX8_who 43 = .ok (.istore 6, 2) := by decide +kernel
theorem dX8_who_45 : decode cX8_who 45 = .ok (.iconst 0, 1) := by decide +kernel
theorem dX8_who_46 : decode cX8_who 46 = .ok (.istore 7, 2) := by decide +kernel
theorem dX8_who_48 : decode cX8_who 48 = .ok (.aload_n 0, 1) := by decide +kernel
theorem dX8_who_49 : decode cX8_who 49 = .ok (.getfield 7, 3) := by decide +kernel
theorem dX8_who_52 : decode cX8_who 52 = .ok (.aload_n 0, 1) := by decide +kernel
theorem dX8_who_53 : decode cX8_who 53 = .ok (.getfield 16, 3) := by decide +kernel
theorem dX8_who_56 : decode cX8_who 56 = .ok (.invokestatic 226, 3) := by decide +kernel
theorem dX8_who_59 : decode cX8_who 59 = .ok (.iconst 0, 1) := by decide +kernel
theorem dX8_who_60 : decode cX8_who 60 = .ok (.istore 8, 2) := by decide +kernel
theorem dX8_who_62 : decode cX8_who 62 = .ok (.iload 8, 2) := by decide +kernel
theorem dX8_who_64 : decode cX8_who 64 = .ok (.iload_n 3, 1) := by decide +kernel
theorem dX8_who_65 : decode cX8_who 65 = .ok (.if_icmp .gt 62, 3) := by decide +kernel
theorem dX8_who_68 : decode cX8_who 68 = .ok (.aload_n 0, 1) := by decide +kernel
theorem dX8_who_69 : decode cX8_who 69 = .ok (.iload 8, 2) := by decide +kernel
theorem dX8_who_71 : decode cX8_who 71 = .ok (.invokevirtual 230, 3) := by decide +kernel
theorem dX8_who_74 : decode cX8_who 74 = .ok (.aload_n 0, 1) := by decide +kernel
theorem dX8_who_75 : decode cX8_who 75 = .ok (.invokevirtual 103, 3) := by decide +kernel
theorem dX8_who_78 : decode cX8_who 78 = .ok (.aload_n 0, 1) := by decide +kernel
theorem dX8_who_79 : decode cX8_who 79 = .ok (.getfield 31, 3) := by decide +kernel
theorem dX8_who_82 : decode cX8_who 82 = .ok (.bipush 12, 2) := by decide +kernel
theorem dX8_who_84 : decode cX8_who 84 = .ok (.iaload, 1) := by decide +kernel
theorem dX8_who_85 : decode cX8_who 85 = .ok (.iload_n 1, 1) := by decide +kernel
theorem dX8_who_86 : decode cX8_who 86 = .ok (.if_icmp .ne 35, 3) := by decide +kernel
theorem dX8_who_89 : decode cX8_who 89 = .ok (.iinc 4 1, 3) := by decide +kernel
theorem dX8_who_92 : decode cX8_who 92 = .ok (.iload 5, 2) := by decide +kernel
theorem dX8_who_94 : decode cX8_who 94 = .ok (.iconst (-1), 1) := by decide +kernel
theorem dX8_who_95 : decode cX8_who 95 = .ok (.if_icmp .ne 8, 3) := by decide +kernel
theorem dX8_who_98 : decode cX8_who 98 = .ok (.iload 8, 2) := by decide +kernel
theorem dX8_who_100 : decode cX8_who 100 = .ok (.goto 5, 3) := by decide +kernel
theorem dX8_who_103 : decode cX8_who 103 = .ok (.iload 5, 2) := by decide +kernel
theorem dX8_who_105 : decode cX8_who 105 = .ok (.istore 5, 2) := by decide +kernel
theorem dX8_who_107 : decode cX8_who 107 = .ok (.iload 6, 2) := by decide +kernel
theorem dX8_who_109 : decode cX8_who 109 = .ok (.iload 8, 2) := by decide +kernel
theorem dX8_who_111 : decode cX8_who 111 = .ok (.iand, 1) := by decide +kernel
theorem dX8_who_112 : decode cX8_who 112 = .ok (.istore 6, 2) := by decide +kernel
theorem dX8_who_114 : decode cX8_who 114 = .ok (.iload 7, 2) := by decide +kernel
theorem dX8_who_116 : decode cX8_who 116 = .ok (.iload 8, 2) := by decide +kernel
theorem dX8_who_118 : decode cX8_who 118 = .ok (.ior, 1) := by decide +kernel
theorem dX8_who_119 : decode cX8_who 119 = .ok (.istore 7, 2) := by decide +kernel
theorem dX8_who_121 : decode cX8_who 121 = .ok (.iinc 8 1, 3) := by decide +kernel
theorem dX8_who_124 : decode cX8_who 124 = .ok (.goto (-62), 3) := by decide +kernel
theorem dX8_who_127 : decode cX8_who 127 = .ok (.aload_n 0, 1) := by decide +kernel
theorem dX8_who_128 : decode cX8_who 128 = .ok (.getfield 16, 3) := by decide +kernel
theorem dX8_who_131 : decode cX8_who 131 = .ok (.aload_n 0, 1) := by decide +kernel
theorem dX8_who_132 : decode cX8_who 132 = .ok (.getfield 7, 3) := by decide +kernel
theorem dX8_who_135 : decode cX8_who 135 = .ok (.invokestatic 226, 3) := by decide +kernel
theorem dX8_who_138 : decode cX8_who 138 = .ok (.iload 4, 2) := by decide +kernel
theorem dX8_who_140 : decode cX8_who 140 = .ok (.ifCond .ne 19, 3) := by decide +kernel
theorem dX8_who_143 : decode cX8_who 143 = .ok (.iload_n 2, 1) := by decide +kernel
theorem dX8_who_144 : decode cX8_who 144 = .ok (.iconst 1, 1) := by decide +kernel
theorem dX8_who_145 : decode cX8_who 145 = .ok (.if_icmp .eq 8, 3) := by decide +kernel
theorem dX8_who_148 : decode cX8_who 148 = .ok (.iload_n 2, 1) := by decide +kernel
theorem dX8_who_149 : decode cX8_who 149 = .ok (.iconst 2, 1) := by decide +kernel
theorem dX8_who_150 : decode cX8_who 150 = .ok (.if_icmp .ne 9, 3) := by decide +kernel
theorem dX8_who_153 : decode cX8_who 153 = .ok (.aload_n 0, 1) := by decide +kernel
theorem dX8_who_154 : decode cX8_who 154 = .ok (.iconst 2, 1) := by decide +kernel
theorem dX8_who_155 : decode cX8_who 155 = .ok (.invokevirtual 76, 3) := by decide +kernel
theorem dX8_who_158 : decode cX8_who 158 = .ok (.ireturn, 1) := by decide +kernel
theorem dX8_who_159 : decode cX8_who 159 = .ok (.iload_n 2, 1) := by decide +kernel
theorem dX8_who_160 : decode cX8_who 160 = .ok (.ifCond .ne 8, 3) := by decide +kernel
theorem dX8_who_163 : decode cX8_who 163 = .ok (.iload 4, 2) := by decide +kernel
theorem dX8_who_165 : decode cX8_who 165 = .ok (.goto 25, 3) := by decide +kernel
theorem dX8_who_168 : decode cX8_who 168 = .ok (.iload_n 2, 1) := by decide +kernel
theorem dX8_who_169 : decode cX8_who 169 = .ok (.iconst 1, 1) := by decide +kernel
theorem dX8_who_170 : decode cX8_who 170 = .ok (.if_icmp .ne 8, 3) := by decide +kernel
theorem dX8_who_173 : decode cX8_who 173 = .ok (.iload 5, 2) := by decide +kernel
theorem dX8_who_175 : decode cX8_who 175 = .ok (.goto 15, 3) := by decide +kernel
theorem dX8_who_178 : decode cX8_who 178 = .ok (.iload_n 2, 1) := by decide +kernel
theorem dX8_who_179 : decode cX8_who 179 = .ok (.iconst 2, 1) := by decide +kernel
theorem dX8_who_180 : decode cX8_who 180 = .ok (.if_icmp .ne 8, 3) := by decide +kernel
theorem dX8_who_183 : decode cX8_who 183 = .ok (.iload 6, 2) := by decide +kernel
theorem dX8_who_185 : decode cX8_who 185 = .ok (.goto 5, 3) := by decide +kernel
theorem dX8_who_188 : decode cX8_who 188 = .ok (.iload 7, 2) := by decide +kernel
theorem dX8_who_190 : decode cX8_who 190 = .ok (.ireturn, 1) := by decide +kernel
theorem dX8_slipped_0 : decode cX8_slipped 0 = .ok (.iconst 0, 1) := by decide +kernel
theorem dX8_slipped_1 : decode cX8_slipped 1 = .ok (.istore_n 1, 1) := by decide +kernel
theorem dX8_slipped_2 : decode cX8_slipped 2 = .ok (.iconst 0, 1) := by decide +kernel
theorem dX8_slipped_3 : decode cX8_slipped 3 = .ok (.istore_n 2, 1) := by decide +kernel
theorem dX8_slipped_4 : decode cX8_slipped 4 = .ok (.iload_n 2, 1) := by decide +kernel
theorem dX8_slipped_5 : decode cX8_slipped 5 = .ok (.aload_n 0, 1) := by decide +kernel
theorem dX8_slipped_6 : decode cX8_slipped 6 = .ok (.getfield 7, 3) := by decide +kernel
theorem dX8_slipped_9 : decode cX8_slipped 9 = .ok (.iconst 0, 1) := by decide +kernel
theorem dX8_slipped_10 : decode cX8_slipped 10 = .ok (.iaload, 1) := by decide +kernel
theorem dX8_slipped_11 : decode cX8_slipped 11 = .ok (.if_icmp .ge 35, 3) := by decide +kernel
theorem dX8_slipped_14 : decode cX8_slipped 14 = .ok (.iload_n 1, 1) := by decide +kernel
theorem dX8_slipped_15 : decode cX8_slipped 15 = .ok (.aload_n 0, 1) := by decide +kernel
theorem dX8_slipped_16 : decode cX8_slipped 16 = .ok (.iload_n 2, 1) := by decide +kernel
theorem dX8_slipped_17 : decode cX8_slipped 17 = .ok (.iconst 5, 1) := by decide +kernel
theorem dX8_slipped_18 : decode cX8_slipped 18 = .ok (.invokevirtual 90, 3) := by decide +kernel
theorem dX8_slipped_21 : decode cX8_slipped 21 = .ok (.aload_n 0, 1) := by decide +kernel
theorem dX8_slipped_22 : decode cX8_slipped 22 = .ok (.iload_n 2, 1) := by decide +kernel
theorem dX8_slipped_23 : decode cX8_slipped 23 = .ok (.bipush 6, 2) := by decide +kernel
theorem dX8_slipped_25 : decode cX8_slipped 25 = .ok (.invokevirtual 90, 3) := by decide +kernel
theorem dX8_slipped_28 : decode cX8_slipped 28 = .ok (.if_icmp .eq 9, 3) := by decide +kernel
theorem dX8_slipped_31 : decode cX8_slipped 31 = .ok (.iconst 1, 1) := by decide +kernel
theorem dX8_slipped_32 : decode cX8_slipped 32 = .ok (.iload_n 2, 1) := by decide +kernel
theorem dX8_slipped_33 : decode cX8_slipped 33 = .ok (.ishl, 1) := by decide +kernel
theorem dX8_slipped_34 : decode cX8_slipped 34 = .ok (.goto 4, 3) := by decide +kernel
theorem dX8_slipped_37 : decode cX8_slipped 37 = .ok (.iconst 0, 1) := by decide +kernel
theorem dX8_slipped_38 : decode cX8_slipped 38 = .ok (.ior, 1) := by decide +kernel
theorem dX8_slipped_39 : decode cX8_slipped 39 = .ok (.istore_n 1, 1) := by decide +kernel
theorem dX8_slipped_40 : decode cX8_slipped 40 = .ok (.iinc 2 1, 3) := by decide +kernel
theorem dX8_slipped_43 : decode cX8_slipped 43 = .ok (.goto (-39), 3) := by decide +kernel
theorem dX8_slipped_46 : decode cX8_slipped 46 = .ok (.iload_n 1, 1) := by decide +kernel
theorem dX8_slipped_47 : decode cX8_slipped 47 = .ok (.ireturn, 1) := by decide +kernel
theorem dX8_begins_0 : decode cX8_begins 0 = .ok (.aload_n 0, 1) := by decide +kernel
theorem dX8_begins_1 : decode cX8_begins 1 = .ok (.getfield 247, 3) := by decide +kernel
theorem dX8_begins_4 : decode cX8_begins 4 = .ok (.bipush 30, 2) := by decide +kernel
theorem dX8_begins_6 : decode cX8_begins 6 = .ok (.if_icmp .ge 23, 3) := by decide +kernel
theorem dX8_begins_9 : decode cX8_begins 9 = .ok (.aload_n 0, 1) := by decide +kernel
theorem dX8_begins_10 : decode cX8_begins 10 = .ok (.getfield 40, 3) := by decide +kernel
theorem dX8_begins_13 : decode cX8_begins 13 = .ok (.aload_n 0, 1) := by decide +kernel
theorem dX8_begins_14 : decode cX8_begins 14 = .ok (.getfield 247, 3) := by decide +kernel
theorem dX8_begins_17 : decode cX8_begins 17 = .ok (.iload_n 1, 1) := by decide +kernel
theorem dX8_begins_18 : decode cX8_begins 18 = .ok (.iastore, 1) := by decide +kernel
theorem dX8_begins_19 : decode cX8_begins 19 = .ok (.aload_n 0, 1) := by decide +kernel
theorem dX8_begins_20 : decode cX8_begins 20 = .ok (.dup, 1) := by decide +kernel
theorem dX8_begins_21 : decode cX8_begins 21 = .ok (.getfield 247, 3) := by decide +kernel
theorem dX8_begins_24 : decode cX8_begins 24 = .ok (.iconst 1, 1) := by decide +kernel
theorem dX8_begins_25 : decode cX8_begins 25 = .ok (.iadd, 1) := by decide +kernel
theorem dX8_begins_26 : decode cX8_begins 26 = .ok (.putfield 247, 3) := by decide +kernel
theorem dX8_begins_29 : decode cX8_begins 29 = .ok (.return_, 1) := by decide +kernel
theorem dX8_above_0 : decode cX8_above 0 = .ok (.iload_n 0, 1) := by decide +kernel
theorem dX8_above_1 : decode cX8_above 1 = .ok (.iconst 4, 1) := by decide +kernel
theorem dX8_above_2 : decode cX8_above 2 = .ok (.if_icmp .ne 7, 3) := by decide +kernel
theorem dX8_above_5 : decode cX8_above 5 = .ok (.iconst 1, 1) := by decide +kernel
theorem dX8_above_6 : decode cX8_above 6 = .ok (.goto 13, 3) := by decide +kernel
theorem dX8_above_9 : decode cX8_above 9 = .ok (.iload_n 0, 1) := by decide +kernel
theorem dX8_above_10 : decode cX8_above 10 = .ok (.iconst 5, 1) := by decide +kernel
theorem dX8_above_11 : decode cX8_above 11 = .ok (.if_icmp .ne 7, 3) := by decide +kernel
theorem dX8_above_14 : decode cX8_above 14 = .ok (.iconst 3, 1) := by decide +kernel
theorem dX8_above_15 : decode cX8_above 15 = .ok (.goto 4, 3) := by decide +kernel
theorem dX8_above_18 : decode cX8_above 18 = .ok (.iconst 0, 1) := by decide +kernel
theorem dX8_above_19 : decode cX8_above 19 = .ok (.ireturn, 1) := by decide +kernel
theorem dX8_kindNow_0 : decode cX8_kindNow 0 = .ok (.aload_n 0, 1) := by decide +kernel
theorem dX8_kindNow_1 : decode cX8_kindNow 1 = .ok (.aload_n 0, 1) := by decide +kernel
theorem dX8_kindNow_2 : decode cX8_kindNow 2 = .ok (.getfield 250, 3) := by decide +kernel
theorem dX8_kindNow_5 : decode cX8_kindNow 5 = .ok (.iconst 0, 1) := by decide +kernel
theorem dX8_kindNow_6 : decode cX8_kindNow 6 = .ok (.invokevirtual 90, 3) := by decide +kernel
theorem dX8_kindNow_9 : decode cX8_kindNow 9 = .ok (.ireturn, 1) := by decide +kernel
theorem dX8_mNow_0 : decode cX8_mNow 0 = .ok (.aload_n 0, 1) := by decide +kernel
theorem dX8_mNow_1 : decode cX8_mNow 1 = .ok (.aload_n 0, 1) := by decide +kernel
theorem dX8_mNow_2 : decode cX8_mNow 2 = .ok (.getfield 250, 3) := by decide +kernel
theorem dX8_mNow_5 : decode cX8_mNow 5 = .ok (.iconst 1, 1) := by decide +kernel
theorem dX8_mNow_6 : decode cX8_mNow 6 = .ok (.invokevirtual 90, 3) := by decide +kernel
theorem dX8_mNow_9 : decode cX8_mNow 9 = .ok (.ireturn, 1) := by decide +kernel
theorem dX8_flowsAs_0 : decode cX8_flowsAs 0 = .ok (.iload_n 1, 1) := by decide +kernel
theorem dX8_flowsAs_1 : decode cX8_flowsAs 1 = .ok (.tableswitch 100 0 6 #[43, 56, 100, 100, 74, 100, 92], 43) := by decide +kernel
theorem dX8_flowsAs_44 : decode cX8_flowsAs 44 = .ok (.aload_n 0, 1) := by decide +kernel
theorem dX8_flowsAs_45 : decode cX8_flowsAs 45 = .ok (.bipush 10, 2) := by decide +kernel
theorem dX8_flowsAs_47 : decode cX8_flowsAs 47 = .ok (.invokevirtual 253, 3) := by decide +kernel
theorem dX8_flowsAs_50 : decode cX8_flowsAs 50 = .ok (.iload_n 2, 1) := by decide +kernel
theorem dX8_flowsAs_51 : decode cX8_flowsAs 51 = .ok (.aload_n 0, 1) := by decide +kernel
theorem dX8_flowsAs_52 : decode cX8_flowsAs 52 = .ok (.getfield 250, 3) := by decide +kernel
theorem dX8_flowsAs_55 : decode cX8_flowsAs 55 = .ok (.iadd, 1) := by decide +kernel
theorem dX8_flowsAs_56 : decode cX8_flowsAs 56 = .ok (.ireturn, 1) := by decide +kernel
theorem dX8_flowsAs_57 : decode cX8_flowsAs 57 = .ok (.aload_n 0, 1) := by decide +kernel
theorem dX8_flowsAs_58 : decode cX8_flowsAs 58 = .ok (.bipush 20, 2) := by decide +kernel
theorem dX8_flowsAs_60 : decode cX8_flowsAs 60 = .ok (.invokevirtual 253, 3) := by decide +kernel
theorem dX8_flowsAs_63 : decode cX8_flowsAs 63 = .ok (.aload_n 0, 1) := by decide +kernel
theorem dX8_flowsAs_64 : decode cX8_flowsAs 64 = .ok (.iconst 1, 1) := by decide +kernel
theorem dX8_flowsAs_65 : decode cX8_flowsAs 65 = .ok (.invokestatic 256, 3) := by decide +kernel
theorem dX8_flowsAs_68 : decode cX8_flowsAs 68 = .ok (.iload_n 2, 1) := by decide +kernel
theorem dX8_flowsAs_69 : decode cX8_flowsAs 69 = .ok (.invokevirtual 259, 3) := by decide +kernel
theorem dX8_flowsAs_72 : decode cX8_flowsAs 72 = .ok (.iconst 4, 1) := by decide +kernel
theorem dX8_flowsAs_73 : decode cX8_flowsAs 73 = .ok (.isub, 1) := by decide +kernel
theorem dX8_flowsAs_74 : decode cX8_flowsAs 74 = .ok (.ireturn, 1) := by decide +kernel
theorem dX8_flowsAs_75 : decode cX8_flowsAs 75 = .ok (.aload_n 0, 1) := by decide +kernel
theorem dX8_flowsAs_76 : decode cX8_flowsAs 76 = .ok (.bipush 50, 2) := by decide +kernel
theorem dX8_flowsAs_78 : decode cX8_flowsAs 78 = .ok (.invokevirtual 253, 3) := by decide +kernel
theorem dX8_flowsAs_81 : decode cX8_flowsAs 81 = .ok (.aload_n 0, 1) := by decide +kernel
theorem dX8_flowsAs_82 : decode cX8_flowsAs 82 = .ok (.iconst 4, 1) := by decide +kernel
theorem dX8_flowsAs_83 : decode cX8_flowsAs 83 = .ok (.invokestatic 256, 3) := by decide +kernel
theorem dX8_flowsAs_86 : decode cX8_flowsAs 86 = .ok (.iload_n 2, 1) := by decide +kernel
theorem dX8_flowsAs_87 : decode cX8_flowsAs 87 = .ok (.invokevirtual 259, 3) := by decide +kernel
theorem dX8_flowsAs_90 : decode cX8_flowsAs 90 = .ok (.iconst 3, 1) := by decide +kernel
theorem dX8_flowsAs_91 : decode cX8_flowsAs 91 = .ok (.imul, 1) := by decide +kernel
theorem dX8_flowsAs_92 : decode cX8_flowsAs 92 = .ok (.ireturn, 1) := by decide +kernel
theorem dX8_flowsAs_93 : decode cX8_flowsAs 93 = .ok (.aload_n 0, 1) := by decide +kernel
theorem dX8_flowsAs_94 : decode cX8_flowsAs 94 = .ok (.bipush 70, 2) := by decide +kernel
theorem dX8_flowsAs_96 : decode cX8_flowsAs 96 = .ok (.invokevirtual 253, 3) := by decide +kernel
theorem dX8_flowsAs_99 : decode cX8_flowsAs 99 = .ok (.iconst 2, 1) := by decide +kernel
theorem dX8_flowsAs_100 : decode cX8_flowsAs 100 = .ok (.ireturn, 1) := by decide +kernel
theorem dX8_flowsAs_101 : decode cX8_flowsAs 101 = .ok (.aload_n 0, 1) := by decide +kernel
theorem dX8_flowsAs_102 : decode cX8_flowsAs 102 = .ok (.iload_n 1, 1) := by decide +kernel
theorem dX8_flowsAs_103 : decode cX8_flowsAs 103 = .ok (.invokestatic 256, 3) := by decide +kernel
theorem dX8_flowsAs_106 : decode cX8_flowsAs 106 = .ok (.iload_n 2, 1) := by decide +kernel
theorem dX8_flowsAs_107 : decode cX8_flowsAs 107 = .ok (.invokevirtual 259, 3) := by decide +kernel
theorem dX8_flowsAs_110 : decode cX8_flowsAs 110 = .ok (.ireturn, 1) := by decide +kernel
theorem dX8_turnsAs_0 : decode cX8_turnsAs 0 = .ok (.iload_n 1, 1) := by decide +kernel
theorem dX8_turnsAs_1 : decode cX8_turnsAs 1 = .ok (.tableswitch 119 0 6 #[43, 119, 61, 119, 119, 79, 97], 43) := by decide +kernel
theorem dX8_turnsAs_44 : decode cX8_turnsAs 44 = .ok (.aload_n 0, 1) := by decide +kernel
theorem dX8_turnsAs_45 : decode cX8_turnsAs 45 = .ok (.bipush 11, 2) := by decide +kernel
theorem dX8_turnsAs_47 : decode cX8_turnsAs 47 = .ok (.invokevirtual 253, 3) := by decide +kernel
theorem dX8_turnsAs_50 : decode cX8_turnsAs 50 = .ok (.aload_n 0, 1) := by decide +kernel
theorem dX8_turnsAs_51 : decode cX8_turnsAs 51 = .ok (.aload_n 0, 1) := by decide +kernel
theorem dX8_turnsAs_52 : decode cX8_turnsAs 52 = .ok (.invokevirtual 262, 3) := by decide +kernel
theorem dX8_turnsAs_55 : decode cX8_turnsAs 55 = .ok (.iload_n 2, 1) := by decide +kernel
theorem dX8_turnsAs_56 : decode cX8_turnsAs 56 = .ok (.invokevirtual 259, 3) := by decide +kernel
theorem dX8_turnsAs_59 : decode cX8_turnsAs 59 = .ok (.iconst 2, 1) := by decide +kernel
theorem dX8_turnsAs_60 : decode cX8_turnsAs 60 = .ok (.imul, 1) := by decide +kernel
theorem dX8_turnsAs_61 : decode cX8_turnsAs 61 = .ok (.ireturn, 1) := by decide +kernel
theorem dX8_turnsAs_62 : decode cX8_turnsAs 62 = .ok (.aload_n 0, 1) := by decide +kernel
theorem dX8_turnsAs_63 : decode cX8_turnsAs 63 = .ok (.bipush 30, 2) := by decide +kernel
theorem dX8_turnsAs_65 : decode cX8_turnsAs 65 = .ok (.invokevirtual 253, 3) := by decide +kernel
theorem dX8_turnsAs_68 : decode cX8_turnsAs 68 = .ok (.iconst 0, 1) := by decide +kernel
theorem dX8_turnsAs_69 : decode cX8_turnsAs 69 = .ok (.aload_n 0, 1) := by decide +kernel
theorem dX8_turnsAs_70 : decode cX8_turnsAs 70 = .ok (.iconst 2, 1) := by decide +kernel
theorem dX8_turnsAs_71 : decode cX8_turnsAs 71 = .ok (.invokestatic 256, 3) := by decide +kernel
theorem dX8_turnsAs_74 : decode cX8_turnsAs 74 = .ok (.iload_n 2, 1) := by decide +kernel
theorem dX8_turnsAs_75 : decode cX8_turnsAs 75 = .ok (.invokevirtual 265, 3) := by decide +kernel
theorem dX8_turnsAs_78 : decode cX8_turnsAs 78 = .ok (.isub, 1) := by decide +kernel
theorem dX8_turnsAs_79 : decode cX8_turnsAs 79 = .ok (.ireturn, 1) := by decide +kernel
theorem dX8_turnsAs_80 : decode cX8_turnsAs 80 = .ok (.aload_n 0, 1) := by decide +kernel
theorem dX8_turnsAs_81 : decode cX8_turnsAs 81 = .ok (.bipush 60, 2) := by decide +kernel
theorem dX8_turnsAs_83 : decode cX8_turnsAs 83 = .ok (.invokevirtual 253, 3) := by decide +kernel
theorem dX8_turnsAs_86 : decode cX8_turnsAs 86 = .ok (.aload_n 0, 1) := by decide +kernel
theorem dX8_turnsAs_87 : decode cX8_turnsAs 87 = .ok (.iconst 5, 1) := by decide +kernel
theorem dX8_turnsAs_88 : decode cX8_turnsAs 88 = .ok (.invokestatic 256, 3) := by decide +kernel
theorem dX8_turnsAs_91 : decode cX8_turnsAs 91 = .ok (.iload_n 2, 1) := by decide +kernel
theorem dX8_turnsAs_92 : decode cX8_turnsAs 92 = .ok (.iconst 1, 1) := by decide +kernel
theorem dX8_turnsAs_93 : decode cX8_turnsAs 93 = .ok (.iadd, 1) := by decide +kernel
theorem dX8_turnsAs_94 : decode cX8_turnsAs 94 = .ok (.invokevirtual 265, 3) := by decide +kernel
theorem dX8_turnsAs_97 : decode cX8_turnsAs 97 = .ok (.ireturn, 1) := by decide +kernel
theorem dX8_turnsAs_98 : decode cX8_turnsAs 98 = .ok (.aload_n 0, 1) := by decide +kernel
theorem dX8_turnsAs_99 : decode cX8_turnsAs 99 = .ok (.bipush 71, 2) := by decide +kernel
theorem dX8_turnsAs_101 : decode cX8_turnsAs 101 = .ok (.invokevirtual 253, 3) := by decide +kernel
theorem dX8_turnsAs_104 : decode cX8_turnsAs 104 = .ok (.aload_n 0, 1) := by decide +kernel
theorem dX8_turnsAs_105 : decode cX8_turnsAs 105 = .ok (.bipush 6, 2) := by decide +kernel
theorem dX8_turnsAs_107 : decode cX8_turnsAs 107 = .ok (.invokestatic 256, 3) := by decide +kernel
theorem dX8_turnsAs_110 : decode cX8_turnsAs 110 = .ok (.iload_n 2, 1) := by decide +kernel
theorem dX8_turnsAs_111 : decode cX8_turnsAs 111 = .ok (.invokevirtual 265, 3) := by decide +kernel
theorem dX8_turnsAs_114 : decode cX8_turnsAs 114 = .ok (.aload_n 0, 1) := by decide +kernel
theorem dX8_turnsAs_115 : decode cX8_turnsAs 115 = .ok (.invokevirtual 268, 3) := by decide +kernel
theorem dX8_turnsAs_118 : decode cX8_turnsAs 118 = .ok (.iadd, 1) := by decide +kernel
theorem dX8_turnsAs_119 : decode cX8_turnsAs 119 = .ok (.ireturn, 1) := by decide +kernel
theorem dX8_turnsAs_120 : decode cX8_turnsAs 120 = .ok (.aload_n 0, 1) := by decide +kernel
theorem dX8_turnsAs_121 : decode cX8_turnsAs 121 = .ok (.iload_n 1, 1) := by decide +kernel
theorem dX8_turnsAs_122 : decode cX8_turnsAs 122 = .ok (.invokestatic 256, 3) := by decide +kernel
theorem dX8_turnsAs_125 : decode cX8_turnsAs 125 = .ok (.iload_n 2, 1) := by decide +kernel
theorem dX8_turnsAs_126 : decode cX8_turnsAs 126 = .ok (.invokevirtual 265, 3) := by decide +kernel
theorem dX8_turnsAs_129 : decode cX8_turnsAs 129 = .ok (.ireturn, 1) := by decide +kernel
theorem dX8_praysAs_0 : decode cX8_praysAs 0 = .ok (.iload_n 1, 1) := by decide +kernel
theorem dX8_praysAs_1 : decode cX8_praysAs 1 = .ok (.tableswitch 95 0 4 #[35, 95, 95, 56, 74], 35) := by decide +kernel
theorem dX8_praysAs_36 : decode cX8_praysAs 36 = .ok (.aload_n 0, 1) := by decide +kernel
theorem dX8_praysAs_37 : decode cX8_praysAs 37 = .ok (.bipush 12, 2) := by decide +kernel
theorem dX8_praysAs_39 : decode cX8_praysAs 39 = .ok (.invokevirtual 253, 3) := by decide +kernel
theorem dX8_praysAs_42 : decode cX8_praysAs 42 = .ok (.aload_n 0, 1) := by decide +kernel
theorem dX8_praysAs_43 : decode cX8_praysAs 43 = .ok (.aload_n 0, 1) := by decide +kernel
theorem dX8_praysAs_44 : decode cX8_praysAs 44 = .ok (.invokevirtual 262, 3) := by decide +kernel
theorem dX8_praysAs_47 : decode cX8_praysAs 47 = .ok (.iload_n 2, 1) := by decide +kernel
theorem dX8_praysAs_48 : decode cX8_praysAs 48 = .ok (.invokevirtual 265, 3) := by decide +kernel
theorem dX8_praysAs_51 : decode cX8_praysAs 51 = .ok (.aload_n 0, 1) := by decide +kernel
theorem dX8_praysAs_52 : decode cX8_praysAs 52 = .ok (.invokevirtual 268, 3) := by decide +kernel
theorem dX8_praysAs_55 : decode cX8_praysAs 55 = .ok (.isub, 1) := by decide +kernel
theorem dX8_praysAs_56 : decode cX8_praysAs 56 = .ok (.ireturn, 1) := by decide +kernel
theorem dX8_praysAs_57 : decode cX8_praysAs 57 = .ok (.aload_n 0, 1) := by decide +kernel
theorem dX8_praysAs_58 : decode cX8_praysAs 58 = .ok (.bipush 40, 2) := by decide +kernel
theorem dX8_praysAs_60 : decode cX8_praysAs 60 = .ok (.invokevirtual 253, 3) := by decide +kernel
theorem dX8_praysAs_63 : decode cX8_praysAs 63 = .ok (.aload_n 0, 1) := by decide +kernel
theorem dX8_praysAs_64 : decode cX8_praysAs 64 = .ok (.iconst 3, 1) := by decide +kernel
theorem dX8_praysAs_65 : decode cX8_praysAs 65 = .ok (.invokestatic 256, 3) := by decide +kernel
theorem dX8_praysAs_68 : decode cX8_praysAs 68 = .ok (.iload_n 2, 1) := by decide +kernel
theorem dX8_praysAs_69 : decode cX8_praysAs 69 = .ok (.iconst 2, 1) := by decide +kernel
theorem dX8_praysAs_70 : decode cX8_praysAs 70 = .ok (.idiv, 1) := by decide +kernel
theorem dX8_praysAs_71 : decode cX8_praysAs 71 = .ok (.invokevirtual 271, 3) := by decide +kernel
theorem dX8_praysAs_74 : decode cX8_praysAs 74 = .ok (.ireturn, 1) := by decide +kernel
theorem dX8_praysAs_75 : decode cX8_praysAs 75 = .ok (.aload_n 0, 1) := by decide +kernel
theorem dX8_praysAs_76 : decode cX8_praysAs 76 = .ok (.bipush 51, 2) := by decide +kernel
theorem dX8_praysAs_78 : decode cX8_praysAs 78 = .ok (.invokevirtual 253, 3) := by decide +kernel
theorem dX8_praysAs_81 : decode cX8_praysAs 81 = .ok (.aload_n 0, 1) := by decide +kernel
theorem dX8_praysAs_82 : decode cX8_praysAs 82 = .ok (.iconst 4, 1) := by decide +kernel
theorem dX8_praysAs_83 : decode cX8_praysAs 83 = .ok (.invokestatic 256, 3) := by decide +kernel
theorem dX8_praysAs_86 : decode cX8_praysAs 86 = .ok (.iload_n 2, 1) := by decide +kernel
theorem dX8_praysAs_87 : decode cX8_praysAs 87 = .ok (.invokevirtual 271, 3) := by decide +kernel
theorem dX8_praysAs_90 : decode cX8_praysAs 90 = .ok (.aload_n 0, 1) := by decide +kernel
theorem dX8_praysAs_91 : decode cX8_praysAs 91 = .ok (.getfield 250, 3) := by decide +kernel
theorem dX8_praysAs_94 : decode cX8_praysAs 94 = .ok (.ixor, 1) := by decide +kernel
theorem dX8_praysAs_95 : decode cX8_praysAs 95 = .ok (.ireturn, 1) := by decide +kernel
theorem dX8_praysAs_96 : decode cX8_praysAs 96 = .ok (.aload_n 0, 1) := by decide +kernel
theorem dX8_praysAs_97 : decode cX8_praysAs 97 = .ok (.iload_n 1, 1) := by decide +kernel
theorem dX8_praysAs_98 : decode cX8_praysAs 98 = .ok (.invokestatic 256, 3) := by decide +kernel
theorem dX8_praysAs_101 : decode cX8_praysAs 101 = .ok (.iload_n 2, 1) := by decide +kernel
theorem dX8_praysAs_102 : decode cX8_praysAs 102 = .ok (.invokevirtual 271, 3) := by decide +kernel
theorem dX8_praysAs_105 : decode cX8_praysAs 105 = .ok (.ireturn, 1) := by decide +kernel
theorem dX8_partsAs_0 : decode cX8_partsAs 0 = .ok (.iload_n 1, 1) := by decide +kernel
theorem dX8_partsAs_1 : decode cX8_partsAs 1 = .ok (.lookupswitch 119 #[(0, 27), (1, 78)], 27) := by decide +kernel
theorem dX8_partsAs_28 : decode cX8_partsAs 28 = .ok (.aload_n 0, 1) := by decide +kernel
theorem dX8_partsAs_29 : decode cX8_partsAs 29 = .ok (.bipush 13, 2) := by decide +kernel
theorem dX8_partsAs_31 : decode cX8_partsAs 31 = .ok (.invokevirtual 253, 3) := by decide +kernel
theorem dX8_partsAs_34 : decode cX8_partsAs 34 = .ok (.aload_n 0, 1) := by decide +kernel
theorem dX8_partsAs_35 : decode cX8_partsAs 35 = .ok (.invokevirtual 268, 3) := by decide +kernel
theorem dX8_partsAs_38 : decode cX8_partsAs 38 = .ok (.aload_n 0, 1) := by decide +kernel
theorem dX8_partsAs_39 : decode cX8_partsAs 39 = .ok (.getfield 250, 3) := by decide +kernel
theorem dX8_partsAs_42 : decode cX8_partsAs 42 = .ok (.isub, 1) := by decide +kernel
theorem dX8_partsAs_43 : decode cX8_partsAs 43 = .ok (.istore_n 3, 1) := by decide +kernel
theorem dX8_partsAs_44 : decode cX8_partsAs 44 = .ok (.aload_n 0, 1) := by decide +kernel
theorem dX8_partsAs_45 : decode cX8_partsAs 45 = .ok (.iload_n 3, 1) := by decide +kernel
theorem dX8_partsAs_46 : decode cX8_partsAs 46 = .ok (.ifCond .ne 7, 3) := by decide +kernel
theorem dX8_partsAs_49 : decode cX8_partsAs 49 = .ok (.iconst 1, 1) := by decide +kernel
theorem dX8_partsAs_50 : decode cX8_partsAs 50 = .ok (.goto 4, 3) := by decide +kernel
theorem dX8_partsAs_53 : decode cX8_partsAs 53 = .ok (.iconst 0, 1) := by decide +kernel
theorem dX8_partsAs_54 : decode cX8_partsAs 54 = .ok (.putfield 274, 3) := by decide +kernel
theorem dX8_partsAs_57 : decode cX8_partsAs 57 = .ok (.iload_n 3, 1) := by decide +kernel
theorem dX8_partsAs_58 : decode cX8_partsAs 58 = .ok (.ifCond .ne 7, 3) := by decide +kernel
theorem dX8_partsAs_61 : decode cX8_partsAs 61 = .ok (.iconst 0, 1) := by decide +kernel
theorem dX8_partsAs_62 : decode cX8_partsAs 62 = .ok (.goto 16, 3) := by decide +kernel
theorem dX8_partsAs_65 : decode cX8_partsAs 65 = .ok (.iload_n 3, 1) := by decide +kernel
theorem dX8_partsAs_66 : decode cX8_partsAs 66 = .ok (.iconst (-1), 1) := by decide +kernel
theorem dX8_partsAs_67 : decode cX8_partsAs 67 = .ok (.if_icmp .ne 8, 3) := by decide +kernel
theorem dX8_partsAs_70 : decode cX8_partsAs 70 = .ok (.iload_n 2, 1) := by decide +kernel
theorem dX8_partsAs_71 : decode cX8_partsAs 71 = .ok (.ineg, 1) := by decide +kernel
theorem dX8_partsAs_72 : decode cX8_partsAs 72 = .ok (.goto 6, 3) := by decide +kernel
theorem dX8_partsAs_75 : decode cX8_partsAs 75 = .ok (.iload_n 2, 1) := by decide +kernel
theorem dX8_partsAs_76 : decode cX8_partsAs 76 = .ok (.iload_n 3, 1) := by decide +kernel
theorem dX8_partsAs_77 : decode cX8_partsAs 77 = .ok (.idiv, 1) := by decide +kernel
theorem dX8_partsAs_78 : decode cX8_partsAs 78 = .ok (.ireturn, 1) := by decide +kernel
theorem dX8_partsAs_79 : decode cX8_partsAs 79 = .ok (.aload_n 0, 1) := by decide +kernel
theorem dX8_partsAs_80 : decode cX8_partsAs 80 = .ok (.bipush 21, 2) := by decide +kernel
theorem dX8_partsAs_82 : decode cX8_partsAs 82 = .ok (.invokevirtual 253, 3) := by decide +kernel
theorem dX8_partsAs_85 : decode cX8_partsAs 85 = .ok (.aload_n 0, 1) := by decide +kernel
theorem dX8_partsAs_86 : decode cX8_partsAs 86 = .ok (.iconst 1, 1) := by decide +kernel
theorem dX8_partsAs_87 : decode cX8_partsAs 87 = .ok (.invokestatic 256, 3) := by decide +kernel
theorem dX8_partsAs_90 : decode cX8_partsAs 90 = .ok (.iload_n 2, 1) := by decide +kernel
theorem dX8_partsAs_91 : decode cX8_partsAs 91 = .ok (.invokevirtual 278, 3) := by decide +kernel
theorem dX8_partsAs_94 : decode cX8_partsAs 94 = .ok (.istore 4, 2) := by decide +kernel
theorem dX8_partsAs_96 : decode cX8_partsAs 96 = .ok (.aload_n 0, 1) := by decide +kernel
theorem dX8_partsAs_97 : decode cX8_partsAs 97 = .ok (.getfield 274, 3) := by decide +kernel
theorem dX8_partsAs_100 : decode cX8_partsAs 100 = .ok (.ifCond .eq 7, 3) := by decide +kernel
theorem dX8_partsAs_103 : decode cX8_partsAs 103 = .ok (.iconst 0, 1) := by decide +kernel
theorem dX8_partsAs_104 : decode cX8_partsAs 104 = .ok (.goto 15, 3) := by decide +kernel
theorem dX8_partsAs_107 : decode cX8_partsAs 107 = .ok (.iload 4, 2) := by decide +kernel
theorem dX8_partsAs_109 : decode cX8_partsAs 109 = .ok (.aload_n 0, 1) := by decide +kernel
theorem dX8_partsAs_110 : decode cX8_partsAs 110 = .ok (.aload_n 0, 1) := by decide +kernel
theorem dX8_partsAs_111 : decode cX8_partsAs 111 = .ok (.invokevirtual 262, 3) := by decide +kernel
theorem dX8_partsAs_114 : decode cX8_partsAs 114 = .ok (.iconst 1, 1) := by decide +kernel
theorem dX8_partsAs_115 : decode cX8_partsAs 115 = .ok (.invokevirtual 265, 3) := by decide +kernel
theorem dX8_partsAs_118 : decode cX8_partsAs 118 = .ok (.iadd, 1) := by decide +kernel
theorem dX8_partsAs_119 : decode cX8_partsAs 119 = .ok (.ireturn, 1) := by decide +kernel
theorem dX8_partsAs_120 : decode cX8_partsAs 120 = .ok (.aload_n 0, 1) := by decide +kernel
theorem dX8_partsAs_121 : decode cX8_partsAs 121 = .ok (.iload_n 1, 1) := by decide +kernel
theorem dX8_partsAs_122 : decode cX8_partsAs 122 = .ok (.invokestatic 256, 3) := by decide +kernel
theorem dX8_partsAs_125 : decode cX8_partsAs 125 = .ok (.iload_n 2, 1) := by decide +kernel
theorem dX8_partsAs_126 : decode cX8_partsAs 126 = .ok (.invokevirtual 278, 3) := by decide +kernel
theorem dX8_partsAs_129 : decode cX8_partsAs 129 = .ok (.ireturn, 1) := by decide +kernel
theorem dX8_voice_0 : decode cX8_voice 0 = .ok (.aload_n 0, 1) := by decide +kernel
theorem dX8_voice_1 : decode cX8_voice 1 = .ok (.iload_n 1, 1) := by decide +kernel
theorem dX8_voice_2 : decode cX8_voice 2 = .ok (.invokevirtual 112, 3) := by decide +kernel
theorem dX8_voice_5 : decode cX8_voice 5 = .ok (.ifCond .eq 12, 3) := by decide +kernel
theorem dX8_voice_8 : decode cX8_voice 8 = .ok (.iload_n 2, 1) := by decide +kernel
theorem dX8_voice_9 : decode cX8_voice 9 = .ok (.iconst 0, 1) := by decide +kernel
theorem dX8_voice_10 : decode cX8_voice 10 = .ok (.iconst 3, 1) := by decide +kernel
theorem dX8_voice_11 : decode cX8_voice 11 = .ok (.invokestatic 56, 3) := by decide +kernel
theorem dX8_voice_14 : decode cX8_voice 14 = .ok (.ifCond .ne 9, 3) := by decide +kernel
theorem dX8_voice_17 : decode cX8_voice 17 = .ok (.aload_n 0, 1) := by decide +kernel
theorem dX8_voice_18 : decode cX8_voice 18 = .ok (.iconst 1, 1) := by decide +kernel
theorem dX8_voice_19 : decode cX8_voice 19 = .ok (.invokevirtual 76, 3) := by decide +kernel
theorem dX8_voice_22 : decode cX8_voice 22 = .ok (.ireturn, 1) := by decide +kernel
theorem dX8_voice_23 : decode cX8_voice 23 = .ok (.aload_n 0, 1) := by decide +kernel
theorem dX8_voice_24 : decode cX8_voice 24 = .ok (.iconst 0, 1) := by decide +kernel
theorem dX8_voice_25 : decode cX8_voice 25 = .ok (.putfield 247, 3) := by decide +kernel
theorem dX8_voice_28 : decode cX8_voice 28 = .ok (.aload_n 0, 1) := by decide +kernel
theorem dX8_voice_29 : decode cX8_voice 29 = .ok (.iload_n 1, 1) := by decide +kernel
theorem dX8_voice_30 : decode cX8_voice 30 = .ok (.putfield 250, 3) := by decide +kernel
theorem dX8_voice_33 : decode cX8_voice 33 = .ok (.aload_n 0, 1) := by decide +kernel
theorem dX8_voice_34 : decode cX8_voice 34 = .ok (.iconst 0, 1) := by decide +kernel
theorem dX8_voice_35 : decode cX8_voice 35 = .ok (.putfield 274, 3) := by decide +kernel
theorem dX8_voice_38 : decode cX8_voice 38 = .ok (.aload_n 0, 1) := by decide +kernel
theorem dX8_voice_39 : decode cX8_voice 39 = .ok (.invokevirtual 262, 3) := by decide +kernel
theorem dX8_voice_42 : decode cX8_voice 42 = .ok (.istore 4, 2) := by decide +kernel
theorem dX8_voice_44 : decode cX8_voice 44 = .ok (.iload_n 2, 1) := by decide +kernel
theorem dX8_voice_45 : decode cX8_voice 45 = .ok (.ifCond .ne 13, 3) := by decide +kernel
theorem dX8_voice_48 : decode cX8_voice 48 = .ok (.aload_n 0, 1) := by decide +kernel
theorem dX8_voice_49 : decode cX8_voice 49 = .ok (.iload 4, 2) := by decide +kernel
theorem dX8_voice_51 : decode cX8_voice 51 = .ok (.iload_n 3, 1) := by decide +kernel
theorem dX8_voice_52 : decode cX8_voice 52 = .ok (.invokevirtual 259, 3) := by decide +kernel
theorem dX8_voice_55 : decode cX8_voice 55 = .ok (.goto 40, 3) := by decide +kernel
theorem dX8_voice_58 : decode cX8_voice 58 = .ok (.iload_n 2, 1) := by decide +kernel
theorem dX8_voice_59 : decode cX8_voice 59 = .ok (.iconst 1, 1) := by decide +kernel
theorem dX8_voice_60 : decode cX8_voice 60 = .ok (.if_icmp .ne 13, 3) := by decide +kernel
theorem dX8_voice_63 : decode cX8_voice 63 = .ok (.aload_n 0, 1) := by decide +kernel
theorem dX8_voice_64 : decode cX8_voice 64 = .ok (.iload 4, 2) := by decide +kernel
theorem dX8_voice_66 : decode cX8_voice 66 = .ok (.iload_n 3, 1) := by decide +kernel
theorem dX8_voice_67 : decode cX8_voice 67 = .ok (.invokevirtual 265, 3) := by decide +kernel
theorem dX8_voice_70 : decode cX8_voice 70 = .ok (.goto 25, 3) := by decide +kernel
theorem dX8_voice_73 : decode cX8_voice 73 = .ok (.iload_n 2, 1) := by decide +kernel
theorem dX8_voice_74 : decode cX8_voice 74 = .ok (.iconst 2, 1) := by decide +kernel
theorem dX8_voice_75 : decode cX8_voice 75 = .ok (.if_icmp .ne 13, 3) := by decide +kernel
theorem dX8_voice_78 : decode cX8_voice 78 = .ok (.aload_n 0, 1) := by decide +kernel
theorem dX8_voice_79 : decode cX8_voice 79 = .ok (.iload 4, 2) := by decide +kernel
theorem dX8_voice_81 : decode cX8_voice 81 = .ok (.iload_n 3, 1) := by decide +kernel
theorem dX8_voice_82 : decode cX8_voice 82 = .ok (.invokevirtual 271, 3) := by decide +kernel
theorem dX8_voice_85 : decode cX8_voice 85 = .ok (.goto 10, 3) := by decide +kernel
theorem dX8_voice_88 : decode cX8_voice 88 = .ok (.aload_n 0, 1) := by decide +kernel
theorem dX8_voice_89 : decode cX8_voice 89 = .ok (.iload 4, 2) := by decide +kernel
theorem dX8_voice_91 : decode cX8_voice 91 = .ok (.iload_n 3, 1) := by decide +kernel
theorem dX8_voice_92 : decode cX8_voice 92 = .ok (.invokevirtual 278, 3) := by decide +kernel
theorem dX8_voice_95 : decode cX8_voice 95 = .ok (.istore 5, 2) := by decide +kernel
theorem dX8_voice_97 : decode cX8_voice 97 = .ok (.aload_n 0, 1) := by decide +kernel
theorem dX8_voice_98 : decode cX8_voice 98 = .ok (.getfield 274, 3) := by decide +kernel
theorem dX8_voice_101 : decode cX8_voice 101 = .ok (.ifCond .eq 12, 3) := by decide +kernel
theorem dX8_voice_104 : decode cX8_voice 104 = .ok (.aload_n 0, 1) := by decide +kernel
theorem dX8_voice_105 : decode cX8_voice 105 = .ok (.bipush 6, 2) := by decide +kernel
theorem dX8_voice_107 : decode cX8_voice 107 = .ok (.invokevirtual 76, 3) := by decide +kernel
theorem dX8_voice_110 : decode cX8_voice 110 = .ok (.goto 5, 3) := by decide +kernel
theorem dX8_voice_113 : decode cX8_voice 113 = .ok (.iload 5, 2) := by decide +kernel
theorem dX8_voice_115 : decode cX8_voice 115 = .ok (.ireturn, 1) := by decide +kernel
theorem dX8_body_0 : decode cX8_body 0 = .ok (.iload_n 1, 1) := by decide +kernel
theorem dX8_body_1 : decode cX8_body 1 = .ok (.iconst 0, 1) := by decide +kernel
theorem dX8_body_2 : decode cX8_body 2 = .ok (.aload_n 0, 1) := by decide +kernel
theorem dX8_body_3 : decode cX8_body 3 = .ok (.getfield 247, 3) := by decide +kernel
theorem dX8_body_6 : decode cX8_body 6 = .ok (.iconst 1, 1) := by decide +kernel
theorem dX8_body_7 : decode cX8_body 7 = .ok (.isub, 1) := by decide +kernel
theorem dX8_body_8 : decode cX8_body 8 = .ok (.invokestatic 56, 3) := by decide +kernel
theorem dX8_body_11 : decode cX8_body 11 = .ok (.ifCond .eq 12, 3) := by decide +kernel
theorem dX8_body_14 : decode cX8_body 14 = .ok (.aload_n 0, 1) := by decide +kernel
theorem dX8_body_15 : decode cX8_body 15 = .ok (.getfield 40, 3) := by decide +kernel
theorem dX8_body_18 : decode cX8_body 18 = .ok (.iload_n 1, 1) := by decide +kernel
theorem dX8_body_19 : decode cX8_body 19 = .ok (.iaload, 1) := by decide +kernel
theorem dX8_body_20 : decode cX8_body 20 = .ok (.goto 8, 3) := by decide +kernel
theorem dX8_body_23 : decode cX8_body 23 = .ok (.aload_n 0, 1) := by decide +kernel
theorem dX8_body_24 : decode cX8_body 24 = .ok (.iconst 2, 1) := by decide +kernel
theorem dX8_body_25 : decode cX8_body 25 = .ok (.invokevirtual 76, 3) := by decide +kernel
theorem dX8_body_28 : decode cX8_body 28 = .ok (.ireturn, 1) := by decide +kernel
theorem dX8_isSheet_0 : decode cX8_isSheet 0 = .ok (.iload_n 0, 1) := by decide +kernel
theorem dX8_isSheet_1 : decode cX8_isSheet 1 = .ok (.iconst 0, 1) := by decide +kernel
theorem dX8_isSheet_2 : decode cX8_isSheet 2 = .ok (.iconst 3, 1) := by decide +kernel
theorem dX8_isSheet_3 : decode cX8_isSheet 3 = .ok (.invokestatic 56, 3) := by decide +kernel
theorem dX8_isSheet_6 : decode cX8_isSheet 6 = .ok (.ireturn, 1) := by decide +kernel
theorem dX8_sheet_0 : decode cX8_sheet 0 = .ok (.iload_n 1, 1) := by decide +kernel
theorem dX8_sheet_1 : decode cX8_sheet 1 = .ok (.invokestatic 281, 3) := by decide +kernel
theorem dX8_sheet_4 : decode cX8_sheet 4 = .ok (.ifCond .eq 25, 3) := by decide +kernel
theorem dX8_sheet_7 : decode cX8_sheet 7 = .ok (.iload_n 2, 1) := by decide +kernel
theorem dX8_sheet_8 : decode cX8_sheet 8 = .ok (.ifCond .eq 27, 3) := by decide +kernel
theorem dX8_sheet_11 : decode cX8_sheet 11 = .ok (.iload_n 2, 1) := by decide +kernel
theorem dX8_sheet_12 : decode cX8_sheet 12 = .ok (.bipush 8, 2) := by decide +kernel
theorem dX8_sheet_14 : decode cX8_sheet 14 = .ok (.if_icmp .eq 21, 3) := by decide +kernel
theorem dX8_sheet_17 : decode cX8_sheet 17 = .ok (.iload_n 2, 1) := by decide +kernel
theorem dX8_sheet_18 : decode cX8_sheet 18 = .ok (.bipush 16, 2) := by decide +kernel
theorem dX8_sheet_20 : decode cX8_sheet 20 = .ok (.if_icmp .eq 15, 3) := by decide +kernel
theorem dX8_sheet_23 : decode cX8_sheet 23 = .ok (.iload_n 2, 1) := by decide +kernel
theorem dX8_sheet_24 : decode cX8_sheet 24 = .ok (.bipush 32, 2) := by decide +kernel
theorem dX8_sheet_26 : decode cX8_sheet 26 = .ok (.if_icmp .eq 9, 3) := by decide +kernel
theorem dX8_sheet_29 : decode cX8_sheet 29 = .ok (.aload_n 0, 1) := by decide +kernel
theorem dX8_sheet_30 : decode cX8_sheet 30 = .ok (.iconst 1, 1) := by decide +kernel
theorem dX8_sheet_31 : decode cX8_sheet 31 = .ok (.invokevirtual 76, 3) := by decide +kernel
theorem dX8_sheet_34 : decode cX8_sheet 34 = .ok (.ireturn, 1) := by decide +kernel
theorem dX8_sheet_35 : decode cX8_sheet 35 = .ok (.iload_n 2, 1) := by decide +kernel
theorem dX8_sheet_36 : decode cX8_sheet 36 = .ok (.ifCond .eq 13, 3) := by decide +kernel
theorem dX8_sheet_39 : decode cX8_sheet 39 = .ok (.iload_n 3, 1) := by decide +kernel
theorem dX8_sheet_40 : decode cX8_sheet 40 = .ok (.ifCond .ge 9, 3) := by decide +kernel
theorem dX8_sheet_43 : decode cX8_sheet 43 = .ok (.aload_n 0, 1) := by decide +kernel
theorem dX8_sheet_44 : decode cX8_sheet 44 = .ok (.iconst 3, 1) := by decide +kernel
theorem dX8_sheet_45 : decode cX8_sheet 45 = .ok (.invokevirtual 76, 3) := by decide +kernel
theorem dX8_sheet_48 : decode cX8_sheet 48 = .ok (.ireturn, 1) := by decide +kernel
theorem dX8_sheet_49 : decode cX8_sheet 49 = .ok (.iload_n 2, 1) := by decide +kernel
theorem dX8_sheet_50 : decode cX8_sheet 50 = .ok (.ifCond .eq 15, 3) := by decide +kernel
theorem dX8_sheet_53 : decode cX8_sheet 53 = .ok (.iload_n 3, 1) := by decide +kernel
theorem dX8_sheet_54 : decode cX8_sheet 54 = .ok (.bipush 24, 2) := by decide +kernel
theorem dX8_sheet_56 : decode cX8_sheet 56 = .ok (.if_icmp .le 9, 3) := by decide +kernel
theorem dX8_sheet_59 : decode cX8_sheet 59 = .ok (.aload_n 0, 1) := by decide +kernel
theorem dX8_sheet_60 : decode cX8_sheet 60 = .ok (.iconst 1, 1) := by decide +kernel
theorem dX8_sheet_61 : decode cX8_sheet 61 = .ok (.invokevirtual 76, 3) := by decide +kernel
theorem dX8_sheet_64 : decode cX8_sheet 64 = .ok (.ireturn, 1) := by decide +kernel
theorem dX8_sheet_65 : decode cX8_sheet 65 = .ok (.aload_n 0, 1) := by decide +kernel
theorem dX8_sheet_66 : decode cX8_sheet 66 = .ok (.getfield 43, 3) := by decide +kernel
theorem dX8_sheet_69 : decode cX8_sheet 69 = .ok (.iload_n 1, 1) := by decide +kernel
theorem dX8_sheet_70 : decode cX8_sheet 70 = .ok (.iload_n 2, 1) := by decide +kernel
theorem dX8_sheet_71 : decode cX8_sheet 71 = .ok (.iastore, 1) := by decide +kernel
theorem dX8_sheet_72 : decode cX8_sheet 72 = .ok (.aload_n 0, 1) := by decide +kernel
theorem dX8_sheet_73 : decode cX8_sheet 73 = .ok (.getfield 46, 3) := by decide +kernel
theorem dX8_sheet_76 : decode cX8_sheet 76 = .ok (.iload_n 1, 1) := by decide +kernel
theorem dX8_sheet_77 : decode cX8_sheet 77 = .ok (.iload_n 2, 1) := by decide +kernel
theorem dX8_sheet_78 : decode cX8_sheet 78 = .ok (.ifCond .ne 7, 3) := by decide +kernel
theorem dX8_sheet_81 : decode cX8_sheet 81 = .ok (.iconst 0, 1) := by decide +kernel
theorem dX8_sheet_82 : decode cX8_sheet 82 = .ok (.goto 4, 3) := by decide +kernel
theorem dX8_sheet_85 : decode cX8_sheet 85 = .ok (.iload_n 3, 1) := by decide +kernel
theorem dX8_sheet_86 : decode cX8_sheet 86 = .ok (.iastore, 1) := by decide +kernel
theorem dX8_sheet_87 : decode cX8_sheet 87 = .ok (.iconst 0, 1) := by decide +kernel
theorem dX8_sheet_88 : decode cX8_sheet 88 = .ok (.istore 4, 2) := by decide +kernel
theorem dX8_sheet_90 : decode cX8_sheet 90 = .ok (.iload 4, 2) := by decide +kernel
theorem dX8_sheet_92 : decode cX8_sheet 92 = .ok (.bipush 24, 2) := by decide +kernel
theorem dX8_sheet_94 : decode cX8_sheet 94 = .ok (.if_icmp .ge 22, 3) := by decide +kernel
theorem dX8_sheet_97 : decode cX8_sheet 97 = .ok (.aload_n 0, 1) := by decide +kernel
theorem dX8_sheet_98 : decode cX8_sheet 98 = .ok (.getfield 49, 3) := by decide +kernel
theorem dX8_sheet_101 : decode cX8_sheet 101 = .ok (.bipush 24, 2) := by decide +kernel
theorem dX8_sheet_103 : decode cX8_sheet 103 = .ok (.iload_n 1, 1) := by decide +kernel
theorem dX8_sheet_104 : decode cX8_sheet 104 = .ok (.imul, 1) := by decide +kernel
theorem dX8_sheet_105 : decode cX8_sheet 105 = .ok (.iload 4, 2) := by decide +kernel
theorem dX8_sheet_107 : decode cX8_sheet 107 = .ok (.iadd, 1) := by decide +kernel
theorem dX8_sheet_108 : decode cX8_sheet 108 = .ok (.iconst 0, 1) := by decide +kernel
theorem dX8_sheet_109 : decode cX8_sheet 109 = .ok (.iastore, 1) := by decide +kernel
theorem dX8_sheet_110 : decode cX8_sheet 110 = .ok (.iinc 4 1, 3) := by decide +kernel
theorem dX8_sheet_113 : decode cX8_sheet 113 = .ok (.goto (-23), 3) := by decide +kernel
theorem dX8_sheet_116 : decode cX8_sheet 116 = .ok (.iconst 1, 1) := by decide +kernel
theorem dX8_sheet_117 : decode cX8_sheet 117 = .ok (.ireturn, 1) := by decide +kernel
theorem dX8_put_0 : decode cX8_put 0 = .ok (.iload_n 1, 1) := by decide +kernel
theorem dX8_put_1 : decode cX8_put 1 = .ok (.invokestatic 281, 3) := by decide +kernel
theorem dX8_put_4 : decode cX8_put 4 = .ok (.ifCond .ne 9, 3) := by decide +kernel
theorem dX8_put_7 : decode cX8_put 7 = .ok (.aload_n 0, 1) := by decide +kernel
theorem dX8_put_8 : decode cX8_put 8 = .ok (.iconst 1, 1) := by decide +kernel
theorem dX8_put_9 : decode cX8_put 9 = .ok (.invokevirtual 76, 3) := by decide +kernel
theorem dX8_put_12 : decode cX8_put 12 = .ok (.ireturn, 1) := by decide +kernel
theorem dX8_put_13 : decode cX8_put 13 = .ok (.aload_n 0, 1) := by decide +kernel
theorem dX8_put_14 : decode cX8_put 14 = .ok (.getfield 43, 3) := by decide +kernel
theorem dX8_put_17 : decode cX8_put 17 = .ok (.iload_n 1, 1) := by decide +kernel
theorem dX8_put_18 : decode cX8_put 18 = .ok (.iaload, 1) := by decide +kernel
theorem dX8_put_19 : decode cX8_put 19 = .ok (.ifCond .ne 9, 3) := by decide +kernel
theorem dX8_put_22 : decode cX8_put 22 = .ok (.aload_n 0, 1) := by decide +kernel
theorem dX8_put_23 : decode cX8_put 23 = .ok (.iconst 2, 1) := by decide +kernel
theorem dX8_put_24 : decode cX8_put 24 = .ok (.invokevirtual 76, 3) := by decide +kernel
theorem dX8_put_27 : decode cX8_put 27 = .ok (.ireturn, 1) := by decide +kernel
theorem dX8_put_28 : decode cX8_put 28 = .ok (.iload_n 2, 1) := by decide +kernel
theorem dX8_put_29 : decode cX8_put 29 = .ok (.iconst 0, 1) := by decide +kernel
theorem dX8_put_30 : decode cX8_put 30 = .ok (.aload_n 0, 1) := by decide +kernel
theorem dX8_put_31 : decode cX8_put 31 = .ok (.getfield 46, 3) := by decide +kernel
theorem dX8_put_34 : decode cX8_put 34 = .ok (.iload_n 1, 1) := by decide +kernel
theorem dX8_put_35 : decode cX8_put 35 = .ok (.iaload, 1) := by decide +kernel
theorem dX8_put_36 : decode cX8_put 36 = .ok (.iconst 1, 1) := by decide +kernel
theorem dX8_put_37 : decode cX8_put 37 = .ok (.isub, 1) := by decide +kernel
theorem dX8_put_38 : decode cX8_put 38 = .ok (.invokestatic 56, 3) := by decide +kernel
theorem dX8_put_41 : decode cX8_put 41 = .ok (.ifCond .ne 9, 3) := by decide +kernel
theorem dX8_put_44 : decode cX8_put 44 = .ok (.aload_n 0, 1) := by decide +kernel
theorem dX8_put_45 : decode cX8_put 45 = .ok (.iconst 1, 1) := by decide +kernel
theorem dX8_put_46 : decode cX8_put 46 = .ok (.invokevirtual 76, 3) := by decide +kernel
theorem dX8_put_49 : decode cX8_put 49 = .ok (.ireturn, 1) := by decide +kernel
theorem dX8_put_50 : decode cX8_put 50 = .ok (.bipush 32, 2) := by decide +kernel
theorem dX8_put_52 : decode cX8_put 52 = .ok (.aload_n 0, 1) := by decide +kernel
theorem dX8_put_53 : decode cX8_put 53 = .ok (.getfield 43, 3) := by decide +kernel
theorem dX8_put_56 : decode cX8_put 56 = .ok (.iload_n 1, 1) := by decide +kernel
theorem dX8_put_57 : decode cX8_put 57 = .ok (.iaload, 1) := by decide +kernel
theorem dX8_put_58 : decode cX8_put 58 = .ok (.isub, 1) := by decide +kernel
theorem dX8_put_59 : decode cX8_put 59 = .ok (.istore 4, 2) := by decide +kernel
theorem dX8_put_61 : decode cX8_put 61 = .ok (.aload_n 0, 1) := by decide +kernel
theorem dX8_put_62 : decode cX8_put 62 = .ok (.getfield 49, 3) := by decide +kernel
theorem dX8_put_65 : decode cX8_put 65 = .ok (.bipush 24, 2) := by decide +kernel
theorem dX8_put_67 : decode cX8_put 67 = .ok (.iload_n 1, 1) := by decide +kernel
theorem dX8_put_68 : decode cX8_put 68 = .ok (.imul, 1) := by decide +kernel
theorem dX8_put_69 : decode cX8_put 69 = .ok (.iload_n 2, 1) := by decide +kernel
theorem dX8_put_70 : decode cX8_put 70 = .ok (.iadd, 1) := by decide +kernel
theorem dX8_put_71 : decode cX8_put 71 = .ok (.iload_n 3, 1) := by decide +kernel
theorem dX8_put_72 : decode cX8_put 72 = .ok (.iload 4, 2) := by decide +kernel
theorem dX8_put_74 : decode cX8_put 74 = .ok (.ishl, 1) := by decide +kernel
theorem dX8_put_75 : decode cX8_put 75 = .ok (.iload 4, 2) := by decide +kernel
theorem dX8_put_77 : decode cX8_put 77 = .ok (.ishr, 1) := by decide +kernel
theorem dX8_put_78 : decode cX8_put 78 = .ok (.iastore, 1) := by decide +kernel
theorem dX8_put_79 : decode cX8_put 79 = .ok (.iconst 1, 1) := by decide +kernel
theorem dX8_put_80 : decode cX8_put 80 = .ok (.ireturn, 1) := by decide +kernel
theorem dX8_move_0 : decode cX8_move 0 = .ok (.iload_n 1, 1) := by decide +kernel
theorem dX8_move_1 : decode cX8_move 1 = .ok (.invokestatic 281, 3) := by decide +kernel
theorem dX8_move_4 : decode cX8_move 4 = .ok (.ifCond .eq 10, 3) := by decide +kernel
theorem dX8_move_7 : decode cX8_move 7 = .ok (.iload_n 3, 1) := by decide +kernel
theorem dX8_move_8 : decode cX8_move 8 = .ok (.invokestatic 281, 3) := by decide +kernel
theorem dX8_move_11 : decode cX8_move 11 = .ok (.ifCond .ne 9, 3) := by decide +kernel
theorem dX8_move_14 : decode cX8_move 14 = .ok (.aload_n 0, 1) := by decide +kernel
theorem dX8_move_15 : decode cX8_move 15 = .ok (.iconst 1, 1) := by decide +kernel
theorem dX8_move_16 : decode cX8_move 16 = .ok (.invokevirtual 76, 3) := by decide +kernel
theorem dX8_move_19 : decode cX8_move 19 = .ok (.ireturn, 1) := by decide +kernel
theorem dX8_move_20 : decode cX8_move 20 = .ok (.aload_n 0, 1) := by decide +kernel
theorem dX8_move_21 : decode cX8_move 21 = .ok (.getfield 43, 3) := by decide +kernel
theorem dX8_move_24 : decode cX8_move 24 = .ok (.iload_n 1, 1) := by decide +kernel
theorem dX8_move_25 : decode cX8_move 25 = .ok (.iaload, 1) := by decide +kernel
theorem dX8_move_26 : decode cX8_move 26 = .ok (.ifCond .eq 12, 3) := by decide +kernel
theorem dX8_move_29 : decode cX8_move 29 = .ok (.aload_n 0, 1) := by decide +kernel
theorem dX8_move_30 : decode cX8_move 30 = .ok (.getfield 43, 3) := by decide +kernel
theorem dX8_move_33 : decode cX8_move 33 = .ok (.iload_n 3, 1) := by decide +kernel
theorem dX8_move_34 : decode cX8_move 34 = .ok (.iaload, 1) := by decide +kernel
theorem dX8_move_35 : decode cX8_move 35 = .ok (.ifCond .ne 9, 3) := by decide +kernel
theorem dX8_move_38 : decode cX8_move 38 = .ok (.aload_n 0, 1) := by decide +kernel
theorem dX8_move_39 : decode cX8_move 39 = .ok (.iconst 2, 1) := by decide +kernel
theorem dX8_move_40 : decode cX8_move 40 = .ok (.invokevirtual 76, 3) := by decide +kernel
theorem dX8_move_43 : decode cX8_move 43 = .ok (.ireturn, 1) := by decide +kernel
theorem dX8_move_44 : decode cX8_move 44 = .ok (.aload_n 0, 1) := by decide +kernel
theorem dX8_move_45 : decode cX8_move 45 = .ok (.getfield 43, 3) := by decide +kernel
theorem dX8_move_48 : decode cX8_move 48 = .ok (.iload_n 1, 1) := by decide +kernel
theorem dX8_move_49 : decode cX8_move 49 = .ok (.iaload, 1) := by decide +kernel
theorem dX8_move_50 : decode cX8_move 50 = .ok (.aload_n 0, 1) := by decide +kernel
theorem dX8_move_51 : decode cX8_move 51 = .ok (.getfield 43, 3) := by decide +kernel
theorem dX8_move_54 : decode cX8_move 54 = .ok (.iload_n 3, 1) := by decide +kernel
theorem dX8_move_55 : decode cX8_move 55 = .ok (.iaload, 1) := by decide +kernel
theorem dX8_move_56 : decode cX8_move 56 = .ok (.if_icmp .eq 9, 3) := by decide +kernel
theorem dX8_move_59 : decode cX8_move 59 = .ok (.aload_n 0, 1) := by decide +kernel
theorem dX8_move_60 : decode cX8_move 60 = .ok (.iconst 5, 1) := by decide +kernel
theorem dX8_move_61 : decode cX8_move 61 = .ok (.invokevirtual 76, 3) := by decide +kernel
theorem dX8_move_64 : decode cX8_move 64 = .ok (.ireturn, 1) := by decide +kernel
theorem dX8_move_65 : decode cX8_move 65 = .ok (.iload 5, 2) := by decide +kernel
theorem dX8_move_67 : decode cX8_move 67 = .ok (.ifCond .lt 39, 3) := by decide +kernel
theorem dX8_move_70 : decode cX8_move 70 = .ok (.iload_n 2, 1) := by decide +kernel
theorem dX8_move_71 : decode cX8_move 71 = .ok (.ifCond .lt 35, 3) := by decide +kernel
theorem dX8_move_74 : decode cX8_move 74 = .ok (.iload 4, 2) := by decide +kernel
theorem dX8_move_76 : decode cX8_move 76 = .ok (.ifCond .lt 30, 3) := by decide +kernel
theorem dX8_move_79 : decode cX8_move 79 = .ok (.iload_n 2, 1) := by decide +kernel
theorem dX8_move_80 : decode cX8_move 80 = .ok (.aload_n 0, 1) := by decide +kernel
theorem dX8_move_81 : decode cX8_move 81 = .ok (.getfield 46, 3) := by decide +kernel
theorem dX8_move_84 : decode cX8_move 84 = .ok (.iload_n 1, 1) := by decide +kernel
theorem dX8_move_85 : decode cX8_move 85 = .ok (.iaload, 1) := by decide +kernel
theorem dX8_move_86 : decode cX8_move 86 = .ok (.iload 5, 2) := by decide +kernel
theorem dX8_move_88 : decode cX8_move 88 = .ok (.isub, 1) := by decide +kernel
theorem dX8_move_89 : decode cX8_move 89 = .ok (.if_icmp .gt 17, 3) := by decide +kernel
theorem dX8_move_92 : decode cX8_move 92 = .ok (.iload 4, 2) := by decide +kernel
theorem dX8_move_94 : decode cX8_move 94 = .ok (.aload_n 0, 1) := by decide +kernel
theorem dX8_move_95 : decode cX8_move 95 = .ok (.getfield 46, 3) := by decide +kernel
theorem dX8_move_98 : decode cX8_move 98 = .ok (.iload_n 3, 1) := by decide +kernel
theorem dX8_move_99 : decode cX8_move 99 = .ok (.iaload, 1) := by decide +kernel
theorem dX8_move_100 : decode cX8_move 100 = .ok (.iload 5, 2) := by decide +kernel
theorem dX8_move_102 : decode cX8_move 102 = .ok (.isub, 1) := by decide +kernel
theorem dX8_move_103 : decode cX8_move 103 = .ok (.if_icmp .le 9, 3) := by decide +kernel
theorem dX8_move_106 : decode cX8_move 106 = .ok (.aload_n 0, 1) := by decide +kernel
theorem dX8_move_107 : decode cX8_move 107 = .ok (.iconst 1, 1) := by decide +kernel
theorem dX8_move_108 : decode cX8_move 108 = .ok (.invokevirtual 76, 3) := by decide +kernel
theorem dX8_move_111 : decode cX8_move 111 = .ok (.ireturn, 1) := by decide +kernel
theorem dX8_move_112 : decode cX8_move 112 = .ok (.iconst 0, 1) := by decide +kernel
theorem dX8_move_113 : decode cX8_move 113 = .ok (.istore 6, 2) := by decide +kernel
theorem dX8_move_115 : decode cX8_move 115 = .ok (.iload 6, 2) := by decide +kernel
theorem dX8_move_117 : decode cX8_move 117 = .ok (.iload 5, 2) := by decide +kernel
theorem dX8_move_119 : decode cX8_move 119 = .ok (.if_icmp .ge 30, 3) := by decide +kernel
theorem dX8_move_122 : decode cX8_move 122 = .ok (.aload_n 0, 1) := by decide +kernel
theorem dX8_move_123 : decode cX8_move 123 = .ok (.getfield 52, 3) := by decide +kernel
theorem dX8_move_126 : decode cX8_move 126 = .ok (.iload 6, 2) := by decide +kernel
theorem dX8_move_128 : decode cX8_move 128 = .ok (.aload_n 0, 1) := by decide +kernel
theorem dX8_move_129 : decode cX8_move 129 = .ok (.getfield 49, 3) := by decide +kernel
theorem dX8_move_132 : decode cX8_move 132 = .ok (.bipush 24, 2) := by decide +kernel
theorem dX8_move_134 : decode cX8_move 134 = .ok (.iload_n 1, 1) := by decide +kernel
theorem dX8_move_135 : decode cX8_move 135 = .ok (.imul, 1) := by decide +kernel
theorem dX8_move_136 : decode cX8_move 136 = .ok (.iload_n 2, 1) := by decide +kernel
theorem dX8_move_137 : decode cX8_move 137 = .ok (.iadd, 1) := by decide +kernel
theorem dX8_move_138 : decode cX8_move 138 = .ok (.iload 6, 2) := by decide +kernel
theorem dX8_move_140 : decode cX8_move 140 = .ok (.iadd, 1) := by decide +kernel
theorem dX8_move_141 : decode cX8_move 141 = .ok (.iaload, 1) := by decide +kernel
theorem dX8_move_142 : decode cX8_move 142 = .ok (.iastore, 1) := by decide +kernel
theorem dX8_move_143 : decode cX8_move 143 = .ok (.iinc 6 1, 3) := by decide +kernel
theorem dX8_move_146 : decode cX8_move 146 = .ok (.goto (-31), 3) := by decide +kernel
theorem dX8_move_149 : decode cX8_move 149 = .ok (.iconst 0, 1) := by decide +kernel
theorem dX8_move_150 : decode cX8_move 150 = .ok (.istore 6, 2) := by decide +kernel
theorem dX8_move_152 : decode cX8_move 152 = .ok (.iload 6, 2) := by decide +kernel
theorem dX8_move_154 : decode cX8_move 154 = .ok (.iload 5, 2) := by decide +kernel
theorem dX8_move_156 : decode cX8_move 156 = .ok (.if_icmp .ge 31, 3) := by decide +kernel
theorem dX8_move_159 : decode cX8_move 159 = .ok (.aload_n 0, 1) := by decide +kernel
theorem dX8_move_160 : decode cX8_move 160 = .ok (.getfield 49, 3) := by decide +kernel
theorem dX8_move_163 : decode cX8_move 163 = .ok (.bipush 24, 2) := by decide +kernel
theorem dX8_move_165 : decode cX8_move 165 = .ok (.iload_n 3, 1) := by decide +kernel
theorem dX8_move_166 : decode cX8_move 166 = .ok (.imul, 1) := by decide +kernel
theorem dX8_move_167 : decode cX8_move 167 = .ok (.iload 4, 2) := by decide +kernel
theorem dX8_move_169 : decode cX8_move 169 = .ok (.iadd, 1) := by decide +kernel
theorem dX8_move_170 : decode cX8_move 170 = .ok (.iload 6, 2) := by decide +kernel
theorem dX8_move_172 : decode cX8_move 172 = .ok (.iadd, 1) := by decide +kernel
theorem dX8_move_173 : decode cX8_move 173 = .ok (.aload_n 0, 1) := by decide +kernel
theorem dX8_move_174 : decode cX8_move 174 = .ok (.getfield 52, 3) := by decide +kernel
theorem dX8_move_177 : decode cX8_move 177 = .ok (.iload 6, 2) := by decide +kernel
theorem dX8_move_179 : decode cX8_move 179 = .ok (.iaload, 1) := by decide +kernel
theorem dX8_move_180 : decode cX8_move 180 = .ok (.iastore, 1) := by decide +kernel
theorem dX8_move_181 : decode cX8_move 181 = .ok (.iinc 6 1, 3) := by decide +kernel
theorem dX8_move_184 : decode cX8_move 184 = .ok (.goto (-32), 3) := by decide +kernel
theorem dX8_move_187 : decode cX8_move 187 = .ok (.iload 5, 2) := by decide +kernel
theorem dX8_move_189 : decode cX8_move 189 = .ok (.ireturn, 1) := by decide +kernel
theorem dX8_lacks_0 : decode cX8_lacks 0 = .ok (.iload_n 1, 1) := by decide +kernel
theorem dX8_lacks_1 : decode cX8_lacks 1 = .ok (.invokestatic 281, 3) := by decide +kernel
theorem dX8_lacks_4 : decode cX8_lacks 4 = .ok (.ifCond .ne 7, 3) := by decide +kernel
theorem dX8_lacks_7 : decode cX8_lacks 7 = .ok (.iconst 1, 1) := by decide +kernel
theorem dX8_lacks_8 : decode cX8_lacks 8 = .ok (.goto 17, 3) := by decide +kernel
theorem dX8_lacks_11 : decode cX8_lacks 11 = .ok (.aload_n 0, 1) := by decide +kernel
theorem dX8_lacks_12 : decode cX8_lacks 12 = .ok (.getfield 43, 3) := by decide +kernel
theorem dX8_lacks_15 : decode cX8_lacks 15 = .ok (.iload_n 1, 1) := by decide +kernel
theorem dX8_lacks_16 : decode cX8_lacks 16 = .ok (.iaload, 1) := by decide +kernel
theorem dX8_lacks_17 : decode cX8_lacks 17 = .ok (.ifCond .ne 7, 3) := by decide +kernel
theorem dX8_lacks_20 : decode cX8_lacks 20 = .ok (.iconst 2, 1) := by decide +kernel
theorem dX8_lacks_21 : decode cX8_lacks 21 = .ok (.goto 4, 3) := by decide +kernel
theorem dX8_lacks_24 : decode cX8_lacks 24 = .ok (.iconst 0, 1) := by decide +kernel
theorem dX8_lacks_25 : decode cX8_lacks 25 = .ok (.ireturn, 1) := by decide +kernel
theorem dX8_forces_0 : decode cX8_forces 0 = .ok (.aload_n 0, 1) := by decide +kernel
theorem dX8_forces_1 : decode cX8_forces 1 = .ok (.iload_n 1, 1) := by decide +kernel
theorem dX8_forces_2 : decode cX8_forces 2 = .ok (.invokevirtual 284, 3) := by decide +kernel
theorem dX8_forces_5 : decode cX8_forces 5 = .ok (.istore_n 2, 1) := by decide +kernel
theorem dX8_forces_6 : decode cX8_forces 6 = .ok (.iload_n 2, 1) := by decide +kernel
theorem dX8_forces_7 : decode cX8_forces 7 = .ok (.ifCond .le 9, 3) := by decide +kernel
theorem dX8_forces_10 : decode cX8_forces 10 = .ok (.aload_n 0, 1) := by decide +kernel
theorem dX8_forces_11 : decode cX8_forces 11 = .ok (.iload_n 2, 1) := by decide +kernel
theorem dX8_forces_12 : decode cX8_forces 12 = .ok (.invokevirtual 76, 3) := by decide +kernel
theorem dX8_forces_15 : decode cX8_forces 15 = .ok (.ireturn, 1) := by decide +kernel
theorem dX8_forces_16 : decode cX8_forces 16 = .ok (.iconst 0, 1) := by decide +kernel
theorem dX8_forces_17 : decode cX8_forces 17 = .ok (.istore_n 3, 1) := by decide +kernel
theorem dX8_forces_18 : decode cX8_forces 18 = .ok (.iload_n 3, 1) := by decide +kernel
theorem dX8_forces_19 : decode cX8_forces 19 = .ok (.aload_n 0, 1) := by decide +kernel
theorem dX8_forces_20 : decode cX8_forces 20 = .ok (.getfield 46, 3) := by decide +kernel
theorem dX8_forces_23 : decode cX8_forces 23 = .ok (.iload_n 1, 1) := by decide +kernel
theorem dX8_forces_24 : decode cX8_forces 24 = .ok (.iaload, 1) := by decide +kernel
theorem dX8_forces_25 : decode cX8_forces 25 = .ok (.if_icmp .ge 55, 3) := by decide +kernel
theorem dX8_forces_28 : decode cX8_forces 28 = .ok (.iload_n 3, 1) := by decide +kernel
theorem dX8_forces_29 : decode cX8_forces 29 = .ok (.bipush 24, 2) := by decide +kernel
theorem dX8_forces_31 : decode cX8_forces 31 = .ok (.if_icmp .ge 49, 3) := by decide +kernel
theorem dX8_forces_34 : decode cX8_forces 34 = .ok (.aload_n 0, 1) := by decide +kernel
theorem dX8_forces_35 : decode cX8_forces 35 = .ok (.getfield 49, 3) := by decide +kernel
theorem dX8_forces_38 : decode cX8_forces 38 = .ok (.bipush 24, 2) := by decide +kernel
theorem dX8_forces_40 : decode cX8_forces 40 = .ok (.iload_n 1, 1) := by decide +kernel
theorem dX8_forces_41 : decode cX8_forces 41 = .ok (.imul, 1) := by decide +kernel
theorem dX8_forces_42 : decode cX8_forces 42 = .ok (.iload_n 3, 1) := by decide +kernel
theorem dX8_forces_43 : decode cX8_forces 43 = .ok (.iadd, 1) := by decide +kernel
theorem dX8_forces_44 : decode cX8_forces 44 = .ok (.iaload, 1) := by decide +kernel
theorem dX8_forces_45 : decode cX8_forces 45 = .ok (.iconst 0, 1) := by decide +kernel
theorem dX8_forces_46 : decode cX8_forces 46 = .ok (.bipush 99, 2) := by decide +kernel
theorem dX8_forces_48 : decode cX8_forces 48 = .ok (.invokestatic 56, 3) := by decide +kernel
theorem dX8_forces_51 : decode cX8_forces 51 = .ok (.ifCond .eq 29, 3) := by decide +kernel
theorem dX8_forces_54 : decode cX8_forces 54 = .ok (.aload_n 0, 1) := by decide +kernel
theorem dX8_forces_55 : decode cX8_forces 55 = .ok (.getfield 7, 3) := by decide +kernel
theorem dX8_forces_58 : decode cX8_forces 58 = .ok (.bipush 6, 2) := by decide +kernel
theorem dX8_forces_60 : decode cX8_forces 60 = .ok (.iload_n 3, 1) := by decide +kernel
theorem dX8_forces_61 : decode cX8_forces 61 = .ok (.iadd, 1) := by decide +kernel
theorem dX8_forces_62 : decode cX8_forces 62 = .ok (.aload_n 0, 1) := by decide +kernel
theorem dX8_forces_63 : decode cX8_forces 63 = .ok (.getfield 49, 3) := by decide +kernel
theorem dX8_forces_66 : decode cX8_forces 66 = .ok (.bipush 24, 2) := by decide +kernel
theorem dX8_forces_68 : decode cX8_forces 68 = .ok (.iload_n 1, 1) := by decide +kernel
theorem dX8_forces_69 : decode cX8_forces 69 = .ok (.imul, 1) := by decide +kernel
theorem dX8_forces_70 : decode cX8_forces 70 = .ok (.iload_n 3, 1) := by decide +kernel
theorem dX8_forces_71 : decode cX8_forces 71 = .ok (.iadd, 1) := by decide +kernel
theorem dX8_forces_72 : decode cX8_forces 72 = .ok (.iaload, 1) := by decide +kernel
theorem dX8_forces_73 : decode cX8_forces 73 = .ok (.iastore, 1) := by decide +kernel
theorem dX8_forces_74 : decode cX8_forces 74 = .ok (.iinc 3 1, 3) := by decide +kernel
theorem dX8_forces_77 : decode cX8_forces 77 = .ok (.goto (-59), 3) := by decide +kernel
theorem dX8_forces_80 : decode cX8_forces 80 = .ok (.iload_n 3, 1) := by decide +kernel
theorem dX8_forces_81 : decode cX8_forces 81 = .ok (.ireturn, 1) := by decide +kernel
theorem dX8_judge_0 : decode cX8_judge 0 = .ok (.aload_n 0, 1) := by decide +kernel
theorem dX8_judge_1 : decode cX8_judge 1 = .ok (.iload_n 1, 1) := by decide +kernel
theorem dX8_judge_2 : decode cX8_judge 2 = .ok (.invokevirtual 284, 3) := by decide +kernel
theorem dX8_judge_5 : decode cX8_judge 5 = .ok (.istore_n 2, 1) := by decide +kernel
theorem dX8_judge_6 : decode cX8_judge 6 = .ok (.iload_n 2, 1) := by decide +kernel
theorem dX8_judge_7 : decode cX8_judge 7 = .ok (.ifCond .le 9, 3) := by decide +kernel
theorem dX8_judge_10 : decode cX8_judge 10 = .ok (.aload_n 0, 1) := by decide +kernel
theorem dX8_judge_11 : decode cX8_judge 11 = .ok (.iload_n 2, 1) := by decide +kernel
theorem dX8_judge_12 : decode cX8_judge 12 = .ok (.invokevirtual 76, 3) := by decide +kernel
theorem dX8_judge_15 : decode cX8_judge 15 = .ok (.ireturn, 1) := by decide +kernel
theorem dX8_judge_16 : decode cX8_judge 16 = .ok (.aload_n 0, 1) := by decide +kernel
theorem dX8_judge_17 : decode cX8_judge 17 = .ok (.invokevirtual 103, 3) := by decide +kernel
theorem dX8_judge_20 : decode cX8_judge 20 = .ok (.iconst 0, 1) := by decide +kernel
theorem dX8_judge_21 : decode cX8_judge 21 = .ok (.istore_n 3, 1) := by decide +kernel
theorem dX8_judge_22 : decode cX8_judge 22 = .ok (.iload_n 3, 1) := by decide +kernel
theorem dX8_judge_23 : decode cX8_judge 23 = .ok (.aload_n 0, 1) := by decide +kernel
theorem dX8_judge_24 : decode cX8_judge 24 = .ok (.getfield 46, 3) := by decide +kernel
theorem dX8_judge_27 : decode cX8_judge 27 = .ok (.iload_n 1, 1) := by decide +kernel
theorem dX8_judge_28 : decode cX8_judge 28 = .ok (.iaload, 1) := by decide +kernel
theorem dX8_judge_29 : decode cX8_judge 29 = .ok (.if_icmp .ge 35, 3) := by decide +kernel
theorem dX8_judge_32 : decode cX8_judge 32 = .ok (.iload_n 3, 1) := by decide +kernel
theorem dX8_judge_33 : decode cX8_judge 33 = .ok (.bipush 12, 2) := by decide +kernel
theorem dX8_judge_35 : decode cX8_judge 35 = .ok (.if_icmp .ge 29, 3) := by decide +kernel
theorem dX8_judge_38 : decode cX8_judge 38 = .ok (.aload_n 0, 1) := by decide +kernel
theorem dX8_judge_39 : decode cX8_judge 39 = .ok (.getfield 49, 3) := by decide +kernel
theorem dX8_judge_42 : decode cX8_judge 42 = .ok (.bipush 24, 2) := by decide +kernel
theorem dX8_judge_44 : decode cX8_judge 44 = .ok (.iload_n 1, 1) := by decide +kernel
theorem dX8_judge_45 : decode cX8_judge 45 = .ok (.imul, 1) := by decide +kernel
theorem dX8_judge_46 : decode cX8_judge 46 = .ok (.iload_n 3, 1) := by decide +kernel
theorem dX8_judge_47 : decode cX8_judge 47 = .ok (.iadd, 1) := by decide +kernel
theorem dX8_judge_48 : decode cX8_judge 48 = .ok (.iaload, 1) := by decide +kernel
theorem dX8_judge_49 : decode cX8_judge 49 = .ok (.aload_n 0, 1) := by decide +kernel
theorem dX8_judge_50 : decode cX8_judge 50 = .ok (.getfield 31, 3) := by decide +kernel
theorem dX8_judge_53 : decode cX8_judge 53 = .ok (.iload_n 3, 1) := by decide +kernel
theorem dX8_judge_54 : decode cX8_judge 54 = .ok (.iaload, 1) := by decide +kernel
theorem dX8_judge_55 : decode cX8_judge 55 = .ok (.if_icmp .ne 9, 3) := by decide +kernel
theorem dX8_judge_58 : decode cX8_judge 58 = .ok (.iinc 3 1, 3) := by decide +kernel
theorem dX8_judge_61 : decode cX8_judge 61 = .ok (.goto (-39), 3) := by decide +kernel
theorem dX8_judge_64 : decode cX8_judge 64 = .ok (.iload_n 3, 1) := by decide +kernel
theorem dX8_judge_65 : decode cX8_judge 65 = .ok (.ireturn, 1) := by decide +kernel
theorem dX8_image_0 : decode cX8_image 0 = .ok (.aload_n 0, 1) := by decide +kernel
theorem dX8_image_1 : decode cX8_image 1 = .ok (.getfield 7, 3) := by decide +kernel
theorem dX8_image_4 : decode cX8_image 4 = .ok (.aload_n 0, 1) := by decide +kernel
theorem dX8_image_5 : decode cX8_image 5 = .ok (.getfield 13, 3) := by decide +kernel
theorem dX8_image_8 : decode cX8_image 8 = .ok (.invokestatic 226, 3) := by decide +kernel
theorem dX8_image_11 : decode cX8_image 11 = .ok (.aload_n 0, 1) := by decide +kernel
theorem dX8_image_12 : decode cX8_image 12 = .ok (.dup, 1) := by decide +kernel
theorem dX8_image_13 : decode cX8_image 13 = .ok (.getfield 287, 3) := by decide +kernel
theorem dX8_image_16 : decode cX8_image 16 = .ok (.iconst 1, 1) := by decide +kernel
theorem dX8_image_17 : decode cX8_image 17 = .ok (.iadd, 1) := by decide +kernel
theorem dX8_image_18 : decode cX8_image 18 = .ok (.putfield 287, 3) := by decide +kernel
theorem dX8_image_21 : decode cX8_image 21 = .ok (.aload_n 0, 1) := by decide +kernel
theorem dX8_image_22 : decode cX8_image 22 = .ok (.getfield 287, 3) := by decide +kernel
theorem dX8_image_25 : decode cX8_image 25 = .ok (.ireturn, 1) := by decide +kernel
theorem dX8_restore_0 : decode cX8_restore 0 = .ok (.aload_n 0, 1) := by decide +kernel
theorem dX8_restore_1 : decode cX8_restore 1 = .ok (.getfield 287, 3) := by decide +kernel
theorem dX8_restore_4 : decode cX8_restore 4 = .ok (.ifCond .ne 9, 3) := by decide +kernel
theorem dX8_restore_7 : decode cX8_restore 7 = .ok (.aload_n 0, 1) := by decide +kernel
theorem dX8_restore_8 : decode cX8_restore 8 = .ok (.iconst 2, 1) := by decide +kernel
theorem dX8_restore_9 : decode cX8_restore 9 = .ok (.invokevirtual 76, 3) := by decide +kernel
theorem dX8_restore_12 : decode cX8_restore 12 = .ok (.ireturn, 1) := by decide +kernel
theorem dX8_restore_13 : decode cX8_restore 13 = .ok (.aload_n 0, 1) := by decide +kernel
theorem dX8_restore_14 : decode cX8_restore 14 = .ok (.getfield 13, 3) := by decide +kernel
theorem dX8_restore_17 : decode cX8_restore 17 = .ok (.aload_n 0, 1) := by decide +kernel
theorem dX8_restore_18 : decode cX8_restore 18 = .ok (.getfield 7, 3) := by decide +kernel
theorem dX8_restore_21 : decode cX8_restore 21 = .ok (.invokestatic 226, 3) := by decide +kernel
theorem dX8_restore_24 : decode cX8_restore 24 = .ok (.aload_n 0, 1) := by decide +kernel
theorem dX8_restore_25 : decode cX8_restore 25 = .ok (.getfield 7, 3) := by decide +kernel
theorem dX8_restore_28 : decode cX8_restore 28 = .ok (.iconst 1, 1) := by decide +kernel
theorem dX8_restore_29 : decode cX8_restore 29 = .ok (.iaload, 1) := by decide +kernel
theorem dX8_restore_30 : decode cX8_restore 30 = .ok (.ireturn, 1) := by decide +kernel
theorem dX8_tell_0 : decode cX8_tell 0 = .ok (.aload_n 0, 1) := by decide +kernel
theorem dX8_tell_1 : decode cX8_tell 1 = .ok (.getfield 7, 3) := by decide +kernel
theorem dX8_tell_4 : decode cX8_tell 4 = .ok (.iconst 4, 1) := by decide +kernel
theorem dX8_tell_5 : decode cX8_tell 5 = .ok (.iaload, 1) := by decide +kernel
theorem dX8_tell_6 : decode cX8_tell 6 = .ok (.bipush 24, 2) := by decide +kernel
theorem dX8_tell_8 : decode cX8_tell 8 = .ok (.if_icmp .ne 9, 3) := by decide +kernel
theorem dX8_tell_11 : decode cX8_tell 11 = .ok (.aload_n 0, 1) := by decide +kernel
theorem dX8_tell_12 : decode cX8_tell 12 = .ok (.iconst 4, 1) := by decide +kernel
theorem dX8_tell_13 : decode cX8_tell 13 = .ok (.invokevirtual 76, 3) := by decide +kernel
theorem dX8_tell_16 : decode cX8_tell 16 = .ok (.ireturn, 1) := by decide +kernel
theorem dX8_tell_17 : decode cX8_tell 17 = .ok (.aload_n 0, 1) := by decide +kernel
theorem dX8_tell_18 : decode cX8_tell 18 = .ok (.getfield 7, 3) := by decide +kernel
theorem dX8_tell_21 : decode cX8_tell 21 = .ok (.sipush 425, 3) := by decide +kernel
theorem dX8_tell_24 : decode cX8_tell 24 = .ok (.aload_n 0, 1) := by decide +kernel
theorem dX8_tell_25 : decode cX8_tell 25 = .ok (.getfield 7, 3) := by decide +kernel
theorem dX8_tell_28 : decode cX8_tell 28 = .ok (.iconst 4, 1) := by decide +kernel
theorem dX8_tell_29 : decode cX8_tell 29 = .ok (.iaload, 1) := by decide +kernel
theorem dX8_tell_30 : decode cX8_tell 30 = .ok (.iadd, 1) := by decide +kernel
theorem dX8_tell_31 : decode cX8_tell 31 = .ok (.iload_n 1, 1) := by decide +kernel
theorem dX8_tell_32 : decode cX8_tell 32 = .ok (.iastore, 1) := by decide +kernel
theorem dX8_tell_33 : decode cX8_tell 33 = .ok (.aload_n 0, 1) := by decide +kernel
theorem dX8_tell_34 : decode cX8_tell 34 = .ok (.getfield 7, 3) := by decide +kernel
theorem dX8_tell_37 : decode cX8_tell 37 = .ok (.iconst 4, 1) := by decide +kernel
theorem dX8_tell_38 : decode cX8_tell 38 = .ok (.dup2, 1) := by decide +kernel
theorem dX8_tell_39 : decode cX8_tell 39 = .ok (.iaload, 1) := by decide +kernel
theorem dX8_tell_40 : decode cX8_tell 40 = .ok (.iconst 1, 1) := by decide +kernel
theorem dX8_tell_41 : decode cX8_tell 41 = .ok (.iadd, 1) := by decide +kernel
theorem dX8_tell_42 : decode cX8_tell 42 = .ok (.iastore, 1) := by decide +kernel
theorem dX8_tell_43 : decode cX8_tell 43 = .ok (.aload_n 0, 1) := by decide +kernel
theorem dX8_tell_44 : decode cX8_tell 44 = .ok (.getfield 7, 3) := by decide +kernel
theorem dX8_tell_47 : decode cX8_tell 47 = .ok (.iconst 4, 1) := by decide +kernel
theorem dX8_tell_48 : decode cX8_tell 48 = .ok (.iaload, 1) := by decide +kernel
theorem dX8_tell_49 : decode cX8_tell 49 = .ok (.ireturn, 1) := by decide +kernel
theorem dX8_check_0 : decode cX8_check 0 = .ok (.aload_n 0, 1) := by decide +kernel
theorem dX8_check_1 : decode cX8_check 1 = .ok (.getfield 7, 3) := by decide +kernel
theorem dX8_check_4 : decode cX8_check 4 = .ok (.iconst 4, 1) := by decide +kernel
theorem dX8_check_5 : decode cX8_check 5 = .ok (.iaload, 1) := by decide +kernel
theorem dX8_check_6 : decode cX8_check 6 = .ok (.istore_n 2, 1) := by decide +kernel
theorem dX8_check_7 : decode cX8_check 7 = .ok (.aload_n 0, 1) := by decide +kernel
theorem dX8_check_8 : decode cX8_check 8 = .ok (.getfield 7, 3) := by decide +kernel
theorem dX8_check_11 : decode cX8_check 11 = .ok (.iconst 4, 1) := by decide +kernel
theorem dX8_check_12 : decode cX8_check 12 = .ok (.iconst 0, 1) := by decide +kernel
theorem dX8_check_13 : decode cX8_check 13 = .ok (.iastore, 1) := by decide +kernel
theorem dX8_check_14 : decode cX8_check 14 = .ok (.aload_n 0, 1) := by decide +kernel
theorem dX8_check_15 : decode cX8_check 15 = .ok (.iload_n 1, 1) := by decide +kernel
theorem dX8_check_16 : decode cX8_check 16 = .ok (.invokevirtual 112, 3) := by decide +kernel
theorem dX8_check_19 : decode cX8_check 19 = .ok (.ifCond .ne 9, 3) := by decide +kernel
theorem dX8_check_22 : decode cX8_check 22 = .ok (.aload_n 0, 1) := by decide +kernel
theorem dX8_check_23 : decode cX8_check 23 = .ok (.iconst 1, 1) := by decide +kernel
theorem dX8_check_24 : decode cX8_check 24 = .ok (.invokevirtual 76, 3) := by decide +kernel
theorem dX8_check_27 : decode cX8_check 27 = .ok (.ireturn, 1) := by decide +kernel
theorem dX8_check_28 : decode cX8_check 28 = .ok (.aload_n 0, 1) := by decide +kernel
theorem dX8_check_29 : decode cX8_check 29 = .ok (.getfield 7, 3) := by decide +kernel
theorem dX8_check_32 : decode cX8_check 32 = .ok (.aload_n 0, 1) := by decide +kernel
theorem dX8_check_33 : decode cX8_check 33 = .ok (.getfield 16, 3) := by decide +kernel
theorem dX8_check_36 : decode cX8_check 36 = .ok (.invokestatic 226, 3) := by decide +kernel
theorem dX8_check_39 : decode cX8_check 39 = .ok (.iconst 0, 1) := by decide +kernel
theorem dX8_check_40 : decode cX8_check 40 = .ok (.istore_n 3, 1) := by decide +kernel
theorem dX8_check_41 : decode cX8_check 41 = .ok (.iconst 1, 1) := by decide +kernel
theorem dX8_check_42 : decode cX8_check 42 = .ok (.istore 4, 2) := by decide +kernel
theorem dX8_check_44 : decode cX8_check 44 = .ok (.iload_n 3, 1) := by decide +kernel
theorem dX8_check_45 : decode cX8_check 45 = .ok (.iload_n 2, 1) := by decide +kernel
theorem dX8_check_46 : decode cX8_check 46 = .ok (.if_icmp .ge 54, 3) := by decide +kernel
theorem dX8_check_49 : decode cX8_check 49 = .ok (.iload 4, 2) := by decide +kernel
theorem dX8_check_51 : decode cX8_check 51 = .ok (.ifCond .eq 49, 3) := by decide +kernel
theorem dX8_check_54 : decode cX8_check 54 = .ok (.aload_n 0, 1) := by decide +kernel
theorem dX8_check_55 : decode cX8_check 55 = .ok (.invokevirtual 209, 3) := by decide +kernel
theorem dX8_check_58 : decode cX8_check 58 = .ok (.aload_n 0, 1) := by decide +kernel
theorem dX8_check_59 : decode cX8_check 59 = .ok (.getfield 7, 3) := by decide +kernel
theorem dX8_check_62 : decode cX8_check 62 = .ok (.sipush 425, 3) := by decide +kernel
theorem dX8_check_65 : decode cX8_check 65 = .ok (.iload_n 3, 1) := by decide +kernel
theorem dX8_check_66 : decode cX8_check 66 = .ok (.iadd, 1) := by decide +kernel
theorem dX8_check_67 : decode cX8_check 67 = .ok (.iaload, 1) := by decide +kernel
theorem dX8_check_68 : decode cX8_check 68 = .ok (.aload_n 0, 1) := by decide +kernel
theorem dX8_check_69 : decode cX8_check 69 = .ok (.iload_n 1, 1) := by decide +kernel
theorem dX8_check_70 : decode cX8_check 70 = .ok (.iconst 5, 1) := by decide +kernel
theorem dX8_check_71 : decode cX8_check 71 = .ok (.invokevirtual 90, 3) := by decide +kernel
theorem dX8_check_74 : decode cX8_check 74 = .ok (.if_icmp .ne 7, 3) := by decide +kernel
theorem dX8_check_77 : decode cX8_check 77 = .ok (.iconst 1, 1) := by decide +kernel
theorem dX8_check_78 : decode cX8_check 78 = .ok (.goto 4, 3) := by decide +kernel
theorem dX8_check_81 : decode cX8_check 81 = .ok (.iconst 0, 1) := by decide +kernel
theorem dX8_check_82 : decode cX8_check 82 = .ok (.istore 4, 2) := by decide +kernel
theorem dX8_check_84 : decode cX8_check 84 = .ok (.iload_n 3, 1) := by decide +kernel
theorem dX8_check_85 : decode cX8_check 85 = .ok (.iload 4, 2) := by decide +kernel
theorem dX8_check_87 : decode cX8_check 87 = .ok (.ifCond .eq 7, 3) := by decide +kernel
theorem dX8_check_90 : decode cX8_check 90 = .ok (.iconst 1, 1) := by decide +kernel
theorem dX8_check_91 : decode cX8_check 91 = .ok (.goto 4, 3) := by decide +kernel
theorem dX8_check_94 : decode cX8_check 94 = .ok (.iconst 0, 1) := by decide +kernel
theorem dX8_check_95 : decode cX8_check 95 = .ok (.iadd, 1) := by decide +kernel
theorem dX8_check_96 : decode cX8_check 96 = .ok (.istore_n 3, 1) := by decide +kernel
theorem dX8_check_97 : decode cX8_check 97 = .ok (.goto (-53), 3) := by decide +kernel
theorem dX8_check_100 : decode cX8_check 100 = .ok (.aload_n 0, 1) := by decide +kernel
theorem dX8_check_101 : decode cX8_check 101 = .ok (.getfield 16, 3) := by decide +kernel
theorem dX8_check_104 : decode cX8_check 104 = .ok (.aload_n 0, 1) := by decide +kernel
theorem dX8_check_105 : decode cX8_check 105 = .ok (.getfield 7, 3) := by decide +kernel
theorem dX8_check_108 : decode cX8_check 108 = .ok (.invokestatic 226, 3) := by decide +kernel
theorem dX8_check_111 : decode cX8_check 111 = .ok (.iload 4, 2) := by decide +kernel
theorem dX8_check_113 : decode cX8_check 113 = .ok (.ifCond .eq 7, 3) := by decide +kernel
theorem dX8_check_116 : decode cX8_check 116 = .ok (.iconst 0, 1) := by decide +kernel
theorem dX8_check_117 : decode cX8_check 117 = .ok (.goto 6, 3) := by decide +kernel
theorem dX8_check_120 : decode cX8_check 120 = .ok (.iconst 1, 1) := by decide +kernel
theorem dX8_check_121 : decode cX8_check 121 = .ok (.iload_n 3, 1) := by decide +kernel
theorem dX8_check_122 : decode cX8_check 122 = .ok (.iadd, 1) := by decide +kernel
theorem dX8_check_123 : decode cX8_check 123 = .ok (.ireturn, 1) := by decide +kernel
theorem dX8_count_0 : decode cX8_count 0 = .ok (.iload_n 1, 1) := by decide +kernel
theorem dX8_count_1 : decode cX8_count 1 = .ok (.bipush 11, 2) := by decide +kernel
theorem dX8_count_3 : decode cX8_count 3 = .ok (.bipush 22, 2) := by decide +kernel
theorem dX8_count_5 : decode cX8_count 5 = .ok (.invokestatic 56, 3) := by decide +kernel
theorem dX8_count_8 : decode cX8_count 8 = .ok (.ifCond .eq 16, 3) := by decide +kernel
theorem dX8_count_11 : decode cX8_count 11 = .ok (.aload_n 0, 1) := by decide +kernel
theorem dX8_count_12 : decode cX8_count 12 = .ok (.getfield 7, 3) := by decide +kernel
theorem dX8_count_15 : decode cX8_count 15 = .ok (.bipush 30, 2) := by decide +kernel
theorem dX8_count_17 : decode cX8_count 17 = .ok (.iload_n 1, 1) := by decide +kernel
theorem dX8_count_18 : decode cX8_count 18 = .ok (.iadd, 1) := by decide +kernel
theorem dX8_count_19 : decode cX8_count 19 = .ok (.bipush 11, 2) := by decide +kernel
theorem dX8_count_21 : decode cX8_count 21 = .ok (.isub, 1) := by decide +kernel
theorem dX8_count_22 : decode cX8_count 22 = .ok (.iaload, 1) := by decide +kernel
theorem dX8_count_23 : decode cX8_count 23 = .ok (.ireturn, 1) := by decide +kernel
theorem dX8_count_24 : decode cX8_count 24 = .ok (.aload_n 0, 1) := by decide +kernel
theorem dX8_count_25 : decode cX8_count 25 = .ok (.invokevirtual 103, 3) := by decide +kernel
theorem dX8_count_28 : decode cX8_count 28 = .ok (.iload_n 1, 1) := by decide +kernel
theorem dX8_count_29 : decode cX8_count 29 = .ok (.tableswitch 137 0 10 #[59, 66, 73, 86, 94, 99, 106, 111, 118, 125, 130], 59) := by decide +kernel
theorem dX8_count_88 : decode cX8_count 88 = .ok (.aload_n 0, 1) := by decide +kernel
theorem dX8_count_89 : decode cX8_count 89 = .ok (.getfield 7, 3) := by decide +kernel
theorem dX8_count_92 : decode cX8_count 92 = .ok (.iconst 0, 1) := by decide +kernel
theorem dX8_count_93 : decode cX8_count 93 = .ok (.iaload, 1) := by decide +kernel
theorem dX8_count_94 : decode cX8_count 94 = .ok (.ireturn, 1) := by decide +kernel
theorem dX8_count_95 : decode cX8_count 95 = .ok (.aload_n 0, 1) := by decide +kernel
theorem dX8_count_96 : decode cX8_count 96 = .ok (.getfield 7, 3) := by decide +kernel
theorem dX8_count_99 : decode cX8_count 99 = .ok (.iconst 1, 1) := by decide +kernel
theorem dX8_count_100 : decode cX8_count 100 = .ok (.iaload, 1) := by decide +kernel
theorem dX8_count_101 : decode cX8_count 101 = .ok (.ireturn, 1) := by decide +kernel
theorem dX8_count_102 : decode cX8_count 102 = .ok (.aload_n 0, 1) := by decide +kernel
theorem dX8_count_103 : decode cX8_count 103 = .ok (.getfield 7, 3) := by decide +kernel
theorem dX8_count_106 : decode cX8_count 106 = .ok (.bipush 6, 2) := by decide +kernel
theorem dX8_count_108 : decode cX8_count 108 = .ok (.aload_n 0, 1) := by decide +kernel
theorem dX8_count_109 : decode cX8_count 109 = .ok (.invokevirtual 179, 3) := by decide +kernel
theorem dX8_count_112 : decode cX8_count 112 = .ok (.iadd, 1) := by decide +kernel
theorem dX8_count_113 : decode cX8_count 113 = .ok (.iaload, 1) := by decide +kernel
theorem dX8_count_114 : decode cX8_count 114 = .ok (.ireturn, 1) := by decide +kernel
theorem dX8_count_115 : decode cX8_count 115 = .ok (.aload_n 0, 1) := by decide +kernel
theorem dX8_count_116 : decode cX8_count 116 = .ok (.getfield 31, 3) := by decide +kernel
theorem dX8_count_119 : decode cX8_count 119 = .ok (.bipush 12, 2) := by decide +kernel
theorem dX8_count_121 : decode cX8_count 121 = .ok (.iaload, 1) := by decide +kernel
theorem dX8_count_122 : decode cX8_count 122 = .ok (.ireturn, 1) := by decide +kernel
theorem dX8_count_123 : decode cX8_count 123 = .ok (.aload_n 0, 1) := by decide +kernel
theorem dX8_count_124 : decode cX8_count 124 = .ok (.getfield 194, 3) := by decide +kernel
theorem dX8_count_127 : decode cX8_count 127 = .ok (.ireturn, 1) := by decide +kernel
theorem dX8_count_128 : decode cX8_count 128 = .ok (.aload_n 0, 1) := by decide +kernel
theorem dX8_count_129 : decode cX8_count 129 = .ok (.getfield 7, 3) := by decide +kernel
theorem dX8_count_132 : decode cX8_count 132 = .ok (.iconst 2, 1) := by decide +kernel
theorem dX8_count_133 : decode cX8_count 133 = .ok (.iaload, 1) := by decide +kernel
theorem dX8_count_134 : decode cX8_count 134 = .ok (.ireturn, 1) := by decide +kernel
theorem dX8_count_135 : decode cX8_count 135 = .ok (.aload_n 0, 1) := by decide +kernel
theorem dX8_count_136 : decode cX8_count 136 = .ok (.invokevirtual 216, 3) := by decide +kernel
theorem dX8_count_139 : decode cX8_count 139 = .ok (.ireturn, 1) := by decide +kernel
theorem dX8_count_140 : decode cX8_count 140 = .ok (.aload_n 0, 1) := by decide +kernel
theorem dX8_count_141 : decode cX8_count 141 = .ok (.getfield 7, 3) := by decide +kernel
theorem dX8_count_144 : decode cX8_count 144 = .ok (.iconst 3, 1) := by decide +kernel
theorem dX8_count_145 : decode cX8_count 145 = .ok (.iaload, 1) := by decide +kernel
theorem dX8_count_146 : decode cX8_count 146 = .ok (.ireturn, 1) := by decide +kernel
theorem dX8_count_147 : decode cX8_count 147 = .ok (.aload_n 0, 1) := by decide +kernel
theorem dX8_count_148 : decode cX8_count 148 = .ok (.getfield 7, 3) := by decide +kernel
theorem dX8_count_151 : decode cX8_count 151 = .ok (.iconst 4, 1) := by decide +kernel
theorem dX8_count_152 : decode cX8_count 152 = .ok (.iaload, 1) := by decide +kernel
theorem dX8_count_153 : decode cX8_count 153 = .ok (.ireturn, 1) := by decide +kernel
theorem dX8_count_154 : decode cX8_count 154 = .ok (.aload_n 0, 1) := by decide +kernel
theorem dX8_count_155 : decode cX8_count 155 = .ok (.getfield 247, 3) := by decide +kernel
theorem dX8_count_158 : decode cX8_count 158 = .ok (.ireturn, 1) := by decide +kernel
theorem dX8_count_159 : decode cX8_count 159 = .ok (.aload_n 0, 1) := by decide +kernel
theorem dX8_count_160 : decode cX8_count 160 = .ok (.getfield 7, 3) := by decide +kernel
theorem dX8_count_163 : decode cX8_count 163 = .ok (.iconst 5, 1) := by decide +kernel
theorem dX8_count_164 : decode cX8_count 164 = .ok (.iaload, 1) := by decide +kernel
theorem dX8_count_165 : decode cX8_count 165 = .ok (.ireturn, 1) := by decide +kernel
theorem dX8_count_166 : decode cX8_count 166 = .ok (.aload_n 0, 1) := by decide +kernel
theorem dX8_count_167 : decode cX8_count 167 = .ok (.iconst 1, 1) := by decide +kernel
theorem dX8_count_168 : decode cX8_count 168 = .ok (.invokevirtual 76, 3) := by decide +kernel
theorem dX8_count_171 : decode cX8_count 171 = .ok (.ireturn, 1) := by decide +kernel
theorem dX8_told_0 : decode cX8_told 0 = .ok (.iload_n 1, 1) := by decide +kernel
theorem dX8_told_1 : decode cX8_told 1 = .ok (.iconst 1, 1) := by decide +kernel
theorem dX8_told_2 : decode cX8_told 2 = .ok (.bipush 6, 2) := by decide +kernel
theorem dX8_told_4 : decode cX8_told 4 = .ok (.invokestatic 56, 3) := by decide +kernel
theorem dX8_told_7 : decode cX8_told 7 = .ok (.ifCond .eq 12, 3) := by decide +kernel
theorem dX8_told_10 : decode cX8_told 10 = .ok (.aload_n 0, 1) := by decide +kernel
theorem dX8_told_11 : decode cX8_told 11 = .ok (.getfield 19, 3) := by decide +kernel
theorem dX8_told_14 : decode cX8_told 14 = .ok (.iload_n 1, 1) := by decide +kernel
theorem dX8_told_15 : decode cX8_told 15 = .ok (.iaload, 1) := by decide +kernel
theorem dX8_told_16 : decode cX8_told 16 = .ok (.goto 8, 3) := by decide +kernel
theorem dX8_told_19 : decode cX8_told 19 = .ok (.aload_n 0, 1) := by decide +kernel
theorem dX8_told_20 : decode cX8_told 20 = .ok (.iconst 1, 1) := by decide +kernel
theorem dX8_told_21 : decode cX8_told 21 = .ok (.invokevirtual 76, 3) := by decide +kernel
theorem dX8_told_24 : decode cX8_told 24 = .ok (.ireturn, 1) := by decide +kernel
theorem dJ11_isValidCodePoint_9a6ad_0 : decode cJ11_isValidCodePoint_9a6ad 0 = .ok (.iload_n 0, 1) := by decide +kernel
theorem dJ11_isValidCodePoint_9a6ad_1 : decode cJ11_isValidCodePoint_9a6ad 1 = .ok (.bipush 16, 2) := by decide +kernel
theorem dJ11_isValidCodePoint_9a6ad_3 : decode cJ11_isValidCodePoint_9a6ad 3 = .ok (.iushr, 1) := by decide +kernel
theorem dJ11_isValidCodePoint_9a6ad_4 : decode cJ11_isValidCodePoint_9a6ad 4 = .ok (.istore_n 1, 1) := by decide +kernel
theorem dJ11_isValidCodePoint_9a6ad_5 : decode cJ11_isValidCodePoint_9a6ad 5 = .ok (.iload_n 1, 1) := by decide +kernel
theorem dJ11_isValidCodePoint_9a6ad_6 : decode cJ11_isValidCodePoint_9a6ad 6 = .ok (.bipush 17, 2) := by decide +kernel
theorem dJ11_isValidCodePoint_9a6ad_8 : decode cJ11_isValidCodePoint_9a6ad 8 = .ok (.if_icmp .ge 7, 3) := by decide +kernel
theorem dJ11_isValidCodePoint_9a6ad_11 : decode cJ11_isValidCodePoint_9a6ad 11 = .ok (.iconst 1, 1) := by decide +kernel
theorem dJ11_isValidCodePoint_9a6ad_12 : decode cJ11_isValidCodePoint_9a6ad 12 = .ok (.goto 4, 3) := by decide +kernel
theorem dJ11_isValidCodePoint_9a6ad_15 : decode cJ11_isValidCodePoint_9a6ad 15 = .ok (.iconst 0, 1) := by decide +kernel
theorem dJ11_isValidCodePoint_9a6ad_16 : decode cJ11_isValidCodePoint_9a6ad 16 = .ok (.ireturn, 1) := by decide +kernel
theorem dJ11_highSurrogate_5068e_0 : decode cJ11_highSurrogate_5068e 0 = .ok (.iload_n 0, 1) := by decide +kernel
theorem dJ11_highSurrogate_5068e_1 : decode cJ11_highSurrogate_5068e 1 = .ok (.bipush 10, 2) := by decide +kernel
theorem dJ11_highSurrogate_5068e_3 : decode cJ11_highSurrogate_5068e 3 = .ok (.iushr, 1) := by decide +kernel
theorem dJ11_highSurrogate_5068e_4 : decode cJ11_highSurrogate_5068e 4 = .ok (.ldc 110, 2) := by decide +kernel
theorem dJ11_highSurrogate_5068e_6 : decode cJ11_highSurrogate_5068e 6 = .ok (.iadd, 1) := by decide +kernel
theorem dJ11_highSurrogate_5068e_7 : decode cJ11_highSurrogate_5068e 7 = .ok (.i2c, 1) := by decide +kernel
theorem dJ11_highSurrogate_5068e_8 : decode cJ11_highSurrogate_5068e 8 = .ok (.ireturn, 1) := by decide +kernel
theorem dJ11_lowSurrogate_5068e_0 : decode cJ11_lowSurrogate_5068e 0 = .ok (.iload_n 0, 1) := by decide +kernel
theorem dJ11_lowSurrogate_5068e_1 : decode cJ11_lowSurrogate_5068e 1 = .ok (.sipush 1023, 3) := by decide +kernel
theorem dJ11_lowSurrogate_5068e_4 : decode cJ11_lowSurrogate_5068e 4 = .ok (.iand, 1) := by decide +kernel
theorem dJ11_lowSurrogate_5068e_5 : decode cJ11_lowSurrogate_5068e 5 = .ok (.ldc 76, 2) := by decide +kernel
theorem dJ11_lowSurrogate_5068e_7 : decode cJ11_lowSurrogate_5068e 7 = .ok (.iadd, 1) := by decide +kernel
theorem dJ11_lowSurrogate_5068e_8 : decode cJ11_lowSurrogate_5068e 8 = .ok (.i2c, 1) := by decide +kernel
theorem dJ11_lowSurrogate_5068e_9 : decode cJ11_lowSurrogate_5068e 9 = .ok (.ireturn, 1) := by decide +kernel
theorem dJ9_max_7cf53_0 : decode cJ9_max_7cf53 0 = .ok (.iload_n 0, 1) := by decide +kernel
theorem dJ9_max_7cf53_1 : decode cJ9_max_7cf53 1 = .ok (.iload_n 1, 1) := by decide +kernel
theorem dJ9_max_7cf53_2 : decode cJ9_max_7cf53 2 = .ok (.if_icmp .lt 7, 3) := by decide +kernel
theorem dJ9_max_7cf53_5 : decode cJ9_max_7cf53 5 = .ok (.iload_n 0, 1) := by decide +kernel
theorem dJ9_max_7cf53_6 : decode cJ9_max_7cf53 6 = .ok (.goto 4, 3) := by decide +kernel
theorem dJ9_max_7cf53_9 : decode cJ9_max_7cf53 9 = .ok (.iload_n 1, 1) := by decide +kernel
theorem dJ9_max_7cf53_10 : decode cJ9_max_7cf53 10 = .ok (.ireturn, 1) := by decide +kernel
theorem dJ9_min_7cf53_0 : decode cJ9_min_7cf53 0 = .ok (.iload_n 0, 1) := by decide +kernel
theorem dJ9_min_7cf53_1 : decode cJ9_min_7cf53 1 = .ok (.iload_n 1, 1) := by decide +kernel
theorem dJ9_min_7cf53_2 : decode cJ9_min_7cf53 2 = .ok (.if_icmp .gt 7, 3) := by decide +kernel
theorem dJ9_min_7cf53_5 : decode cJ9_min_7cf53 5 = .ok (.iload_n 0, 1) := by decide +kernel
theorem dJ9_min_7cf53_6 : decode cJ9_min_7cf53 6 = .ok (.goto 4, 3) := by decide +kernel
theorem dJ9_min_7cf53_9 : decode cJ9_min_7cf53 9 = .ok (.iload_n 1, 1) := by decide +kernel
theorem dJ9_min_7cf53_10 : decode cJ9_min_7cf53 10 = .ok (.ireturn, 1) := by decide +kernel
theorem dJ0_length_8abf5_0 : decode cJ0_length_8abf5 0 = .ok (.aload_n 0, 1) := by decide +kernel
theorem dJ0_length_8abf5_1 : decode cJ0_length_8abf5 1 = .ok (.getfield 9, 3) := by decide +kernel
theorem dJ0_length_8abf5_4 : decode cJ0_length_8abf5 4 = .ok (.arraylength, 1) := by decide +kernel
theorem dJ0_length_8abf5_5 : decode cJ0_length_8abf5 5 = .ok (.aload_n 0, 1) := by decide +kernel
theorem dJ0_length_8abf5_6 : decode cJ0_length_8abf5 6 = .ok (.invokevirtual 335, 3) := by decide +kernel
theorem dJ0_length_8abf5_9 : decode cJ0_length_8abf5 9 = .ok (.ishr, 1) := by decide +kernel
theorem dJ0_length_8abf5_10 : decode cJ0_length_8abf5 10 = .ok (.ireturn, 1) := by decide +kernel
theorem dJ0_indexOf_0f7a4_0 : decode cJ0_indexOf_0f7a4 0 = .ok (.aload_n 0, 1) := by decide +kernel
theorem dJ0_indexOf_0f7a4_1 : decode cJ0_indexOf_0f7a4 1 = .ok (.iload_n 1, 1) := by decide +kernel
theorem dJ0_indexOf_0f7a4_2 : decode cJ0_indexOf_0f7a4 2 = .ok (.iconst 0, 1) := by decide +kernel
theorem dJ0_indexOf_0f7a4_3 : decode cJ0_indexOf_0f7a4 3 = .ok (.invokevirtual 633, 3) := by decide +kernel
theorem dJ0_indexOf_0f7a4_6 : decode cJ0_indexOf_0f7a4 6 = .ok (.ireturn, 1) := by decide +kernel
theorem dJ0_indexOf_7cf53_0 : decode cJ0_indexOf_7cf53 0 = .ok (.aload_n 0, 1) := by decide +kernel
theorem dJ0_indexOf_7cf53_1 : decode cJ0_indexOf_7cf53 1 = .ok (.invokevirtual 492, 3) := by decide +kernel
theorem dJ0_indexOf_7cf53_4 : decode cJ0_indexOf_7cf53 4 = .ok (.ifCond .eq 19, 3) := by decide +kernel
theorem dJ0_indexOf_7cf53_7 : decode cJ0_indexOf_7cf53 7 = .ok (.aload_n 0, 1) := by decide +kernel
theorem dJ0_indexOf_7cf53_8 : decode cJ0_indexOf_7cf53 8 = .ok (.getfield 9, 3) := by decide +kernel
theorem dJ0_indexOf_7cf53_11 : decode cJ0_indexOf_7cf53 11 = .ok (.iload_n 1, 1) := by decide +kernel
theorem dJ0_indexOf_7cf53_12 : decode cJ0_indexOf_7cf53 12 = .ok (.iload_n 2, 1) := by decide +kernel
theorem dJ0_indexOf_7cf53_13 : decode cJ0_indexOf_7cf53 13 = .ok (.aload_n 0, 1) := by decide +kernel
theorem dJ0_indexOf_7cf53_14 : decode cJ0_indexOf_7cf53 14 = .ok (.invokevirtual 505, 3) := by decide +kernel
theorem dJ0_indexOf_7cf53_17 : decode cJ0_indexOf_7cf53 17 = .ok (.invokestatic 637, 3) := by decide +kernel
theorem dJ0_indexOf_7cf53_20 : decode cJ0_indexOf_7cf53 20 = .ok (.goto 16, 3) := by decide +kernel
theorem dJ0_indexOf_7cf53_23 : decode cJ0_indexOf_7cf53 23 = .ok (.aload_n 0, 1) := by decide +kernel
theorem dJ0_indexOf_7cf53_24 : decode cJ0_indexOf_7cf53 24 = .ok (.getfield 9, 3) := by decide +kernel
theorem dJ0_indexOf_7cf53_27 : decode cJ0_indexOf_7cf53 27 = .ok (.iload_n 1, 1) := by decide +kernel
theorem dJ0_indexOf_7cf53_28 : decode cJ0_indexOf_7cf53 28 = .ok (.iload_n 2, 1) := by decide +kernel
theorem dJ0_indexOf_7cf53_29 : decode cJ0_indexOf_7cf53 29 = .ok (.aload_n 0, 1) := by decide +kernel
theorem dJ0_indexOf_7cf53_30 : decode cJ0_indexOf_7cf53 30 = .ok (.invokevirtual 505, 3) := by decide +kernel
theorem dJ0_indexOf_7cf53_33 : decode cJ0_indexOf_7cf53 33 = .ok (.invokestatic 640, 3) := by decide +kernel
theorem dJ0_indexOf_7cf53_36 : decode cJ0_indexOf_7cf53 36 = .ok (.ireturn, 1) := by decide +kernel
theorem dJ0_coder_7d493_0 : decode cJ0_coder_7d493 0 = .ok (.getstatic 38, 3) := by decide +kernel
theorem dJ0_coder_7d493_3 : decode cJ0_coder_7d493 3 = .ok (.ifCond .eq 10, 3) := by decide +kernel
theorem dJ0_coder_7d493_6 : decode cJ0_coder_7d493 6 = .ok (.aload_n 0, 1) := by decide +kernel
theorem dJ0_coder_7d493_7 : decode cJ0_coder_7d493 7 = .ok (.getfield 15, 3) := by decide +kernel
theorem dJ0_coder_7d493_10 : decode cJ0_coder_7d493 10 = .ok (.goto 4, 3) := by decide +kernel
theorem dJ0_coder_7d493_13 : decode cJ0_coder_7d493 13 = .ok (.iconst 1, 1) := by decide +kernel
theorem dJ0_coder_7d493_14 : decode cJ0_coder_7d493 14 = .ok (.ireturn, 1) := by decide +kernel
theorem dJ0_isLatin1_aae02_0 : decode cJ0_isLatin1_aae02 0 = .ok (.getstatic 38, 3) := by decide +kernel
theorem dJ0_isLatin1_aae02_3 : decode cJ0_isLatin1_aae02 3 = .ok (.ifCond .eq 14, 3) := by decide +kernel
theorem dJ0_isLatin1_aae02_6 : decode cJ0_isLatin1_aae02 6 = .ok (.aload_n 0, 1) := by decide +kernel
theorem dJ0_isLatin1_aae02_7 : decode cJ0_isLatin1_aae02 7 = .ok (.getfield 15, 3) := by decide +kernel
theorem dJ0_isLatin1_aae02_10 : decode cJ0_isLatin1_aae02 10 = .ok (.ifCond .ne 7, 3) := by decide +kernel
theorem dJ0_isLatin1_aae02_13 : decode cJ0_isLatin1_aae02 13 = .ok (.iconst 1, 1) := by decide +kernel
theorem dJ0_isLatin1_aae02_14 : decode cJ0_isLatin1_aae02 14 = .ok (.goto 4, 3) := by decide +kernel
theorem dJ0_isLatin1_aae02_17 : decode cJ0_isLatin1_aae02 17 = .ok (.iconst 0, 1) := by decide +kernel
theorem dJ0_isLatin1_aae02_18 : decode cJ0_isLatin1_aae02 18 = .ok (.ireturn, 1) := by decide +kernel
theorem dJ0_checkBoundsBeginEnd_23922_0 : decode cJ0_checkBoundsBeginEnd_23922 0 = .ok (.iload_n 0, 1) := by decide +kernel
theorem dJ0_checkBoundsBeginEnd_23922_1 : decode cJ0_checkBoundsBeginEnd_23922 1 = .ok (.iload_n 1, 1) := by decide +kernel
theorem dJ0_checkBoundsBeginEnd_23922_2 : decode cJ0_checkBoundsBeginEnd_23922 2 = .ok (.iload_n 2, 1) := by decide +kernel
theorem dJ0_checkBoundsBeginEnd_23922_3 : decode cJ0_checkBoundsBeginEnd_23922 3 = .ok (.getstatic 1053, 3) := by decide +kernel
theorem dJ0_checkBoundsBeginEnd_23922_6 : decode cJ0_checkBoundsBeginEnd_23922 6 = .ok (.invokestatic 1062, 3) := by decide +kernel
theorem dJ0_checkBoundsBeginEnd_23922_9 : decode cJ0_checkBoundsBeginEnd_23922 9 = .ok (.pop, 1) := by decide +kernel
theorem dJ0_checkBoundsBeginEnd_23922_10 : decode cJ0_checkBoundsBeginEnd_23922 10 = .ok (.return_, 1) := by decide +kernel
theorem dJ1_canEncode_9a6ad_0 : decode cJ1_canEncode_9a6ad 0 = .ok (.iload_n 0, 1) := by decide +kernel
theorem dJ1_canEncode_9a6ad_1 : decode cJ1_canEncode_9a6ad 1 = .ok (.ifCond .lt 14, 3) := by decide +kernel
theorem dJ1_canEncode_9a6ad_4 : decode cJ1_canEncode_9a6ad 4 = .ok (.iload_n 0, 1) := by decide +kernel
theorem dJ1_canEncode_9a6ad_5 : decode cJ1_canEncode_9a6ad 5 = .ok (.sipush 255, 3) := by decide +kernel
theorem dJ1_canEncode_9a6ad_8 : decode cJ1_canEncode_9a6ad 8 = .ok (.if_icmp .gt 7, 3) := by decide +kernel
theorem dJ1_canEncode_9a6ad_11 : decode cJ1_canEncode_9a6ad 11 = .ok (.iconst 1, 1) := by decide +kernel
theorem dJ1_canEncode_9a6ad_12 : decode cJ1_canEncode_9a6ad 12 = .ok (.goto 4, 3) := by decide +kernel
theorem dJ1_canEncode_9a6ad_15 : decode cJ1_canEncode_9a6ad 15 = .ok (.iconst 0, 1) := by decide +kernel
theorem dJ1_canEncode_9a6ad_16 : decode cJ1_canEncode_9a6ad 16 = .ok (.ireturn, 1) := by decide +kernel
theorem dJ1_indexOf_4cfef_0 : decode cJ1_indexOf_4cfef 0 = .ok (.iload_n 1, 1) := by decide +kernel
theorem dJ1_indexOf_4cfef_1 : decode cJ1_indexOf_4cfef 1 = .ok (.invokestatic 88, 3) := by decide +kernel
theorem dJ1_indexOf_4cfef_4 : decode cJ1_indexOf_4cfef 4 = .ok (.ifCond .ne 5, 3) := by decide +kernel
theorem dJ1_indexOf_4cfef_7 : decode cJ1_indexOf_4cfef 7 = .ok (.iconst (-1), 1) := by decide +kernel
theorem dJ1_indexOf_4cfef_8 : decode cJ1_indexOf_4cfef 8 = .ok (.ireturn, 1) := by decide +kernel
theorem dJ1_indexOf_4cfef_9 : decode cJ1_indexOf_4cfef 9 = .ok (.iload_n 2, 1) := by decide +kernel
theorem dJ1_indexOf_4cfef_10 : decode cJ1_indexOf_4cfef 10 = .ok (.iconst 0, 1) := by decide +kernel
theorem dJ1_indexOf_4cfef_11 : decode cJ1_indexOf_4cfef 11 = .ok (.invokestatic 92, 3) := by decide +kernel
theorem dJ1_indexOf_4cfef_14 : decode cJ1_indexOf_4cfef 14 = .ok (.istore_n 2, 1) := by decide +kernel
theorem dJ1_indexOf_4cfef_15 : decode cJ1_indexOf_4cfef 15 = .ok (.iload_n 3, 1) := by decide +kernel
theorem dJ1_indexOf_4cfef_16 : decode cJ1_indexOf_4cfef 16 = .ok (.aload_n 0, 1) := by decide +kernel
theorem dJ1_indexOf_4cfef_17 : decode cJ1_indexOf_4cfef 17 = .ok (.arraylength, 1) := by decide +kernel
theorem dJ1_indexOf_4cfef_18 : decode cJ1_indexOf_4cfef 18 = .ok (.invokestatic 38, 3) := by decide +kernel
theorem dJ1_indexOf_4cfef_21 : decode cJ1_indexOf_4cfef 21 = .ok (.istore_n 3, 1) := by decide +kernel
theorem dJ1_indexOf_4cfef_22 : decode cJ1_indexOf_4cfef 22 = .ok (.iload_n 2, 1) := by decide +kernel
theorem dJ1_indexOf_4cfef_23 : decode cJ1_indexOf_4cfef 23 = .ok (.iload_n 3, 1) := by decide +kernel
theorem dJ1_indexOf_4cfef_24 : decode cJ1_indexOf_4cfef 24 = .ok (.if_icmp .lt 5, 3) := by decide +kernel
theorem dJ1_indexOf_4cfef_27 : decode cJ1_indexOf_4cfef 27 = .ok (.iconst (-1), 1) := by decide +kernel
theorem dJ1_indexOf_4cfef_28 : decode cJ1_indexOf_4cfef 28 = .ok (.ireturn, 1) := by decide +kernel
theorem dJ1_indexOf_4cfef_29 : decode cJ1_indexOf_4cfef 29 = .ok (.aload_n 0, 1) := by decide +kernel
theorem dJ1_indexOf_4cfef_30 : decode cJ1_indexOf_4cfef 30 = .ok (.iload_n 1, 1) := by decide +kernel
theorem dJ1_indexOf_4cfef_31 : decode cJ1_indexOf_4cfef 31 = .ok (.iload_n 2, 1) := by decide +kernel
theorem dJ1_indexOf_4cfef_32 : decode cJ1_indexOf_4cfef 32 = .ok (.iload_n 3, 1) := by decide +kernel
theorem dJ1_indexOf_4cfef_33 : decode cJ1_indexOf_4cfef 33 = .ok (.invokestatic 95, 3) := by decide +kernel
theorem dJ1_indexOf_4cfef_36 : decode cJ1_indexOf_4cfef 36 = .ok (.ireturn, 1) := by decide +kernel
theorem dJ1_indexOfChar_4cfef_0 : decode cJ1_indexOfChar_4cfef 0 = .ok (.iload_n 1, 1) := by decide +kernel
theorem dJ1_indexOfChar_4cfef_1 : decode cJ1_indexOfChar_4cfef 1 = .ok (.i2b, 1) := by decide +kernel
theorem dJ1_indexOfChar_4cfef_2 : decode cJ1_indexOfChar_4cfef 2 = .ok (.istore 4, 2) := by decide +kernel
theorem dJ1_indexOfChar_4cfef_4 : decode cJ1_indexOfChar_4cfef 4 = .ok (.iload_n 2, 1) := by decide +kernel
theorem dJ1_indexOfChar_4cfef_5 : decode cJ1_indexOfChar_4cfef 5 = .ok (.istore 5, 2) := by decide +kernel
theorem dJ1_indexOfChar_4cfef_7 : decode cJ1_indexOfChar_4cfef 7 = .ok (.iload 5, 2) := by decide +kernel
theorem dJ1_indexOfChar_4cfef_9 : decode cJ1_indexOfChar_4cfef 9 = .ok (.iload_n 3, 1) := by decide +kernel
theorem dJ1_indexOfChar_4cfef_10 : decode cJ1_indexOfChar_4cfef 10 = .ok (.if_icmp .ge 21, 3) := by decide +kernel
theorem dJ1_indexOfChar_4cfef_13 : decode cJ1_indexOfChar_4cfef 13 = .ok (.aload_n 0, 1) := by decide +kernel
theorem dJ1_indexOfChar_4cfef_14 : decode cJ1_indexOfChar_4cfef 14 = .ok (.iload 5, 2) := by decide +kernel
theorem dJ1_indexOfChar_4cfef_16 : decode cJ1_indexOfChar_4cfef 16 = .ok (.baload, 1) := by decide +kernel
theorem dJ1_indexOfChar_4cfef_17 : decode cJ1_indexOfChar_4cfef 17 = .ok (.iload 4, 2) := by decide +kernel
theorem dJ1_indexOfChar_4cfef_19 : decode cJ1_indexOfChar_4cfef 19 = .ok (.if_icmp .ne 6, 3) := by decide +kernel
theorem dJ1_indexOfChar_4cfef_22 : decode cJ1_indexOfChar_4cfef 22 = .ok (.iload 5, 2) := by decide +kernel
theorem dJ1_indexOfChar_4cfef_24 : decode cJ1_indexOfChar_4cfef 24 = .ok (.ireturn, 1) := by decide +kernel
theorem dJ1_indexOfChar_4cfef_25 : decode cJ1_indexOfChar_4cfef 25 = .ok (.iinc 5 1, 3) := by decide +kernel
theorem dJ1_indexOfChar_4cfef_28 : decode cJ1_indexOfChar_4cfef 28 = .ok (.goto (-21), 3) := by decide +kernel
theorem dJ1_indexOfChar_4cfef_31 : decode cJ1_indexOfChar_4cfef 31 = .ok (.iconst (-1), 1) := by decide +kernel
theorem dJ1_indexOfChar_4cfef_32 : decode cJ1_indexOfChar_4cfef 32 = .ok (.ireturn, 1) := by decide +kernel
theorem dJ2_getChar_3b067_0 : decode cJ2_getChar_3b067 0 = .ok (.getstatic 44, 3) := by decide +kernel
theorem dJ2_getChar_3b067_3 : decode cJ2_getChar_3b067 3 = .ok (.ifCond .ne 25, 3) := by decide +kernel
theorem dJ2_getChar_3b067_6 : decode cJ2_getChar_3b067 6 = .ok (.iload_n 1, 1) := by decide +kernel
theorem dJ2_getChar_3b067_7 : decode cJ2_getChar_3b067 7 = .ok (.ifCond .lt 11, 3) := by decide +kernel
theorem dJ2_getChar_3b067_10 : decode cJ2_getChar_3b067 10 = .ok (.iload_n 1, 1) := by decide +kernel
theorem dJ2_getChar_3b067_11 : decode cJ2_getChar_3b067 11 = .ok (.aload_n 0, 1) := by decide +kernel
theorem dJ2_getChar_3b067_12 : decode cJ2_getChar_3b067 12 = .ok (.invokestatic 48, 3) := by decide +kernel
theorem dJ2_getChar_3b067_15 : decode cJ2_getChar_3b067 15 = .ok (.if_icmp .lt 13, 3) := by decide +kernel
theorem dJ2_getChar_3b067_18 : decode cJ2_getChar_3b067 18 = .ok (.new 52, 3) := by decide +kernel
theorem dJ2_getChar_3b067_21 : decode cJ2_getChar_3b067 21 = .ok (.dup, 1) := by decide +kernel
theorem dJ2_getChar_3b067_22 : decode cJ2_getChar_3b067 22 = .ok (.ldc 54, 2) := by decide +kernel
theorem dJ2_getChar_3b067_24 : decode cJ2_getChar_3b067 24 = .ok (.invokespecial 56, 3) := by decide +kernel
theorem dJ2_getChar_3b067_27 : decode cJ2_getChar_3b067 27 = .ok (.athrow, 1) := by decide +kernel
theorem dJ2_getChar_3b067_28 : decode cJ2_getChar_3b067 28 = .ok (.iload_n 1, 1) := by decide +kernel
theorem dJ2_getChar_3b067_29 : decode cJ2_getChar_3b067 29 = .ok (.iconst 1, 1) := by decide +kernel
theorem dJ2_getChar_3b067_30 : decode cJ2_getChar_3b067 30 = .ok (.ishl, 1) := by decide +kernel
theorem dJ2_getChar_3b067_31 : decode cJ2_getChar_3b067 31 = .ok (.istore_n 1, 1) := by decide +kernel
theorem dJ2_getChar_3b067_32 : decode cJ2_getChar_3b067 32 = .ok (.aload_n 0, 1) := by decide +kernel
theorem dJ2_getChar_3b067_33 : decode cJ2_getChar_3b067 33 = .ok (.iload_n 1, 1) := by decide +kernel
theorem dJ2_getChar_3b067_34 : decode cJ2_getChar_3b067 34 = .ok (.iinc 1 1, 3) := by decide +kernel
theorem dJ2_getChar_3b067_37 : decode cJ2_getChar_3b067 37 = .ok (.baload, 1) := by decide +kernel
theorem dJ2_getChar_3b067_38 : decode cJ2_getChar_3b067 38 = .ok (.sipush 255, 3) := by decide +kernel
theorem dJ2_getChar_3b067_41 : decode cJ2_getChar_3b067 41 = .ok (.iand, 1) := by decide +kernel
theorem dJ2_getChar_3b067_42 : decode cJ2_getChar_3b067 42 = .ok (.getstatic 59, 3) := by decide +kernel
theorem dJ2_getChar_3b067_45 : decode cJ2_getChar_3b067 45 = .ok (.ishl, 1) := by decide +kernel
theorem dJ2_getChar_3b067_46 : decode cJ2_getChar_3b067 46 = .ok (.aload_n 0, 1) := by decide +kernel
theorem dJ2_getChar_3b067_47 : decode cJ2_getChar_3b067 47 = .ok (.iload_n 1, 1) := by decide +kernel
theorem dJ2_getChar_3b067_48 : decode cJ2_getChar_3b067 48 = .ok (.baload, 1) := by decide +kernel
theorem dJ2_getChar_3b067_49 : decode cJ2_getChar_3b067 49 = .ok (.sipush 255, 3) := by decide +kernel
theorem dJ2_getChar_3b067_52 : decode cJ2_getChar_3b067 52 = .ok (.iand, 1) := by decide +kernel
theorem dJ2_getChar_3b067_53 : decode cJ2_getChar_3b067 53 = .ok (.getstatic 63, 3) := by decide +kernel
theorem dJ2_getChar_3b067_56 : decode cJ2_getChar_3b067 56 = .ok (.ishl, 1) := by decide +kernel
theorem dJ2_getChar_3b067_57 : decode cJ2_getChar_3b067 57 = .ok (.ior, 1) := by decide +kernel
theorem dJ2_getChar_3b067_58 : decode cJ2_getChar_3b067 58 = .ok (.i2c, 1) := by decide +kernel
theorem dJ2_getChar_3b067_59 : decode cJ2_getChar_3b067 59 = .ok (.ireturn, 1) := by decide +kernel
theorem dJ2_length_9d52b_0 : decode cJ2_length_9d52b 0 = .ok (.aload_n 0, 1) := by decide +kernel
theorem dJ2_length_9d52b_1 : decode cJ2_length_9d52b 1 = .ok (.arraylength, 1) := by decide +kernel
theorem dJ2_length_9d52b_2 : decode cJ2_length_9d52b 2 = .ok (.iconst 1, 1) := by decide +kernel
theorem dJ2_length_9d52b_3 : decode cJ2_length_9d52b 3 = .ok (.ishr, 1) := by decide +kernel
theorem dJ2_length_9d52b_4 : decode cJ2_length_9d52b 4 = .ok (.ireturn, 1) := by decide +kernel
theorem dJ2_indexOf_4cfef_0 : decode cJ2_indexOf_4cfef 0 = .ok (.iload_n 2, 1) := by decide +kernel
theorem dJ2_indexOf_4cfef_1 : decode cJ2_indexOf_4cfef 1 = .ok (.iconst 0, 1) := by decide +kernel
theorem dJ2_indexOf_4cfef_2 : decode cJ2_indexOf_4cfef 2 = .ok (.invokestatic 224, 3) := by decide +kernel
theorem dJ2_indexOf_4cfef_5 : decode cJ2_indexOf_4cfef 5 = .ok (.istore_n 2, 1) := by decide +kernel
theorem dJ2_indexOf_4cfef_6 : decode cJ2_indexOf_4cfef 6 = .ok (.iload_n 3, 1) := by decide +kernel
theorem dJ2_indexOf_4cfef_7 : decode cJ2_indexOf_4cfef 7 = .ok (.aload_n 0, 1) := by decide +kernel
theorem dJ2_indexOf_4cfef_8 : decode cJ2_indexOf_4cfef 8 = .ok (.arraylength, 1) := by decide +kernel
theorem dJ2_indexOf_4cfef_9 : decode cJ2_indexOf_4cfef 9 = .ok (.iconst 1, 1) := by decide +kernel
theorem dJ2_indexOf_4cfef_10 : decode cJ2_indexOf_4cfef 10 = .ok (.ishr, 1) := by decide +kernel
theorem dJ2_indexOf_4cfef_11 : decode cJ2_indexOf_4cfef 11 = .ok (.invokestatic 183, 3) := by decide +kernel
theorem dJ2_indexOf_4cfef_14 : decode cJ2_indexOf_4cfef 14 = .ok (.istore_n 3, 1) := by decide +kernel
theorem dJ2_indexOf_4cfef_15 : decode cJ2_indexOf_4cfef 15 = .ok (.iload_n 2, 1) := by decide +kernel
theorem dJ2_indexOf_4cfef_16 : decode cJ2_indexOf_4cfef 16 = .ok (.iload_n 3, 1) := by decide +kernel
theorem dJ2_indexOf_4cfef_17 : decode cJ2_indexOf_4cfef 17 = .ok (.if_icmp .lt 5, 3) := by decide +kernel
theorem dJ2_indexOf_4cfef_20 : decode cJ2_indexOf_4cfef 20 = .ok (.iconst (-1), 1) := by decide +kernel
theorem dJ2_indexOf_4cfef_21 : decode cJ2_indexOf_4cfef 21 = .ok (.ireturn, 1) := by decide +kernel
theorem dJ2_indexOf_4cfef_22 : decode cJ2_indexOf_4cfef 22 = .ok (.iload_n 1, 1) := by decide +kernel
theorem dJ2_indexOf_4cfef_23 : decode cJ2_indexOf_4cfef 23 = .ok (.ldc 227, 2) := by decide +kernel
theorem dJ2_indexOf_4cfef_25 : decode cJ2_indexOf_4cfef 25 = .ok (.if_icmp .ge 11, 3) := by decide +kernel
theorem dJ2_indexOf_4cfef_28 : decode cJ2_indexOf_4cfef 28 = .ok (.aload_n 0, 1) := by decide +kernel
theorem dJ2_indexOf_4cfef_29 : decode cJ2_indexOf_4cfef 29 = .ok (.iload_n 1, 1) := by decide +kernel
theorem dJ2_indexOf_4cfef_30 : decode cJ2_indexOf_4cfef 30 = .ok (.iload_n 2, 1) := by decide +kernel
theorem dJ2_indexOf_4cfef_31 : decode cJ2_indexOf_4cfef 31 = .ok (.iload_n 3, 1) := by decide +kernel
theorem dJ2_indexOf_4cfef_32 : decode cJ2_indexOf_4cfef 32 = .ok (.invokestatic 228, 3) := by decide +kernel
theorem dJ2_indexOf_4cfef_35 : decode cJ2_indexOf_4cfef 35 = .ok (.ireturn, 1) := by decide +kernel
theorem dJ2_indexOf_4cfef_36 : decode cJ2_indexOf_4cfef 36 = .ok (.aload_n 0, 1) := by decide +kernel
theorem dJ2_indexOf_4cfef_37 : decode cJ2_indexOf_4cfef 37 = .ok (.iload_n 1, 1) := by decide +kernel
theorem dJ2_indexOf_4cfef_38 : decode cJ2_indexOf_4cfef 38 = .ok (.iload_n 2, 1) := by decide +kernel
theorem dJ2_indexOf_4cfef_39 : decode cJ2_indexOf_4cfef 39 = .ok (.iload_n 3, 1) := by decide +kernel
theorem dJ2_indexOf_4cfef_40 : decode cJ2_indexOf_4cfef 40 = .ok (.invokestatic 232, 3) := by decide +kernel
theorem dJ2_indexOf_4cfef_43 : decode cJ2_indexOf_4cfef 43 = .ok (.ireturn, 1) := by decide +kernel
theorem dJ2_indexOfChar_4cfef_0 : decode cJ2_indexOfChar_4cfef 0 = .ok (.iload_n 2, 1) := by decide +kernel
theorem dJ2_indexOfChar_4cfef_1 : decode cJ2_indexOfChar_4cfef 1 = .ok (.iload_n 3, 1) := by decide +kernel
theorem dJ2_indexOfChar_4cfef_2 : decode cJ2_indexOfChar_4cfef 2 = .ok (.aload_n 0, 1) := by decide +kernel
theorem dJ2_indexOfChar_4cfef_3 : decode cJ2_indexOfChar_4cfef 3 = .ok (.invokestatic 96, 3) := by decide +kernel
theorem dJ2_indexOfChar_4cfef_6 : decode cJ2_indexOfChar_4cfef 6 = .ok (.aload_n 0, 1) := by decide +kernel
theorem dJ2_indexOfChar_4cfef_7 : decode cJ2_indexOfChar_4cfef 7 = .ok (.iload_n 1, 1) := by decide +kernel
theorem dJ2_indexOfChar_4cfef_8 : decode cJ2_indexOfChar_4cfef 8 = .ok (.iload_n 2, 1) := by decide +kernel
theorem dJ2_indexOfChar_4cfef_9 : decode cJ2_indexOfChar_4cfef 9 = .ok (.iload_n 3, 1) := by decide +kernel
theorem dJ2_indexOfChar_4cfef_10 : decode cJ2_indexOfChar_4cfef 10 = .ok (.invokestatic 244, 3) := by decide +kernel
theorem dJ2_indexOfChar_4cfef_13 : decode cJ2_indexOfChar_4cfef 13 = .ok (.ireturn, 1) := by decide +kernel
theorem dJ2_indexOfCharUnsafe_4cfef_0 : decode cJ2_indexOfCharUnsafe_4cfef 0 = .ok (.iload_n 2, 1) := by decide +kernel
theorem dJ2_indexOfCharUnsafe_4cfef_1 : decode cJ2_indexOfCharUnsafe_4cfef 1 = .ok (.istore 4, 2) := by decide +kernel
theorem dJ2_indexOfCharUnsafe_4cfef_3 : decode cJ2_indexOfCharUnsafe_4cfef 3 = .ok (.iload 4, 2) := by decide +kernel
theorem dJ2_indexOfCharUnsafe_4cfef_5 : decode cJ2_indexOfCharUnsafe_4cfef 5 = .ok (.iload_n 3, 1) := by decide +kernel
theorem dJ2_indexOfCharUnsafe_4cfef_6 : decode cJ2_indexOfCharUnsafe_4cfef 6 = .ok (.if_icmp .ge 22, 3) := by decide +kernel
theorem dJ2_indexOfCharUnsafe_4cfef_9 : decode cJ2_indexOfCharUnsafe_4cfef 9 = .ok (.aload_n 0, 1) := by decide +kernel
theorem dJ2_indexOfCharUnsafe_4cfef_10 : decode cJ2_indexOfCharUnsafe_4cfef 10 = .ok (.iload 4, 2) := by decide +kernel
theorem dJ2_indexOfCharUnsafe_4cfef_12 : decode cJ2_indexOfCharUnsafe_4cfef 12 = .ok (.invokestatic 71, 3) := by decide +kernel
theorem dJ2_indexOfCharUnsafe_4cfef_15 : decode cJ2_indexOfCharUnsafe_4cfef 15 = .ok (.iload_n 1, 1) := by decide +kernel
theorem dJ2_indexOfCharUnsafe_4cfef_16 : decode cJ2_indexOfCharUnsafe_4cfef 16 = .ok (.if_icmp .ne 6, 3) := by decide +kernel
theorem dJ2_indexOfCharUnsafe_4cfef_19 : decode cJ2_indexOfCharUnsafe_4cfef 19 = .ok (.iload 4, 2) := by decide +kernel
theorem dJ2_indexOfCharUnsafe_4cfef_21 : decode cJ2_indexOfCharUnsafe_4cfef 21 = .ok (.ireturn, 1) := by decide +kernel
theorem dJ2_indexOfCharUnsafe_4cfef_22 : decode cJ2_indexOfCharUnsafe_4cfef 22 = .ok (.iinc 4 1, 3) := by decide +kernel
theorem dJ2_indexOfCharUnsafe_4cfef_25 : decode cJ2_indexOfCharUnsafe_4cfef 25 = .ok (.goto (-22), 3) := by decide +kernel
theorem dJ2_indexOfCharUnsafe_4cfef_28 : decode cJ2_indexOfCharUnsafe_4cfef 28 = .ok (.iconst (-1), 1) := by decide +kernel
theorem dJ2_indexOfCharUnsafe_4cfef_29 : decode cJ2_indexOfCharUnsafe_4cfef 29 = .ok (.ireturn, 1) := by decide +kernel
theorem dJ2_indexOfSupplementary_4cfef_0 : decode cJ2_indexOfSupplementary_4cfef 0 = .ok (.iload_n 1, 1) := by decide +kernel
theorem dJ2_indexOfSupplementary_4cfef_1 : decode cJ2_indexOfSupplementary_4cfef 1 = .ok (.invokestatic 164, 3) := by decide +kernel
theorem dJ2_indexOfSupplementary_4cfef_4 : decode cJ2_indexOfSupplementary_4cfef 4 = .ok (.ifCond .eq 65, 3) := by decide +kernel
theorem dJ2_indexOfSupplementary_4cfef_7 : decode cJ2_indexOfSupplementary_4cfef 7 = .ok (.iload_n 1, 1) := by decide +kernel
theorem dJ2_indexOfSupplementary_4cfef_8 : decode cJ2_indexOfSupplementary_4cfef 8 = .ok (.invokestatic 157, 3) := by decide +kernel
theorem dJ2_indexOfSupplementary_4cfef_11 : decode cJ2_indexOfSupplementary_4cfef 11 = .ok (.istore 4, 2) := by decide +kernel
theorem dJ2_indexOfSupplementary_4cfef_13 : decode cJ2_indexOfSupplementary_4cfef 13 = .ok (.iload_n 1, 1) := by decide +kernel
theorem dJ2_indexOfSupplementary_4cfef_14 : decode cJ2_indexOfSupplementary_4cfef 14 = .ok (.invokestatic 161, 3) := by decide +kernel
theorem dJ2_indexOfSupplementary_4cfef_17 : decode cJ2_indexOfSupplementary_4cfef 17 = .ok (.istore 5, 2) := by decide +kernel
theorem dJ2_indexOfSupplementary_4cfef_19 : decode cJ2_indexOfSupplementary_4cfef 19 = .ok (.iload_n 2, 1) := by decide +kernel
theorem dJ2_indexOfSupplementary_4cfef_20 : decode cJ2_indexOfSupplementary_4cfef 20 = .ok (.iload_n 3, 1) := by decide +kernel
theorem dJ2_indexOfSupplementary_4cfef_21 : decode cJ2_indexOfSupplementary_4cfef 21 = .ok (.aload_n 0, 1) := by decide +kernel
theorem dJ2_indexOfSupplementary_4cfef_22 : decode cJ2_indexOfSupplementary_4cfef 22 = .ok (.invokestatic 96, 3) := by decide +kernel
theorem dJ2_indexOfSupplementary_4cfef_25 : decode cJ2_indexOfSupplementary_4cfef 25 = .ok (.iload_n 2, 1) := by decide +kernel
theorem dJ2_indexOfSupplementary_4cfef_26 : decode cJ2_indexOfSupplementary_4cfef 26 = .ok (.istore 6, 2) := by decide +kernel
theorem dJ2_indexOfSupplementary_4cfef_28 : decode cJ2_indexOfSupplementary_4cfef 28 = .ok (.iload 6, 2) := by decide +kernel
theorem dJ2_indexOfSupplementary_4cfef_30 : decode cJ2_indexOfSupplementary_4cfef 30 = .ok (.iload_n 3, 1) := by decide +kernel
theorem dJ2_indexOfSupplementary_4cfef_31 : decode cJ2_indexOfSupplementary_4cfef 31 = .ok (.iconst 1, 1) := by decide +kernel
theorem dJ2_indexOfSupplementary_4cfef_32 : decode cJ2_indexOfSupplementary_4cfef 32 = .ok (.isub, 1) := by decide +kernel
theorem dJ2_indexOfSupplementary_4cfef_33 : decode cJ2_indexOfSupplementary_4cfef 33 = .ok (.if_icmp .ge 36, 3) := by decide +kernel
theorem dJ2_indexOfSupplementary_4cfef_36 : decode cJ2_indexOfSupplementary_4cfef 36 = .ok (.aload_n 0, 1) := by decide +kernel
theorem dJ2_indexOfSupplementary_4cfef_37 : decode cJ2_indexOfSupplementary_4cfef 37 = .ok (.iload 6, 2) := by decide +kernel
theorem dJ2_indexOfSupplementary_4cfef_39 : decode cJ2_indexOfSupplementary_4cfef 39 = .ok (.invokestatic 71, 3) := by decide +kernel
theorem dJ2_indexOfSupplementary_4cfef_42 : decode cJ2_indexOfSupplementary_4cfef 42 = .ok (.iload 4, 2) := by decide +kernel
theorem dJ2_indexOfSupplementary_4cfef_44 : decode cJ2_indexOfSupplementary_4cfef 44 = .ok (.if_icmp .ne 19, 3) := by decide +kernel
theorem dJ2_indexOfSupplementary_4cfef_47 : decode cJ2_indexOfSupplementary_4cfef 47 = .ok (.aload_n 0, 1) := by decide +kernel
theorem dJ2_indexOfSupplementary_4cfef_48 : decode cJ2_indexOfSupplementary_4cfef 48 = .ok (.iload 6, 2) := by decide +kernel
theorem dJ2_indexOfSupplementary_4cfef_50 : decode cJ2_indexOfSupplementary_4cfef 50 = .ok (.iconst 1, 1) := by decide +kernel
theorem dJ2_indexOfSupplementary_4cfef_51 : decode cJ2_indexOfSupplementary_4cfef 51 = .ok (.iadd, 1) := by decide +kernel
theorem dJ2_indexOfSupplementary_4cfef_52 : decode cJ2_indexOfSupplementary_4cfef 52 = .ok (.invokestatic 71, 3) := by decide +kernel
theorem dJ2_indexOfSupplementary_4cfef_55 : decode cJ2_indexOfSupplementary_4cfef 55 = .ok (.iload 5, 2) := by decide +kernel
theorem dJ2_indexOfSupplementary_4cfef_57 : decode cJ2_indexOfSupplementary_4cfef 57 = .ok (.if_icmp .ne 6, 3) := by decide +kernel
theorem dJ2_indexOfSupplementary_4cfef_60 : decode cJ2_indexOfSupplementary_4cfef 60 = .ok (.iload 6, 2) := by decide +kernel
theorem dJ2_indexOfSupplementary_4cfef_62 : decode cJ2_indexOfSupplementary_4cfef 62 = .ok (.ireturn, 1) := by decide +kernel
theorem dJ2_indexOfSupplementary_4cfef_63 : decode cJ2_indexOfSupplementary_4cfef 63 = .ok (.iinc 6 1, 3) := by decide +kernel
theorem dJ2_indexOfSupplementary_4cfef_66 : decode cJ2_indexOfSupplementary_4cfef 66 = .ok (.goto (-38), 3) := by decide +kernel
theorem dJ2_indexOfSupplementary_4cfef_69 : decode cJ2_indexOfSupplementary_4cfef 69 = .ok (.iconst (-1), 1) := by decide +kernel
theorem dJ2_indexOfSupplementary_4cfef_70 : decode cJ2_indexOfSupplementary_4cfef 70 = .ok (.ireturn, 1) := by decide +kernel
theorem dJ2_checkBoundsBeginEnd_d044e_0 : decode cJ2_checkBoundsBeginEnd_d044e 0 = .ok (.iload_n 0, 1) := by decide +kernel
theorem dJ2_checkBoundsBeginEnd_d044e_1 : decode cJ2_checkBoundsBeginEnd_d044e 1 = .ok (.iload_n 1, 1) := by decide +kernel
theorem dJ2_checkBoundsBeginEnd_d044e_2 : decode cJ2_checkBoundsBeginEnd_d044e 2 = .ok (.aload_n 2, 1) := by decide +kernel
theorem dJ2_checkBoundsBeginEnd_d044e_3 : decode cJ2_checkBoundsBeginEnd_d044e 3 = .ok (.invokestatic 48, 3) := by decide +kernel
theorem dJ2_checkBoundsBeginEnd_d044e_6 : decode cJ2_checkBoundsBeginEnd_d044e 6 = .ok (.invokestatic 241, 3) := by decide +kernel
theorem dJ2_checkBoundsBeginEnd_d044e_9 : decode cJ2_checkBoundsBeginEnd_d044e 9 = .ok (.return_, 1) := by decide +kernel
theorem dJ3_checkFromToIndex_8c36e_0 : decode cJ3_checkFromToIndex_8c36e 0 = .ok (.iload_n 0, 1) := by decide +kernel
theorem dJ3_checkFromToIndex_8c36e_1 : decode cJ3_checkFromToIndex_8c36e 1 = .ok (.ifCond .lt 13, 3) := by decide +kernel
theorem dJ3_checkFromToIndex_8c36e_4 : decode cJ3_checkFromToIndex_8c36e 4 = .ok (.iload_n 0, 1) := by decide +kernel
theorem dJ3_checkFromToIndex_8c36e_5 : decode cJ3_checkFromToIndex_8c36e 5 = .ok (.iload_n 1, 1) := by decide +kernel
theorem dJ3_checkFromToIndex_8c36e_6 : decode cJ3_checkFromToIndex_8c36e 6 = .ok (.if_icmp .gt 8, 3) := by decide +kernel
theorem dJ3_checkFromToIndex_8c36e_9 : decode cJ3_checkFromToIndex_8c36e 9 = .ok (.iload_n 1, 1) := by decide +kernel
theorem dJ3_checkFromToIndex_8c36e_10 : decode cJ3_checkFromToIndex_8c36e 10 = .ok (.iload_n 2, 1) := by decide +kernel
theorem dJ3_checkFromToIndex_8c36e_11 : decode cJ3_checkFromToIndex_8c36e 11 = .ok (.if_icmp .le 11, 3) := by decide +kernel
theorem dJ3_checkFromToIndex_8c36e_14 : decode cJ3_checkFromToIndex_8c36e 14 = .ok (.aload_n 3, 1) := by decide +kernel
theorem dJ3_checkFromToIndex_8c36e_15 : decode cJ3_checkFromToIndex_8c36e 15 = .ok (.iload_n 0, 1) := by decide +kernel
theorem dJ3_checkFromToIndex_8c36e_16 : decode cJ3_checkFromToIndex_8c36e 16 = .ok (.iload_n 1, 1) := by decide +kernel
theorem dJ3_checkFromToIndex_8c36e_17 : decode cJ3_checkFromToIndex_8c36e 17 = .ok (.iload_n 2, 1) := by decide +kernel
theorem dJ3_checkFromToIndex_8c36e_18 : decode cJ3_checkFromToIndex_8c36e 18 = .ok (.invokestatic 99, 3) := by decide +kernel
theorem dJ3_checkFromToIndex_8c36e_21 : decode cJ3_checkFromToIndex_8c36e 21 = .ok (.athrow, 1) := by decide +kernel
theorem dJ3_checkFromToIndex_8c36e_22 : decode cJ3_checkFromToIndex_8c36e 22 = .ok (.iload_n 0, 1) := by decide +kernel
theorem dJ3_checkFromToIndex_8c36e_23 : decode cJ3_checkFromToIndex_8c36e 23 = .ok (.ireturn, 1) := by decide +kernel
theorem dL_law_0 : decode cL_law 0 = .ok (.new 7, 3) := by decide +kernel
theorem dL_law_3 : decode cL_law 3 = .ok (.dup, 1) := by decide +kernel
theorem dL_law_4 : decode cL_law 4 = .ok (.invokespecial 9, 3) := by decide +kernel
theorem dL_law_7 : decode cL_law 7 = .ok (.astore_n 1, 1) := by decide +kernel
theorem dL_law_8 : decode cL_law 8 = .ok (.new 10, 3) := by decide +kernel
theorem dL_law_11 : decode cL_law 11 = .ok (.dup, 1) := by decide +kernel
theorem dL_law_12 : decode cL_law 12 = .ok (.invokespecial 12, 3) := by decide +kernel
theorem dL_law_15 : decode cL_law 15 = .ok (.astore_n 2, 1) := by decide +kernel
theorem dL_law_16 : decode cL_law 16 = .ok (.iconst 0, 1) := by decide +kernel
theorem dL_law_17 : decode cL_law 17 = .ok (.istore_n 3, 1) := by decide +kernel
theorem dL_law_18 : decode cL_law 18 = .ok (.iload_n 3, 1) := by decide +kernel
theorem dL_law_19 : decode cL_law 19 = .ok (.aload_n 0, 1) := by decide +kernel
theorem dL_law_20 : decode cL_law 20 = .ok (.arraylength, 1) := by decide +kernel
theorem dL_law_21 : decode cL_law 21 = .ok (.bipush 6, 2) := by decide +kernel
theorem dL_law_23 : decode cL_law 23 = .ok (.isub, 1) := by decide +kernel
theorem dL_law_24 : decode cL_law 24 = .ok (.if_icmp .gt 1413, 3) := by decide +kernel
theorem dL_law_27 : decode cL_law 27 = .ok (.aload_n 0, 1) := by decide +kernel
theorem dL_law_28 : decode cL_law 28 = .ok (.iload_n 3, 1) := by decide +kernel
theorem dL_law_29 : decode cL_law 29 = .ok (.iaload, 1) := by decide +kernel
theorem dL_law_30 : decode cL_law 30 = .ok (.bipush 63, 2) := by decide +kernel
theorem dL_law_32 : decode cL_law 32 = .ok (.iand, 1) := by decide +kernel
theorem dL_law_33 : decode cL_law 33 = .ok (.tableswitch 1398 0 38 #[171, 204, 237, 260, 293, 326, 359, 392, 425, 468, 491, 554, 577, 600, 623, 646, 669, 712, 745, 788, 831, 864, 897, 940, 973, 1006, 1019, 1062, 1085, 1128, 1171, 1234, 1257, 1280, 1293, 1306, 1329, 1352, 1375], 171) := by decide +kernel
theorem dL_law_204 : decode cL_law 204 = .ok (.aload_n 1, 1) := by decide +kernel
theorem dL_law_205 : decode cL_law 205 = .ok (.aload_n 0, 1) := by decide +kernel
theorem dL_law_206 : decode cL_law 206 = .ok (.iload_n 3, 1) := by decide +kernel
theorem dL_law_207 : decode cL_law 207 = .ok (.iconst 1, 1) := by decide +kernel
theorem dL_law_208 : decode cL_law 208 = .ok (.iadd, 1) := by decide +kernel
theorem dL_law_209 : decode cL_law 209 = .ok (.iaload, 1) := by decide +kernel
theorem dL_law_210 : decode cL_law 210 = .ok (.aload_n 0, 1) := by decide +kernel
theorem dL_law_211 : decode cL_law 211 = .ok (.iload_n 3, 1) := by decide +kernel
theorem dL_law_212 : decode cL_law 212 = .ok (.iconst 2, 1) := by decide +kernel
theorem dL_law_213 : decode cL_law 213 = .ok (.iadd, 1) := by decide +kernel
theorem dL_law_214 : decode cL_law 214 = .ok (.iaload, 1) := by decide +kernel
theorem dL_law_215 : decode cL_law 215 = .ok (.invokevirtual 13, 3) := by decide +kernel
theorem dL_law_218 : decode cL_law 218 = .ok (.aload_n 2, 1) := by decide +kernel
theorem dL_law_219 : decode cL_law 219 = .ok (.aload_n 0, 1) := by decide +kernel
theorem dL_law_220 : decode cL_law 220 = .ok (.iload_n 3, 1) := by decide +kernel
theorem dL_law_221 : decode cL_law 221 = .ok (.iconst 1, 1) := by decide +kernel
theorem dL_law_222 : decode cL_law 222 = .ok (.iadd, 1) := by decide +kernel
theorem dL_law_223 : decode cL_law 223 = .ok (.iaload, 1) := by decide +kernel
theorem dL_law_224 : decode cL_law 224 = .ok (.aload_n 0, 1) := by decide +kernel
theorem dL_law_225 : decode cL_law 225 = .ok (.iload_n 3, 1) := by decide +kernel
theorem dL_law_226 : decode cL_law 226 = .ok (.iconst 2, 1) := by decide +kernel
theorem dL_law_227 : decode cL_law 227 = .ok (.iadd, 1) := by decide +kernel
theorem dL_law_228 : decode cL_law 228 = .ok (.iaload, 1) := by decide +kernel
theorem dL_law_229 : decode cL_law 229 = .ok (.invokevirtual 17, 3) := by decide +kernel
theorem dL_law_232 : decode cL_law 232 = .ok (.if_icmp .eq 1199, 3) := by decide +kernel
theorem dL_law_235 : decode cL_law 235 = .ok (.iconst 0, 1) := by decide +kernel
theorem dL_law_236 : decode cL_law 236 = .ok (.ireturn, 1) := by decide +kernel
theorem dL_law_237 : decode cL_law 237 = .ok (.aload_n 1, 1) := by decide +kernel
theorem dL_law_238 : decode cL_law 238 = .ok (.aload_n 0, 1) := by decide +kernel
theorem dL_law_239 : decode cL_law 239 = .ok (.iload_n 3, 1) := by decide +kernel
theorem dL_law_240 : decode cL_law 240 = .ok (.iconst 1, 1) := by decide +kernel
theorem dL_law_241 : decode cL_law 241 = .ok (.iadd, 1) := by decide +kernel
theorem dL_law_242 : decode cL_law 242 = .ok (.iaload, 1) := by decide +kernel
theorem dL_law_243 : decode cL_law 243 = .ok (.aload_n 0, 1) := by decide +kernel
theorem dL_law_244 : decode cL_law 244 = .ok (.iload_n 3, 1) := by decide +kernel
theorem dL_law_245 : decode cL_law 245 = .ok (.iconst 2, 1) := by decide +kernel
theorem dL_law_246 : decode cL_law 246 = .ok (.iadd, 1) := by decide +kernel
theorem dL_law_247 : decode cL_law 247 = .ok (.iaload, 1) := by decide +kernel
theorem dL_law_248 : decode cL_law 248 = .ok (.invokevirtual 18, 3) := by decide +kernel
theorem dL_law_251 : decode cL_law 251 = .ok (.aload_n 2, 1) := by decide +kernel
theorem dL_law_252 : decode cL_law 252 = .ok (.aload_n 0, 1) := by decide +kernel
theorem dL_law_253 : decode cL_law 253 = .ok (.iload_n 3, 1) := by decide +kernel
theorem dL_law_254 : decode cL_law 254 = .ok (.iconst 1, 1) := by decide +kernel
theorem dL_law_255 : decode cL_law 255 = .ok (.iadd, 1) := by decide +kernel
theorem dL_law_256 : decode cL_law 256 = .ok (.iaload, 1) := by decide +kernel
theorem dL_law_257 : decode cL_law 257 = .ok (.aload_n 0, 1) := by decide +kernel
theorem dL_law_258 : decode cL_law 258 = .ok (.iload_n 3, 1) := by decide +kernel
theorem dL_law_259 : decode cL_law 259 = .ok (.iconst 2, 1) := by decide +kernel
theorem dL_law_260 : decode cL_law 260 = .ok (.iadd, 1) := by decide +kernel
theorem dL_law_261 : decode cL_law 261 = .ok (.iaload, 1) := by decide +kernel
theorem dL_law_262 : decode cL_law 262 = .ok (.invokevirtual 21, 3) := by decide +kernel
theorem dL_law_265 : decode cL_law 265 = .ok (.if_icmp .eq 1166, 3) := by decide +kernel
theorem dL_law_268 : decode cL_law 268 = .ok (.iconst 0, 1) := by decide +kernel
theorem dL_law_269 : decode cL_law 269 = .ok (.ireturn, 1) := by decide +kernel
theorem dL_law_270 : decode cL_law 270 = .ok (.aload_n 1, 1) := by decide +kernel
theorem dL_law_271 : decode cL_law 271 = .ok (.aload_n 0, 1) := by decide +kernel
theorem dL_law_272 : decode cL_law 272 = .ok (.iload_n 3, 1) := by decide +kernel
theorem dL_law_273 : decode cL_law 273 = .ok (.iconst 1, 1) := by decide +kernel
theorem dL_law_274 : decode cL_law 274 = .ok (.iadd, 1) := by decide +kernel
theorem dL_law_275 : decode cL_law 275 = .ok (.iaload, 1) := by decide +kernel
theorem dL_law_276 : decode cL_law 276 = .ok (.invokevirtual 22, 3) := by decide +kernel
theorem dL_law_279 : decode cL_law 279 = .ok (.aload_n 2, 1) := by decide +kernel
theorem dL_law_280 : decode cL_law 280 = .ok (.aload_n 0, 1) := by decide +kernel
theorem dL_law_281 : decode cL_law 281 = .ok (.iload_n 3, 1) := by decide +kernel
theorem dL_law_282 : decode cL_law 282 = .ok (.iconst 1, 1) := by decide +kernel
theorem dL_law_283 : decode cL_law 283 = .ok (.iadd, 1) := by decide +kernel
theorem dL_law_284 : decode cL_law 284 = .ok (.iaload, 1) := by decide +kernel
theorem dL_law_285 : decode cL_law 285 = .ok (.invokevirtual 26, 3) := by decide +kernel
theorem dL_law_288 : decode cL_law 288 = .ok (.if_icmp .eq 1143, 3) := by decide +kernel
theorem dL_law_291 : decode cL_law 291 = .ok (.iconst 0, 1) := by decide +kernel
theorem dL_law_292 : decode cL_law 292 = .ok (.ireturn, 1) := by decide +kernel
theorem dL_law_293 : decode cL_law 293 = .ok (.aload_n 1, 1) := by decide +kernel
theorem dL_law_294 : decode cL_law 294 = .ok (.aload_n 0, 1) := by decide +kernel
theorem dL_law_295 : decode cL_law 295 = .ok (.iload_n 3, 1) := by decide +kernel
theorem dL_law_296 : decode cL_law 296 = .ok (.iconst 1, 1) := by decide +kernel
theorem dL_law_297 : decode cL_law 297 = .ok (.iadd, 1) := by decide +kernel
theorem dL_law_298 : decode cL_law 298 = .ok (.iaload, 1) := by decide +kernel
theorem dL_law_299 : decode cL_law 299 = .ok (.aload_n 0, 1) := by decide +kernel
theorem dL_law_300 : decode cL_law 300 = .ok (.iload_n 3, 1) := by decide +kernel
theorem dL_law_301 : decode cL_law 301 = .ok (.iconst 2, 1) := by decide +kernel
theorem dL_law_302 : decode cL_law 302 = .ok (.iadd, 1) := by decide +kernel
theorem dL_law_303 : decode cL_law 303 = .ok (.iaload, 1) := by decide +kernel
theorem dL_law_304 : decode cL_law 304 = .ok (.invokevirtual 27, 3) := by decide +kernel
theorem dL_law_307 : decode cL_law 307 = .ok (.aload_n 2, 1) := by decide +kernel
theorem dL_law_308 : decode cL_law 308 = .ok (.aload_n 0, 1) := by decide +kernel
theorem dL_law_309 : decode cL_law 309 = .ok (.iload_n 3, 1) := by decide +kernel
theorem dL_law_310 : decode cL_law 310 = .ok (.iconst 1, 1) := by decide +kernel
theorem dL_law_311 : decode cL_law 311 = .ok (.iadd, 1) := by decide +kernel
theorem dL_law_312 : decode cL_law 312 = .ok (.iaload, 1) := by decide +kernel
theorem dL_law_313 : decode cL_law 313 = .ok (.aload_n 0, 1) := by decide +kernel
theorem dL_law_314 : decode cL_law 314 = .ok (.iload_n 3, 1) := by decide +kernel
theorem dL_law_315 : decode cL_law 315 = .ok (.iconst 2, 1) := by decide +kernel
theorem dL_law_316 : decode cL_law 316 = .ok (.iadd, 1) := by decide +kernel
theorem dL_law_317 : decode cL_law 317 = .ok (.iaload, 1) := by decide +kernel
theorem dL_law_318 : decode cL_law 318 = .ok (.invokevirtual 30, 3) := by decide +kernel
theorem dL_law_321 : decode cL_law 321 = .ok (.if_icmp .eq 1110, 3) := by decide +kernel
theorem dL_law_324 : decode cL_law 324 = .ok (.iconst 0, 1) := by decide +kernel
theorem dL_law_325 : decode cL_law 325 = .ok (.ireturn, 1) := by decide +kernel
theorem dL_law_326 : decode cL_law 326 = .ok (.aload_n 1, 1) := by decide +kernel
theorem dL_law_327 : decode cL_law 327 = .ok (.aload_n 0, 1) := by decide +kernel
theorem dL_law_328 : decode cL_law 328 = .ok (.iload_n 3, 1) := by decide +kernel
theorem dL_law_329 : decode cL_law 329 = .ok (.iconst 1, 1) := by decide +kernel
theorem dL_law_330 : decode cL_law 330 = .ok (.iadd, 1) := by decide +kernel
theorem dL_law_331 : decode cL_law 331 = .ok (.iaload, 1) := by decide +kernel
theorem dL_law_332 : decode cL_law 332 = .ok (.aload_n 0, 1) := by decide +kernel
theorem dL_law_333 : decode cL_law 333 = .ok (.iload_n 3, 1) := by decide +kernel
theorem dL_law_334 : decode cL_law 334 = .ok (.iconst 2, 1) := by decide +kernel
theorem dL_law_335 : decode cL_law 335 = .ok (.iadd, 1) := by decide +kernel
theorem dL_law_336 : decode cL_law 336 = .ok (.iaload, 1) := by decide +kernel
theorem dL_law_337 : decode cL_law 337 = .ok (.invokevirtual 31, 3) := by decide +kernel
theorem dL_law_340 : decode cL_law 340 = .ok (.aload_n 2, 1) := by decide +kernel
theorem dL_law_341 : decode cL_law 341 = .ok (.aload_n 0, 1) := by decide +kernel
theorem dL_law_342 : decode cL_law 342 = .ok (.iload_n 3, 1) := by decide +kernel
theorem dL_law_343 : decode cL_law 343 = .ok (.iconst 1, 1) := by decide +kernel
theorem dL_law_344 : decode cL_law 344 = .ok (.iadd, 1) := by decide +kernel
theorem dL_law_345 : decode cL_law 345 = .ok (.iaload, 1) := by decide +kernel
theorem dL_law_346 : decode cL_law 346 = .ok (.aload_n 0, 1) := by decide +kernel
theorem dL_law_347 : decode cL_law 347 = .ok (.iload_n 3, 1) := by decide +kernel
theorem dL_law_348 : decode cL_law 348 = .ok (.iconst 2, 1) := by decide +kernel
theorem dL_law_349 : decode cL_law 349 = .ok (.iadd, 1) := by decide +kernel
theorem dL_law_350 : decode cL_law 350 = .ok (.iaload, 1) := by decide +kernel
theorem dL_law_351 : decode cL_law 351 = .ok (.invokevirtual 34, 3) := by decide +kernel
theorem dL_law_354 : decode cL_law 354 = .ok (.if_icmp .eq 1077, 3) := by decide +kernel
theorem dL_law_357 : decode cL_law 357 = .ok (.iconst 0, 1) := by decide +kernel
theorem dL_law_358 : decode cL_law 358 = .ok (.ireturn, 1) := by decide +kernel
theorem dL_law_359 : decode cL_law 359 = .ok (.aload_n 1, 1) := by decide +kernel
theorem dL_law_360 : decode cL_law 360 = .ok (.aload_n 0, 1) := by decide +kernel
theorem dL_law_361 : decode cL_law 361 = .ok (.iload_n 3, 1) := by decide +kernel
theorem dL_law_362 : decode cL_law 362 = .ok (.iconst 1, 1) := by decide +kernel
theorem dL_law_363 : decode cL_law 363 = .ok (.iadd, 1) := by decide +kernel
theorem dL_law_364 : decode cL_law 364 = .ok (.iaload, 1) := by decide +kernel
theorem dL_law_365 : decode cL_law 365 = .ok (.aload_n 0, 1) := by decide +kernel
theorem dL_law_366 : decode cL_law 366 = .ok (.iload_n 3, 1) := by decide +kernel
theorem dL_law_367 : decode cL_law 367 = .ok (.iconst 2, 1) := by decide +kernel
theorem dL_law_368 : decode cL_law 368 = .ok (.iadd, 1) := by decide +kernel
theorem dL_law_369 : decode cL_law 369 = .ok (.iaload, 1) := by decide +kernel
theorem dL_law_370 : decode cL_law 370 = .ok (.invokevirtual 35, 3) := by decide +kernel
theorem dL_law_373 : decode cL_law 373 = .ok (.aload_n 2, 1) := by decide +kernel
theorem dL_law_374 : decode cL_law 374 = .ok (.aload_n 0, 1) := by decide +kernel
theorem dL_law_375 : decode cL_law 375 = .ok (.iload_n 3, 1) := by decide +kernel
theorem dL_law_376 : decode cL_law 376 = .ok (.iconst 1, 1) := by decide +kernel
theorem dL_law_377 : decode cL_law 377 = .ok (.iadd, 1) := by decide +kernel
theorem dL_law_378 : decode cL_law 378 = .ok (.iaload, 1) := by decide +kernel
theorem dL_law_379 : decode cL_law 379 = .ok (.aload_n 0, 1) := by decide +kernel
theorem dL_law_380 : decode cL_law 380 = .ok (.iload_n 3, 1) := by decide +kernel
theorem dL_law_381 : decode cL_law 381 = .ok (.iconst 2, 1) := by decide +kernel
theorem dL_law_382 : decode cL_law 382 = .ok (.iadd, 1) := by decide +kernel
theorem dL_law_383 : decode cL_law 383 = .ok (.iaload, 1) := by decide +kernel
theorem dL_law_384 : decode cL_law 384 = .ok (.invokevirtual 38, 3) := by decide +kernel
theorem dL_law_387 : decode cL_law 387 = .ok (.if_icmp .eq 1044, 3) := by decide +kernel
theorem dL_law_390 : decode cL_law 390 = .ok (.iconst 0, 1) := by decide +kernel
theorem dL_law_391 : decode cL_law 391 = .ok (.ireturn, 1) := by decide +kernel
theorem dL_law_392 : decode cL_law 392 = .ok (.aload_n 1, 1) := by decide +kernel
theorem dL_law_393 : decode cL_law 393 = .ok (.aload_n 0, 1) := by decide +kernel
theorem dL_law_394 : decode cL_law 394 = .ok (.iload_n 3, 1) := by decide +kernel
theorem dL_law_395 : decode cL_law 395 = .ok (.iconst 1, 1) := by decide +kernel
theorem dL_law_396 : decode cL_law 396 = .ok (.iadd, 1) := by decide +kernel
theorem dL_law_397 : decode cL_law 397 = .ok (.iaload, 1) := by decide +kernel
theorem dL_law_398 : decode cL_law 398 = .ok (.aload_n 0, 1) := by decide +kernel
theorem dL_law_399 : decode cL_law 399 = .ok (.iload_n 3, 1) := by decide +kernel
theorem dL_law_400 : decode cL_law 400 = .ok (.iconst 2, 1) := by decide +kernel
theorem dL_law_401 : decode cL_law 401 = .ok (.iadd, 1) := by decide +kernel
theorem dL_law_402 : decode cL_law 402 = .ok (.iaload, 1) := by decide +kernel
theorem dL_law_403 : decode cL_law 403 = .ok (.invokevirtual 39, 3) := by decide +kernel
theorem dL_law_406 : decode cL_law 406 = .ok (.aload_n 2, 1) := by decide +kernel
theorem dL_law_407 : decode cL_law 407 = .ok (.aload_n 0, 1) := by decide +kernel
theorem dL_law_408 : decode cL_law 408 = .ok (.iload_n 3, 1) := by decide +kernel
theorem dL_law_409 : decode cL_law 409 = .ok (.iconst 1, 1) := by decide +kernel
theorem dL_law_410 : decode cL_law 410 = .ok (.iadd, 1) := by decide +kernel
theorem dL_law_411 : decode cL_law 411 = .ok (.iaload, 1) := by decide +kernel
theorem dL_law_412 : decode cL_law 412 = .ok (.aload_n 0, 1) := by decide +kernel
theorem dL_law_413 : decode cL_law 413 = .ok (.iload_n 3, 1) := by decide +kernel
theorem dL_law_414 : decode cL_law 414 = .ok (.iconst 2, 1) := by decide +kernel
theorem dL_law_415 : decode cL_law 415 = .ok (.iadd, 1) := by decide +kernel
theorem dL_law_416 : decode cL_law 416 = .ok (.iaload, 1) := by decide +kernel
theorem dL_law_417 : decode cL_law 417 = .ok (.invokevirtual 42, 3) := by decide +kernel
theorem dL_law_420 : decode cL_law 420 = .ok (.if_icmp .eq 1011, 3) := by decide +kernel
theorem dL_law_423 : decode cL_law 423 = .ok (.iconst 0, 1) := by decide +kernel
theorem dL_law_424 : decode cL_law 424 = .ok (.ireturn, 1) := by decide +kernel
theorem dL_law_425 : decode cL_law 425 = .ok (.aload_n 1, 1) := by decide +kernel
