theorem dX7_then_1 : decode cX7_then 1 = .ok (.iconst 0, 1) := by decide +kernel
theorem dX7_then_2 : decode cX7_then 2 = .ok (.sipush 240, 3) := by decide +kernel
theorem dX7_then_5 : decode cX7_then 5 = .ok (.invokestatic 57, 3) := by decide +kernel
theorem dX7_then_8 : decode cX7_then 8 = .ok (.ifCond .ne 21, 3) := by decide +kernel
theorem dX7_then_11 : decode cX7_then 11 = .ok (.aload_n 0, 1) := by decide +kernel
theorem dX7_then_12 : decode cX7_then 12 = .ok (.iload_n 2, 1) := by decide +kernel
theorem dX7_then_13 : decode cX7_then 13 = .ok (.invokevirtual 90, 3) := by decide +kernel
theorem dX7_then_16 : decode cX7_then 16 = .ok (.ifCond .ne 13, 3) := by decide +kernel
theorem dX7_then_19 : decode cX7_then 19 = .ok (.iload_n 3, 1) := by decide +kernel
theorem dX7_then_20 : decode cX7_then 20 = .ok (.iconst 0, 1) := by decide +kernel
theorem dX7_then_21 : decode cX7_then 21 = .ok (.bipush 9, 2) := by decide +kernel
theorem dX7_then_23 : decode cX7_then 23 = .ok (.invokestatic 57, 3) := by decide +kernel
theorem dX7_then_26 : decode cX7_then 26 = .ok (.ifCond .eq 9, 3) := by decide +kernel
theorem dX7_then_29 : decode cX7_then 29 = .ok (.aload_n 0, 1) := by decide +kernel
theorem dX7_then_30 : decode cX7_then 30 = .ok (.iconst 1, 1) := by decide +kernel
theorem dX7_then_31 : decode cX7_then 31 = .ok (.invokevirtual 61, 3) := by decide +kernel
theorem dX7_then_34 : decode cX7_then 34 = .ok (.ireturn, 1) := by decide +kernel
theorem dX7_then_35 : decode cX7_then 35 = .ok (.aload_n 0, 1) := by decide +kernel
theorem dX7_then_36 : decode cX7_then 36 = .ok (.getfield 19, 3) := by decide +kernel
theorem dX7_then_39 : decode cX7_then 39 = .ok (.aload_n 0, 1) := by decide +kernel
theorem dX7_then_40 : decode cX7_then 40 = .ok (.getfield 10, 3) := by decide +kernel
theorem dX7_then_43 : decode cX7_then 43 = .ok (.invokevirtual 187, 3) := by decide +kernel
theorem dX7_then_46 : decode cX7_then 46 = .ok (.aload_n 0, 1) := by decide +kernel
theorem dX7_then_47 : decode cX7_then 47 = .ok (.getfield 19, 3) := by decide +kernel
theorem dX7_then_50 : decode cX7_then 50 = .ok (.iload_n 1, 1) := by decide +kernel
theorem dX7_then_51 : decode cX7_then 51 = .ok (.invokevirtual 162, 3) := by decide +kernel
theorem dX7_then_54 : decode cX7_then 54 = .ok (.pop, 1) := by decide +kernel
theorem dX7_then_55 : decode cX7_then 55 = .ok (.aload_n 0, 1) := by decide +kernel
theorem dX7_then_56 : decode cX7_then 56 = .ok (.getfield 19, 3) := by decide +kernel
theorem dX7_then_59 : decode cX7_then 59 = .ok (.iload_n 2, 1) := by decide +kernel
theorem dX7_then_60 : decode cX7_then 60 = .ok (.iload_n 3, 1) := by decide +kernel
theorem dX7_then_61 : decode cX7_then 61 = .ok (.invokevirtual 94, 3) := by decide +kernel
theorem dX7_then_64 : decode cX7_then 64 = .ok (.ireturn, 1) := by decide +kernel
theorem dX7_thenFamily_0 : decode cX7_thenFamily 0 = .ok (.iload_n 1, 1) := by decide +kernel
theorem dX7_thenFamily_1 : decode cX7_thenFamily 1 = .ok (.iconst 0, 1) := by decide +kernel
theorem dX7_thenFamily_2 : decode cX7_thenFamily 2 = .ok (.sipush 240, 3) := by decide +kernel
theorem dX7_thenFamily_5 : decode cX7_thenFamily 5 = .ok (.invokestatic 57, 3) := by decide +kernel
theorem dX7_thenFamily_8 : decode cX7_thenFamily 8 = .ok (.ifCond .ne 21, 3) := by decide +kernel
theorem dX7_thenFamily_11 : decode cX7_thenFamily 11 = .ok (.iload_n 2, 1) := by decide +kernel
theorem dX7_thenFamily_12 : decode cX7_thenFamily 12 = .ok (.iconst 0, 1) := by decide +kernel
theorem dX7_thenFamily_13 : decode cX7_thenFamily 13 = .ok (.iconst 4, 1) := by decide +kernel
theorem dX7_thenFamily_14 : decode cX7_thenFamily 14 = .ok (.invokestatic 57, 3) := by decide +kernel
theorem dX7_thenFamily_17 : decode cX7_thenFamily 17 = .ok (.ifCond .ne 12, 3) := by decide +kernel
theorem dX7_thenFamily_20 : decode cX7_thenFamily 20 = .ok (.iload_n 3, 1) := by decide +kernel
theorem dX7_thenFamily_21 : decode cX7_thenFamily 21 = .ok (.iconst 0, 1) := by decide +kernel
theorem dX7_thenFamily_22 : decode cX7_thenFamily 22 = .ok (.iconst 3, 1) := by decide +kernel
theorem dX7_thenFamily_23 : decode cX7_thenFamily 23 = .ok (.invokestatic 57, 3) := by decide +kernel
theorem dX7_thenFamily_26 : decode cX7_thenFamily 26 = .ok (.ifCond .eq 9, 3) := by decide +kernel
theorem dX7_thenFamily_29 : decode cX7_thenFamily 29 = .ok (.aload_n 0, 1) := by decide +kernel
theorem dX7_thenFamily_30 : decode cX7_thenFamily 30 = .ok (.iconst 1, 1) := by decide +kernel
theorem dX7_thenFamily_31 : decode cX7_thenFamily 31 = .ok (.invokevirtual 61, 3) := by decide +kernel
theorem dX7_thenFamily_34 : decode cX7_thenFamily 34 = .ok (.ireturn, 1) := by decide +kernel
theorem dX7_thenFamily_35 : decode cX7_thenFamily 35 = .ok (.aload_n 0, 1) := by decide +kernel
theorem dX7_thenFamily_36 : decode cX7_thenFamily 36 = .ok (.getfield 19, 3) := by decide +kernel
theorem dX7_thenFamily_39 : decode cX7_thenFamily 39 = .ok (.aload_n 0, 1) := by decide +kernel
theorem dX7_thenFamily_40 : decode cX7_thenFamily 40 = .ok (.getfield 10, 3) := by decide +kernel
theorem dX7_thenFamily_43 : decode cX7_thenFamily 43 = .ok (.invokevirtual 187, 3) := by decide +kernel
theorem dX7_thenFamily_46 : decode cX7_thenFamily 46 = .ok (.aload_n 0, 1) := by decide +kernel
theorem dX7_thenFamily_47 : decode cX7_thenFamily 47 = .ok (.getfield 19, 3) := by decide +kernel
theorem dX7_thenFamily_50 : decode cX7_thenFamily 50 = .ok (.iload_n 1, 1) := by decide +kernel
theorem dX7_thenFamily_51 : decode cX7_thenFamily 51 = .ok (.invokevirtual 162, 3) := by decide +kernel
theorem dX7_thenFamily_54 : decode cX7_thenFamily 54 = .ok (.pop, 1) := by decide +kernel
theorem dX7_thenFamily_55 : decode cX7_thenFamily 55 = .ok (.aload_n 0, 1) := by decide +kernel
theorem dX7_thenFamily_56 : decode cX7_thenFamily 56 = .ok (.getfield 19, 3) := by decide +kernel
theorem dX7_thenFamily_59 : decode cX7_thenFamily 59 = .ok (.iload_n 2, 1) := by decide +kernel
theorem dX7_thenFamily_60 : decode cX7_thenFamily 60 = .ok (.iload_n 3, 1) := by decide +kernel
theorem dX7_thenFamily_61 : decode cX7_thenFamily 61 = .ok (.invokevirtual 79, 3) := by decide +kernel
theorem dX7_thenFamily_64 : decode cX7_thenFamily 64 = .ok (.ireturn, 1) := by decide +kernel
theorem dX7_when_0 : decode cX7_when 0 = .ok (.iload_n 1, 1) := by decide +kernel
theorem dX7_when_1 : decode cX7_when 1 = .ok (.iconst 0, 1) := by decide +kernel
theorem dX7_when_2 : decode cX7_when 2 = .ok (.iconst 4, 1) := by decide +kernel
theorem dX7_when_3 : decode cX7_when 3 = .ok (.invokestatic 57, 3) := by decide +kernel
theorem dX7_when_6 : decode cX7_when 6 = .ok (.ifCond .ne 14, 3) := by decide +kernel
theorem dX7_when_9 : decode cX7_when 9 = .ok (.iload_n 2, 1) := by decide +kernel
theorem dX7_when_10 : decode cX7_when 10 = .ok (.iconst 0, 1) := by decide +kernel
theorem dX7_when_11 : decode cX7_when 11 = .ok (.sipush 240, 3) := by decide +kernel
theorem dX7_when_14 : decode cX7_when 14 = .ok (.invokestatic 57, 3) := by decide +kernel
theorem dX7_when_17 : decode cX7_when 17 = .ok (.ifCond .eq 9, 3) := by decide +kernel
theorem dX7_when_20 : decode cX7_when 20 = .ok (.aload_n 0, 1) := by decide +kernel
theorem dX7_when_21 : decode cX7_when 21 = .ok (.iconst 1, 1) := by decide +kernel
theorem dX7_when_22 : decode cX7_when 22 = .ok (.invokevirtual 61, 3) := by decide +kernel
theorem dX7_when_25 : decode cX7_when 25 = .ok (.ireturn, 1) := by decide +kernel
theorem dX7_when_26 : decode cX7_when 26 = .ok (.aload_n 0, 1) := by decide +kernel
theorem dX7_when_27 : decode cX7_when 27 = .ok (.getfield 19, 3) := by decide +kernel
theorem dX7_when_30 : decode cX7_when 30 = .ok (.aload_n 0, 1) := by decide +kernel
theorem dX7_when_31 : decode cX7_when 31 = .ok (.getfield 10, 3) := by decide +kernel
theorem dX7_when_34 : decode cX7_when 34 = .ok (.invokevirtual 187, 3) := by decide +kernel
theorem dX7_when_37 : decode cX7_when 37 = .ok (.iconst 0, 1) := by decide +kernel
theorem dX7_when_38 : decode cX7_when 38 = .ok (.istore_n 3, 1) := by decide +kernel
theorem dX7_when_39 : decode cX7_when 39 = .ok (.iload_n 3, 1) := by decide +kernel
theorem dX7_when_40 : decode cX7_when 40 = .ok (.iload_n 2, 1) := by decide +kernel
theorem dX7_when_41 : decode cX7_when 41 = .ok (.if_icmp .gt 30, 3) := by decide +kernel
theorem dX7_when_44 : decode cX7_when 44 = .ok (.aload_n 0, 1) := by decide +kernel
theorem dX7_when_45 : decode cX7_when 45 = .ok (.getfield 19, 3) := by decide +kernel
theorem dX7_when_48 : decode cX7_when 48 = .ok (.iload_n 1, 1) := by decide +kernel
theorem dX7_when_49 : decode cX7_when 49 = .ok (.invokevirtual 191, 3) := by decide +kernel
theorem dX7_when_52 : decode cX7_when 52 = .ok (.ifCond .eq 5, 3) := by decide +kernel
theorem dX7_when_55 : decode cX7_when 55 = .ok (.iload_n 3, 1) := by decide +kernel
theorem dX7_when_56 : decode cX7_when 56 = .ok (.ireturn, 1) := by decide +kernel
theorem dX7_when_57 : decode cX7_when 57 = .ok (.aload_n 0, 1) := by decide +kernel
theorem dX7_when_58 : decode cX7_when 58 = .ok (.getfield 19, 3) := by decide +kernel
theorem dX7_when_61 : decode cX7_when 61 = .ok (.invokevirtual 172, 3) := by decide +kernel
theorem dX7_when_64 : decode cX7_when 64 = .ok (.pop, 1) := by decide +kernel
theorem dX7_when_65 : decode cX7_when 65 = .ok (.iinc 3 1, 3) := by decide +kernel
theorem dX7_when_68 : decode cX7_when 68 = .ok (.goto (-29), 3) := by decide +kernel
theorem dX7_when_71 : decode cX7_when 71 = .ok (.aload_n 0, 1) := by decide +kernel
theorem dX7_when_72 : decode cX7_when 72 = .ok (.iconst 2, 1) := by decide +kernel
theorem dX7_when_73 : decode cX7_when 73 = .ok (.invokevirtual 61, 3) := by decide +kernel
theorem dX7_when_76 : decode cX7_when 76 = .ok (.ireturn, 1) := by decide +kernel
theorem dX7_sluices_0 : decode cX7_sluices 0 = .ok (.iload_n 1, 1) := by decide +kernel
theorem dX7_sluices_1 : decode cX7_sluices 1 = .ok (.iconst 1, 1) := by decide +kernel
theorem dX7_sluices_2 : decode cX7_sluices 2 = .ok (.bipush 6, 2) := by decide +kernel
theorem dX7_sluices_4 : decode cX7_sluices 4 = .ok (.invokestatic 57, 3) := by decide +kernel
theorem dX7_sluices_7 : decode cX7_sluices 7 = .ok (.ifCond .ne 12, 3) := by decide +kernel
theorem dX7_sluices_10 : decode cX7_sluices 10 = .ok (.iload_n 2, 1) := by decide +kernel
theorem dX7_sluices_11 : decode cX7_sluices 11 = .ok (.iconst 0, 1) := by decide +kernel
theorem dX7_sluices_12 : decode cX7_sluices 12 = .ok (.iconst 1, 1) := by decide +kernel
theorem dX7_sluices_13 : decode cX7_sluices 13 = .ok (.invokestatic 57, 3) := by decide +kernel
theorem dX7_sluices_16 : decode cX7_sluices 16 = .ok (.ifCond .eq 9, 3) := by decide +kernel
theorem dX7_sluices_19 : decode cX7_sluices 19 = .ok (.aload_n 0, 1) := by decide +kernel
theorem dX7_sluices_20 : decode cX7_sluices 20 = .ok (.iconst 1, 1) := by decide +kernel
theorem dX7_sluices_21 : decode cX7_sluices 21 = .ok (.invokevirtual 61, 3) := by decide +kernel
theorem dX7_sluices_24 : decode cX7_sluices 24 = .ok (.ireturn, 1) := by decide +kernel
theorem dX7_sluices_25 : decode cX7_sluices 25 = .ok (.iconst (-1), 1) := by decide +kernel
theorem dX7_sluices_26 : decode cX7_sluices 26 = .ok (.istore_n 3, 1) := by decide +kernel
theorem dX7_sluices_27 : decode cX7_sluices 27 = .ok (.iconst 0, 1) := by decide +kernel
theorem dX7_sluices_28 : decode cX7_sluices 28 = .ok (.istore 4, 2) := by decide +kernel
theorem dX7_sluices_30 : decode cX7_sluices 30 = .ok (.iconst 0, 1) := by decide +kernel
theorem dX7_sluices_31 : decode cX7_sluices 31 = .ok (.istore 5, 2) := by decide +kernel
theorem dX7_sluices_33 : decode cX7_sluices 33 = .ok (.iload 5, 2) := by decide +kernel
theorem dX7_sluices_35 : decode cX7_sluices 35 = .ok (.iconst 1, 1) := by decide +kernel
theorem dX7_sluices_36 : decode cX7_sluices 36 = .ok (.aload_n 0, 1) := by decide +kernel
theorem dX7_sluices_37 : decode cX7_sluices 37 = .ok (.getfield 10, 3) := by decide +kernel
theorem dX7_sluices_40 : decode cX7_sluices 40 = .ok (.getfield 83, 3) := by decide +kernel
theorem dX7_sluices_43 : decode cX7_sluices 43 = .ok (.ishl, 1) := by decide +kernel
theorem dX7_sluices_44 : decode cX7_sluices 44 = .ok (.if_icmp .ge 67, 3) := by decide +kernel
theorem dX7_sluices_47 : decode cX7_sluices 47 = .ok (.aload_n 0, 1) := by decide +kernel
theorem dX7_sluices_48 : decode cX7_sluices 48 = .ok (.getfield 19, 3) := by decide +kernel
theorem dX7_sluices_51 : decode cX7_sluices 51 = .ok (.aload_n 0, 1) := by decide +kernel
theorem dX7_sluices_52 : decode cX7_sluices 52 = .ok (.getfield 10, 3) := by decide +kernel
theorem dX7_sluices_55 : decode cX7_sluices 55 = .ok (.invokevirtual 187, 3) := by decide +kernel
theorem dX7_sluices_58 : decode cX7_sluices 58 = .ok (.aload_n 0, 1) := by decide +kernel
theorem dX7_sluices_59 : decode cX7_sluices 59 = .ok (.getfield 19, 3) := by decide +kernel
theorem dX7_sluices_62 : decode cX7_sluices 62 = .ok (.iload 5, 2) := by decide +kernel
theorem dX7_sluices_64 : decode cX7_sluices 64 = .ok (.invokevirtual 194, 3) := by decide +kernel
theorem dX7_sluices_67 : decode cX7_sluices 67 = .ok (.aload_n 0, 1) := by decide +kernel
theorem dX7_sluices_68 : decode cX7_sluices 68 = .ok (.getfield 19, 3) := by decide +kernel
theorem dX7_sluices_71 : decode cX7_sluices 71 = .ok (.iload_n 1, 1) := by decide +kernel
theorem dX7_sluices_72 : decode cX7_sluices 72 = .ok (.invokevirtual 162, 3) := by decide +kernel
theorem dX7_sluices_75 : decode cX7_sluices 75 = .ok (.istore 6, 2) := by decide +kernel
theorem dX7_sluices_77 : decode cX7_sluices 77 = .ok (.aload_n 0, 1) := by decide +kernel
theorem dX7_sluices_78 : decode cX7_sluices 78 = .ok (.getfield 19, 3) := by decide +kernel
theorem dX7_sluices_81 : decode cX7_sluices 81 = .ok (.invokevirtual 198, 3) := by decide +kernel
theorem dX7_sluices_84 : decode cX7_sluices 84 = .ok (.ifCond .eq 21, 3) := by decide +kernel
theorem dX7_sluices_87 : decode cX7_sluices 87 = .ok (.iload_n 3, 1) := by decide +kernel
theorem dX7_sluices_88 : decode cX7_sluices 88 = .ok (.ifCond .lt 10, 3) := by decide +kernel
theorem dX7_sluices_91 : decode cX7_sluices 91 = .ok (.iload 6, 2) := by decide +kernel
theorem dX7_sluices_93 : decode cX7_sluices 93 = .ok (.iload 4, 2) := by decide +kernel
theorem dX7_sluices_95 : decode cX7_sluices 95 = .ok (.if_icmp .ge 10, 3) := by decide +kernel
theorem dX7_sluices_98 : decode cX7_sluices 98 = .ok (.iload 5, 2) := by decide +kernel
theorem dX7_sluices_100 : decode cX7_sluices 100 = .ok (.istore_n 3, 1) := by decide +kernel
theorem dX7_sluices_101 : decode cX7_sluices 101 = .ok (.iload 6, 2) := by decide +kernel
theorem dX7_sluices_103 : decode cX7_sluices 103 = .ok (.istore 4, 2) := by decide +kernel
theorem dX7_sluices_105 : decode cX7_sluices 105 = .ok (.iinc 5 1, 3) := by decide +kernel
theorem dX7_sluices_108 : decode cX7_sluices 108 = .ok (.goto (-75), 3) := by decide +kernel
theorem dX7_sluices_111 : decode cX7_sluices 111 = .ok (.iload_n 3, 1) := by decide +kernel
theorem dX7_sluices_112 : decode cX7_sluices 112 = .ok (.ifCond .ge 9, 3) := by decide +kernel
theorem dX7_sluices_115 : decode cX7_sluices 115 = .ok (.aload_n 0, 1) := by decide +kernel
theorem dX7_sluices_116 : decode cX7_sluices 116 = .ok (.iconst 2, 1) := by decide +kernel
theorem dX7_sluices_117 : decode cX7_sluices 117 = .ok (.invokevirtual 61, 3) := by decide +kernel
theorem dX7_sluices_120 : decode cX7_sluices 120 = .ok (.ireturn, 1) := by decide +kernel
theorem dX7_sluices_121 : decode cX7_sluices 121 = .ok (.iload_n 2, 1) := by decide +kernel
theorem dX7_sluices_122 : decode cX7_sluices 122 = .ok (.ifCond .ne 7, 3) := by decide +kernel
theorem dX7_sluices_125 : decode cX7_sluices 125 = .ok (.iload_n 3, 1) := by decide +kernel
theorem dX7_sluices_126 : decode cX7_sluices 126 = .ok (.goto 5, 3) := by decide +kernel
theorem dX7_sluices_129 : decode cX7_sluices 129 = .ok (.iload 4, 2) := by decide +kernel
theorem dX7_sluices_131 : decode cX7_sluices 131 = .ok (.ireturn, 1) := by decide +kernel
theorem dX7_fewer_0 : decode cX7_fewer 0 = .ok (.iload_n 1, 1) := by decide +kernel
theorem dX7_fewer_1 : decode cX7_fewer 1 = .ok (.iconst 0, 1) := by decide +kernel
theorem dX7_fewer_2 : decode cX7_fewer 2 = .ok (.bipush 69, 2) := by decide +kernel
theorem dX7_fewer_4 : decode cX7_fewer 4 = .ok (.invokestatic 57, 3) := by decide +kernel
theorem dX7_fewer_7 : decode cX7_fewer 7 = .ok (.ifCond .ne 23, 3) := by decide +kernel
theorem dX7_fewer_10 : decode cX7_fewer 10 = .ok (.iload_n 2, 1) := by decide +kernel
theorem dX7_fewer_11 : decode cX7_fewer 11 = .ok (.iconst 0, 1) := by decide +kernel
theorem dX7_fewer_12 : decode cX7_fewer 12 = .ok (.bipush 11, 2) := by decide +kernel
theorem dX7_fewer_14 : decode cX7_fewer 14 = .ok (.invokestatic 57, 3) := by decide +kernel
theorem dX7_fewer_17 : decode cX7_fewer 17 = .ok (.ifCond .ne 13, 3) := by decide +kernel
theorem dX7_fewer_20 : decode cX7_fewer 20 = .ok (.iload_n 3, 1) := by decide +kernel
theorem dX7_fewer_21 : decode cX7_fewer 21 = .ok (.iconst 1, 1) := by decide +kernel
theorem dX7_fewer_22 : decode cX7_fewer 22 = .ok (.bipush 48, 2) := by decide +kernel
theorem dX7_fewer_24 : decode cX7_fewer 24 = .ok (.invokestatic 57, 3) := by decide +kernel
theorem dX7_fewer_27 : decode cX7_fewer 27 = .ok (.ifCond .eq 9, 3) := by decide +kernel
theorem dX7_fewer_30 : decode cX7_fewer 30 = .ok (.aload_n 0, 1) := by decide +kernel
theorem dX7_fewer_31 : decode cX7_fewer 31 = .ok (.iconst 1, 1) := by decide +kernel
theorem dX7_fewer_32 : decode cX7_fewer 32 = .ok (.invokevirtual 61, 3) := by decide +kernel
theorem dX7_fewer_35 : decode cX7_fewer 35 = .ok (.ireturn, 1) := by decide +kernel
theorem dX7_fewer_36 : decode cX7_fewer 36 = .ok (.aload_n 0, 1) := by decide +kernel
theorem dX7_fewer_37 : decode cX7_fewer 37 = .ok (.getfield 10, 3) := by decide +kernel
theorem dX7_fewer_40 : decode cX7_fewer 40 = .ok (.getfield 83, 3) := by decide +kernel
theorem dX7_fewer_43 : decode cX7_fewer 43 = .ok (.istore 4, 2) := by decide +kernel
theorem dX7_fewer_45 : decode cX7_fewer 45 = .ok (.iload 4, 2) := by decide +kernel
theorem dX7_fewer_47 : decode cX7_fewer 47 = .ok (.bipush 8, 2) := by decide +kernel
theorem dX7_fewer_49 : decode cX7_fewer 49 = .ok (.if_icmp .lt 9, 3) := by decide +kernel
theorem dX7_fewer_52 : decode cX7_fewer 52 = .ok (.aload_n 0, 1) := by decide +kernel
theorem dX7_fewer_53 : decode cX7_fewer 53 = .ok (.iconst 4, 1) := by decide +kernel
theorem dX7_fewer_54 : decode cX7_fewer 54 = .ok (.invokevirtual 61, 3) := by decide +kernel
theorem dX7_fewer_57 : decode cX7_fewer 57 = .ok (.ireturn, 1) := by decide +kernel
theorem dX7_fewer_58 : decode cX7_fewer 58 = .ok (.aload_n 0, 1) := by decide +kernel
theorem dX7_fewer_59 : decode cX7_fewer 59 = .ok (.getfield 19, 3) := by decide +kernel
theorem dX7_fewer_62 : decode cX7_fewer 62 = .ok (.aload_n 0, 1) := by decide +kernel
theorem dX7_fewer_63 : decode cX7_fewer 63 = .ok (.getfield 10, 3) := by decide +kernel
theorem dX7_fewer_66 : decode cX7_fewer 66 = .ok (.invokevirtual 187, 3) := by decide +kernel
theorem dX7_fewer_69 : decode cX7_fewer 69 = .ok (.aload_n 0, 1) := by decide +kernel
theorem dX7_fewer_70 : decode cX7_fewer 70 = .ok (.getfield 19, 3) := by decide +kernel
theorem dX7_fewer_73 : decode cX7_fewer 73 = .ok (.iload_n 3, 1) := by decide +kernel
theorem dX7_fewer_74 : decode cX7_fewer 74 = .ok (.iconst 0, 1) := by decide +kernel
theorem dX7_fewer_75 : decode cX7_fewer 75 = .ok (.iload 4, 2) := by decide +kernel
theorem dX7_fewer_77 : decode cX7_fewer 77 = .ok (.invokevirtual 202, 3) := by decide +kernel
theorem dX7_fewer_80 : decode cX7_fewer 80 = .ok (.istore 5, 2) := by decide +kernel
theorem dX7_fewer_82 : decode cX7_fewer 82 = .ok (.aload_n 0, 1) := by decide +kernel
theorem dX7_fewer_83 : decode cX7_fewer 83 = .ok (.getfield 19, 3) := by decide +kernel
theorem dX7_fewer_86 : decode cX7_fewer 86 = .ok (.aload_n 0, 1) := by decide +kernel
theorem dX7_fewer_87 : decode cX7_fewer 87 = .ok (.getfield 10, 3) := by decide +kernel
theorem dX7_fewer_90 : decode cX7_fewer 90 = .ok (.invokevirtual 187, 3) := by decide +kernel
theorem dX7_fewer_93 : decode cX7_fewer 93 = .ok (.aload_n 0, 1) := by decide +kernel
theorem dX7_fewer_94 : decode cX7_fewer 94 = .ok (.getfield 19, 3) := by decide +kernel
theorem dX7_fewer_97 : decode cX7_fewer 97 = .ok (.iload_n 1, 1) := by decide +kernel
theorem dX7_fewer_98 : decode cX7_fewer 98 = .ok (.iload_n 2, 1) := by decide +kernel
theorem dX7_fewer_99 : decode cX7_fewer 99 = .ok (.iconst 0, 1) := by decide +kernel
theorem dX7_fewer_100 : decode cX7_fewer 100 = .ok (.invokevirtual 86, 3) := by decide +kernel
theorem dX7_fewer_103 : decode cX7_fewer 103 = .ok (.iload 5, 2) := by decide +kernel
theorem dX7_fewer_105 : decode cX7_fewer 105 = .ok (.aload_n 0, 1) := by decide +kernel
theorem dX7_fewer_106 : decode cX7_fewer 106 = .ok (.getfield 19, 3) := by decide +kernel
theorem dX7_fewer_109 : decode cX7_fewer 109 = .ok (.iload_n 3, 1) := by decide +kernel
theorem dX7_fewer_110 : decode cX7_fewer 110 = .ok (.iconst 0, 1) := by decide +kernel
theorem dX7_fewer_111 : decode cX7_fewer 111 = .ok (.iload 4, 2) := by decide +kernel
theorem dX7_fewer_113 : decode cX7_fewer 113 = .ok (.invokevirtual 202, 3) := by decide +kernel
theorem dX7_fewer_116 : decode cX7_fewer 116 = .ok (.isub, 1) := by decide +kernel
theorem dX7_fewer_117 : decode cX7_fewer 117 = .ok (.ireturn, 1) := by decide +kernel
theorem dX7_bestPlace_0 : decode cX7_bestPlace 0 = .ok (.iload_n 1, 1) := by decide +kernel
theorem dX7_bestPlace_1 : decode cX7_bestPlace 1 = .ok (.iconst 0, 1) := by decide +kernel
theorem dX7_bestPlace_2 : decode cX7_bestPlace 2 = .ok (.bipush 69, 2) := by decide +kernel
theorem dX7_bestPlace_4 : decode cX7_bestPlace 4 = .ok (.invokestatic 57, 3) := by decide +kernel
theorem dX7_bestPlace_7 : decode cX7_bestPlace 7 = .ok (.ifCond .ne 13, 3) := by decide +kernel
theorem dX7_bestPlace_10 : decode cX7_bestPlace 10 = .ok (.iload_n 2, 1) := by decide +kernel
theorem dX7_bestPlace_11 : decode cX7_bestPlace 11 = .ok (.iconst 1, 1) := by decide +kernel
theorem dX7_bestPlace_12 : decode cX7_bestPlace 12 = .ok (.bipush 48, 2) := by decide +kernel
theorem dX7_bestPlace_14 : decode cX7_bestPlace 14 = .ok (.invokestatic 57, 3) := by decide +kernel
theorem dX7_bestPlace_17 : decode cX7_bestPlace 17 = .ok (.ifCond .eq 9, 3) := by decide +kernel
theorem dX7_bestPlace_20 : decode cX7_bestPlace 20 = .ok (.aload_n 0, 1) := by decide +kernel
theorem dX7_bestPlace_21 : decode cX7_bestPlace 21 = .ok (.iconst 1, 1) := by decide +kernel
theorem dX7_bestPlace_22 : decode cX7_bestPlace 22 = .ok (.invokevirtual 61, 3) := by decide +kernel
theorem dX7_bestPlace_25 : decode cX7_bestPlace 25 = .ok (.ireturn, 1) := by decide +kernel
theorem dX7_bestPlace_26 : decode cX7_bestPlace 26 = .ok (.aload_n 0, 1) := by decide +kernel
theorem dX7_bestPlace_27 : decode cX7_bestPlace 27 = .ok (.getfield 10, 3) := by decide +kernel
theorem dX7_bestPlace_30 : decode cX7_bestPlace 30 = .ok (.getfield 83, 3) := by decide +kernel
theorem dX7_bestPlace_33 : decode cX7_bestPlace 33 = .ok (.istore_n 3, 1) := by decide +kernel
theorem dX7_bestPlace_34 : decode cX7_bestPlace 34 = .ok (.iload_n 3, 1) := by decide +kernel
theorem dX7_bestPlace_35 : decode cX7_bestPlace 35 = .ok (.bipush 8, 2) := by decide +kernel
theorem dX7_bestPlace_37 : decode cX7_bestPlace 37 = .ok (.if_icmp .lt 9, 3) := by decide +kernel
theorem dX7_bestPlace_40 : decode cX7_bestPlace 40 = .ok (.aload_n 0, 1) := by decide +kernel
theorem dX7_bestPlace_41 : decode cX7_bestPlace 41 = .ok (.iconst 4, 1) := by decide +kernel
theorem dX7_bestPlace_42 : decode cX7_bestPlace 42 = .ok (.invokevirtual 61, 3) := by decide +kernel
theorem dX7_bestPlace_45 : decode cX7_bestPlace 45 = .ok (.ireturn, 1) := by decide +kernel
theorem dX7_bestPlace_46 : decode cX7_bestPlace 46 = .ok (.iconst 0, 1) := by decide +kernel
theorem dX7_bestPlace_47 : decode cX7_bestPlace 47 = .ok (.istore 4, 2) := by decide +kernel
theorem dX7_bestPlace_49 : decode cX7_bestPlace 49 = .ok (.iconst (-1), 1) := by decide +kernel
theorem dX7_bestPlace_50 : decode cX7_bestPlace 50 = .ok (.istore 5, 2) := by decide +kernel
theorem dX7_bestPlace_52 : decode cX7_bestPlace 52 = .ok (.iconst 0, 1) := by decide +kernel
theorem dX7_bestPlace_53 : decode cX7_bestPlace 53 = .ok (.istore 6, 2) := by decide +kernel
theorem dX7_bestPlace_55 : decode cX7_bestPlace 55 = .ok (.iload 6, 2) := by decide +kernel
theorem dX7_bestPlace_57 : decode cX7_bestPlace 57 = .ok (.bipush 12, 2) := by decide +kernel
theorem dX7_bestPlace_59 : decode cX7_bestPlace 59 = .ok (.if_icmp .ge 60, 3) := by decide +kernel
theorem dX7_bestPlace_62 : decode cX7_bestPlace 62 = .ok (.aload_n 0, 1) := by decide +kernel
theorem dX7_bestPlace_63 : decode cX7_bestPlace 63 = .ok (.getfield 19, 3) := by decide +kernel
theorem dX7_bestPlace_66 : decode cX7_bestPlace 66 = .ok (.aload_n 0, 1) := by decide +kernel
theorem dX7_bestPlace_67 : decode cX7_bestPlace 67 = .ok (.getfield 10, 3) := by decide +kernel
theorem dX7_bestPlace_70 : decode cX7_bestPlace 70 = .ok (.invokevirtual 187, 3) := by decide +kernel
theorem dX7_bestPlace_73 : decode cX7_bestPlace 73 = .ok (.aload_n 0, 1) := by decide +kernel
theorem dX7_bestPlace_74 : decode cX7_bestPlace 74 = .ok (.getfield 19, 3) := by decide +kernel
theorem dX7_bestPlace_77 : decode cX7_bestPlace 77 = .ok (.iload_n 1, 1) := by decide +kernel
theorem dX7_bestPlace_78 : decode cX7_bestPlace 78 = .ok (.iload 6, 2) := by decide +kernel
theorem dX7_bestPlace_80 : decode cX7_bestPlace 80 = .ok (.iconst 0, 1) := by decide +kernel
theorem dX7_bestPlace_81 : decode cX7_bestPlace 81 = .ok (.invokevirtual 86, 3) := by decide +kernel
theorem dX7_bestPlace_84 : decode cX7_bestPlace 84 = .ok (.aload_n 0, 1) := by decide +kernel
theorem dX7_bestPlace_85 : decode cX7_bestPlace 85 = .ok (.getfield 19, 3) := by decide +kernel
theorem dX7_bestPlace_88 : decode cX7_bestPlace 88 = .ok (.iload_n 2, 1) := by decide +kernel
theorem dX7_bestPlace_89 : decode cX7_bestPlace 89 = .ok (.iload_n 3, 1) := by decide +kernel
theorem dX7_bestPlace_90 : decode cX7_bestPlace 90 = .ok (.iload_n 3, 1) := by decide +kernel
theorem dX7_bestPlace_91 : decode cX7_bestPlace 91 = .ok (.iconst 1, 1) := by decide +kernel
theorem dX7_bestPlace_92 : decode cX7_bestPlace 92 = .ok (.iadd, 1) := by decide +kernel
theorem dX7_bestPlace_93 : decode cX7_bestPlace 93 = .ok (.invokevirtual 202, 3) := by decide +kernel
theorem dX7_bestPlace_96 : decode cX7_bestPlace 96 = .ok (.istore 7, 2) := by decide +kernel
theorem dX7_bestPlace_98 : decode cX7_bestPlace 98 = .ok (.iload 7, 2) := by decide +kernel
theorem dX7_bestPlace_100 : decode cX7_bestPlace 100 = .ok (.iload 5, 2) := by decide +kernel
theorem dX7_bestPlace_102 : decode cX7_bestPlace 102 = .ok (.if_icmp .le 11, 3) := by decide +kernel
theorem dX7_bestPlace_105 : decode cX7_bestPlace 105 = .ok (.iload 6, 2) := by decide +kernel
theorem dX7_bestPlace_107 : decode cX7_bestPlace 107 = .ok (.istore 4, 2) := by decide +kernel
theorem dX7_bestPlace_109 : decode cX7_bestPlace 109 = .ok (.iload 7, 2) := by decide +kernel
theorem dX7_bestPlace_111 : decode cX7_bestPlace 111 = .ok (.istore 5, 2) := by decide +kernel
theorem dX7_bestPlace_113 : decode cX7_bestPlace 113 = .ok (.iinc 6 1, 3) := by decide +kernel
theorem dX7_bestPlace_116 : decode cX7_bestPlace 116 = .ok (.goto (-61), 3) := by decide +kernel
theorem dX7_bestPlace_119 : decode cX7_bestPlace 119 = .ok (.iload 4, 2) := by decide +kernel
theorem dX7_bestPlace_121 : decode cX7_bestPlace 121 = .ok (.ireturn, 1) := by decide +kernel
theorem dX7_who_0 : decode cX7_who 0 = .ok (.iload_n 1, 1) := by decide +kernel
theorem dX7_who_1 : decode cX7_who 1 = .ok (.iconst 0, 1) := by decide +kernel
theorem dX7_who_2 : decode cX7_who 2 = .ok (.bipush 99, 2) := by decide +kernel
theorem dX7_who_4 : decode cX7_who 4 = .ok (.invokestatic 57, 3) := by decide +kernel
theorem dX7_who_7 : decode cX7_who 7 = .ok (.ifCond .ne 12, 3) := by decide +kernel
theorem dX7_who_10 : decode cX7_who 10 = .ok (.iload_n 2, 1) := by decide +kernel
theorem dX7_who_11 : decode cX7_who 11 = .ok (.iconst 0, 1) := by decide +kernel
theorem dX7_who_12 : decode cX7_who 12 = .ok (.iconst 3, 1) := by decide +kernel
theorem dX7_who_13 : decode cX7_who 13 = .ok (.invokestatic 57, 3) := by decide +kernel
theorem dX7_who_16 : decode cX7_who 16 = .ok (.ifCond .eq 9, 3) := by decide +kernel
theorem dX7_who_19 : decode cX7_who 19 = .ok (.aload_n 0, 1) := by decide +kernel
theorem dX7_who_20 : decode cX7_who 20 = .ok (.iconst 1, 1) := by decide +kernel
theorem dX7_who_21 : decode cX7_who 21 = .ok (.invokevirtual 61, 3) := by decide +kernel
theorem dX7_who_24 : decode cX7_who 24 = .ok (.ireturn, 1) := by decide +kernel
theorem dX7_who_25 : decode cX7_who 25 = .ok (.iconst 0, 1) := by decide +kernel
theorem dX7_who_26 : decode cX7_who 26 = .ok (.istore_n 3, 1) := by decide +kernel
theorem dX7_who_27 : decode cX7_who 27 = .ok (.iconst 0, 1) := by decide +kernel
theorem dX7_who_28 : decode cX7_who 28 = .ok (.istore 4, 2) := by decide +kernel
theorem dX7_who_30 : decode cX7_who 30 = .ok (.iconst 1, 1) := by decide +kernel
theorem dX7_who_31 : decode cX7_who 31 = .ok (.aload_n 0, 1) := by decide +kernel
theorem dX7_who_32 : decode cX7_who 32 = .ok (.getfield 10, 3) := by decide +kernel
theorem dX7_who_35 : decode cX7_who 35 = .ok (.getfield 83, 3) := by decide +kernel
theorem dX7_who_38 : decode cX7_who 38 = .ok (.ishl, 1) := by decide +kernel
theorem dX7_who_39 : decode cX7_who 39 = .ok (.iconst 1, 1) := by decide +kernel
theorem dX7_who_40 : decode cX7_who 40 = .ok (.isub, 1) := by decide +kernel
theorem dX7_who_41 : decode cX7_who 41 = .ok (.istore 5, 2) := by decide +kernel
theorem dX7_who_43 : decode cX7_who 43 = .ok (.iconst 0, 1) := by decide +kernel
theorem dX7_who_44 : decode cX7_who 44 = .ok (.istore 6, 2) := by decide +kernel
theorem dX7_who_46 : decode cX7_who 46 = .ok (.aload_n 0, 1) := by decide +kernel
theorem dX7_who_47 : decode cX7_who 47 = .ok (.getfield 19, 3) := by decide +kernel
theorem dX7_who_50 : decode cX7_who 50 = .ok (.aload_n 0, 1) := by decide +kernel
theorem dX7_who_51 : decode cX7_who 51 = .ok (.getfield 10, 3) := by decide +kernel
theorem dX7_who_54 : decode cX7_who 54 = .ok (.invokevirtual 187, 3) := by decide +kernel
theorem dX7_who_57 : decode cX7_who 57 = .ok (.iconst 0, 1) := by decide +kernel
theorem dX7_who_58 : decode cX7_who 58 = .ok (.istore 7, 2) := by decide +kernel
theorem dX7_who_60 : decode cX7_who 60 = .ok (.iload 7, 2) := by decide +kernel
theorem dX7_who_62 : decode cX7_who 62 = .ok (.iconst 1, 1) := by decide +kernel
theorem dX7_who_63 : decode cX7_who 63 = .ok (.aload_n 0, 1) := by decide +kernel
theorem dX7_who_64 : decode cX7_who 64 = .ok (.getfield 10, 3) := by decide +kernel
theorem dX7_who_67 : decode cX7_who 67 = .ok (.getfield 83, 3) := by decide +kernel
theorem dX7_who_70 : decode cX7_who 70 = .ok (.ishl, 1) := by decide +kernel
theorem dX7_who_71 : decode cX7_who 71 = .ok (.if_icmp .ge 61, 3) := by decide +kernel
theorem dX7_who_74 : decode cX7_who 74 = .ok (.aload_n 0, 1) := by decide +kernel
theorem dX7_who_75 : decode cX7_who 75 = .ok (.getfield 19, 3) := by decide +kernel
theorem dX7_who_78 : decode cX7_who 78 = .ok (.iload 7, 2) := by decide +kernel
theorem dX7_who_80 : decode cX7_who 80 = .ok (.invokevirtual 194, 3) := by decide +kernel
theorem dX7_who_83 : decode cX7_who 83 = .ok (.aload_n 0, 1) := by decide +kernel
theorem dX7_who_84 : decode cX7_who 84 = .ok (.getfield 19, 3) := by decide +kernel
theorem dX7_who_87 : decode cX7_who 87 = .ok (.invokevirtual 123, 3) := by decide +kernel
theorem dX7_who_90 : decode cX7_who 90 = .ok (.aload_n 0, 1) := by decide +kernel
theorem dX7_who_91 : decode cX7_who 91 = .ok (.getfield 19, 3) := by decide +kernel
theorem dX7_who_94 : decode cX7_who 94 = .ok (.getfield 206, 3) := by decide +kernel
theorem dX7_who_97 : decode cX7_who 97 = .ok (.iload_n 1, 1) := by decide +kernel
theorem dX7_who_98 : decode cX7_who 98 = .ok (.if_icmp .ne 28, 3) := by decide +kernel
theorem dX7_who_101 : decode cX7_who 101 = .ok (.iload_n 3, 1) := by decide +kernel
theorem dX7_who_102 : decode cX7_who 102 = .ok (.ifCond .ne 7, 3) := by decide +kernel
theorem dX7_who_105 : decode cX7_who 105 = .ok (.iload 7, 2) := by decide +kernel
theorem dX7_who_107 : decode cX7_who 107 = .ok (.istore 4, 2) := by decide +kernel
theorem dX7_who_109 : decode cX7_who 109 = .ok (.iinc 3 1, 3) := by decide +kernel
theorem dX7_who_112 : decode cX7_who 112 = .ok (.iload 5, 2) := by decide +kernel
theorem dX7_who_114 : decode cX7_who 114 = .ok (.iload 7, 2) := by decide +kernel
theorem dX7_who_116 : decode cX7_who 116 = .ok (.iand, 1) := by decide +kernel
theorem dX7_who_117 : decode cX7_who 117 = .ok (.istore 5, 2) := by decide +kernel
theorem dX7_who_119 : decode cX7_who 119 = .ok (.iload 6, 2) := by decide +kernel
theorem dX7_who_121 : decode cX7_who 121 = .ok (.iload 7, 2) := by decide +kernel
theorem dX7_who_123 : decode cX7_who 123 = .ok (.ior, 1) := by decide +kernel
theorem dX7_who_124 : decode cX7_who 124 = .ok (.istore 6, 2) := by decide +kernel
theorem dX7_who_126 : decode cX7_who 126 = .ok (.iinc 7 1, 3) := by decide +kernel
theorem dX7_who_129 : decode cX7_who 129 = .ok (.goto (-69), 3) := by decide +kernel
theorem dX7_who_132 : decode cX7_who 132 = .ok (.iload_n 3, 1) := by decide +kernel
theorem dX7_who_133 : decode cX7_who 133 = .ok (.ifCond .ne 19, 3) := by decide +kernel
theorem dX7_who_136 : decode cX7_who 136 = .ok (.iload_n 2, 1) := by decide +kernel
theorem dX7_who_137 : decode cX7_who 137 = .ok (.iconst 1, 1) := by decide +kernel
theorem dX7_who_138 : decode cX7_who 138 = .ok (.if_icmp .eq 8, 3) := by decide +kernel
theorem dX7_who_141 : decode cX7_who 141 = .ok (.iload_n 2, 1) := by decide +kernel
theorem dX7_who_142 : decode cX7_who 142 = .ok (.iconst 2, 1) := by decide +kernel
theorem dX7_who_143 : decode cX7_who 143 = .ok (.if_icmp .ne 9, 3) := by decide +kernel
theorem dX7_who_146 : decode cX7_who 146 = .ok (.aload_n 0, 1) := by decide +kernel
theorem dX7_who_147 : decode cX7_who 147 = .ok (.iconst 2, 1) := by decide +kernel
theorem dX7_who_148 : decode cX7_who 148 = .ok (.invokevirtual 61, 3) := by decide +kernel
theorem dX7_who_151 : decode cX7_who 151 = .ok (.ireturn, 1) := by decide +kernel
theorem dX7_who_152 : decode cX7_who 152 = .ok (.iload_n 2, 1) := by decide +kernel
theorem dX7_who_153 : decode cX7_who 153 = .ok (.tableswitch 35 0 2 #[27, 29, 32], 27) := by decide +kernel
theorem dX7_who_180 : decode cX7_who 180 = .ok (.iload_n 3, 1) := by decide +kernel
theorem dX7_who_181 : decode cX7_who 181 = .ok (.ireturn, 1) := by decide +kernel
theorem dX7_who_182 : decode cX7_who 182 = .ok (.iload 4, 2) := by decide +kernel
theorem dX7_who_184 : decode cX7_who 184 = .ok (.ireturn, 1) := by decide +kernel
theorem dX7_who_185 : decode cX7_who 185 = .ok (.iload 5, 2) := by decide +kernel
theorem dX7_who_187 : decode cX7_who 187 = .ok (.ireturn, 1) := by decide +kernel
theorem dX7_who_188 : decode cX7_who 188 = .ok (.iload 6, 2) := by decide +kernel
theorem dX7_who_190 : decode cX7_who 190 = .ok (.ireturn, 1) := by decide +kernel
theorem dX7_slipped_0 : decode cX7_slipped 0 = .ok (.iconst 0, 1) := by decide +kernel
theorem dX7_slipped_1 : decode cX7_slipped 1 = .ok (.istore_n 1, 1) := by decide +kernel
theorem dX7_slipped_2 : decode cX7_slipped 2 = .ok (.iconst 0, 1) := by decide +kernel
theorem dX7_slipped_3 : decode cX7_slipped 3 = .ok (.istore_n 2, 1) := by decide +kernel
theorem dX7_slipped_4 : decode cX7_slipped 4 = .ok (.iload_n 2, 1) := by decide +kernel
theorem dX7_slipped_5 : decode cX7_slipped 5 = .ok (.aload_n 0, 1) := by decide +kernel
theorem dX7_slipped_6 : decode cX7_slipped 6 = .ok (.getfield 10, 3) := by decide +kernel
theorem dX7_slipped_9 : decode cX7_slipped 9 = .ok (.getfield 83, 3) := by decide +kernel
theorem dX7_slipped_12 : decode cX7_slipped 12 = .ok (.if_icmp .ge 42, 3) := by decide +kernel
theorem dX7_slipped_15 : decode cX7_slipped 15 = .ok (.aload_n 0, 1) := by decide +kernel
theorem dX7_slipped_16 : decode cX7_slipped 16 = .ok (.getfield 10, 3) := by decide +kernel
theorem dX7_slipped_19 : decode cX7_slipped 19 = .ok (.getfield 97, 3) := by decide +kernel
theorem dX7_slipped_22 : decode cX7_slipped 22 = .ok (.iload_n 2, 1) := by decide +kernel
theorem dX7_slipped_23 : decode cX7_slipped 23 = .ok (.aaload, 1) := by decide +kernel
theorem dX7_slipped_24 : decode cX7_slipped 24 = .ok (.getfield 110, 3) := by decide +kernel
theorem dX7_slipped_27 : decode cX7_slipped 27 = .ok (.aload_n 0, 1) := by decide +kernel
theorem dX7_slipped_28 : decode cX7_slipped 28 = .ok (.getfield 10, 3) := by decide +kernel
theorem dX7_slipped_31 : decode cX7_slipped 31 = .ok (.getfield 97, 3) := by decide +kernel
theorem dX7_slipped_34 : decode cX7_slipped 34 = .ok (.iload_n 2, 1) := by decide +kernel
theorem dX7_slipped_35 : decode cX7_slipped 35 = .ok (.aaload, 1) := by decide +kernel
theorem dX7_slipped_36 : decode cX7_slipped 36 = .ok (.getfield 209, 3) := by decide +kernel
theorem dX7_slipped_39 : decode cX7_slipped 39 = .ok (.if_icmp .eq 9, 3) := by decide +kernel
theorem dX7_slipped_42 : decode cX7_slipped 42 = .ok (.iload_n 1, 1) := by decide +kernel
theorem dX7_slipped_43 : decode cX7_slipped 43 = .ok (.iconst 1, 1) := by decide +kernel
theorem dX7_slipped_44 : decode cX7_slipped 44 = .ok (.iload_n 2, 1) := by decide +kernel
theorem dX7_slipped_45 : decode cX7_slipped 45 = .ok (.ishl, 1) := by decide +kernel
theorem dX7_slipped_46 : decode cX7_slipped 46 = .ok (.ior, 1) := by decide +kernel
theorem dX7_slipped_47 : decode cX7_slipped 47 = .ok (.istore_n 1, 1) := by decide +kernel
theorem dX7_slipped_48 : decode cX7_slipped 48 = .ok (.iinc 2 1, 3) := by decide +kernel
theorem dX7_slipped_51 : decode cX7_slipped 51 = .ok (.goto (-47), 3) := by decide +kernel
theorem dX7_slipped_54 : decode cX7_slipped 54 = .ok (.iload_n 1, 1) := by decide +kernel
theorem dX7_slipped_55 : decode cX7_slipped 55 = .ok (.ireturn, 1) := by decide +kernel
theorem dX7_voice_0 : decode cX7_voice 0 = .ok (.aload_n 0, 1) := by decide +kernel
theorem dX7_voice_1 : decode cX7_voice 1 = .ok (.iload_n 1, 1) := by decide +kernel
theorem dX7_voice_2 : decode cX7_voice 2 = .ok (.invokevirtual 90, 3) := by decide +kernel
theorem dX7_voice_5 : decode cX7_voice 5 = .ok (.ifCond .ne 12, 3) := by decide +kernel
theorem dX7_voice_8 : decode cX7_voice 8 = .ok (.iload_n 2, 1) := by decide +kernel
theorem dX7_voice_9 : decode cX7_voice 9 = .ok (.iconst 0, 1) := by decide +kernel
theorem dX7_voice_10 : decode cX7_voice 10 = .ok (.iconst 3, 1) := by decide +kernel
theorem dX7_voice_11 : decode cX7_voice 11 = .ok (.invokestatic 57, 3) := by decide +kernel
theorem dX7_voice_14 : decode cX7_voice 14 = .ok (.ifCond .eq 9, 3) := by decide +kernel
theorem dX7_voice_17 : decode cX7_voice 17 = .ok (.aload_n 0, 1) := by decide +kernel
theorem dX7_voice_18 : decode cX7_voice 18 = .ok (.iconst 1, 1) := by decide +kernel
theorem dX7_voice_19 : decode cX7_voice 19 = .ok (.invokevirtual 61, 3) := by decide +kernel
theorem dX7_voice_22 : decode cX7_voice 22 = .ok (.ireturn, 1) := by decide +kernel
theorem dX7_voice_23 : decode cX7_voice 23 = .ok (.aload_n 0, 1) := by decide +kernel
theorem dX7_voice_24 : decode cX7_voice 24 = .ok (.getfield 10, 3) := by decide +kernel
theorem dX7_voice_27 : decode cX7_voice 27 = .ok (.getfield 97, 3) := by decide +kernel
theorem dX7_voice_30 : decode cX7_voice 30 = .ok (.iload_n 1, 1) := by decide +kernel
theorem dX7_voice_31 : decode cX7_voice 31 = .ok (.aaload, 1) := by decide +kernel
theorem dX7_voice_32 : decode cX7_voice 32 = .ok (.astore 4, 2) := by decide +kernel
theorem dX7_voice_34 : decode cX7_voice 34 = .ok (.aload_n 0, 1) := by decide +kernel
theorem dX7_voice_35 : decode cX7_voice 35 = .ok (.getfield 42, 3) := by decide +kernel
theorem dX7_voice_38 : decode cX7_voice 38 = .ok (.aload 4, 2) := by decide +kernel
theorem dX7_voice_40 : decode cX7_voice 40 = .ok (.getfield 101, 3) := by decide +kernel
theorem dX7_voice_43 : decode cX7_voice 43 = .ok (.iload_n 1, 1) := by decide +kernel
theorem dX7_voice_44 : decode cX7_voice 44 = .ok (.aload 4, 2) := by decide +kernel
theorem dX7_voice_46 : decode cX7_voice 46 = .ok (.getfield 212, 3) := by decide +kernel
theorem dX7_voice_49 : decode cX7_voice 49 = .ok (.iload_n 2, 1) := by decide +kernel
theorem dX7_voice_50 : decode cX7_voice 50 = .ok (.iload_n 3, 1) := by decide +kernel
theorem dX7_voice_51 : decode cX7_voice 51 = .ok (.invokevirtual 215, 3) := by decide +kernel
theorem dX7_voice_54 : decode cX7_voice 54 = .ok (.istore 5, 2) := by decide +kernel
theorem dX7_voice_56 : decode cX7_voice 56 = .ok (.aload_n 0, 1) := by decide +kernel
theorem dX7_voice_57 : decode cX7_voice 57 = .ok (.getfield 42, 3) := by decide +kernel
theorem dX7_voice_60 : decode cX7_voice 60 = .ok (.getfield 219, 3) := by decide +kernel
theorem dX7_voice_63 : decode cX7_voice 63 = .ok (.ifCond .eq 12, 3) := by decide +kernel
theorem dX7_voice_66 : decode cX7_voice 66 = .ok (.aload_n 0, 1) := by decide +kernel
theorem dX7_voice_67 : decode cX7_voice 67 = .ok (.bipush 6, 2) := by decide +kernel
theorem dX7_voice_69 : decode cX7_voice 69 = .ok (.invokevirtual 61, 3) := by decide +kernel
theorem dX7_voice_72 : decode cX7_voice 72 = .ok (.goto 5, 3) := by decide +kernel
theorem dX7_voice_75 : decode cX7_voice 75 = .ok (.iload 5, 2) := by decide +kernel
theorem dX7_voice_77 : decode cX7_voice 77 = .ok (.ireturn, 1) := by decide +kernel
theorem dX7_body_0 : decode cX7_body 0 = .ok (.iload_n 1, 1) := by decide +kernel
theorem dX7_body_1 : decode cX7_body 1 = .ok (.iconst 0, 1) := by decide +kernel
theorem dX7_body_2 : decode cX7_body 2 = .ok (.aload_n 0, 1) := by decide +kernel
theorem dX7_body_3 : decode cX7_body 3 = .ok (.getfield 42, 3) := by decide +kernel
theorem dX7_body_6 : decode cX7_body 6 = .ok (.getfield 223, 3) := by decide +kernel
theorem dX7_body_9 : decode cX7_body 9 = .ok (.iconst 1, 1) := by decide +kernel
theorem dX7_body_10 : decode cX7_body 10 = .ok (.isub, 1) := by decide +kernel
theorem dX7_body_11 : decode cX7_body 11 = .ok (.invokestatic 57, 3) := by decide +kernel
theorem dX7_body_14 : decode cX7_body 14 = .ok (.ifCond .eq 9, 3) := by decide +kernel
theorem dX7_body_17 : decode cX7_body 17 = .ok (.aload_n 0, 1) := by decide +kernel
theorem dX7_body_18 : decode cX7_body 18 = .ok (.iconst 2, 1) := by decide +kernel
theorem dX7_body_19 : decode cX7_body 19 = .ok (.invokevirtual 61, 3) := by decide +kernel
theorem dX7_body_22 : decode cX7_body 22 = .ok (.ireturn, 1) := by decide +kernel
theorem dX7_body_23 : decode cX7_body 23 = .ok (.aload_n 0, 1) := by decide +kernel
theorem dX7_body_24 : decode cX7_body 24 = .ok (.getfield 42, 3) := by decide +kernel
theorem dX7_body_27 : decode cX7_body 27 = .ok (.getfield 226, 3) := by decide +kernel
theorem dX7_body_30 : decode cX7_body 30 = .ok (.iload_n 1, 1) := by decide +kernel
theorem dX7_body_31 : decode cX7_body 31 = .ok (.iaload, 1) := by decide +kernel
theorem dX7_body_32 : decode cX7_body 32 = .ok (.ireturn, 1) := by decide +kernel
theorem dX7_sheet_0 : decode cX7_sheet 0 = .ok (.iload_n 1, 1) := by decide +kernel
theorem dX7_sheet_1 : decode cX7_sheet 1 = .ok (.invokestatic 229, 3) := by decide +kernel
theorem dX7_sheet_4 : decode cX7_sheet 4 = .ok (.ifCond .ne 25, 3) := by decide +kernel
theorem dX7_sheet_7 : decode cX7_sheet 7 = .ok (.iload_n 2, 1) := by decide +kernel
theorem dX7_sheet_8 : decode cX7_sheet 8 = .ok (.ifCond .eq 27, 3) := by decide +kernel
theorem dX7_sheet_11 : decode cX7_sheet 11 = .ok (.iload_n 2, 1) := by decide +kernel
theorem dX7_sheet_12 : decode cX7_sheet 12 = .ok (.bipush 8, 2) := by decide +kernel
theorem dX7_sheet_14 : decode cX7_sheet 14 = .ok (.if_icmp .eq 21, 3) := by decide +kernel
theorem dX7_sheet_17 : decode cX7_sheet 17 = .ok (.iload_n 2, 1) := by decide +kernel
theorem dX7_sheet_18 : decode cX7_sheet 18 = .ok (.bipush 16, 2) := by decide +kernel
theorem dX7_sheet_20 : decode cX7_sheet 20 = .ok (.if_icmp .eq 15, 3) := by decide +kernel
theorem dX7_sheet_23 : decode cX7_sheet 23 = .ok (.iload_n 2, 1) := by decide +kernel
theorem dX7_sheet_24 : decode cX7_sheet 24 = .ok (.bipush 32, 2) := by decide +kernel
theorem dX7_sheet_26 : decode cX7_sheet 26 = .ok (.if_icmp .eq 9, 3) := by decide +kernel
theorem dX7_sheet_29 : decode cX7_sheet 29 = .ok (.aload_n 0, 1) := by decide +kernel
theorem dX7_sheet_30 : decode cX7_sheet 30 = .ok (.iconst 1, 1) := by decide +kernel
theorem dX7_sheet_31 : decode cX7_sheet 31 = .ok (.invokevirtual 61, 3) := by decide +kernel
theorem dX7_sheet_34 : decode cX7_sheet 34 = .ok (.ireturn, 1) := by decide +kernel
theorem dX7_sheet_35 : decode cX7_sheet 35 = .ok (.iload_n 2, 1) := by decide +kernel
theorem dX7_sheet_36 : decode cX7_sheet 36 = .ok (.ifCond .eq 13, 3) := by decide +kernel
theorem dX7_sheet_39 : decode cX7_sheet 39 = .ok (.iload_n 3, 1) := by decide +kernel
theorem dX7_sheet_40 : decode cX7_sheet 40 = .ok (.ifCond .ge 9, 3) := by decide +kernel
theorem dX7_sheet_43 : decode cX7_sheet 43 = .ok (.aload_n 0, 1) := by decide +kernel
theorem dX7_sheet_44 : decode cX7_sheet 44 = .ok (.iconst 3, 1) := by decide +kernel
theorem dX7_sheet_45 : decode cX7_sheet 45 = .ok (.invokevirtual 61, 3) := by decide +kernel
theorem dX7_sheet_48 : decode cX7_sheet 48 = .ok (.ireturn, 1) := by decide +kernel
theorem dX7_sheet_49 : decode cX7_sheet 49 = .ok (.iload_n 2, 1) := by decide +kernel
theorem dX7_sheet_50 : decode cX7_sheet 50 = .ok (.ifCond .eq 15, 3) := by decide +kernel
theorem dX7_sheet_53 : decode cX7_sheet 53 = .ok (.iload_n 3, 1) := by decide +kernel
theorem dX7_sheet_54 : decode cX7_sheet 54 = .ok (.bipush 24, 2) := by decide +kernel
theorem dX7_sheet_56 : decode cX7_sheet 56 = .ok (.if_icmp .le 9, 3) := by decide +kernel
theorem dX7_sheet_59 : decode cX7_sheet 59 = .ok (.aload_n 0, 1) := by decide +kernel
theorem dX7_sheet_60 : decode cX7_sheet 60 = .ok (.iconst 1, 1) := by decide +kernel
theorem dX7_sheet_61 : decode cX7_sheet 61 = .ok (.invokevirtual 61, 3) := by decide +kernel
theorem dX7_sheet_64 : decode cX7_sheet 64 = .ok (.ireturn, 1) := by decide +kernel
theorem dX7_sheet_65 : decode cX7_sheet 65 = .ok (.aload_n 0, 1) := by decide +kernel
theorem dX7_sheet_66 : decode cX7_sheet 66 = .ok (.getfield 49, 3) := by decide +kernel
theorem dX7_sheet_69 : decode cX7_sheet 69 = .ok (.iload_n 1, 1) := by decide +kernel
theorem dX7_sheet_70 : decode cX7_sheet 70 = .ok (.iload_n 2, 1) := by decide +kernel
theorem dX7_sheet_71 : decode cX7_sheet 71 = .ok (.iload_n 2, 1) := by decide +kernel
theorem dX7_sheet_72 : decode cX7_sheet 72 = .ok (.ifCond .ne 7, 3) := by decide +kernel
theorem dX7_sheet_75 : decode cX7_sheet 75 = .ok (.iconst 0, 1) := by decide +kernel
theorem dX7_sheet_76 : decode cX7_sheet 76 = .ok (.goto 4, 3) := by decide +kernel
theorem dX7_sheet_79 : decode cX7_sheet 79 = .ok (.iload_n 3, 1) := by decide +kernel
theorem dX7_sheet_80 : decode cX7_sheet 80 = .ok (.invokevirtual 232, 3) := by decide +kernel
theorem dX7_sheet_83 : decode cX7_sheet 83 = .ok (.iconst 1, 1) := by decide +kernel
theorem dX7_sheet_84 : decode cX7_sheet 84 = .ok (.ireturn, 1) := by decide +kernel
theorem dX7_put_0 : decode cX7_put 0 = .ok (.iload_n 1, 1) := by decide +kernel
theorem dX7_put_1 : decode cX7_put 1 = .ok (.invokestatic 229, 3) := by decide +kernel
theorem dX7_put_4 : decode cX7_put 4 = .ok (.ifCond .eq 9, 3) := by decide +kernel
theorem dX7_put_7 : decode cX7_put 7 = .ok (.aload_n 0, 1) := by decide +kernel
theorem dX7_put_8 : decode cX7_put 8 = .ok (.iconst 1, 1) := by decide +kernel
theorem dX7_put_9 : decode cX7_put 9 = .ok (.invokevirtual 61, 3) := by decide +kernel
theorem dX7_put_12 : decode cX7_put 12 = .ok (.ireturn, 1) := by decide +kernel
theorem dX7_put_13 : decode cX7_put 13 = .ok (.aload_n 0, 1) := by decide +kernel
theorem dX7_put_14 : decode cX7_put 14 = .ok (.getfield 49, 3) := by decide +kernel
theorem dX7_put_17 : decode cX7_put 17 = .ok (.iload_n 1, 1) := by decide +kernel
theorem dX7_put_18 : decode cX7_put 18 = .ok (.invokevirtual 235, 3) := by decide +kernel
theorem dX7_put_21 : decode cX7_put 21 = .ok (.ifCond .eq 9, 3) := by decide +kernel
theorem dX7_put_24 : decode cX7_put 24 = .ok (.aload_n 0, 1) := by decide +kernel
theorem dX7_put_25 : decode cX7_put 25 = .ok (.iconst 2, 1) := by decide +kernel
theorem dX7_put_26 : decode cX7_put 26 = .ok (.invokevirtual 61, 3) := by decide +kernel
theorem dX7_put_29 : decode cX7_put 29 = .ok (.ireturn, 1) := by decide +kernel
theorem dX7_put_30 : decode cX7_put 30 = .ok (.iload_n 2, 1) := by decide +kernel
theorem dX7_put_31 : decode cX7_put 31 = .ok (.iconst 0, 1) := by decide +kernel
theorem dX7_put_32 : decode cX7_put 32 = .ok (.aload_n 0, 1) := by decide +kernel
theorem dX7_put_33 : decode cX7_put 33 = .ok (.getfield 49, 3) := by decide +kernel
theorem dX7_put_36 : decode cX7_put 36 = .ok (.getfield 238, 3) := by decide +kernel
theorem dX7_put_39 : decode cX7_put 39 = .ok (.iload_n 1, 1) := by decide +kernel
theorem dX7_put_40 : decode cX7_put 40 = .ok (.iaload, 1) := by decide +kernel
theorem dX7_put_41 : decode cX7_put 41 = .ok (.iconst 1, 1) := by decide +kernel
theorem dX7_put_42 : decode cX7_put 42 = .ok (.isub, 1) := by decide +kernel
theorem dX7_put_43 : decode cX7_put 43 = .ok (.invokestatic 57, 3) := by decide +kernel
theorem dX7_put_46 : decode cX7_put 46 = .ok (.ifCond .eq 9, 3) := by decide +kernel
theorem dX7_put_49 : decode cX7_put 49 = .ok (.aload_n 0, 1) := by decide +kernel
theorem dX7_put_50 : decode cX7_put 50 = .ok (.iconst 1, 1) := by decide +kernel
theorem dX7_put_51 : decode cX7_put 51 = .ok (.invokevirtual 61, 3) := by decide +kernel
theorem dX7_put_54 : decode cX7_put 54 = .ok (.ireturn, 1) := by decide +kernel
theorem dX7_put_55 : decode cX7_put 55 = .ok (.aload_n 0, 1) := by decide +kernel
theorem dX7_put_56 : decode cX7_put 56 = .ok (.getfield 49, 3) := by decide +kernel
theorem dX7_put_59 : decode cX7_put 59 = .ok (.getfield 241, 3) := by decide +kernel
theorem dX7_put_62 : decode cX7_put 62 = .ok (.iload_n 1, 1) := by decide +kernel
theorem dX7_put_63 : decode cX7_put 63 = .ok (.aaload, 1) := by decide +kernel
theorem dX7_put_64 : decode cX7_put 64 = .ok (.iload_n 2, 1) := by decide +kernel
theorem dX7_put_65 : decode cX7_put 65 = .ok (.aload_n 0, 1) := by decide +kernel
theorem dX7_put_66 : decode cX7_put 66 = .ok (.getfield 49, 3) := by decide +kernel
theorem dX7_put_69 : decode cX7_put 69 = .ok (.iload_n 1, 1) := by decide +kernel
theorem dX7_put_70 : decode cX7_put 70 = .ok (.iload_n 3, 1) := by decide +kernel
theorem dX7_put_71 : decode cX7_put 71 = .ok (.invokevirtual 245, 3) := by decide +kernel
theorem dX7_put_74 : decode cX7_put 74 = .ok (.iastore, 1) := by decide +kernel
theorem dX7_put_75 : decode cX7_put 75 = .ok (.iconst 1, 1) := by decide +kernel
theorem dX7_put_76 : decode cX7_put 76 = .ok (.ireturn, 1) := by decide +kernel
theorem dX7_move_0 : decode cX7_move 0 = .ok (.iload_n 1, 1) := by decide +kernel
theorem dX7_move_1 : decode cX7_move 1 = .ok (.invokestatic 229, 3) := by decide +kernel
theorem dX7_move_4 : decode cX7_move 4 = .ok (.ifCond .ne 10, 3) := by decide +kernel
theorem dX7_move_7 : decode cX7_move 7 = .ok (.iload_n 3, 1) := by decide +kernel
theorem dX7_move_8 : decode cX7_move 8 = .ok (.invokestatic 229, 3) := by decide +kernel
theorem dX7_move_11 : decode cX7_move 11 = .ok (.ifCond .eq 9, 3) := by decide +kernel
theorem dX7_move_14 : decode cX7_move 14 = .ok (.aload_n 0, 1) := by decide +kernel
theorem dX7_move_15 : decode cX7_move 15 = .ok (.iconst 1, 1) := by decide +kernel
theorem dX7_move_16 : decode cX7_move 16 = .ok (.invokevirtual 61, 3) := by decide +kernel
theorem dX7_move_19 : decode cX7_move 19 = .ok (.ireturn, 1) := by decide +kernel
theorem dX7_move_20 : decode cX7_move 20 = .ok (.aload_n 0, 1) := by decide +kernel
theorem dX7_move_21 : decode cX7_move 21 = .ok (.getfield 49, 3) := by decide +kernel
theorem dX7_move_24 : decode cX7_move 24 = .ok (.iload_n 1, 1) := by decide +kernel
theorem dX7_move_25 : decode cX7_move 25 = .ok (.invokevirtual 235, 3) := by decide +kernel
theorem dX7_move_28 : decode cX7_move 28 = .ok (.ifCond .ne 14, 3) := by decide +kernel
theorem dX7_move_31 : decode cX7_move 31 = .ok (.aload_n 0, 1) := by decide +kernel
theorem dX7_move_32 : decode cX7_move 32 = .ok (.getfield 49, 3) := by decide +kernel
theorem dX7_move_35 : decode cX7_move 35 = .ok (.iload_n 3, 1) := by decide +kernel
theorem dX7_move_36 : decode cX7_move 36 = .ok (.invokevirtual 235, 3) := by decide +kernel
theorem dX7_move_39 : decode cX7_move 39 = .ok (.ifCond .eq 9, 3) := by decide +kernel
theorem dX7_move_42 : decode cX7_move 42 = .ok (.aload_n 0, 1) := by decide +kernel
theorem dX7_move_43 : decode cX7_move 43 = .ok (.iconst 2, 1) := by decide +kernel
theorem dX7_move_44 : decode cX7_move 44 = .ok (.invokevirtual 61, 3) := by decide +kernel
theorem dX7_move_47 : decode cX7_move 47 = .ok (.ireturn, 1) := by decide +kernel
theorem dX7_move_48 : decode cX7_move 48 = .ok (.aload_n 0, 1) := by decide +kernel
theorem dX7_move_49 : decode cX7_move 49 = .ok (.getfield 49, 3) := by decide +kernel
theorem dX7_move_52 : decode cX7_move 52 = .ok (.getfield 248, 3) := by decide +kernel
theorem dX7_move_55 : decode cX7_move 55 = .ok (.iload_n 1, 1) := by decide +kernel
theorem dX7_move_56 : decode cX7_move 56 = .ok (.iaload, 1) := by decide +kernel
theorem dX7_move_57 : decode cX7_move 57 = .ok (.aload_n 0, 1) := by decide +kernel
theorem dX7_move_58 : decode cX7_move 58 = .ok (.getfield 49, 3) := by decide +kernel
theorem dX7_move_61 : decode cX7_move 61 = .ok (.getfield 248, 3) := by decide +kernel
theorem dX7_move_64 : decode cX7_move 64 = .ok (.iload_n 3, 1) := by decide +kernel
theorem dX7_move_65 : decode cX7_move 65 = .ok (.iaload, 1) := by decide +kernel
theorem dX7_move_66 : decode cX7_move 66 = .ok (.if_icmp .eq 9, 3) := by decide +kernel
theorem dX7_move_69 : decode cX7_move 69 = .ok (.aload_n 0, 1) := by decide +kernel
theorem dX7_move_70 : decode cX7_move 70 = .ok (.iconst 5, 1) := by decide +kernel
theorem dX7_move_71 : decode cX7_move 71 = .ok (.invokevirtual 61, 3) := by decide +kernel
theorem dX7_move_74 : decode cX7_move 74 = .ok (.ireturn, 1) := by decide +kernel
theorem dX7_move_75 : decode cX7_move 75 = .ok (.aload_n 0, 1) := by decide +kernel
theorem dX7_move_76 : decode cX7_move 76 = .ok (.getfield 49, 3) := by decide +kernel
theorem dX7_move_79 : decode cX7_move 79 = .ok (.iload_n 1, 1) := by decide +kernel
theorem dX7_move_80 : decode cX7_move 80 = .ok (.iload_n 2, 1) := by decide +kernel
theorem dX7_move_81 : decode cX7_move 81 = .ok (.iload 5, 2) := by decide +kernel
theorem dX7_move_83 : decode cX7_move 83 = .ok (.invokevirtual 251, 3) := by decide +kernel
theorem dX7_move_86 : decode cX7_move 86 = .ok (.ifCond .eq 18, 3) := by decide +kernel
theorem dX7_move_89 : decode cX7_move 89 = .ok (.aload_n 0, 1) := by decide +kernel
theorem dX7_move_90 : decode cX7_move 90 = .ok (.getfield 49, 3) := by decide +kernel
theorem dX7_move_93 : decode cX7_move 93 = .ok (.iload_n 3, 1) := by decide +kernel
theorem dX7_move_94 : decode cX7_move 94 = .ok (.iload 4, 2) := by decide +kernel
theorem dX7_move_96 : decode cX7_move 96 = .ok (.iload 5, 2) := by decide +kernel
theorem dX7_move_98 : decode cX7_move 98 = .ok (.invokevirtual 251, 3) := by decide +kernel
theorem dX7_move_101 : decode cX7_move 101 = .ok (.ifCond .ne 9, 3) := by decide +kernel
theorem dX7_move_104 : decode cX7_move 104 = .ok (.aload_n 0, 1) := by decide +kernel
theorem dX7_move_105 : decode cX7_move 105 = .ok (.iconst 1, 1) := by decide +kernel
theorem dX7_move_106 : decode cX7_move 106 = .ok (.invokevirtual 61, 3) := by decide +kernel
theorem dX7_move_109 : decode cX7_move 109 = .ok (.ireturn, 1) := by decide +kernel
theorem dX7_move_110 : decode cX7_move 110 = .ok (.aload_n 0, 1) := by decide +kernel
theorem dX7_move_111 : decode cX7_move 111 = .ok (.getfield 49, 3) := by decide +kernel
theorem dX7_move_114 : decode cX7_move 114 = .ok (.getfield 241, 3) := by decide +kernel
theorem dX7_move_117 : decode cX7_move 117 = .ok (.iload_n 1, 1) := by decide +kernel
theorem dX7_move_118 : decode cX7_move 118 = .ok (.aaload, 1) := by decide +kernel
theorem dX7_move_119 : decode cX7_move 119 = .ok (.iload_n 2, 1) := by decide +kernel
theorem dX7_move_120 : decode cX7_move 120 = .ok (.aload_n 0, 1) := by decide +kernel
theorem dX7_move_121 : decode cX7_move 121 = .ok (.getfield 49, 3) := by decide +kernel
theorem dX7_move_124 : decode cX7_move 124 = .ok (.getfield 241, 3) := by decide +kernel
theorem dX7_move_127 : decode cX7_move 127 = .ok (.iload_n 3, 1) := by decide +kernel
theorem dX7_move_128 : decode cX7_move 128 = .ok (.aaload, 1) := by decide +kernel
theorem dX7_move_129 : decode cX7_move 129 = .ok (.iload 4, 2) := by decide +kernel
theorem dX7_move_131 : decode cX7_move 131 = .ok (.iload 5, 2) := by decide +kernel
theorem dX7_move_133 : decode cX7_move 133 = .ok (.invokestatic 254, 3) := by decide +kernel
theorem dX7_move_136 : decode cX7_move 136 = .ok (.iload 5, 2) := by decide +kernel
theorem dX7_move_138 : decode cX7_move 138 = .ok (.ireturn, 1) := by decide +kernel
theorem dX7_forces_0 : decode cX7_forces 0 = .ok (.iload_n 1, 1) := by decide +kernel
theorem dX7_forces_1 : decode cX7_forces 1 = .ok (.invokestatic 229, 3) := by decide +kernel
theorem dX7_forces_4 : decode cX7_forces 4 = .ok (.ifCond .eq 9, 3) := by decide +kernel
theorem dX7_forces_7 : decode cX7_forces 7 = .ok (.aload_n 0, 1) := by decide +kernel
theorem dX7_forces_8 : decode cX7_forces 8 = .ok (.iconst 1, 1) := by decide +kernel
theorem dX7_forces_9 : decode cX7_forces 9 = .ok (.invokevirtual 61, 3) := by decide +kernel
theorem dX7_forces_12 : decode cX7_forces 12 = .ok (.ireturn, 1) := by decide +kernel
theorem dX7_forces_13 : decode cX7_forces 13 = .ok (.aload_n 0, 1) := by decide +kernel
theorem dX7_forces_14 : decode cX7_forces 14 = .ok (.getfield 49, 3) := by decide +kernel
theorem dX7_forces_17 : decode cX7_forces 17 = .ok (.iload_n 1, 1) := by decide +kernel
theorem dX7_forces_18 : decode cX7_forces 18 = .ok (.invokevirtual 235, 3) := by decide +kernel
theorem dX7_forces_21 : decode cX7_forces 21 = .ok (.ifCond .eq 9, 3) := by decide +kernel
theorem dX7_forces_24 : decode cX7_forces 24 = .ok (.aload_n 0, 1) := by decide +kernel
theorem dX7_forces_25 : decode cX7_forces 25 = .ok (.iconst 2, 1) := by decide +kernel
theorem dX7_forces_26 : decode cX7_forces 26 = .ok (.invokevirtual 61, 3) := by decide +kernel
theorem dX7_forces_29 : decode cX7_forces 29 = .ok (.ireturn, 1) := by decide +kernel
theorem dX7_forces_30 : decode cX7_forces 30 = .ok (.iconst 0, 1) := by decide +kernel
theorem dX7_forces_31 : decode cX7_forces 31 = .ok (.istore_n 2, 1) := by decide +kernel
theorem dX7_forces_32 : decode cX7_forces 32 = .ok (.iload_n 2, 1) := by decide +kernel
theorem dX7_forces_33 : decode cX7_forces 33 = .ok (.aload_n 0, 1) := by decide +kernel
theorem dX7_forces_34 : decode cX7_forces 34 = .ok (.getfield 49, 3) := by decide +kernel
theorem dX7_forces_37 : decode cX7_forces 37 = .ok (.getfield 238, 3) := by decide +kernel
theorem dX7_forces_40 : decode cX7_forces 40 = .ok (.iload_n 1, 1) := by decide +kernel
theorem dX7_forces_41 : decode cX7_forces 41 = .ok (.iaload, 1) := by decide +kernel
theorem dX7_forces_42 : decode cX7_forces 42 = .ok (.if_icmp .ge 55, 3) := by decide +kernel
theorem dX7_forces_45 : decode cX7_forces 45 = .ok (.iload_n 2, 1) := by decide +kernel
theorem dX7_forces_46 : decode cX7_forces 46 = .ok (.bipush 24, 2) := by decide +kernel
theorem dX7_forces_48 : decode cX7_forces 48 = .ok (.if_icmp .ge 49, 3) := by decide +kernel
theorem dX7_forces_51 : decode cX7_forces 51 = .ok (.aload_n 0, 1) := by decide +kernel
theorem dX7_forces_52 : decode cX7_forces 52 = .ok (.getfield 49, 3) := by decide +kernel
theorem dX7_forces_55 : decode cX7_forces 55 = .ok (.getfield 241, 3) := by decide +kernel
theorem dX7_forces_58 : decode cX7_forces 58 = .ok (.iload_n 1, 1) := by decide +kernel
theorem dX7_forces_59 : decode cX7_forces 59 = .ok (.aaload, 1) := by decide +kernel
theorem dX7_forces_60 : decode cX7_forces 60 = .ok (.iload_n 2, 1) := by decide +kernel
theorem dX7_forces_61 : decode cX7_forces 61 = .ok (.iaload, 1) := by decide +kernel
theorem dX7_forces_62 : decode cX7_forces 62 = .ok (.iconst 0, 1) := by decide +kernel
theorem dX7_forces_63 : decode cX7_forces 63 = .ok (.bipush 99, 2) := by decide +kernel
theorem dX7_forces_65 : decode cX7_forces 65 = .ok (.invokestatic 57, 3) := by decide +kernel
theorem dX7_forces_68 : decode cX7_forces 68 = .ok (.ifCond .ne 29, 3) := by decide +kernel
theorem dX7_forces_71 : decode cX7_forces 71 = .ok (.aload_n 0, 1) := by decide +kernel
theorem dX7_forces_72 : decode cX7_forces 72 = .ok (.getfield 10, 3) := by decide +kernel
theorem dX7_forces_75 : decode cX7_forces 75 = .ok (.getfield 65, 3) := by decide +kernel
theorem dX7_forces_78 : decode cX7_forces 78 = .ok (.iload_n 2, 1) := by decide +kernel
theorem dX7_forces_79 : decode cX7_forces 79 = .ok (.aload_n 0, 1) := by decide +kernel
theorem dX7_forces_80 : decode cX7_forces 80 = .ok (.getfield 49, 3) := by decide +kernel
theorem dX7_forces_83 : decode cX7_forces 83 = .ok (.getfield 241, 3) := by decide +kernel
theorem dX7_forces_86 : decode cX7_forces 86 = .ok (.iload_n 1, 1) := by decide +kernel
theorem dX7_forces_87 : decode cX7_forces 87 = .ok (.aaload, 1) := by decide +kernel
theorem dX7_forces_88 : decode cX7_forces 88 = .ok (.iload_n 2, 1) := by decide +kernel
theorem dX7_forces_89 : decode cX7_forces 89 = .ok (.iaload, 1) := by decide +kernel
theorem dX7_forces_90 : decode cX7_forces 90 = .ok (.iastore, 1) := by decide +kernel
theorem dX7_forces_91 : decode cX7_forces 91 = .ok (.iinc 2 1, 3) := by decide +kernel
theorem dX7_forces_94 : decode cX7_forces 94 = .ok (.goto (-62), 3) := by decide +kernel
theorem dX7_forces_97 : decode cX7_forces 97 = .ok (.iload_n 2, 1) := by decide +kernel
theorem dX7_forces_98 : decode cX7_forces 98 = .ok (.ireturn, 1) := by decide +kernel
theorem dX7_judge_0 : decode cX7_judge 0 = .ok (.iload_n 1, 1) := by decide +kernel
theorem dX7_judge_1 : decode cX7_judge 1 = .ok (.invokestatic 229, 3) := by decide +kernel
theorem dX7_judge_4 : decode cX7_judge 4 = .ok (.ifCond .eq 9, 3) := by decide +kernel
theorem dX7_judge_7 : decode cX7_judge 7 = .ok (.aload_n 0, 1) := by decide +kernel
theorem dX7_judge_8 : decode cX7_judge 8 = .ok (.iconst 1, 1) := by decide +kernel
theorem dX7_judge_9 : decode cX7_judge 9 = .ok (.invokevirtual 61, 3) := by decide +kernel
theorem dX7_judge_12 : decode cX7_judge 12 = .ok (.ireturn, 1) := by decide +kernel
theorem dX7_judge_13 : decode cX7_judge 13 = .ok (.aload_n 0, 1) := by decide +kernel
theorem dX7_judge_14 : decode cX7_judge 14 = .ok (.getfield 49, 3) := by decide +kernel
theorem dX7_judge_17 : decode cX7_judge 17 = .ok (.iload_n 1, 1) := by decide +kernel
theorem dX7_judge_18 : decode cX7_judge 18 = .ok (.invokevirtual 235, 3) := by decide +kernel
theorem dX7_judge_21 : decode cX7_judge 21 = .ok (.ifCond .eq 9, 3) := by decide +kernel
theorem dX7_judge_24 : decode cX7_judge 24 = .ok (.aload_n 0, 1) := by decide +kernel
theorem dX7_judge_25 : decode cX7_judge 25 = .ok (.iconst 2, 1) := by decide +kernel
theorem dX7_judge_26 : decode cX7_judge 26 = .ok (.invokevirtual 61, 3) := by decide +kernel
theorem dX7_judge_29 : decode cX7_judge 29 = .ok (.ireturn, 1) := by decide +kernel
theorem dX7_judge_30 : decode cX7_judge 30 = .ok (.aload_n 0, 1) := by decide +kernel
theorem dX7_judge_31 : decode cX7_judge 31 = .ok (.getfield 10, 3) := by decide +kernel
theorem dX7_judge_34 : decode cX7_judge 34 = .ok (.invokevirtual 123, 3) := by decide +kernel
theorem dX7_judge_37 : decode cX7_judge 37 = .ok (.iconst 0, 1) := by decide +kernel
theorem dX7_judge_38 : decode cX7_judge 38 = .ok (.istore_n 2, 1) := by decide +kernel
theorem dX7_judge_39 : decode cX7_judge 39 = .ok (.iload_n 2, 1) := by decide +kernel
theorem dX7_judge_40 : decode cX7_judge 40 = .ok (.aload_n 0, 1) := by decide +kernel
theorem dX7_judge_41 : decode cX7_judge 41 = .ok (.getfield 49, 3) := by decide +kernel
theorem dX7_judge_44 : decode cX7_judge 44 = .ok (.getfield 238, 3) := by decide +kernel
theorem dX7_judge_47 : decode cX7_judge 47 = .ok (.iload_n 1, 1) := by decide +kernel
theorem dX7_judge_48 : decode cX7_judge 48 = .ok (.iaload, 1) := by decide +kernel
theorem dX7_judge_49 : decode cX7_judge 49 = .ok (.if_icmp .ge 38, 3) := by decide +kernel
theorem dX7_judge_52 : decode cX7_judge 52 = .ok (.iload_n 2, 1) := by decide +kernel
theorem dX7_judge_53 : decode cX7_judge 53 = .ok (.bipush 12, 2) := by decide +kernel
theorem dX7_judge_55 : decode cX7_judge 55 = .ok (.if_icmp .ge 32, 3) := by decide +kernel
theorem dX7_judge_58 : decode cX7_judge 58 = .ok (.aload_n 0, 1) := by decide +kernel
theorem dX7_judge_59 : decode cX7_judge 59 = .ok (.getfield 49, 3) := by decide +kernel
theorem dX7_judge_62 : decode cX7_judge 62 = .ok (.getfield 241, 3) := by decide +kernel
theorem dX7_judge_65 : decode cX7_judge 65 = .ok (.iload_n 1, 1) := by decide +kernel
theorem dX7_judge_66 : decode cX7_judge 66 = .ok (.aaload, 1) := by decide +kernel
theorem dX7_judge_67 : decode cX7_judge 67 = .ok (.iload_n 2, 1) := by decide +kernel
theorem dX7_judge_68 : decode cX7_judge 68 = .ok (.iaload, 1) := by decide +kernel
theorem dX7_judge_69 : decode cX7_judge 69 = .ok (.aload_n 0, 1) := by decide +kernel
theorem dX7_judge_70 : decode cX7_judge 70 = .ok (.getfield 10, 3) := by decide +kernel
theorem dX7_judge_73 : decode cX7_judge 73 = .ok (.getfield 126, 3) := by decide +kernel
theorem dX7_judge_76 : decode cX7_judge 76 = .ok (.iload_n 2, 1) := by decide +kernel
theorem dX7_judge_77 : decode cX7_judge 77 = .ok (.iaload, 1) := by decide +kernel
theorem dX7_judge_78 : decode cX7_judge 78 = .ok (.if_icmp .ne 9, 3) := by decide +kernel
theorem dX7_judge_81 : decode cX7_judge 81 = .ok (.iinc 2 1, 3) := by decide +kernel
theorem dX7_judge_84 : decode cX7_judge 84 = .ok (.goto (-45), 3) := by decide +kernel
theorem dX7_judge_87 : decode cX7_judge 87 = .ok (.iload_n 2, 1) := by decide +kernel
theorem dX7_judge_88 : decode cX7_judge 88 = .ok (.ireturn, 1) := by decide +kernel
theorem dX7_image_0 : decode cX7_image 0 = .ok (.aload_n 0, 1) := by decide +kernel
theorem dX7_image_1 : decode cX7_image 1 = .ok (.getfield 16, 3) := by decide +kernel
theorem dX7_image_4 : decode cX7_image 4 = .ok (.aload_n 0, 1) := by decide +kernel
theorem dX7_image_5 : decode cX7_image 5 = .ok (.getfield 10, 3) := by decide +kernel
theorem dX7_image_8 : decode cX7_image 8 = .ok (.invokevirtual 187, 3) := by decide +kernel
theorem dX7_image_11 : decode cX7_image 11 = .ok (.aload_n 0, 1) := by decide +kernel
theorem dX7_image_12 : decode cX7_image 12 = .ok (.getfield 29, 3) := by decide +kernel
theorem dX7_image_15 : decode cX7_image 15 = .ok (.aload_n 0, 1) := by decide +kernel
theorem dX7_image_16 : decode cX7_image 16 = .ok (.getfield 25, 3) := by decide +kernel
theorem dX7_image_19 : decode cX7_image 19 = .ok (.invokevirtual 260, 3) := by decide +kernel
theorem dX7_image_22 : decode cX7_image 22 = .ok (.aload_n 0, 1) := by decide +kernel
theorem dX7_image_23 : decode cX7_image 23 = .ok (.dup, 1) := by decide +kernel
theorem dX7_image_24 : decode cX7_image 24 = .ok (.getfield 263, 3) := by decide +kernel
theorem dX7_image_27 : decode cX7_image 27 = .ok (.iconst 1, 1) := by decide +kernel
theorem dX7_image_28 : decode cX7_image 28 = .ok (.iadd, 1) := by decide +kernel
theorem dX7_image_29 : decode cX7_image 29 = .ok (.putfield 263, 3) := by decide +kernel
theorem dX7_image_32 : decode cX7_image 32 = .ok (.aload_n 0, 1) := by decide +kernel
theorem dX7_image_33 : decode cX7_image 33 = .ok (.getfield 263, 3) := by decide +kernel
theorem dX7_image_36 : decode cX7_image 36 = .ok (.ireturn, 1) := by decide +kernel
theorem dX7_restore_0 : decode cX7_restore 0 = .ok (.aload_n 0, 1) := by decide +kernel
theorem dX7_restore_1 : decode cX7_restore 1 = .ok (.getfield 263, 3) := by decide +kernel
theorem dX7_restore_4 : decode cX7_restore 4 = .ok (.ifCond .ne 9, 3) := by decide +kernel
theorem dX7_restore_7 : decode cX7_restore 7 = .ok (.aload_n 0, 1) := by decide +kernel
theorem dX7_restore_8 : decode cX7_restore 8 = .ok (.iconst 2, 1) := by decide +kernel
theorem dX7_restore_9 : decode cX7_restore 9 = .ok (.invokevirtual 61, 3) := by decide +kernel
theorem dX7_restore_12 : decode cX7_restore 12 = .ok (.ireturn, 1) := by decide +kernel
theorem dX7_restore_13 : decode cX7_restore 13 = .ok (.aload_n 0, 1) := by decide +kernel
theorem dX7_restore_14 : decode cX7_restore 14 = .ok (.getfield 10, 3) := by decide +kernel
theorem dX7_restore_17 : decode cX7_restore 17 = .ok (.aload_n 0, 1) := by decide +kernel
theorem dX7_restore_18 : decode cX7_restore 18 = .ok (.getfield 16, 3) := by decide +kernel
theorem dX7_restore_21 : decode cX7_restore 21 = .ok (.invokevirtual 187, 3) := by decide +kernel
theorem dX7_restore_24 : decode cX7_restore 24 = .ok (.aload_n 0, 1) := by decide +kernel
theorem dX7_restore_25 : decode cX7_restore 25 = .ok (.getfield 25, 3) := by decide +kernel
theorem dX7_restore_28 : decode cX7_restore 28 = .ok (.aload_n 0, 1) := by decide +kernel
theorem dX7_restore_29 : decode cX7_restore 29 = .ok (.getfield 29, 3) := by decide +kernel
theorem dX7_restore_32 : decode cX7_restore 32 = .ok (.invokevirtual 260, 3) := by decide +kernel
theorem dX7_restore_35 : decode cX7_restore 35 = .ok (.aload_n 0, 1) := by decide +kernel
theorem dX7_restore_36 : decode cX7_restore 36 = .ok (.getfield 10, 3) := by decide +kernel
theorem dX7_restore_39 : decode cX7_restore 39 = .ok (.getfield 159, 3) := by decide +kernel
theorem dX7_restore_42 : decode cX7_restore 42 = .ok (.ireturn, 1) := by decide +kernel
theorem dX7_tell_0 : decode cX7_tell 0 = .ok (.aload_n 0, 1) := by decide +kernel
theorem dX7_tell_1 : decode cX7_tell 1 = .ok (.getfield 25, 3) := by decide +kernel
theorem dX7_tell_4 : decode cX7_tell 4 = .ok (.getfield 266, 3) := by decide +kernel
theorem dX7_tell_7 : decode cX7_tell 7 = .ok (.bipush 24, 2) := by decide +kernel
theorem dX7_tell_9 : decode cX7_tell 9 = .ok (.if_icmp .lt 9, 3) := by decide +kernel
theorem dX7_tell_12 : decode cX7_tell 12 = .ok (.aload_n 0, 1) := by decide +kernel
theorem dX7_tell_13 : decode cX7_tell 13 = .ok (.iconst 4, 1) := by decide +kernel
theorem dX7_tell_14 : decode cX7_tell 14 = .ok (.invokevirtual 61, 3) := by decide +kernel
theorem dX7_tell_17 : decode cX7_tell 17 = .ok (.ireturn, 1) := by decide +kernel
theorem dX7_tell_18 : decode cX7_tell 18 = .ok (.aload_n 0, 1) := by decide +kernel
theorem dX7_tell_19 : decode cX7_tell 19 = .ok (.getfield 25, 3) := by decide +kernel
theorem dX7_tell_22 : decode cX7_tell 22 = .ok (.getfield 269, 3) := by decide +kernel
theorem dX7_tell_25 : decode cX7_tell 25 = .ok (.aload_n 0, 1) := by decide +kernel
theorem dX7_tell_26 : decode cX7_tell 26 = .ok (.getfield 25, 3) := by decide +kernel
theorem dX7_tell_29 : decode cX7_tell 29 = .ok (.getfield 266, 3) := by decide +kernel
theorem dX7_tell_32 : decode cX7_tell 32 = .ok (.iload_n 1, 1) := by decide +kernel
theorem dX7_tell_33 : decode cX7_tell 33 = .ok (.iastore, 1) := by decide +kernel
theorem dX7_tell_34 : decode cX7_tell 34 = .ok (.aload_n 0, 1) := by decide +kernel
theorem dX7_tell_35 : decode cX7_tell 35 = .ok (.getfield 25, 3) := by decide +kernel
theorem dX7_tell_38 : decode cX7_tell 38 = .ok (.dup, 1) := by decide +kernel
theorem dX7_tell_39 : decode cX7_tell 39 = .ok (.getfield 266, 3) := by decide +kernel
theorem dX7_tell_42 : decode cX7_tell 42 = .ok (.iconst 1, 1) := by decide +kernel
theorem dX7_tell_43 : decode cX7_tell 43 = .ok (.iadd, 1) := by decide +kernel
theorem dX7_tell_44 : decode cX7_tell 44 = .ok (.putfield 266, 3) := by decide +kernel
theorem dX7_tell_47 : decode cX7_tell 47 = .ok (.aload_n 0, 1) := by decide +kernel
theorem dX7_tell_48 : decode cX7_tell 48 = .ok (.getfield 25, 3) := by decide +kernel
theorem dX7_tell_51 : decode cX7_tell 51 = .ok (.getfield 266, 3) := by decide +kernel
theorem dX7_tell_54 : decode cX7_tell 54 = .ok (.ireturn, 1) := by decide +kernel
theorem dX7_check_0 : decode cX7_check 0 = .ok (.aload_n 0, 1) := by decide +kernel
theorem dX7_check_1 : decode cX7_check 1 = .ok (.getfield 25, 3) := by decide +kernel
theorem dX7_check_4 : decode cX7_check 4 = .ok (.getfield 266, 3) := by decide +kernel
theorem dX7_check_7 : decode cX7_check 7 = .ok (.istore_n 2, 1) := by decide +kernel
theorem dX7_check_8 : decode cX7_check 8 = .ok (.aload_n 0, 1) := by decide +kernel
theorem dX7_check_9 : decode cX7_check 9 = .ok (.getfield 25, 3) := by decide +kernel
theorem dX7_check_12 : decode cX7_check 12 = .ok (.iconst 0, 1) := by decide +kernel
theorem dX7_check_13 : decode cX7_check 13 = .ok (.putfield 266, 3) := by decide +kernel
theorem dX7_check_16 : decode cX7_check 16 = .ok (.aload_n 0, 1) := by decide +kernel
theorem dX7_check_17 : decode cX7_check 17 = .ok (.iload_n 1, 1) := by decide +kernel
theorem dX7_check_18 : decode cX7_check 18 = .ok (.invokevirtual 90, 3) := by decide +kernel
theorem dX7_check_21 : decode cX7_check 21 = .ok (.ifCond .eq 9, 3) := by decide +kernel
theorem dX7_check_24 : decode cX7_check 24 = .ok (.aload_n 0, 1) := by decide +kernel
theorem dX7_check_25 : decode cX7_check 25 = .ok (.iconst 1, 1) := by decide +kernel
theorem dX7_check_26 : decode cX7_check 26 = .ok (.invokevirtual 61, 3) := by decide +kernel
theorem dX7_check_29 : decode cX7_check 29 = .ok (.ireturn, 1) := by decide +kernel
theorem dX7_check_30 : decode cX7_check 30 = .ok (.aload_n 0, 1) := by decide +kernel
theorem dX7_check_31 : decode cX7_check 31 = .ok (.getfield 19, 3) := by decide +kernel
theorem dX7_check_34 : decode cX7_check 34 = .ok (.aload_n 0, 1) := by decide +kernel
theorem dX7_check_35 : decode cX7_check 35 = .ok (.getfield 10, 3) := by decide +kernel
theorem dX7_check_38 : decode cX7_check 38 = .ok (.invokevirtual 187, 3) := by decide +kernel
theorem dX7_check_41 : decode cX7_check 41 = .ok (.iconst 0, 1) := by decide +kernel
theorem dX7_check_42 : decode cX7_check 42 = .ok (.istore_n 3, 1) := by decide +kernel
theorem dX7_check_43 : decode cX7_check 43 = .ok (.iload_n 3, 1) := by decide +kernel
theorem dX7_check_44 : decode cX7_check 44 = .ok (.iload_n 2, 1) := by decide +kernel
theorem dX7_check_45 : decode cX7_check 45 = .ok (.if_icmp .ge 45, 3) := by decide +kernel
theorem dX7_check_48 : decode cX7_check 48 = .ok (.aload_n 0, 1) := by decide +kernel
theorem dX7_check_49 : decode cX7_check 49 = .ok (.getfield 19, 3) := by decide +kernel
theorem dX7_check_52 : decode cX7_check 52 = .ok (.invokevirtual 172, 3) := by decide +kernel
theorem dX7_check_55 : decode cX7_check 55 = .ok (.pop, 1) := by decide +kernel
theorem dX7_check_56 : decode cX7_check 56 = .ok (.aload_n 0, 1) := by decide +kernel
theorem dX7_check_57 : decode cX7_check 57 = .ok (.getfield 19, 3) := by decide +kernel
theorem dX7_check_60 : decode cX7_check 60 = .ok (.getfield 97, 3) := by decide +kernel
theorem dX7_check_63 : decode cX7_check 63 = .ok (.iload_n 1, 1) := by decide +kernel
theorem dX7_check_64 : decode cX7_check 64 = .ok (.aaload, 1) := by decide +kernel
theorem dX7_check_65 : decode cX7_check 65 = .ok (.getfield 110, 3) := by decide +kernel
theorem dX7_check_68 : decode cX7_check 68 = .ok (.aload_n 0, 1) := by decide +kernel
theorem dX7_check_69 : decode cX7_check 69 = .ok (.getfield 25, 3) := by decide +kernel
theorem dX7_check_72 : decode cX7_check 72 = .ok (.getfield 269, 3) := by decide +kernel
theorem dX7_check_75 : decode cX7_check 75 = .ok (.iload_n 3, 1) := by decide +kernel
theorem dX7_check_76 : decode cX7_check 76 = .ok (.iaload, 1) := by decide +kernel
theorem dX7_check_77 : decode cX7_check 77 = .ok (.if_icmp .eq 7, 3) := by decide +kernel
theorem dX7_check_80 : decode cX7_check 80 = .ok (.iconst 1, 1) := by decide +kernel
theorem dX7_check_81 : decode cX7_check 81 = .ok (.iload_n 3, 1) := by decide +kernel
theorem dX7_check_82 : decode cX7_check 82 = .ok (.iadd, 1) := by decide +kernel
theorem dX7_check_83 : decode cX7_check 83 = .ok (.ireturn, 1) := by decide +kernel
theorem dX7_check_84 : decode cX7_check 84 = .ok (.iinc 3 1, 3) := by decide +kernel
theorem dX7_check_87 : decode cX7_check 87 = .ok (.goto (-44), 3) := by decide +kernel
theorem dX7_check_90 : decode cX7_check 90 = .ok (.iconst 0, 1) := by decide +kernel
theorem dX7_check_91 : decode cX7_check 91 = .ok (.ireturn, 1) := by decide +kernel
theorem dX7_count_0 : decode cX7_count 0 = .ok (.iload_n 1, 1) := by decide +kernel
theorem dX7_count_1 : decode cX7_count 1 = .ok (.iconst 0, 1) := by decide +kernel
theorem dX7_count_2 : decode cX7_count 2 = .ok (.bipush 22, 2) := by decide +kernel
theorem dX7_count_4 : decode cX7_count 4 = .ok (.invokestatic 57, 3) := by decide +kernel
theorem dX7_count_7 : decode cX7_count 7 = .ok (.ifCond .eq 9, 3) := by decide +kernel
theorem dX7_count_10 : decode cX7_count 10 = .ok (.aload_n 0, 1) := by decide +kernel
theorem dX7_count_11 : decode cX7_count 11 = .ok (.iconst 1, 1) := by decide +kernel
theorem dX7_count_12 : decode cX7_count 12 = .ok (.invokevirtual 61, 3) := by decide +kernel
theorem dX7_count_15 : decode cX7_count 15 = .ok (.ireturn, 1) := by decide +kernel
theorem dX7_count_16 : decode cX7_count 16 = .ok (.iload_n 1, 1) := by decide +kernel
theorem dX7_count_17 : decode cX7_count 17 = .ok (.tableswitch 161 0 10 #[59, 67, 75, 83, 98, 113, 121, 129, 137, 145, 153], 59) := by decide +kernel
theorem dX7_count_76 : decode cX7_count 76 = .ok (.aload_n 0, 1) := by decide +kernel
theorem dX7_count_77 : decode cX7_count 77 = .ok (.getfield 10, 3) := by decide +kernel
theorem dX7_count_80 : decode cX7_count 80 = .ok (.getfield 83, 3) := by decide +kernel
theorem dX7_count_83 : decode cX7_count 83 = .ok (.ireturn, 1) := by decide +kernel
theorem dX7_count_84 : decode cX7_count 84 = .ok (.aload_n 0, 1) := by decide +kernel
theorem dX7_count_85 : decode cX7_count 85 = .ok (.getfield 10, 3) := by decide +kernel
theorem dX7_count_88 : decode cX7_count 88 = .ok (.getfield 159, 3) := by decide +kernel
theorem dX7_count_91 : decode cX7_count 91 = .ok (.ireturn, 1) := by decide +kernel
theorem dX7_count_92 : decode cX7_count 92 = .ok (.aload_n 0, 1) := by decide +kernel
theorem dX7_count_93 : decode cX7_count 93 = .ok (.getfield 10, 3) := by decide +kernel
theorem dX7_count_96 : decode cX7_count 96 = .ok (.invokevirtual 272, 3) := by decide +kernel
theorem dX7_count_99 : decode cX7_count 99 = .ok (.ireturn, 1) := by decide +kernel
theorem dX7_count_100 : decode cX7_count 100 = .ok (.aload_n 0, 1) := by decide +kernel
theorem dX7_count_101 : decode cX7_count 101 = .ok (.getfield 10, 3) := by decide +kernel
theorem dX7_count_104 : decode cX7_count 104 = .ok (.invokevirtual 123, 3) := by decide +kernel
theorem dX7_count_107 : decode cX7_count 107 = .ok (.aload_n 0, 1) := by decide +kernel
theorem dX7_count_108 : decode cX7_count 108 = .ok (.getfield 10, 3) := by decide +kernel
theorem dX7_count_111 : decode cX7_count 111 = .ok (.getfield 206, 3) := by decide +kernel
theorem dX7_count_114 : decode cX7_count 114 = .ok (.ireturn, 1) := by decide +kernel
theorem dX7_count_115 : decode cX7_count 115 = .ok (.aload_n 0, 1) := by decide +kernel
theorem dX7_count_116 : decode cX7_count 116 = .ok (.getfield 10, 3) := by decide +kernel
theorem dX7_count_119 : decode cX7_count 119 = .ok (.invokevirtual 123, 3) := by decide +kernel
theorem dX7_count_122 : decode cX7_count 122 = .ok (.aload_n 0, 1) := by decide +kernel
theorem dX7_count_123 : decode cX7_count 123 = .ok (.getfield 10, 3) := by decide +kernel
theorem dX7_count_126 : decode cX7_count 126 = .ok (.getfield 275, 3) := by decide +kernel
theorem dX7_count_129 : decode cX7_count 129 = .ok (.ireturn, 1) := by decide +kernel
theorem dX7_count_130 : decode cX7_count 130 = .ok (.aload_n 0, 1) := by decide +kernel
theorem dX7_count_131 : decode cX7_count 131 = .ok (.getfield 10, 3) := by decide +kernel
theorem dX7_count_134 : decode cX7_count 134 = .ok (.getfield 71, 3) := by decide +kernel
theorem dX7_count_137 : decode cX7_count 137 = .ok (.ireturn, 1) := by decide +kernel
theorem dX7_count_138 : decode cX7_count 138 = .ok (.aload_n 0, 1) := by decide +kernel
theorem dX7_count_139 : decode cX7_count 139 = .ok (.getfield 10, 3) := by decide +kernel
theorem dX7_count_142 : decode cX7_count 142 = .ok (.invokevirtual 165, 3) := by decide +kernel
theorem dX7_count_145 : decode cX7_count 145 = .ok (.ireturn, 1) := by decide +kernel
theorem dX7_count_146 : decode cX7_count 146 = .ok (.aload_n 0, 1) := by decide +kernel
theorem dX7_count_147 : decode cX7_count 147 = .ok (.getfield 25, 3) := by decide +kernel
theorem dX7_count_150 : decode cX7_count 150 = .ok (.getfield 129, 3) := by decide +kernel
theorem dX7_count_153 : decode cX7_count 153 = .ok (.ireturn, 1) := by decide +kernel
theorem dX7_count_154 : decode cX7_count 154 = .ok (.aload_n 0, 1) := by decide +kernel
theorem dX7_count_155 : decode cX7_count 155 = .ok (.getfield 25, 3) := by decide +kernel
theorem dX7_count_158 : decode cX7_count 158 = .ok (.getfield 266, 3) := by decide +kernel
theorem dX7_count_161 : decode cX7_count 161 = .ok (.ireturn, 1) := by decide +kernel
theorem dX7_count_162 : decode cX7_count 162 = .ok (.aload_n 0, 1) := by decide +kernel
theorem dX7_count_163 : decode cX7_count 163 = .ok (.getfield 42, 3) := by decide +kernel
theorem dX7_count_166 : decode cX7_count 166 = .ok (.getfield 223, 3) := by decide +kernel
theorem dX7_count_169 : decode cX7_count 169 = .ok (.ireturn, 1) := by decide +kernel
theorem dX7_count_170 : decode cX7_count 170 = .ok (.aload_n 0, 1) := by decide +kernel
theorem dX7_count_171 : decode cX7_count 171 = .ok (.getfield 10, 3) := by decide +kernel
theorem dX7_count_174 : decode cX7_count 174 = .ok (.getfield 175, 3) := by decide +kernel
theorem dX7_count_177 : decode cX7_count 177 = .ok (.ireturn, 1) := by decide +kernel
theorem dX7_count_178 : decode cX7_count 178 = .ok (.aload_n 0, 1) := by decide +kernel
theorem dX7_count_179 : decode cX7_count 179 = .ok (.getfield 10, 3) := by decide +kernel
theorem dX7_count_182 : decode cX7_count 182 = .ok (.getfield 68, 3) := by decide +kernel
theorem dX7_count_185 : decode cX7_count 185 = .ok (.iload_n 1, 1) := by decide +kernel
theorem dX7_count_186 : decode cX7_count 186 = .ok (.bipush 11, 2) := by decide +kernel
theorem dX7_count_188 : decode cX7_count 188 = .ok (.isub, 1) := by decide +kernel
theorem dX7_count_189 : decode cX7_count 189 = .ok (.iaload, 1) := by decide +kernel
theorem dX7_count_190 : decode cX7_count 190 = .ok (.ireturn, 1) := by decide +kernel
theorem dX7_told_0 : decode cX7_told 0 = .ok (.iload_n 1, 1) := by decide +kernel
theorem dX7_told_1 : decode cX7_told 1 = .ok (.iconst 1, 1) := by decide +kernel
theorem dX7_told_2 : decode cX7_told 2 = .ok (.bipush 6, 2) := by decide +kernel
theorem dX7_told_4 : decode cX7_told 4 = .ok (.invokestatic 57, 3) := by decide +kernel
theorem dX7_told_7 : decode cX7_told 7 = .ok (.ifCond .eq 9, 3) := by decide +kernel
theorem dX7_told_10 : decode cX7_told 10 = .ok (.aload_n 0, 1) := by decide +kernel
theorem dX7_told_11 : decode cX7_told 11 = .ok (.iconst 1, 1) := by decide +kernel
theorem dX7_told_12 : decode cX7_told 12 = .ok (.invokevirtual 61, 3) := by decide +kernel
theorem dX7_told_15 : decode cX7_told 15 = .ok (.ireturn, 1) := by decide +kernel
theorem dX7_told_16 : decode cX7_told 16 = .ok (.aload_n 0, 1) := by decide +kernel
theorem dX7_told_17 : decode cX7_told 17 = .ok (.getfield 53, 3) := by decide +kernel
theorem dX7_told_20 : decode cX7_told 20 = .ok (.iload_n 1, 1) := by decide +kernel
theorem dX7_told_21 : decode cX7_told 21 = .ok (.iaload, 1) := by decide +kernel
theorem dX7_told_22 : decode cX7_told 22 = .ok (.ireturn, 1) := by decide +kernel
theorem dX7_error_0 : decode cX7_error 0 = .ok (.aload_n 0, 1) := by decide +kernel
theorem dX7_error_1 : decode cX7_error 1 = .ok (.getfield 53, 3) := by decide +kernel
theorem dX7_error_4 : decode cX7_error 4 = .ok (.iload_n 1, 1) := by decide +kernel
theorem dX7_error_5 : decode cX7_error 5 = .ok (.dup2, 1) := by decide +kernel
theorem dX7_error_6 : decode cX7_error 6 = .ok (.iaload, 1) := by decide +kernel
theorem dX7_error_7 : decode cX7_error 7 = .ok (.iconst 1, 1) := by decide +kernel
theorem dX7_error_8 : decode cX7_error 8 = .ok (.iadd, 1) := by decide +kernel
theorem dX7_error_9 : decode cX7_error 9 = .ok (.iastore, 1) := by decide +kernel
theorem dX7_error_10 : decode cX7_error 10 = .ok (.ldc_w 278, 3) := by decide +kernel
theorem dX7_error_13 : decode cX7_error 13 = .ok (.iload_n 1, 1) := by decide +kernel
theorem dX7_error_14 : decode cX7_error 14 = .ok (.isub, 1) := by decide +kernel
theorem dX7_error_15 : decode cX7_error 15 = .ok (.ireturn, 1) := by decide +kernel
theorem dX7_noWheel_0 : decode cX7_noWheel 0 = .ok (.iload_n 1, 1) := by decide +kernel
theorem dX7_noWheel_1 : decode cX7_noWheel 1 = .ok (.iconst 0, 1) := by decide +kernel
theorem dX7_noWheel_2 : decode cX7_noWheel 2 = .ok (.aload_n 0, 1) := by decide +kernel
theorem dX7_noWheel_3 : decode cX7_noWheel 3 = .ok (.getfield 10, 3) := by decide +kernel
theorem dX7_noWheel_6 : decode cX7_noWheel 6 = .ok (.getfield 83, 3) := by decide +kernel
theorem dX7_noWheel_9 : decode cX7_noWheel 9 = .ok (.iconst 1, 1) := by decide +kernel
theorem dX7_noWheel_10 : decode cX7_noWheel 10 = .ok (.isub, 1) := by decide +kernel
theorem dX7_noWheel_11 : decode cX7_noWheel 11 = .ok (.invokestatic 57, 3) := by decide +kernel
theorem dX7_noWheel_14 : decode cX7_noWheel 14 = .ok (.ireturn, 1) := by decide +kernel
theorem dX7_noSheet_0 : decode cX7_noSheet 0 = .ok (.iload_n 0, 1) := by decide +kernel
theorem dX7_noSheet_1 : decode cX7_noSheet 1 = .ok (.iconst 0, 1) := by decide +kernel
theorem dX7_noSheet_2 : decode cX7_noSheet 2 = .ok (.iconst 3, 1) := by decide +kernel
theorem dX7_noSheet_3 : decode cX7_noSheet 3 = .ok (.invokestatic 57, 3) := by decide +kernel
theorem dX7_noSheet_6 : decode cX7_noSheet 6 = .ok (.ireturn, 1) := by decide +kernel
theorem dX7_outside_0 : decode cX7_outside 0 = .ok (.iload_n 0, 1) := by decide +kernel
theorem dX7_outside_1 : decode cX7_outside 1 = .ok (.iload_n 1, 1) := by decide +kernel
theorem dX7_outside_2 : decode cX7_outside 2 = .ok (.if_icmp .lt 8, 3) := by decide +kernel
theorem dX7_outside_5 : decode cX7_outside 5 = .ok (.iload_n 0, 1) := by decide +kernel
theorem dX7_outside_6 : decode cX7_outside 6 = .ok (.iload_n 2, 1) := by decide +kernel
theorem dX7_outside_7 : decode cX7_outside 7 = .ok (.if_icmp .le 7, 3) := by decide +kernel
theorem dX7_outside_10 : decode cX7_outside 10 = .ok (.iconst 1, 1) := by decide +kernel
theorem dX7_outside_11 : decode cX7_outside 11 = .ok (.goto 4, 3) := by decide +kernel
theorem dX7_outside_14 : decode cX7_outside 14 = .ok (.iconst 0, 1) := by decide +kernel
theorem dX7_outside_15 : decode cX7_outside 15 = .ok (.ireturn, 1) := by decide +kernel
theorem dX7_held_0 : decode cX7_held 0 = .ok (.iload_n 1, 1) := by decide +kernel
theorem dX7_held_1 : decode cX7_held 1 = .ok (.iload_n 0, 1) := by decide +kernel
theorem dX7_held_2 : decode cX7_held 2 = .ok (.iload_n 2, 1) := by decide +kernel
theorem dX7_held_3 : decode cX7_held 3 = .ok (.invokestatic 182, 3) := by decide +kernel
theorem dX7_held_6 : decode cX7_held 6 = .ok (.invokestatic 279, 3) := by decide +kernel
theorem dX7_held_9 : decode cX7_held 9 = .ok (.ireturn, 1) := by decide +kernel
theorem dX7_isUnder_0 : decode cX7_isUnder 0 = .ok (.iload_n 0, 1) := by decide +kernel
theorem dX7_isUnder_1 : decode cX7_isUnder 1 = .ok (.istore_n 2, 1) := by decide +kernel
theorem dX7_isUnder_2 : decode cX7_isUnder 2 = .ok (.iconst 0, 1) := by decide +kernel
theorem dX7_isUnder_3 : decode cX7_isUnder 3 = .ok (.istore_n 3, 1) := by decide +kernel
theorem dX7_isUnder_4 : decode cX7_isUnder 4 = .ok (.iload_n 3, 1) := by decide +kernel
theorem dX7_isUnder_5 : decode cX7_isUnder 5 = .ok (.bipush 7, 2) := by decide +kernel
theorem dX7_isUnder_7 : decode cX7_isUnder 7 = .ok (.if_icmp .ge 20, 3) := by decide +kernel
theorem dX7_isUnder_10 : decode cX7_isUnder 10 = .ok (.iload_n 2, 1) := by decide +kernel
theorem dX7_isUnder_11 : decode cX7_isUnder 11 = .ok (.iload_n 1, 1) := by decide +kernel
theorem dX7_isUnder_12 : decode cX7_isUnder 12 = .ok (.if_icmp .eq 15, 3) := by decide +kernel
theorem dX7_isUnder_15 : decode cX7_isUnder 15 = .ok (.getstatic 282, 3) := by decide +kernel
theorem dX7_isUnder_18 : decode cX7_isUnder 18 = .ok (.iload_n 2, 1) := by decide +kernel
theorem dX7_isUnder_19 : decode cX7_isUnder 19 = .ok (.iaload, 1) := by decide +kernel
theorem dX7_isUnder_20 : decode cX7_isUnder 20 = .ok (.istore_n 2, 1) := by decide +kernel
theorem dX7_isUnder_21 : decode cX7_isUnder 21 = .ok (.iinc 3 1, 3) := by decide +kernel
theorem dX7_isUnder_24 : decode cX7_isUnder 24 = .ok (.goto (-20), 3) := by decide +kernel
theorem dX7_isUnder_27 : decode cX7_isUnder 27 = .ok (.iload_n 2, 1) := by decide +kernel
theorem dX7_isUnder_28 : decode cX7_isUnder 28 = .ok (.iload_n 1, 1) := by decide +kernel
theorem dX7_isUnder_29 : decode cX7_isUnder 29 = .ok (.if_icmp .ne 7, 3) := by decide +kernel
theorem dX7_isUnder_32 : decode cX7_isUnder 32 = .ok (.iconst 1, 1) := by decide +kernel
theorem dX7_isUnder_33 : decode cX7_isUnder 33 = .ok (.goto 4, 3) := by decide +kernel
theorem dX7_isUnder_36 : decode cX7_isUnder 36 = .ok (.iconst 0, 1) := by decide +kernel
theorem dX7_isUnder_37 : decode cX7_isUnder 37 = .ok (.ireturn, 1) := by decide +kernel
theorem dX8_init_0 : decode cX8_init 0 = .ok (.aload_n 0, 1) := by decide +kernel
theorem dX8_init_1 : decode cX8_init 1 = .ok (.invokespecial 1, 3) := by decide +kernel
theorem dX8_init_4 : decode cX8_init 4 = .ok (.aload_n 0, 1) := by decide +kernel
theorem dX8_init_5 : decode cX8_init 5 = .ok (.sipush 449, 3) := by decide +kernel
theorem dX8_init_8 : decode cX8_init 8 = .ok (.newarray .int, 2) := by decide +kernel
theorem dX8_init_10 : decode cX8_init 10 = .ok (.putfield 7, 3) := by decide +kernel
theorem dX8_init_13 : decode cX8_init 13 = .ok (.aload_n 0, 1) := by decide +kernel
theorem dX8_init_14 : decode cX8_init 14 = .ok (.sipush 449, 3) := by decide +kernel
theorem dX8_init_17 : decode cX8_init 17 = .ok (.newarray .int, 2) := by decide +kernel
theorem dX8_init_19 : decode cX8_init 19 = .ok (.putfield 13, 3) := by decide +kernel
theorem dX8_init_22 : decode cX8_init 22 = .ok (.aload_n 0, 1) := by decide +kernel
theorem dX8_init_23 : decode cX8_init 23 = .ok (.sipush 449, 3) := by decide +kernel
theorem dX8_init_26 : decode cX8_init 26 = .ok (.newarray .int, 2) := by decide +kernel
theorem dX8_init_28 : decode cX8_init 28 = .ok (.putfield 16, 3) := by decide +kernel
theorem dX8_init_31 : decode cX8_init 31 = .ok (.aload_n 0, 1) := by decide +kernel
theorem dX8_init_32 : decode cX8_init 32 = .ok (.bipush 7, 2) := by decide +kernel
theorem dX8_init_34 : decode cX8_init 34 = .ok (.newarray .int, 2) := by decide +kernel
theorem dX8_init_36 : decode cX8_init 36 = .ok (.putfield 19, 3) := by decide +kernel
theorem dX8_init_39 : decode cX8_init 39 = .ok (.aload_n 0, 1) := by decide +kernel
theorem dX8_init_40 : decode cX8_init 40 = .ok (.bipush 124, 2) := by decide +kernel
theorem dX8_init_42 : decode cX8_init 42 = .ok (.newarray .int, 2) := by decide +kernel
theorem dX8_init_44 : decode cX8_init 44 = .ok (.putfield 22, 3) := by decide +kernel
theorem dX8_init_47 : decode cX8_init 47 = .ok (.aload_n 0, 1) := by decide +kernel
theorem dX8_init_48 : decode cX8_init 48 = .ok (.sipush 128, 3) := by decide +kernel
theorem dX8_init_51 : decode cX8_init 51 = .ok (.newarray .int, 2) := by decide +kernel
theorem dX8_init_53 : decode cX8_init 53 = .ok (.putfield 25, 3) := by decide +kernel
theorem dX8_init_56 : decode cX8_init 56 = .ok (.aload_n 0, 1) := by decide +kernel
theorem dX8_init_57 : decode cX8_init 57 = .ok (.bipush 64, 2) := by decide +kernel
theorem dX8_init_59 : decode cX8_init 59 = .ok (.newarray .int, 2) := by decide +kernel
theorem dX8_init_61 : decode cX8_init 61 = .ok (.putfield 28, 3) := by decide +kernel
theorem dX8_init_64 : decode cX8_init 64 = .ok (.aload_n 0, 1) := by decide +kernel
theorem dX8_init_65 : decode cX8_init 65 = .ok (.bipush 13, 2) := by decide +kernel
theorem dX8_init_67 : decode cX8_init 67 = .ok (.newarray .int, 2) := by decide +kernel
theorem dX8_init_69 : decode cX8_init 69 = .ok (.putfield 31, 3) := by decide +kernel
theorem dX8_init_72 : decode cX8_init 72 = .ok (.aload_n 0, 1) := by decide +kernel
theorem dX8_init_73 : decode cX8_init 73 = .ok (.bipush 9, 2) := by decide +kernel
theorem dX8_init_75 : decode cX8_init 75 = .ok (.newarray .int, 2) := by decide +kernel
theorem dX8_init_77 : decode cX8_init 77 = .ok (.putfield 34, 3) := by decide +kernel
theorem dX8_init_80 : decode cX8_init 80 = .ok (.aload_n 0, 1) := by decide +kernel
theorem dX8_init_81 : decode cX8_init 81 = .ok (.bipush 9, 2) := by decide +kernel
theorem dX8_init_83 : decode cX8_init 83 = .ok (.newarray .int, 2) := by decide +kernel
theorem dX8_init_85 : decode cX8_init 85 = .ok (.putfield 37, 3) := by decide +kernel
theorem dX8_init_88 : decode cX8_init 88 = .ok (.aload_n 0, 1) := by decide +kernel
theorem dX8_init_89 : decode cX8_init 89 = .ok (.bipush 30, 2) := by decide +kernel
theorem dX8_init_91 : decode cX8_init 91 = .ok (.newarray .int, 2) := by decide +kernel
theorem dX8_init_93 : decode cX8_init 93 = .ok (.putfield 40, 3) := by decide +kernel
theorem dX8_init_96 : decode cX8_init 96 = .ok (.aload_n 0, 1) := by decide +kernel
theorem dX8_init_97 : decode cX8_init 97 = .ok (.iconst 4, 1) := by decide +kernel
theorem dX8_init_98 : decode cX8_init 98 = .ok (.newarray .int, 2) := by decide +kernel
theorem dX8_init_100 : decode cX8_init 100 = .ok (.putfield 43, 3) := by decide +kernel
theorem dX8_init_103 : decode cX8_init 103 = .ok (.aload_n 0, 1) := by decide +kernel
theorem dX8_init_104 : decode cX8_init 104 = .ok (.iconst 4, 1) := by decide +kernel
theorem dX8_init_105 : decode cX8_init 105 = .ok (.newarray .int, 2) := by decide +kernel
theorem dX8_init_107 : decode cX8_init 107 = .ok (.putfield 46, 3) := by decide +kernel
theorem dX8_init_110 : decode cX8_init 110 = .ok (.aload_n 0, 1) := by decide +kernel
theorem dX8_init_111 : decode cX8_init 111 = .ok (.bipush 96, 2) := by decide +kernel
theorem dX8_init_113 : decode cX8_init 113 = .ok (.newarray .int, 2) := by decide +kernel
theorem dX8_init_115 : decode cX8_init 115 = .ok (.putfield 49, 3) := by decide +kernel
theorem dX8_init_118 : decode cX8_init 118 = .ok (.aload_n 0, 1) := by decide +kernel
theorem dX8_init_119 : decode cX8_init 119 = .ok (.bipush 24, 2) := by decide +kernel
theorem dX8_init_121 : decode cX8_init 121 = .ok (.newarray .int, 2) := by decide +kernel
theorem dX8_init_123 : decode cX8_init 123 = .ok (.putfield 52, 3) := by decide +kernel
theorem dX8_init_126 : decode cX8_init 126 = .ok (.aload_n 0, 1) := by decide +kernel
theorem dX8_init_127 : decode cX8_init 127 = .ok (.getfield 7, 3) := by decide +kernel
theorem dX8_init_130 : decode cX8_init 130 = .ok (.iconst 5, 1) := by decide +kernel
theorem dX8_init_131 : decode cX8_init 131 = .ok (.iconst 1, 1) := by decide +kernel
theorem dX8_init_132 : decode cX8_init 132 = .ok (.iastore, 1) := by decide +kernel
theorem dX8_init_133 : decode cX8_init 133 = .ok (.iconst 0, 1) := by decide +kernel
theorem dX8_init_134 : decode cX8_init 134 = .ok (.istore_n 1, 1) := by decide +kernel
theorem dX8_init_135 : decode cX8_init 135 = .ok (.iload_n 1, 1) := by decide +kernel
theorem dX8_init_136 : decode cX8_init 136 = .ok (.bipush 24, 2) := by decide +kernel
theorem dX8_init_138 : decode cX8_init 138 = .ok (.if_icmp .ge 20, 3) := by decide +kernel
theorem dX8_init_141 : decode cX8_init 141 = .ok (.aload_n 0, 1) := by decide +kernel
theorem dX8_init_142 : decode cX8_init 142 = .ok (.getfield 7, 3) := by decide +kernel
theorem dX8_init_145 : decode cX8_init 145 = .ok (.bipush 6, 2) := by decide +kernel
theorem dX8_init_147 : decode cX8_init 147 = .ok (.iload_n 1, 1) := by decide +kernel
theorem dX8_init_148 : decode cX8_init 148 = .ok (.iadd, 1) := by decide +kernel
theorem dX8_init_149 : decode cX8_init 149 = .ok (.bipush 30, 2) := by decide +kernel
theorem dX8_init_151 : decode cX8_init 151 = .ok (.iastore, 1) := by decide +kernel
theorem dX8_init_152 : decode cX8_init 152 = .ok (.iinc 1 1, 3) := by decide +kernel
theorem dX8_init_155 : decode cX8_init 155 = .ok (.goto (-20), 3) := by decide +kernel
theorem dX8_init_158 : decode cX8_init 158 = .ok (.return_, 1) := by decide +kernel
theorem dX8_error_0 : decode cX8_error 0 = .ok (.aload_n 0, 1) := by decide +kernel
theorem dX8_error_1 : decode cX8_error 1 = .ok (.getfield 19, 3) := by decide +kernel
theorem dX8_error_4 : decode cX8_error 4 = .ok (.iload_n 1, 1) := by decide +kernel
theorem dX8_error_5 : decode cX8_error 5 = .ok (.dup2, 1) := by decide +kernel
theorem dX8_error_6 : decode cX8_error 6 = .ok (.iaload, 1) := by decide +kernel
theorem dX8_error_7 : decode cX8_error 7 = .ok (.iconst 1, 1) := by decide +kernel
theorem dX8_error_8 : decode cX8_error 8 = .ok (.iadd, 1) := by decide +kernel
theorem dX8_error_9 : decode cX8_error 9 = .ok (.iastore, 1) := by decide +kernel
theorem dX8_error_10 : decode cX8_error 10 = .ok (.ldc 55, 2) := by decide +kernel
theorem dX8_error_12 : decode cX8_error 12 = .ok (.iload_n 1, 1) := by decide +kernel
theorem dX8_error_13 : decode cX8_error 13 = .ok (.isub, 1) := by decide +kernel
theorem dX8_error_14 : decode cX8_error 14 = .ok (.ireturn, 1) := by decide +kernel
theorem dX8_in_0 : decode cX8_in 0 = .ok (.iload_n 0, 1) := by decide +kernel
theorem dX8_in_1 : decode cX8_in 1 = .ok (.iload_n 1, 1) := by decide +kernel
theorem dX8_in_2 : decode cX8_in 2 = .ok (.if_icmp .lt 12, 3) := by decide +kernel
theorem dX8_in_5 : decode cX8_in 5 = .ok (.iload_n 0, 1) := by decide +kernel
theorem dX8_in_6 : decode cX8_in 6 = .ok (.iload_n 2, 1) := by decide +kernel
theorem dX8_in_7 : decode cX8_in 7 = .ok (.if_icmp .gt 7, 3) := by decide +kernel
theorem dX8_in_10 : decode cX8_in 10 = .ok (.iconst 1, 1) := by decide +kernel
theorem dX8_in_11 : decode cX8_in 11 = .ok (.goto 4, 3) := by decide +kernel
theorem dX8_in_14 : decode cX8_in 14 = .ok (.iconst 0, 1) := by decide +kernel
theorem dX8_in_15 : decode cX8_in 15 = .ok (.ireturn, 1) := by decide +kernel
theorem dX8_held_0 : decode cX8_held 0 = .ok (.iload_n 0, 1) := by decide +kernel
theorem dX8_held_1 : decode cX8_held 1 = .ok (.iload_n 1, 1) := by decide +kernel
theorem dX8_held_2 : decode cX8_held 2 = .ok (.if_icmp .ge 7, 3) := by decide +kernel
theorem dX8_held_5 : decode cX8_held 5 = .ok (.iload_n 1, 1) := by decide +kernel
theorem dX8_held_6 : decode cX8_held 6 = .ok (.goto 13, 3) := by decide +kernel
theorem dX8_held_9 : decode cX8_held 9 = .ok (.iload_n 0, 1) := by decide +kernel
theorem dX8_held_10 : decode cX8_held 10 = .ok (.iload_n 2, 1) := by decide +kernel
theorem dX8_held_11 : decode cX8_held 11 = .ok (.if_icmp .le 7, 3) := by decide +kernel
theorem dX8_held_14 : decode cX8_held 14 = .ok (.iload_n 2, 1) := by decide +kernel
theorem dX8_held_15 : decode cX8_held 15 = .ok (.goto 4, 3) := by decide +kernel
theorem dX8_held_18 : decode cX8_held 18 = .ok (.iload_n 0, 1) := by decide +kernel
theorem dX8_held_19 : decode cX8_held 19 = .ok (.ireturn, 1) := by decide +kernel
theorem dX8_carry_0 : decode cX8_carry 0 = .ok (.iconst 0, 1) := by decide +kernel
theorem dX8_carry_1 : decode cX8_carry 1 = .ok (.istore_n 2, 1) := by decide +kernel
theorem dX8_carry_2 : decode cX8_carry 2 = .ok (.iload_n 2, 1) := by decide +kernel
theorem dX8_carry_3 : decode cX8_carry 3 = .ok (.sipush 449, 3) := by decide +kernel
theorem dX8_carry_6 : decode cX8_carry 6 = .ok (.if_icmp .ge 15, 3) := by decide +kernel
theorem dX8_carry_9 : decode cX8_carry 9 = .ok (.aload_n 1, 1) := by decide +kernel
theorem dX8_carry_10 : decode cX8_carry 10 = .ok (.iload_n 2, 1) := by decide +kernel
theorem dX8_carry_11 : decode cX8_carry 11 = .ok (.aload_n 0, 1) := by decide +kernel
theorem dX8_carry_12 : decode cX8_carry 12 = .ok (.iload_n 2, 1) := by decide +kernel
theorem dX8_carry_13 : decode cX8_carry 13 = .ok (.iaload, 1) := by decide +kernel
theorem dX8_carry_14 : decode cX8_carry 14 = .ok (.iastore, 1) := by decide +kernel
theorem dX8_carry_15 : decode cX8_carry 15 = .ok (.iinc 2 1, 3) := by decide +kernel
theorem dX8_carry_18 : decode cX8_carry 18 = .ok (.goto (-16), 3) := by decide +kernel
theorem dX8_carry_21 : decode cX8_carry 21 = .ok (.return_, 1) := by decide +kernel
theorem dX8_isWheel_0 : decode cX8_isWheel 0 = .ok (.iload_n 1, 1) := by decide +kernel
theorem dX8_isWheel_1 : decode cX8_isWheel 1 = .ok (.iconst 0, 1) := by decide +kernel
theorem dX8_isWheel_2 : decode cX8_isWheel 2 = .ok (.aload_n 0, 1) := by decide +kernel
theorem dX8_isWheel_3 : decode cX8_isWheel 3 = .ok (.getfield 7, 3) := by decide +kernel
theorem dX8_isWheel_6 : decode cX8_isWheel 6 = .ok (.iconst 0, 1) := by decide +kernel
theorem dX8_isWheel_7 : decode cX8_isWheel 7 = .ok (.iaload, 1) := by decide +kernel
theorem dX8_isWheel_8 : decode cX8_isWheel 8 = .ok (.iconst 1, 1) := by decide +kernel
theorem dX8_isWheel_9 : decode cX8_isWheel 9 = .ok (.isub, 1) := by decide +kernel
theorem dX8_isWheel_10 : decode cX8_isWheel 10 = .ok (.invokestatic 56, 3) := by decide +kernel
theorem dX8_isWheel_13 : decode cX8_isWheel 13 = .ok (.ireturn, 1) := by decide +kernel
theorem dX8_isFamily_0 : decode cX8_isFamily 0 = .ok (.iload_n 0, 1) := by decide +kernel
theorem dX8_isFamily_1 : decode cX8_isFamily 1 = .ok (.iconst 0, 1) := by decide +kernel
theorem dX8_isFamily_2 : decode cX8_isFamily 2 = .ok (.iconst 4, 1) := by decide +kernel
theorem dX8_isFamily_3 : decode cX8_isFamily 3 = .ok (.invokestatic 56, 3) := by decide +kernel
theorem dX8_isFamily_6 : decode cX8_isFamily 6 = .ok (.ireturn, 1) := by decide +kernel
theorem dX8_isPlace_0 : decode cX8_isPlace 0 = .ok (.iload_n 0, 1) := by decide +kernel
theorem dX8_isPlace_1 : decode cX8_isPlace 1 = .ok (.iconst 0, 1) := by decide +kernel
theorem dX8_isPlace_2 : decode cX8_isPlace 2 = .ok (.bipush 11, 2) := by decide +kernel
theorem dX8_isPlace_4 : decode cX8_isPlace 4 = .ok (.invokestatic 56, 3) := by decide +kernel
theorem dX8_isPlace_7 : decode cX8_isPlace 7 = .ok (.ireturn, 1) := by decide +kernel
theorem dX8_its_0 : decode cX8_its 0 = .ok (.aload_n 0, 1) := by decide +kernel
theorem dX8_its_1 : decode cX8_its 1 = .ok (.getfield 7, 3) := by decide +kernel
theorem dX8_its_4 : decode cX8_its 4 = .ok (.bipush 52, 2) := by decide +kernel
theorem dX8_its_6 : decode cX8_its 6 = .ok (.bipush 7, 2) := by decide +kernel
theorem dX8_its_8 : decode cX8_its 8 = .ok (.iload_n 1, 1) := by decide +kernel
theorem dX8_its_9 : decode cX8_its 9 = .ok (.imul, 1) := by decide +kernel
theorem dX8_its_10 : decode cX8_its 10 = .ok (.iadd, 1) := by decide +kernel
theorem dX8_its_11 : decode cX8_its 11 = .ok (.iload_n 2, 1) := by decide +kernel
theorem dX8_its_12 : decode cX8_its 12 = .ok (.iadd, 1) := by decide +kernel
theorem dX8_its_13 : decode cX8_its 13 = .ok (.iaload, 1) := by decide +kernel
theorem dX8_its_14 : decode cX8_its 14 = .ok (.ireturn, 1) := by decide +kernel
theorem dX8_lays1_0 : decode cX8_lays1 0 = .ok (.aload_n 0, 1) := by decide +kernel
theorem dX8_lays1_1 : decode cX8_lays1 1 = .ok (.getfield 7, 3) := by decide +kernel
theorem dX8_lays1_4 : decode cX8_lays1 4 = .ok (.bipush 52, 2) := by decide +kernel
theorem dX8_lays1_6 : decode cX8_lays1 6 = .ok (.bipush 7, 2) := by decide +kernel
theorem dX8_lays1_8 : decode cX8_lays1 8 = .ok (.iload_n 1, 1) := by decide +kernel
theorem dX8_lays1_9 : decode cX8_lays1 9 = .ok (.imul, 1) := by decide +kernel
theorem dX8_lays1_10 : decode cX8_lays1 10 = .ok (.iadd, 1) := by decide +kernel
theorem dX8_lays1_11 : decode cX8_lays1 11 = .ok (.iload_n 2, 1) := by decide +kernel
theorem dX8_lays1_12 : decode cX8_lays1 12 = .ok (.iadd, 1) := by decide +kernel
theorem dX8_lays1_13 : decode cX8_lays1 13 = .ok (.iload_n 3, 1) := by decide +kernel
theorem dX8_lays1_14 : decode cX8_lays1 14 = .ok (.iastore, 1) := by decide +kernel
theorem dX8_lays1_15 : decode cX8_lays1 15 = .ok (.return_, 1) := by decide +kernel
theorem dX8_owed_0 : decode cX8_owed 0 = .ok (.aload_n 0, 1) := by decide +kernel
theorem dX8_owed_1 : decode cX8_owed 1 = .ok (.getfield 7, 3) := by decide +kernel
theorem dX8_owed_4 : decode cX8_owed 4 = .ok (.bipush 42, 2) := by decide +kernel
theorem dX8_owed_6 : decode cX8_owed 6 = .ok (.iconst 2, 1) := by decide +kernel
theorem dX8_owed_7 : decode cX8_owed 7 = .ok (.iload_n 1, 1) := by decide +kernel
theorem dX8_owed_8 : decode cX8_owed 8 = .ok (.imul, 1) := by decide +kernel
theorem dX8_owed_9 : decode cX8_owed 9 = .ok (.iadd, 1) := by decide +kernel
theorem dX8_owed_10 : decode cX8_owed 10 = .ok (.iaload, 1) := by decide +kernel
theorem dX8_owed_11 : decode cX8_owed 11 = .ok (.ireturn, 1) := by decide +kernel
theorem dX8_prayed_0 : decode cX8_prayed 0 = .ok (.aload_n 0, 1) := by decide +kernel
theorem dX8_prayed_1 : decode cX8_prayed 1 = .ok (.getfield 7, 3) := by decide +kernel
theorem dX8_prayed_4 : decode cX8_prayed 4 = .ok (.bipush 42, 2) := by decide +kernel
theorem dX8_prayed_6 : decode cX8_prayed 6 = .ok (.iconst 2, 1) := by decide +kernel
theorem dX8_prayed_7 : decode cX8_prayed 7 = .ok (.iload_n 1, 1) := by decide +kernel
theorem dX8_prayed_8 : decode cX8_prayed 8 = .ok (.imul, 1) := by decide +kernel
theorem dX8_prayed_9 : decode cX8_prayed 9 = .ok (.iadd, 1) := by decide +kernel
theorem dX8_prayed_10 : decode cX8_prayed 10 = .ok (.iconst 1, 1) := by decide +kernel
theorem dX8_prayed_11 : decode cX8_prayed 11 = .ok (.iadd, 1) := by decide +kernel
theorem dX8_prayed_12 : decode cX8_prayed 12 = .ok (.iaload, 1) := by decide +kernel
theorem dX8_prayed_13 : decode cX8_prayed 13 = .ok (.ireturn, 1) := by decide +kernel
theorem dX8_prays_0 : decode cX8_prays 0 = .ok (.aload_n 0, 1) := by decide +kernel
theorem dX8_prays_1 : decode cX8_prays 1 = .ok (.getfield 7, 3) := by decide +kernel
theorem dX8_prays_4 : decode cX8_prays 4 = .ok (.bipush 42, 2) := by decide +kernel
theorem dX8_prays_6 : decode cX8_prays 6 = .ok (.iconst 2, 1) := by decide +kernel
theorem dX8_prays_7 : decode cX8_prays 7 = .ok (.iload_n 1, 1) := by decide +kernel
theorem dX8_prays_8 : decode cX8_prays 8 = .ok (.imul, 1) := by decide +kernel
theorem dX8_prays_9 : decode cX8_prays 9 = .ok (.iadd, 1) := by decide +kernel
theorem dX8_prays_10 : decode cX8_prays 10 = .ok (.iconst 1, 1) := by decide +kernel
theorem dX8_prays_11 : decode cX8_prays 11 = .ok (.iadd, 1) := by decide +kernel
theorem dX8_prays_12 : decode cX8_prays 12 = .ok (.iload_n 2, 1) := by decide +kernel
theorem dX8_prays_13 : decode cX8_prays 13 = .ok (.iconst 0, 1) := by decide +kernel
theorem dX8_prays_14 : decode cX8_prays 14 = .ok (.ldc 60, 2) := by decide +kernel
theorem dX8_prays_16 : decode cX8_prays 16 = .ok (.invokestatic 61, 3) := by decide +kernel
theorem dX8_prays_19 : decode cX8_prays 19 = .ok (.iastore, 1) := by decide +kernel
theorem dX8_prays_20 : decode cX8_prays 20 = .ok (.return_, 1) := by decide +kernel
theorem dX8_isPaid_0 : decode cX8_isPaid 0 = .ok (.aload_n 0, 1) := by decide +kernel
theorem dX8_isPaid_1 : decode cX8_isPaid 1 = .ok (.iload_n 1, 1) := by decide +kernel
theorem dX8_isPaid_2 : decode cX8_isPaid 2 = .ok (.invokevirtual 65, 3) := by decide +kernel
theorem dX8_isPaid_5 : decode cX8_isPaid 5 = .ok (.aload_n 0, 1) := by decide +kernel
theorem dX8_isPaid_6 : decode cX8_isPaid 6 = .ok (.iload_n 1, 1) := by decide +kernel
theorem dX8_isPaid_7 : decode cX8_isPaid 7 = .ok (.invokevirtual 69, 3) := by decide +kernel
theorem dX8_isPaid_10 : decode cX8_isPaid 10 = .ok (.if_icmp .lt 7, 3) := by decide +kernel
theorem dX8_isPaid_13 : decode cX8_isPaid 13 = .ok (.iconst 1, 1) := by decide +kernel
theorem dX8_isPaid_14 : decode cX8_isPaid 14 = .ok (.goto 4, 3) := by decide +kernel
theorem dX8_isPaid_17 : decode cX8_isPaid 17 = .ok (.iconst 0, 1) := by decide +kernel
theorem dX8_isPaid_18 : decode cX8_isPaid 18 = .ok (.ireturn, 1) := by decide +kernel
theorem dX8_hourOfDay_0 : decode cX8_hourOfDay 0 = .ok (.aload_n 0, 1) := by decide +kernel
theorem dX8_hourOfDay_1 : decode cX8_hourOfDay 1 = .ok (.getfield 7, 3) := by decide +kernel
theorem dX8_hourOfDay_4 : decode cX8_hourOfDay 4 = .ok (.iconst 1, 1) := by decide +kernel
theorem dX8_hourOfDay_5 : decode cX8_hourOfDay 5 = .ok (.iaload, 1) := by decide +kernel
theorem dX8_hourOfDay_6 : decode cX8_hourOfDay 6 = .ok (.bipush 24, 2) := by decide +kernel
theorem dX8_hourOfDay_8 : decode cX8_hourOfDay 8 = .ok (.irem, 1) := by decide +kernel
theorem dX8_hourOfDay_9 : decode cX8_hourOfDay 9 = .ok (.ireturn, 1) := by decide +kernel
theorem dX8_change_0 : decode cX8_change 0 = .ok (.aload_n 0, 1) := by decide +kernel
theorem dX8_change_1 : decode cX8_change 1 = .ok (.getfield 7, 3) := by decide +kernel
theorem dX8_change_4 : decode cX8_change 4 = .ok (.iload_n 1, 1) := by decide +kernel
theorem dX8_change_5 : decode cX8_change 5 = .ok (.iaload, 1) := by decide +kernel
theorem dX8_change_6 : decode cX8_change 6 = .ok (.istore_n 3, 1) := by decide +kernel
theorem dX8_change_7 : decode cX8_change 7 = .ok (.aload_n 0, 1) := by decide +kernel
theorem dX8_change_8 : decode cX8_change 8 = .ok (.getfield 7, 3) := by decide +kernel
theorem dX8_change_11 : decode cX8_change 11 = .ok (.iload_n 1, 1) := by decide +kernel
theorem dX8_change_12 : decode cX8_change 12 = .ok (.iload_n 2, 1) := by decide +kernel
theorem dX8_change_13 : decode cX8_change 13 = .ok (.iastore, 1) := by decide +kernel
theorem dX8_change_14 : decode cX8_change 14 = .ok (.iload_n 3, 1) := by decide +kernel
theorem dX8_change_15 : decode cX8_change 15 = .ok (.ireturn, 1) := by decide +kernel
theorem dX8_force_0 : decode cX8_force 0 = .ok (.iload_n 1, 1) := by decide +kernel
theorem dX8_force_1 : decode cX8_force 1 = .ok (.iconst 0, 1) := by decide +kernel
theorem dX8_force_2 : decode cX8_force 2 = .ok (.bipush 23, 2) := by decide +kernel
theorem dX8_force_4 : decode cX8_force 4 = .ok (.invokestatic 56, 3) := by decide +kernel
theorem dX8_force_7 : decode cX8_force 7 = .ok (.ifCond .eq 25, 3) := by decide +kernel
theorem dX8_force_10 : decode cX8_force 10 = .ok (.iload_n 2, 1) := by decide +kernel
theorem dX8_force_11 : decode cX8_force 11 = .ok (.iconst 0, 1) := by decide +kernel
theorem dX8_force_12 : decode cX8_force 12 = .ok (.bipush 99, 2) := by decide +kernel
theorem dX8_force_14 : decode cX8_force 14 = .ok (.invokestatic 56, 3) := by decide +kernel
theorem dX8_force_17 : decode cX8_force 17 = .ok (.ifCond .eq 15, 3) := by decide +kernel
theorem dX8_force_20 : decode cX8_force 20 = .ok (.aload_n 0, 1) := by decide +kernel
theorem dX8_force_21 : decode cX8_force 21 = .ok (.bipush 6, 2) := by decide +kernel
theorem dX8_force_23 : decode cX8_force 23 = .ok (.iload_n 1, 1) := by decide +kernel
theorem dX8_force_24 : decode cX8_force 24 = .ok (.iadd, 1) := by decide +kernel
theorem dX8_force_25 : decode cX8_force 25 = .ok (.iload_n 2, 1) := by decide +kernel
theorem dX8_force_26 : decode cX8_force 26 = .ok (.invokevirtual 72, 3) := by decide +kernel
theorem dX8_force_29 : decode cX8_force 29 = .ok (.goto 8, 3) := by decide +kernel
theorem dX8_force_32 : decode cX8_force 32 = .ok (.aload_n 0, 1) := by decide +kernel
theorem dX8_force_33 : decode cX8_force 33 = .ok (.iconst 1, 1) := by decide +kernel
theorem dX8_force_34 : decode cX8_force 34 = .ok (.invokevirtual 76, 3) := by decide +kernel
theorem dX8_force_37 : decode cX8_force 37 = .ok (.ireturn, 1) := by decide +kernel
theorem dX8_weed_0 : decode cX8_weed 0 = .ok (.iload_n 1, 1) := by decide +kernel
theorem dX8_weed_1 : decode cX8_weed 1 = .ok (.invokestatic 79, 3) := by decide +kernel
theorem dX8_weed_4 : decode cX8_weed 4 = .ok (.ifCond .eq 25, 3) := by decide +kernel
theorem dX8_weed_7 : decode cX8_weed 7 = .ok (.iload_n 2, 1) := by decide +kernel
theorem dX8_weed_8 : decode cX8_weed 8 = .ok (.iconst 0, 1) := by decide +kernel
theorem dX8_weed_9 : decode cX8_weed 9 = .ok (.bipush 9, 2) := by decide +kernel
theorem dX8_weed_11 : decode cX8_weed 11 = .ok (.invokestatic 56, 3) := by decide +kernel
theorem dX8_weed_14 : decode cX8_weed 14 = .ok (.ifCond .eq 15, 3) := by decide +kernel
theorem dX8_weed_17 : decode cX8_weed 17 = .ok (.aload_n 0, 1) := by decide +kernel
theorem dX8_weed_18 : decode cX8_weed 18 = .ok (.bipush 30, 2) := by decide +kernel
theorem dX8_weed_20 : decode cX8_weed 20 = .ok (.iload_n 1, 1) := by decide +kernel
theorem dX8_weed_21 : decode cX8_weed 21 = .ok (.iadd, 1) := by decide +kernel
theorem dX8_weed_22 : decode cX8_weed 22 = .ok (.iload_n 2, 1) := by decide +kernel
theorem dX8_weed_23 : decode cX8_weed 23 = .ok (.invokevirtual 72, 3) := by decide +kernel
theorem dX8_weed_26 : decode cX8_weed 26 = .ok (.goto 8, 3) := by decide +kernel
theorem dX8_weed_29 : decode cX8_weed 29 = .ok (.aload_n 0, 1) := by decide +kernel
theorem dX8_weed_30 : decode cX8_weed 30 = .ok (.iconst 1, 1) := by decide +kernel
theorem dX8_weed_31 : decode cX8_weed 31 = .ok (.invokevirtual 76, 3) := by decide +kernel
theorem dX8_weed_34 : decode cX8_weed 34 = .ok (.ireturn, 1) := by decide +kernel
theorem dX8_frost_0 : decode cX8_frost 0 = .ok (.iload_n 1, 1) := by decide +kernel
theorem dX8_frost_1 : decode cX8_frost 1 = .ok (.iconst 0, 1) := by decide +kernel
theorem dX8_frost_2 : decode cX8_frost 2 = .ok (.bipush 9, 2) := by decide +kernel
theorem dX8_frost_4 : decode cX8_frost 4 = .ok (.invokestatic 56, 3) := by decide +kernel
theorem dX8_frost_7 : decode cX8_frost 7 = .ok (.ifCond .eq 12, 3) := by decide +kernel
theorem dX8_frost_10 : decode cX8_frost 10 = .ok (.aload_n 0, 1) := by decide +kernel
theorem dX8_frost_11 : decode cX8_frost 11 = .ok (.iconst 2, 1) := by decide +kernel
theorem dX8_frost_12 : decode cX8_frost 12 = .ok (.iload_n 1, 1) := by decide +kernel
theorem dX8_frost_13 : decode cX8_frost 13 = .ok (.invokevirtual 72, 3) := by decide +kernel
theorem dX8_frost_16 : decode cX8_frost 16 = .ok (.goto 8, 3) := by decide +kernel
theorem dX8_frost_19 : decode cX8_frost 19 = .ok (.aload_n 0, 1) := by decide +kernel
theorem dX8_frost_20 : decode cX8_frost 20 = .ok (.iconst 1, 1) := by decide +kernel
theorem dX8_frost_21 : decode cX8_frost 21 = .ok (.invokevirtual 76, 3) := by decide +kernel
theorem dX8_frost_24 : decode cX8_frost 24 = .ok (.ireturn, 1) := by decide +kernel
theorem dX8_owe_0 : decode cX8_owe 0 = .ok (.iload_n 1, 1) := by decide +kernel
theorem dX8_owe_1 : decode cX8_owe 1 = .ok (.invokestatic 83, 3) := by decide +kernel
theorem dX8_owe_4 : decode cX8_owe 4 = .ok (.ifCond .eq 27, 3) := by decide +kernel
theorem dX8_owe_7 : decode cX8_owe 7 = .ok (.iload_n 2, 1) := by decide +kernel
theorem dX8_owe_8 : decode cX8_owe 8 = .ok (.iconst 0, 1) := by decide +kernel
theorem dX8_owe_9 : decode cX8_owe 9 = .ok (.ldc 86, 2) := by decide +kernel
theorem dX8_owe_11 : decode cX8_owe 11 = .ok (.invokestatic 56, 3) := by decide +kernel
theorem dX8_owe_14 : decode cX8_owe 14 = .ok (.ifCond .eq 17, 3) := by decide +kernel
theorem dX8_owe_17 : decode cX8_owe 17 = .ok (.aload_n 0, 1) := by decide +kernel
theorem dX8_owe_18 : decode cX8_owe 18 = .ok (.bipush 42, 2) := by decide +kernel
theorem dX8_owe_20 : decode cX8_owe 20 = .ok (.iconst 2, 1) := by decide +kernel
theorem dX8_owe_21 : decode cX8_owe 21 = .ok (.iload_n 1, 1) := by decide +kernel
theorem dX8_owe_22 : decode cX8_owe 22 = .ok (.imul, 1) := by decide +kernel
theorem dX8_owe_23 : decode cX8_owe 23 = .ok (.iadd, 1) := by decide +kernel
theorem dX8_owe_24 : decode cX8_owe 24 = .ok (.iload_n 2, 1) := by decide +kernel
theorem dX8_owe_25 : decode cX8_owe 25 = .ok (.invokevirtual 72, 3) := by decide +kernel
theorem dX8_owe_28 : decode cX8_owe 28 = .ok (.goto 8, 3) := by decide +kernel
theorem dX8_owe_31 : decode cX8_owe 31 = .ok (.aload_n 0, 1) := by decide +kernel
theorem dX8_owe_32 : decode cX8_owe 32 = .ok (.iconst 1, 1) := by decide +kernel
theorem dX8_owe_33 : decode cX8_owe 33 = .ok (.invokevirtual 76, 3) := by decide +kernel
theorem dX8_owe_36 : decode cX8_owe 36 = .ok (.ireturn, 1) := by decide +kernel
theorem dX8_toldFamily_0 : decode cX8_toldFamily 0 = .ok (.iload_n 2, 1) := by decide +kernel
theorem dX8_toldFamily_1 : decode cX8_toldFamily 1 = .ok (.iconst 3, 1) := by decide +kernel
theorem dX8_toldFamily_2 : decode cX8_toldFamily 2 = .ok (.if_icmp .ge 42, 3) := by decide +kernel
theorem dX8_toldFamily_5 : decode cX8_toldFamily 5 = .ok (.iload_n 2, 1) := by decide +kernel
theorem dX8_toldFamily_6 : decode cX8_toldFamily 6 = .ok (.ifCond .ne 11, 3) := by decide +kernel
theorem dX8_toldFamily_9 : decode cX8_toldFamily 9 = .ok (.aload_n 0, 1) := by decide +kernel
theorem dX8_toldFamily_10 : decode cX8_toldFamily 10 = .ok (.iload_n 1, 1) := by decide +kernel
theorem dX8_toldFamily_11 : decode cX8_toldFamily 11 = .ok (.invokevirtual 69, 3) := by decide +kernel
theorem dX8_toldFamily_14 : decode cX8_toldFamily 14 = .ok (.goto 29, 3) := by decide +kernel
theorem dX8_toldFamily_17 : decode cX8_toldFamily 17 = .ok (.iload_n 2, 1) := by decide +kernel
theorem dX8_toldFamily_18 : decode cX8_toldFamily 18 = .ok (.iconst 1, 1) := by decide +kernel
theorem dX8_toldFamily_19 : decode cX8_toldFamily 19 = .ok (.if_icmp .ne 11, 3) := by decide +kernel
theorem dX8_toldFamily_22 : decode cX8_toldFamily 22 = .ok (.aload_n 0, 1) := by decide +kernel
theorem dX8_toldFamily_23 : decode cX8_toldFamily 23 = .ok (.iload_n 1, 1) := by decide +kernel
theorem dX8_toldFamily_24 : decode cX8_toldFamily 24 = .ok (.invokevirtual 65, 3) := by decide +kernel
theorem dX8_toldFamily_27 : decode cX8_toldFamily 27 = .ok (.goto 16, 3) := by decide +kernel
theorem dX8_toldFamily_30 : decode cX8_toldFamily 30 = .ok (.aload_n 0, 1) := by decide +kernel
theorem dX8_toldFamily_31 : decode cX8_toldFamily 31 = .ok (.iload_n 1, 1) := by decide +kernel
theorem dX8_toldFamily_32 : decode cX8_toldFamily 32 = .ok (.invokevirtual 87, 3) := by decide +kernel
theorem dX8_toldFamily_35 : decode cX8_toldFamily 35 = .ok (.ifCond .eq 7, 3) := by decide +kernel
theorem dX8_toldFamily_38 : decode cX8_toldFamily 38 = .ok (.iconst 1, 1) := by decide +kernel
theorem dX8_toldFamily_39 : decode cX8_toldFamily 39 = .ok (.goto 4, 3) := by decide +kernel
theorem dX8_toldFamily_42 : decode cX8_toldFamily 42 = .ok (.iconst 0, 1) := by decide +kernel
theorem dX8_toldFamily_43 : decode cX8_toldFamily 43 = .ok (.ireturn, 1) := by decide +kernel
theorem dX8_toldFamily_44 : decode cX8_toldFamily 44 = .ok (.iconst 0, 1) := by decide +kernel
theorem dX8_toldFamily_45 : decode cX8_toldFamily 45 = .ok (.istore_n 3, 1) := by decide +kernel
theorem dX8_toldFamily_46 : decode cX8_toldFamily 46 = .ok (.iconst 0, 1) := by decide +kernel
theorem dX8_toldFamily_47 : decode cX8_toldFamily 47 = .ok (.istore 4, 2) := by decide +kernel
theorem dX8_toldFamily_49 : decode cX8_toldFamily 49 = .ok (.iload 4, 2) := by decide +kernel
theorem dX8_toldFamily_51 : decode cX8_toldFamily 51 = .ok (.aload_n 0, 1) := by decide +kernel
theorem dX8_toldFamily_52 : decode cX8_toldFamily 52 = .ok (.getfield 7, 3) := by decide +kernel
theorem dX8_toldFamily_55 : decode cX8_toldFamily 55 = .ok (.iconst 0, 1) := by decide +kernel
theorem dX8_toldFamily_56 : decode cX8_toldFamily 56 = .ok (.iaload, 1) := by decide +kernel
theorem dX8_toldFamily_57 : decode cX8_toldFamily 57 = .ok (.if_icmp .ge 28, 3) := by decide +kernel
theorem dX8_toldFamily_60 : decode cX8_toldFamily 60 = .ok (.iload_n 3, 1) := by decide +kernel
theorem dX8_toldFamily_61 : decode cX8_toldFamily 61 = .ok (.aload_n 0, 1) := by decide +kernel
theorem dX8_toldFamily_62 : decode cX8_toldFamily 62 = .ok (.iload 4, 2) := by decide +kernel
theorem dX8_toldFamily_64 : decode cX8_toldFamily 64 = .ok (.iconst 3, 1) := by decide +kernel
theorem dX8_toldFamily_65 : decode cX8_toldFamily 65 = .ok (.invokevirtual 90, 3) := by decide +kernel
theorem dX8_toldFamily_68 : decode cX8_toldFamily 68 = .ok (.iload_n 1, 1) := by decide +kernel
theorem dX8_toldFamily_69 : decode cX8_toldFamily 69 = .ok (.if_icmp .ne 7, 3) := by decide +kernel
theorem dX8_toldFamily_72 : decode cX8_toldFamily 72 = .ok (.iconst 1, 1) := by decide +kernel
theorem dX8_toldFamily_73 : decode cX8_toldFamily 73 = .ok (.goto 4, 3) := by decide +kernel
theorem dX8_toldFamily_76 : decode cX8_toldFamily 76 = .ok (.iconst 0, 1) := by decide +kernel
theorem dX8_toldFamily_77 : decode cX8_toldFamily 77 = .ok (.iadd, 1) := by decide +kernel
theorem dX8_toldFamily_78 : decode cX8_toldFamily 78 = .ok (.istore_n 3, 1) := by decide +kernel
theorem dX8_toldFamily_79 : decode cX8_toldFamily 79 = .ok (.iinc 4 1, 3) := by decide +kernel
theorem dX8_toldFamily_82 : decode cX8_toldFamily 82 = .ok (.goto (-33), 3) := by decide +kernel
theorem dX8_toldFamily_85 : decode cX8_toldFamily 85 = .ok (.iload_n 3, 1) := by decide +kernel
theorem dX8_toldFamily_86 : decode cX8_toldFamily 86 = .ok (.ireturn, 1) := by decide +kernel
theorem dX8_familyIs_0 : decode cX8_familyIs 0 = .ok (.iload_n 1, 1) := by decide +kernel
theorem dX8_familyIs_1 : decode cX8_familyIs 1 = .ok (.invokestatic 83, 3) := by decide +kernel
theorem dX8_familyIs_4 : decode cX8_familyIs 4 = .ok (.ifCond .eq 21, 3) := by decide +kernel
theorem dX8_familyIs_7 : decode cX8_familyIs 7 = .ok (.iload_n 2, 1) := by decide +kernel
theorem dX8_familyIs_8 : decode cX8_familyIs 8 = .ok (.iconst 0, 1) := by decide +kernel
theorem dX8_familyIs_9 : decode cX8_familyIs 9 = .ok (.iconst 3, 1) := by decide +kernel
theorem dX8_familyIs_10 : decode cX8_familyIs 10 = .ok (.invokestatic 56, 3) := by decide +kernel
theorem dX8_familyIs_13 : decode cX8_familyIs 13 = .ok (.ifCond .eq 12, 3) := by decide +kernel
theorem dX8_familyIs_16 : decode cX8_familyIs 16 = .ok (.aload_n 0, 1) := by decide +kernel
theorem dX8_familyIs_17 : decode cX8_familyIs 17 = .ok (.iload_n 1, 1) := by decide +kernel
theorem dX8_familyIs_18 : decode cX8_familyIs 18 = .ok (.iload_n 2, 1) := by decide +kernel
theorem dX8_familyIs_19 : decode cX8_familyIs 19 = .ok (.invokevirtual 93, 3) := by decide +kernel
theorem dX8_familyIs_22 : decode cX8_familyIs 22 = .ok (.goto 8, 3) := by decide +kernel
theorem dX8_familyIs_25 : decode cX8_familyIs 25 = .ok (.aload_n 0, 1) := by decide +kernel
theorem dX8_familyIs_26 : decode cX8_familyIs 26 = .ok (.iconst 1, 1) := by decide +kernel
theorem dX8_familyIs_27 : decode cX8_familyIs 27 = .ok (.invokevirtual 76, 3) := by decide +kernel
theorem dX8_familyIs_30 : decode cX8_familyIs 30 = .ok (.ireturn, 1) := by decide +kernel
theorem dX8_adds_0 : decode cX8_adds 0 = .ok (.aload_n 0, 1) := by decide +kernel
theorem dX8_adds_1 : decode cX8_adds 1 = .ok (.getfield 7, 3) := by decide +kernel
theorem dX8_adds_4 : decode cX8_adds 4 = .ok (.iconst 0, 1) := by decide +kernel
theorem dX8_adds_5 : decode cX8_adds 5 = .ok (.iaload, 1) := by decide +kernel
theorem dX8_adds_6 : decode cX8_adds 6 = .ok (.istore_n 3, 1) := by decide +kernel
theorem dX8_adds_7 : decode cX8_adds 7 = .ok (.aload_n 0, 1) := by decide +kernel
theorem dX8_adds_8 : decode cX8_adds 8 = .ok (.iload_n 3, 1) := by decide +kernel
theorem dX8_adds_9 : decode cX8_adds 9 = .ok (.iconst 0, 1) := by decide +kernel
theorem dX8_adds_10 : decode cX8_adds 10 = .ok (.iload_n 1, 1) := by decide +kernel
theorem dX8_adds_11 : decode cX8_adds 11 = .ok (.bipush 10, 2) := by decide +kernel
theorem dX8_adds_13 : decode cX8_adds 13 = .ok (.idiv, 1) := by decide +kernel
theorem dX8_adds_14 : decode cX8_adds 14 = .ok (.invokevirtual 96, 3) := by decide +kernel
theorem dX8_adds_17 : decode cX8_adds 17 = .ok (.aload_n 0, 1) := by decide +kernel
theorem dX8_adds_18 : decode cX8_adds 18 = .ok (.iload_n 3, 1) := by decide +kernel
theorem dX8_adds_19 : decode cX8_adds 19 = .ok (.iconst 1, 1) := by decide +kernel
theorem dX8_adds_20 : decode cX8_adds 20 = .ok (.iload_n 1, 1) := by decide +kernel
theorem dX8_adds_21 : decode cX8_adds 21 = .ok (.bipush 10, 2) := by decide +kernel
theorem dX8_adds_23 : decode cX8_adds 23 = .ok (.irem, 1) := by decide +kernel
theorem dX8_adds_24 : decode cX8_adds 24 = .ok (.invokevirtual 96, 3) := by decide +kernel
theorem dX8_adds_27 : decode cX8_adds 27 = .ok (.aload_n 0, 1) := by decide +kernel
theorem dX8_adds_28 : decode cX8_adds 28 = .ok (.iload_n 3, 1) := by decide +kernel
theorem dX8_adds_29 : decode cX8_adds 29 = .ok (.iconst 2, 1) := by decide +kernel
theorem dX8_adds_30 : decode cX8_adds 30 = .ok (.iload_n 2, 1) := by decide +kernel
theorem dX8_adds_31 : decode cX8_adds 31 = .ok (.bipush 10, 2) := by decide +kernel
theorem dX8_adds_33 : decode cX8_adds 33 = .ok (.idiv, 1) := by decide +kernel
theorem dX8_adds_34 : decode cX8_adds 34 = .ok (.invokevirtual 96, 3) := by decide +kernel
theorem dX8_adds_37 : decode cX8_adds 37 = .ok (.aload_n 0, 1) := by decide +kernel
theorem dX8_adds_38 : decode cX8_adds 38 = .ok (.iload_n 3, 1) := by decide +kernel
theorem dX8_adds_39 : decode cX8_adds 39 = .ok (.iconst 3, 1) := by decide +kernel
theorem dX8_adds_40 : decode cX8_adds 40 = .ok (.iload_n 2, 1) := by decide +kernel
theorem dX8_adds_41 : decode cX8_adds 41 = .ok (.bipush 10, 2) := by decide +kernel
theorem dX8_adds_43 : decode cX8_adds 43 = .ok (.irem, 1) := by decide +kernel
theorem dX8_adds_44 : decode cX8_adds 44 = .ok (.invokevirtual 96, 3) := by decide +kernel
theorem dX8_adds_47 : decode cX8_adds 47 = .ok (.aload_n 0, 1) := by decide +kernel
theorem dX8_adds_48 : decode cX8_adds 48 = .ok (.iload_n 3, 1) := by decide +kernel
theorem dX8_adds_49 : decode cX8_adds 49 = .ok (.iconst 4, 1) := by decide +kernel
theorem dX8_adds_50 : decode cX8_adds 50 = .ok (.iconst 1, 1) := by decide +kernel
theorem dX8_adds_51 : decode cX8_adds 51 = .ok (.invokevirtual 96, 3) := by decide +kernel
theorem dX8_adds_54 : decode cX8_adds 54 = .ok (.aload_n 0, 1) := by decide +kernel
theorem dX8_adds_55 : decode cX8_adds 55 = .ok (.iload_n 3, 1) := by decide +kernel
theorem dX8_adds_56 : decode cX8_adds 56 = .ok (.iconst 5, 1) := by decide +kernel
theorem dX8_adds_57 : decode cX8_adds 57 = .ok (.iconst 0, 1) := by decide +kernel
theorem dX8_adds_58 : decode cX8_adds 58 = .ok (.invokevirtual 96, 3) := by decide +kernel
theorem dX8_adds_61 : decode cX8_adds 61 = .ok (.aload_n 0, 1) := by decide +kernel
theorem dX8_adds_62 : decode cX8_adds 62 = .ok (.iload_n 3, 1) := by decide +kernel
theorem dX8_adds_63 : decode cX8_adds 63 = .ok (.bipush 6, 2) := by decide +kernel
theorem dX8_adds_65 : decode cX8_adds 65 = .ok (.iconst 0, 1) := by decide +kernel
theorem dX8_adds_66 : decode cX8_adds 66 = .ok (.invokevirtual 96, 3) := by decide +kernel
theorem dX8_adds_69 : decode cX8_adds 69 = .ok (.aload_n 0, 1) := by decide +kernel
theorem dX8_adds_70 : decode cX8_adds 70 = .ok (.getfield 7, 3) := by decide +kernel
theorem dX8_adds_73 : decode cX8_adds 73 = .ok (.iconst 0, 1) := by decide +kernel
theorem dX8_adds_74 : decode cX8_adds 74 = .ok (.dup2, 1) := by decide +kernel
theorem dX8_adds_75 : decode cX8_adds 75 = .ok (.iaload, 1) := by decide +kernel
theorem dX8_adds_76 : decode cX8_adds 76 = .ok (.iconst 1, 1) := by decide +kernel
theorem dX8_adds_77 : decode cX8_adds 77 = .ok (.iadd, 1) := by decide +kernel
theorem dX8_adds_78 : decode cX8_adds 78 = .ok (.iastore, 1) := by decide +kernel
theorem dX8_adds_79 : decode cX8_adds 79 = .ok (.iload_n 3, 1) := by decide +kernel
theorem dX8_adds_80 : decode cX8_adds 80 = .ok (.ireturn, 1) := by decide +kernel
theorem dX8_wheel_0 : decode cX8_wheel 0 = .ok (.iload_n 1, 1) := by decide +kernel
theorem dX8_wheel_1 : decode cX8_wheel 1 = .ok (.iconst 0, 1) := by decide +kernel
theorem dX8_wheel_2 : decode cX8_wheel 2 = .ok (.bipush 69, 2) := by decide +kernel
theorem dX8_wheel_4 : decode cX8_wheel 4 = .ok (.invokestatic 56, 3) := by decide +kernel
theorem dX8_wheel_7 : decode cX8_wheel 7 = .ok (.ifCond .eq 21, 3) := by decide +kernel
theorem dX8_wheel_10 : decode cX8_wheel 10 = .ok (.iload_n 2, 1) := by decide +kernel
theorem dX8_wheel_11 : decode cX8_wheel 11 = .ok (.iconst 0, 1) := by decide +kernel
theorem dX8_wheel_12 : decode cX8_wheel 12 = .ok (.bipush 114, 2) := by decide +kernel
theorem dX8_wheel_14 : decode cX8_wheel 14 = .ok (.invokestatic 56, 3) := by decide +kernel
theorem dX8_wheel_17 : decode cX8_wheel 17 = .ok (.ifCond .eq 11, 3) := by decide +kernel
theorem dX8_wheel_20 : decode cX8_wheel 20 = .ok (.iload_n 2, 1) := by decide +kernel
theorem dX8_wheel_21 : decode cX8_wheel 21 = .ok (.bipush 10, 2) := by decide +kernel
theorem dX8_wheel_23 : decode cX8_wheel 23 = .ok (.irem, 1) := by decide +kernel
theorem dX8_wheel_24 : decode cX8_wheel 24 = .ok (.iconst 4, 1) := by decide +kernel
theorem dX8_wheel_25 : decode cX8_wheel 25 = .ok (.if_icmp .le 9, 3) := by decide +kernel
theorem dX8_wheel_28 : decode cX8_wheel 28 = .ok (.aload_n 0, 1) := by decide +kernel
theorem dX8_wheel_29 : decode cX8_wheel 29 = .ok (.iconst 1, 1) := by decide +kernel
theorem dX8_wheel_30 : decode cX8_wheel 30 = .ok (.invokevirtual 76, 3) := by decide +kernel
theorem dX8_wheel_33 : decode cX8_wheel 33 = .ok (.ireturn, 1) := by decide +kernel
theorem dX8_wheel_34 : decode cX8_wheel 34 = .ok (.aload_n 0, 1) := by decide +kernel
theorem dX8_wheel_35 : decode cX8_wheel 35 = .ok (.getfield 7, 3) := by decide +kernel
theorem dX8_wheel_38 : decode cX8_wheel 38 = .ok (.iconst 0, 1) := by decide +kernel
theorem dX8_wheel_39 : decode cX8_wheel 39 = .ok (.iaload, 1) := by decide +kernel
theorem dX8_wheel_40 : decode cX8_wheel 40 = .ok (.bipush 8, 2) := by decide +kernel
theorem dX8_wheel_42 : decode cX8_wheel 42 = .ok (.if_icmp .ne 11, 3) := by decide +kernel
theorem dX8_wheel_45 : decode cX8_wheel 45 = .ok (.aload_n 0, 1) := by decide +kernel
theorem dX8_wheel_46 : decode cX8_wheel 46 = .ok (.iconst 4, 1) := by decide +kernel
theorem dX8_wheel_47 : decode cX8_wheel 47 = .ok (.invokevirtual 76, 3) := by decide +kernel
theorem dX8_wheel_50 : decode cX8_wheel 50 = .ok (.goto 9, 3) := by decide +kernel
theorem dX8_wheel_53 : decode cX8_wheel 53 = .ok (.aload_n 0, 1) := by decide +kernel
theorem dX8_wheel_54 : decode cX8_wheel 54 = .ok (.iload_n 1, 1) := by decide +kernel
theorem dX8_wheel_55 : decode cX8_wheel 55 = .ok (.iload_n 2, 1) := by decide +kernel
theorem dX8_wheel_56 : decode cX8_wheel 56 = .ok (.invokevirtual 100, 3) := by decide +kernel
theorem dX8_wheel_59 : decode cX8_wheel 59 = .ok (.ireturn, 1) := by decide +kernel
theorem dX8_toldWheel_0 : decode cX8_toldWheel 0 = .ok (.iload_n 2, 1) := by decide +kernel
theorem dX8_toldWheel_1 : decode cX8_toldWheel 1 = .ok (.bipush 7, 2) := by decide +kernel
theorem dX8_toldWheel_3 : decode cX8_toldWheel 3 = .ok (.if_icmp .ge 10, 3) := by decide +kernel
theorem dX8_toldWheel_6 : decode cX8_toldWheel 6 = .ok (.aload_n 0, 1) := by decide +kernel
theorem dX8_toldWheel_7 : decode cX8_toldWheel 7 = .ok (.iload_n 1, 1) := by decide +kernel
theorem dX8_toldWheel_8 : decode cX8_toldWheel 8 = .ok (.iload_n 2, 1) := by decide +kernel
theorem dX8_toldWheel_9 : decode cX8_toldWheel 9 = .ok (.invokevirtual 90, 3) := by decide +kernel
theorem dX8_toldWheel_12 : decode cX8_toldWheel 12 = .ok (.ireturn, 1) := by decide +kernel
theorem dX8_toldWheel_13 : decode cX8_toldWheel 13 = .ok (.aload_n 0, 1) := by decide +kernel
theorem dX8_toldWheel_14 : decode cX8_toldWheel 14 = .ok (.invokevirtual 103, 3) := by decide +kernel
theorem dX8_toldWheel_17 : decode cX8_toldWheel 17 = .ok (.iload_n 2, 1) := by decide +kernel
theorem dX8_toldWheel_18 : decode cX8_toldWheel 18 = .ok (.bipush 7, 2) := by decide +kernel
theorem dX8_toldWheel_20 : decode cX8_toldWheel 20 = .ok (.if_icmp .ne 12, 3) := by decide +kernel
theorem dX8_toldWheel_23 : decode cX8_toldWheel 23 = .ok (.aload_n 0, 1) := by decide +kernel
theorem dX8_toldWheel_24 : decode cX8_toldWheel 24 = .ok (.getfield 34, 3) := by decide +kernel
theorem dX8_toldWheel_27 : decode cX8_toldWheel 27 = .ok (.iload_n 1, 1) := by decide +kernel
theorem dX8_toldWheel_28 : decode cX8_toldWheel 28 = .ok (.iaload, 1) := by decide +kernel
theorem dX8_toldWheel_29 : decode cX8_toldWheel 29 = .ok (.goto 34, 3) := by decide +kernel
theorem dX8_toldWheel_32 : decode cX8_toldWheel 32 = .ok (.iload_n 2, 1) := by decide +kernel
theorem dX8_toldWheel_33 : decode cX8_toldWheel 33 = .ok (.bipush 8, 2) := by decide +kernel
theorem dX8_toldWheel_35 : decode cX8_toldWheel 35 = .ok (.if_icmp .ne 17, 3) := by decide +kernel
theorem dX8_toldWheel_38 : decode cX8_toldWheel 38 = .ok (.aload_n 0, 1) := by decide +kernel
theorem dX8_toldWheel_39 : decode cX8_toldWheel 39 = .ok (.iload_n 1, 1) := by decide +kernel
theorem dX8_toldWheel_40 : decode cX8_toldWheel 40 = .ok (.aload_n 0, 1) := by decide +kernel
theorem dX8_toldWheel_41 : decode cX8_toldWheel 41 = .ok (.getfield 34, 3) := by decide +kernel
theorem dX8_toldWheel_44 : decode cX8_toldWheel 44 = .ok (.iload_n 1, 1) := by decide +kernel
theorem dX8_toldWheel_45 : decode cX8_toldWheel 45 = .ok (.iaload, 1) := by decide +kernel
theorem dX8_toldWheel_46 : decode cX8_toldWheel 46 = .ok (.invokevirtual 106, 3) := by decide +kernel
theorem dX8_toldWheel_49 : decode cX8_toldWheel 49 = .ok (.goto 14, 3) := by decide +kernel
theorem dX8_toldWheel_52 : decode cX8_toldWheel 52 = .ok (.aload_n 0, 1) := by decide +kernel
theorem dX8_toldWheel_53 : decode cX8_toldWheel 53 = .ok (.iload_n 1, 1) := by decide +kernel
theorem dX8_toldWheel_54 : decode cX8_toldWheel 54 = .ok (.aload_n 0, 1) := by decide +kernel
theorem dX8_toldWheel_55 : decode cX8_toldWheel 55 = .ok (.getfield 34, 3) := by decide +kernel
theorem dX8_toldWheel_58 : decode cX8_toldWheel 58 = .ok (.iload_n 1, 1) := by decide +kernel
theorem dX8_toldWheel_59 : decode cX8_toldWheel 59 = .ok (.iaload, 1) := by decide +kernel
theorem dX8_toldWheel_60 : decode cX8_toldWheel 60 = .ok (.invokevirtual 109, 3) := by decide +kernel
theorem dX8_toldWheel_63 : decode cX8_toldWheel 63 = .ok (.ireturn, 1) := by decide +kernel
theorem dX8_wheelIs_0 : decode cX8_wheelIs 0 = .ok (.aload_n 0, 1) := by decide +kernel
theorem dX8_wheelIs_1 : decode cX8_wheelIs 1 = .ok (.iload_n 1, 1) := by decide +kernel
theorem dX8_wheelIs_2 : decode cX8_wheelIs 2 = .ok (.invokevirtual 112, 3) := by decide +kernel
theorem dX8_wheelIs_5 : decode cX8_wheelIs 5 = .ok (.ifCond .eq 22, 3) := by decide +kernel
theorem dX8_wheelIs_8 : decode cX8_wheelIs 8 = .ok (.iload_n 2, 1) := by decide +kernel
theorem dX8_wheelIs_9 : decode cX8_wheelIs 9 = .ok (.iconst 0, 1) := by decide +kernel
theorem dX8_wheelIs_10 : decode cX8_wheelIs 10 = .ok (.bipush 9, 2) := by decide +kernel
theorem dX8_wheelIs_12 : decode cX8_wheelIs 12 = .ok (.invokestatic 56, 3) := by decide +kernel
theorem dX8_wheelIs_15 : decode cX8_wheelIs 15 = .ok (.ifCond .eq 12, 3) := by decide +kernel
theorem dX8_wheelIs_18 : decode cX8_wheelIs 18 = .ok (.aload_n 0, 1) := by decide +kernel
theorem dX8_wheelIs_19 : decode cX8_wheelIs 19 = .ok (.iload_n 1, 1) := by decide +kernel
theorem dX8_wheelIs_20 : decode cX8_wheelIs 20 = .ok (.iload_n 2, 1) := by decide +kernel
theorem dX8_wheelIs_21 : decode cX8_wheelIs 21 = .ok (.invokevirtual 115, 3) := by decide +kernel
theorem dX8_wheelIs_24 : decode cX8_wheelIs 24 = .ok (.goto 8, 3) := by decide +kernel
theorem dX8_wheelIs_27 : decode cX8_wheelIs 27 = .ok (.aload_n 0, 1) := by decide +kernel
theorem dX8_wheelIs_28 : decode cX8_wheelIs 28 = .ok (.iconst 1, 1) := by decide +kernel
theorem dX8_wheelIs_29 : decode cX8_wheelIs 29 = .ok (.invokevirtual 76, 3) := by decide +kernel
theorem dX8_wheelIs_32 : decode cX8_wheelIs 32 = .ok (.ireturn, 1) := by decide +kernel
theorem dX8_isUnder_0 : decode cX8_isUnder 0 = .ok (.iload_n 1, 1) := by decide +kernel
theorem dX8_isUnder_1 : decode cX8_isUnder 1 = .ok (.ifCond .eq 28, 3) := by decide +kernel
theorem dX8_isUnder_4 : decode cX8_isUnder 4 = .ok (.iload_n 0, 1) := by decide +kernel
theorem dX8_isUnder_5 : decode cX8_isUnder 5 = .ok (.iload_n 1, 1) := by decide +kernel
theorem dX8_isUnder_6 : decode cX8_isUnder 6 = .ok (.if_icmp .eq 23, 3) := by decide +kernel
theorem dX8_isUnder_9 : decode cX8_isUnder 9 = .ok (.iload_n 1, 1) := by decide +kernel
theorem dX8_isUnder_10 : decode cX8_isUnder 10 = .ok (.iconst 1, 1) := by decide +kernel
theorem dX8_isUnder_11 : decode cX8_isUnder 11 = .ok (.if_icmp .ne 8, 3) := by decide +kernel
theorem dX8_isUnder_14 : decode cX8_isUnder 14 = .ok (.iload_n 0, 1) := by decide +kernel
theorem dX8_isUnder_15 : decode cX8_isUnder 15 = .ok (.iconst 4, 1) := by decide +kernel
theorem dX8_isUnder_16 : decode cX8_isUnder 16 = .ok (.if_icmp .eq 13, 3) := by decide +kernel
theorem dX8_isUnder_19 : decode cX8_isUnder 19 = .ok (.iload_n 1, 1) := by decide +kernel
theorem dX8_isUnder_20 : decode cX8_isUnder 20 = .ok (.iconst 3, 1) := by decide +kernel
theorem dX8_isUnder_21 : decode cX8_isUnder 21 = .ok (.if_icmp .ne 12, 3) := by decide +kernel
theorem dX8_isUnder_24 : decode cX8_isUnder 24 = .ok (.iload_n 0, 1) := by decide +kernel
theorem dX8_isUnder_25 : decode cX8_isUnder 25 = .ok (.iconst 5, 1) := by decide +kernel
theorem dX8_isUnder_26 : decode cX8_isUnder 26 = .ok (.if_icmp .ne 7, 3) := by decide +kernel
theorem dX8_isUnder_29 : decode cX8_isUnder 29 = .ok (.iconst 1, 1) := by decide +kernel
theorem dX8_isUnder_30 : decode cX8_isUnder 30 = .ok (.goto 4, 3) := by decide +kernel
theorem dX8_isUnder_33 : decode cX8_isUnder 33 = .ok (.iconst 0, 1) := by decide +kernel
theorem dX8_isUnder_34 : decode cX8_isUnder 34 = .ok (.ireturn, 1) := by decide +kernel
theorem dX8_as_0 : decode cX8_as 0 = .ok (.aload_n 0, 1) := by decide +kernel
theorem dX8_as_1 : decode cX8_as 1 = .ok (.iload_n 1, 1) := by decide +kernel
theorem dX8_as_2 : decode cX8_as 2 = .ok (.invokevirtual 112, 3) := by decide +kernel
theorem dX8_as_5 : decode cX8_as 5 = .ok (.ifCond .eq 13, 3) := by decide +kernel
theorem dX8_as_8 : decode cX8_as 8 = .ok (.iload_n 2, 1) := by decide +kernel
theorem dX8_as_9 : decode cX8_as 9 = .ok (.iconst 0, 1) := by decide +kernel
theorem dX8_as_10 : decode cX8_as 10 = .ok (.bipush 6, 2) := by decide +kernel
theorem dX8_as_12 : decode cX8_as 12 = .ok (.invokestatic 56, 3) := by decide +kernel
theorem dX8_as_15 : decode cX8_as 15 = .ok (.ifCond .ne 9, 3) := by decide +kernel
theorem dX8_as_18 : decode cX8_as 18 = .ok (.aload_n 0, 1) := by decide +kernel
theorem dX8_as_19 : decode cX8_as 19 = .ok (.iconst 1, 1) := by decide +kernel
theorem dX8_as_20 : decode cX8_as 20 = .ok (.invokevirtual 76, 3) := by decide +kernel
theorem dX8_as_23 : decode cX8_as 23 = .ok (.ireturn, 1) := by decide +kernel
theorem dX8_as_24 : decode cX8_as 24 = .ok (.aload_n 0, 1) := by decide +kernel
theorem dX8_as_25 : decode cX8_as 25 = .ok (.iload_n 1, 1) := by decide +kernel
theorem dX8_as_26 : decode cX8_as 26 = .ok (.iconst 0, 1) := by decide +kernel
theorem dX8_as_27 : decode cX8_as 27 = .ok (.invokevirtual 90, 3) := by decide +kernel
theorem dX8_as_30 : decode cX8_as 30 = .ok (.iload_n 2, 1) := by decide +kernel
theorem dX8_as_31 : decode cX8_as 31 = .ok (.invokestatic 118, 3) := by decide +kernel
theorem dX8_as_34 : decode cX8_as 34 = .ok (.ifCond .eq 12, 3) := by decide +kernel
theorem dX8_as_37 : decode cX8_as 37 = .ok (.aload_n 0, 1) := by decide +kernel
theorem dX8_as_38 : decode cX8_as 38 = .ok (.iload_n 1, 1) := by decide +kernel
theorem dX8_as_39 : decode cX8_as 39 = .ok (.iconst 5, 1) := by decide +kernel
theorem dX8_as_40 : decode cX8_as 40 = .ok (.invokevirtual 90, 3) := by decide +kernel
theorem dX8_as_43 : decode cX8_as 43 = .ok (.goto 8, 3) := by decide +kernel
theorem dX8_as_46 : decode cX8_as 46 = .ok (.aload_n 0, 1) := by decide +kernel
theorem dX8_as_47 : decode cX8_as 47 = .ok (.iconst 5, 1) := by decide +kernel
theorem dX8_as_48 : decode cX8_as 48 = .ok (.invokevirtual 76, 3) := by decide +kernel
theorem dX8_as_51 : decode cX8_as 51 = .ok (.ireturn, 1) := by decide +kernel
theorem dX8_most_0 : decode cX8_most 0 = .ok (.iload_n 0, 1) := by decide +kernel
theorem dX8_most_1 : decode cX8_most 1 = .ok (.ifCond .ne 8, 3) := by decide +kernel
theorem dX8_most_4 : decode cX8_most 4 = .ok (.bipush 6, 2) := by decide +kernel
theorem dX8_most_6 : decode cX8_most 6 = .ok (.goto 43, 3) := by decide +kernel
theorem dX8_most_9 : decode cX8_most 9 = .ok (.iload_n 0, 1) := by decide +kernel
theorem dX8_most_10 : decode cX8_most 10 = .ok (.iconst 1, 1) := by decide +kernel
theorem dX8_most_11 : decode cX8_most 11 = .ok (.if_icmp .ne 8, 3) := by decide +kernel
theorem dX8_most_14 : decode cX8_most 14 = .ok (.bipush 9, 2) := by decide +kernel
theorem dX8_most_16 : decode cX8_most 16 = .ok (.goto 33, 3) := by decide +kernel
theorem dX8_most_19 : decode cX8_most 19 = .ok (.iload_n 0, 1) := by decide +kernel
theorem dX8_most_20 : decode cX8_most 20 = .ok (.iconst 2, 1) := by decide +kernel
theorem dX8_most_21 : decode cX8_most 21 = .ok (.if_icmp .ne 8, 3) := by decide +kernel
theorem dX8_most_24 : decode cX8_most 24 = .ok (.bipush 11, 2) := by decide +kernel
theorem dX8_most_26 : decode cX8_most 26 = .ok (.goto 23, 3) := by decide +kernel
theorem dX8_most_29 : decode cX8_most 29 = .ok (.iload_n 0, 1) := by decide +kernel
theorem dX8_most_30 : decode cX8_most 30 = .ok (.iconst 3, 1) := by decide +kernel
theorem dX8_most_31 : decode cX8_most 31 = .ok (.if_icmp .ne 7, 3) := by decide +kernel
theorem dX8_most_34 : decode cX8_most 34 = .ok (.iconst 4, 1) := by decide +kernel
theorem dX8_most_35 : decode cX8_most 35 = .ok (.goto 14, 3) := by decide +kernel
theorem dX8_most_38 : decode cX8_most 38 = .ok (.iload_n 0, 1) := by decide +kernel
theorem dX8_most_39 : decode cX8_most 39 = .ok (.iconst 4, 1) := by decide +kernel
theorem dX8_most_40 : decode cX8_most 40 = .ok (.if_icmp .ne 7, 3) := by decide +kernel
theorem dX8_most_43 : decode cX8_most 43 = .ok (.iconst 1, 1) := by decide +kernel
theorem dX8_most_44 : decode cX8_most 44 = .ok (.goto 5, 3) := by decide +kernel
theorem dX8_most_47 : decode cX8_most 47 = .ok (.ldc 60, 2) := by decide +kernel
theorem dX8_most_49 : decode cX8_most 49 = .ok (.ireturn, 1) := by decide +kernel
theorem dX8_set_0 : decode cX8_set 0 = .ok (.aload_n 0, 1) := by decide +kernel
theorem dX8_set_1 : decode cX8_set 1 = .ok (.iload_n 1, 1) := by decide +kernel
theorem dX8_set_2 : decode cX8_set 2 = .ok (.invokevirtual 112, 3) := by decide +kernel
theorem dX8_set_5 : decode cX8_set 5 = .ok (.ifCond .eq 24, 3) := by decide +kernel
theorem dX8_set_8 : decode cX8_set 8 = .ok (.iload_n 2, 1) := by decide +kernel
theorem dX8_set_9 : decode cX8_set 9 = .ok (.iconst 0, 1) := by decide +kernel
theorem dX8_set_10 : decode cX8_set 10 = .ok (.iconst 5, 1) := by decide +kernel
theorem dX8_set_11 : decode cX8_set 11 = .ok (.invokestatic 56, 3) := by decide +kernel
theorem dX8_set_14 : decode cX8_set 14 = .ok (.ifCond .eq 15, 3) := by decide +kernel
theorem dX8_set_17 : decode cX8_set 17 = .ok (.iload_n 3, 1) := by decide +kernel
theorem dX8_set_18 : decode cX8_set 18 = .ok (.iconst 0, 1) := by decide +kernel
theorem dX8_set_19 : decode cX8_set 19 = .ok (.iload_n 2, 1) := by decide +kernel
theorem dX8_set_20 : decode cX8_set 20 = .ok (.invokestatic 122, 3) := by decide +kernel
theorem dX8_set_23 : decode cX8_set 23 = .ok (.invokestatic 56, 3) := by decide +kernel
theorem dX8_set_26 : decode cX8_set 26 = .ok (.ifCond .ne 9, 3) := by decide +kernel
theorem dX8_set_29 : decode cX8_set 29 = .ok (.aload_n 0, 1) := by decide +kernel
theorem dX8_set_30 : decode cX8_set 30 = .ok (.iconst 1, 1) := by decide +kernel
theorem dX8_set_31 : decode cX8_set 31 = .ok (.invokevirtual 76, 3) := by decide +kernel
theorem dX8_set_34 : decode cX8_set 34 = .ok (.ireturn, 1) := by decide +kernel
theorem dX8_set_35 : decode cX8_set 35 = .ok (.aload_n 0, 1) := by decide +kernel
theorem dX8_set_36 : decode cX8_set 36 = .ok (.bipush 52, 2) := by decide +kernel
theorem dX8_set_38 : decode cX8_set 38 = .ok (.bipush 7, 2) := by decide +kernel
theorem dX8_set_40 : decode cX8_set 40 = .ok (.iload_n 1, 1) := by decide +kernel
theorem dX8_set_41 : decode cX8_set 41 = .ok (.imul, 1) := by decide +kernel
theorem dX8_set_42 : decode cX8_set 42 = .ok (.iadd, 1) := by decide +kernel
theorem dX8_set_43 : decode cX8_set 43 = .ok (.iload_n 2, 1) := by decide +kernel
theorem dX8_set_44 : decode cX8_set 44 = .ok (.iadd, 1) := by decide +kernel
theorem dX8_set_45 : decode cX8_set 45 = .ok (.iload_n 3, 1) := by decide +kernel
theorem dX8_set_46 : decode cX8_set 46 = .ok (.invokevirtual 72, 3) := by decide +kernel
theorem dX8_set_49 : decode cX8_set 49 = .ok (.ireturn, 1) := by decide +kernel
theorem dX8_feed_0 : decode cX8_feed 0 = .ok (.iload_n 3, 1) := by decide +kernel
theorem dX8_feed_1 : decode cX8_feed 1 = .ok (.iconst 1, 1) := by decide +kernel
theorem dX8_feed_2 : decode cX8_feed 2 = .ok (.bipush 8, 2) := by decide +kernel
theorem dX8_feed_4 : decode cX8_feed 4 = .ok (.invokestatic 56, 3) := by decide +kernel
theorem dX8_feed_7 : decode cX8_feed 7 = .ok (.ifCond .ne 9, 3) := by decide +kernel
theorem dX8_feed_10 : decode cX8_feed 10 = .ok (.aload_n 0, 1) := by decide +kernel
theorem dX8_feed_11 : decode cX8_feed 11 = .ok (.iconst 1, 1) := by decide +kernel
theorem dX8_feed_12 : decode cX8_feed 12 = .ok (.invokevirtual 76, 3) := by decide +kernel
theorem dX8_feed_15 : decode cX8_feed 15 = .ok (.ireturn, 1) := by decide +kernel
theorem dX8_feed_16 : decode cX8_feed 16 = .ok (.aload_n 0, 1) := by decide +kernel
theorem dX8_feed_17 : decode cX8_feed 17 = .ok (.getfield 7, 3) := by decide +kernel
theorem dX8_feed_20 : decode cX8_feed 20 = .ok (.iconst 3, 1) := by decide +kernel
theorem dX8_feed_21 : decode cX8_feed 21 = .ok (.iaload, 1) := by decide +kernel
theorem dX8_feed_22 : decode cX8_feed 22 = .ok (.iload_n 3, 1) := by decide +kernel
theorem dX8_feed_23 : decode cX8_feed 23 = .ok (.iadd, 1) := by decide +kernel
theorem dX8_feed_24 : decode cX8_feed 24 = .ok (.bipush 60, 2) := by decide +kernel
theorem dX8_feed_26 : decode cX8_feed 26 = .ok (.if_icmp .le 9, 3) := by decide +kernel
theorem dX8_feed_29 : decode cX8_feed 29 = .ok (.aload_n 0, 1) := by decide +kernel
theorem dX8_feed_30 : decode cX8_feed 30 = .ok (.iconst 4, 1) := by decide +kernel
theorem dX8_feed_31 : decode cX8_feed 31 = .ok (.invokevirtual 76, 3) := by decide +kernel
theorem dX8_feed_34 : decode cX8_feed 34 = .ok (.ireturn, 1) := by decide +kernel
theorem dX8_feed_35 : decode cX8_feed 35 = .ok (.iconst 0, 1) := by decide +kernel
theorem dX8_feed_36 : decode cX8_feed 36 = .ok (.istore 4, 2) := by decide +kernel
theorem dX8_feed_38 : decode cX8_feed 38 = .ok (.iload 4, 2) := by decide +kernel
theorem dX8_feed_40 : decode cX8_feed 40 = .ok (.iload_n 3, 1) := by decide +kernel
theorem dX8_feed_41 : decode cX8_feed 41 = .ok (.if_icmp .ge 46, 3) := by decide +kernel
theorem dX8_feed_44 : decode cX8_feed 44 = .ok (.aload_n 0, 1) := by decide +kernel
theorem dX8_feed_45 : decode cX8_feed 45 = .ok (.getfield 7, 3) := by decide +kernel
theorem dX8_feed_48 : decode cX8_feed 48 = .ok (.sipush 365, 3) := by decide +kernel
theorem dX8_feed_51 : decode cX8_feed 51 = .ok (.aload_n 0, 1) := by decide +kernel
theorem dX8_feed_52 : decode cX8_feed 52 = .ok (.getfield 7, 3) := by decide +kernel
theorem dX8_feed_55 : decode cX8_feed 55 = .ok (.iconst 3, 1) := by decide +kernel
theorem dX8_feed_56 : decode cX8_feed 56 = .ok (.iaload, 1) := by decide +kernel
theorem dX8_feed_57 : decode cX8_feed 57 = .ok (.iadd, 1) := by decide +kernel
theorem dX8_feed_58 : decode cX8_feed 58 = .ok (.lload_n 1, 1) := by decide +kernel
theorem dX8_feed_59 : decode cX8_feed 59 = .ok (.bipush 8, 2) := by decide +kernel
theorem dX8_feed_61 : decode cX8_feed 61 = .ok (.iload 4, 2) := by decide +kernel
theorem dX8_feed_63 : decode cX8_feed 63 = .ok (.imul, 1) := by decide +kernel
theorem dX8_feed_64 : decode cX8_feed 64 = .ok (.lshr, 1) := by decide +kernel
theorem dX8_feed_65 : decode cX8_feed 65 = .ok (.ldc2_w 125, 3) := by decide +kernel
theorem dX8_feed_68 : decode cX8_feed 68 = .ok (.land, 1) := by decide +kernel
theorem dX8_feed_69 : decode cX8_feed 69 = .ok (.l2i, 1) := by decide +kernel
theorem dX8_feed_70 : decode cX8_feed 70 = .ok (.iastore, 1) := by decide +kernel
theorem dX8_feed_71 : decode cX8_feed 71 = .ok (.aload_n 0, 1) := by decide +kernel
theorem dX8_feed_72 : decode cX8_feed 72 = .ok (.getfield 7, 3) := by decide +kernel
theorem dX8_feed_75 : decode cX8_feed 75 = .ok (.iconst 3, 1) := by decide +kernel
theorem dX8_feed_76 : decode cX8_feed 76 = .ok (.dup2, 1) := by decide +kernel
theorem dX8_feed_77 : decode cX8_feed 77 = .ok (.iaload, 1) := by decide +kernel
theorem dX8_feed_78 : decode cX8_feed 78 = .ok (.iconst 1, 1) := by decide +kernel
theorem dX8_feed_79 : decode cX8_feed 79 = .ok (.iadd, 1) := by decide +kernel
theorem dX8_feed_80 : decode cX8_feed 80 = .ok (.iastore, 1) := by decide +kernel
theorem dX8_feed_81 : decode cX8_feed 81 = .ok (.iinc 4 1, 3) := by decide +kernel
theorem dX8_feed_84 : decode cX8_feed 84 = .ok (.goto (-46), 3) := by decide +kernel
theorem dX8_feed_87 : decode cX8_feed 87 = .ok (.aload_n 0, 1) := by decide +kernel
theorem dX8_feed_88 : decode cX8_feed 88 = .ok (.getfield 7, 3) := by decide +kernel
theorem dX8_feed_91 : decode cX8_feed 91 = .ok (.iconst 3, 1) := by decide +kernel
theorem dX8_feed_92 : decode cX8_feed 92 = .ok (.iaload, 1) := by decide +kernel
theorem dX8_feed_93 : decode cX8_feed 93 = .ok (.ireturn, 1) := by decide +kernel
theorem dX8_look_0 : decode cX8_look 0 = .ok (.aload_n 0, 1) := by decide +kernel
theorem dX8_look_1 : decode cX8_look 1 = .ok (.getfield 127, 3) := by decide +kernel
theorem dX8_look_4 : decode cX8_look 4 = .ok (.aload_n 0, 1) := by decide +kernel
theorem dX8_look_5 : decode cX8_look 5 = .ok (.getfield 7, 3) := by decide +kernel
theorem dX8_look_8 : decode cX8_look 8 = .ok (.iconst 3, 1) := by decide +kernel
theorem dX8_look_9 : decode cX8_look 9 = .ok (.iaload, 1) := by decide +kernel
theorem dX8_look_10 : decode cX8_look 10 = .ok (.if_icmp .ge 19, 3) := by decide +kernel
theorem dX8_look_13 : decode cX8_look 13 = .ok (.aload_n 0, 1) := by decide +kernel
theorem dX8_look_14 : decode cX8_look 14 = .ok (.getfield 7, 3) := by decide +kernel
theorem dX8_look_17 : decode cX8_look 17 = .ok (.sipush 365, 3) := by decide +kernel
theorem dX8_look_20 : decode cX8_look 20 = .ok (.aload_n 0, 1) := by decide +kernel
theorem dX8_look_21 : decode cX8_look 21 = .ok (.getfield 127, 3) := by decide +kernel
theorem dX8_look_24 : decode cX8_look 24 = .ok (.iadd, 1) := by decide +kernel
theorem dX8_look_25 : decode cX8_look 25 = .ok (.iaload, 1) := by decide +kernel
theorem dX8_look_26 : decode cX8_look 26 = .ok (.goto 4, 3) := by decide +kernel
theorem dX8_look_29 : decode cX8_look 29 = .ok (.iconst (-1), 1) := by decide +kernel
theorem dX8_look_30 : decode cX8_look 30 = .ok (.ireturn, 1) := by decide +kernel
theorem dX8_isName_0 : decode cX8_isName 0 = .ok (.iload_n 1, 1) := by decide +kernel
theorem dX8_isName_1 : decode cX8_isName 1 = .ok (.bipush 109, 2) := by decide +kernel
theorem dX8_isName_3 : decode cX8_isName 3 = .ok (.if_icmp .ne 5, 3) := by decide +kernel
theorem dX8_isName_6 : decode cX8_isName 6 = .ok (.iconst 1, 1) := by decide +kernel
theorem dX8_isName_7 : decode cX8_isName 7 = .ok (.ireturn, 1) := by decide +kernel
theorem dX8_isName_8 : decode cX8_isName 8 = .ok (.aload_n 0, 1) := by decide +kernel
theorem dX8_isName_9 : decode cX8_isName 9 = .ok (.getfield 131, 3) := by decide +kernel
theorem dX8_isName_12 : decode cX8_isName 12 = .ok (.ifCond .ne 29, 3) := by decide +kernel
theorem dX8_isName_15 : decode cX8_isName 15 = .ok (.iload_n 1, 1) := by decide +kernel
theorem dX8_isName_16 : decode cX8_isName 16 = .ok (.bipush 102, 2) := by decide +kernel
theorem dX8_isName_18 : decode cX8_isName 18 = .ok (.if_icmp .eq 15, 3) := by decide +kernel
theorem dX8_isName_21 : decode cX8_isName 21 = .ok (.iload_n 1, 1) := by decide +kernel
theorem dX8_isName_22 : decode cX8_isName 22 = .ok (.bipush 112, 2) := by decide +kernel
theorem dX8_isName_24 : decode cX8_isName 24 = .ok (.if_icmp .eq 9, 3) := by decide +kernel
theorem dX8_isName_27 : decode cX8_isName 27 = .ok (.iload_n 1, 1) := by decide +kernel
theorem dX8_isName_28 : decode cX8_isName 28 = .ok (.bipush 104, 2) := by decide +kernel
theorem dX8_isName_30 : decode cX8_isName 30 = .ok (.if_icmp .ne 7, 3) := by decide +kernel
theorem dX8_isName_33 : decode cX8_isName 33 = .ok (.iconst 1, 1) := by decide +kernel
theorem dX8_isName_34 : decode cX8_isName 34 = .ok (.goto 24, 3) := by decide +kernel
theorem dX8_isName_37 : decode cX8_isName 37 = .ok (.iconst 0, 1) := by decide +kernel
theorem dX8_isName_38 : decode cX8_isName 38 = .ok (.goto 20, 3) := by decide +kernel
theorem dX8_isName_41 : decode cX8_isName 41 = .ok (.iload_n 1, 1) := by decide +kernel
theorem dX8_isName_42 : decode cX8_isName 42 = .ok (.bipush 116, 2) := by decide +kernel
theorem dX8_isName_44 : decode cX8_isName 44 = .ok (.if_icmp .eq 9, 3) := by decide +kernel
theorem dX8_isName_47 : decode cX8_isName 47 = .ok (.iload_n 1, 1) := by decide +kernel
theorem dX8_isName_48 : decode cX8_isName 48 = .ok (.bipush 99, 2) := by decide +kernel
theorem dX8_isName_50 : decode cX8_isName 50 = .ok (.if_icmp .ne 7, 3) := by decide +kernel
theorem dX8_isName_53 : decode cX8_isName 53 = .ok (.iconst 1, 1) := by decide +kernel
theorem dX8_isName_54 : decode cX8_isName 54 = .ok (.goto 4, 3) := by decide +kernel
theorem dX8_isName_57 : decode cX8_isName 57 = .ok (.iconst 0, 1) := by decide +kernel
theorem dX8_isName_58 : decode cX8_isName 58 = .ok (.ireturn, 1) := by decide +kernel
theorem dX8_step1_0 : decode cX8_step1 0 = .ok (.aload_n 0, 1) := by decide +kernel
theorem dX8_step1_1 : decode cX8_step1 1 = .ok (.getfield 22, 3) := by decide +kernel
theorem dX8_step1_4 : decode cX8_step1 4 = .ok (.iconst 2, 1) := by decide +kernel
theorem dX8_step1_5 : decode cX8_step1 5 = .ok (.aload_n 0, 1) := by decide +kernel
theorem dX8_step1_6 : decode cX8_step1 6 = .ok (.getfield 134, 3) := by decide +kernel
theorem dX8_step1_9 : decode cX8_step1 9 = .ok (.imul, 1) := by decide +kernel
theorem dX8_step1_10 : decode cX8_step1 10 = .ok (.iload_n 1, 1) := by decide +kernel
theorem dX8_step1_11 : decode cX8_step1 11 = .ok (.iastore, 1) := by decide +kernel
theorem dX8_step1_12 : decode cX8_step1 12 = .ok (.aload_n 0, 1) := by decide +kernel
theorem dX8_step1_13 : decode cX8_step1 13 = .ok (.getfield 22, 3) := by decide +kernel
theorem dX8_step1_16 : decode cX8_step1 16 = .ok (.iconst 2, 1) := by decide +kernel
theorem dX8_step1_17 : decode cX8_step1 17 = .ok (.aload_n 0, 1) := by decide +kernel
theorem dX8_step1_18 : decode cX8_step1 18 = .ok (.getfield 134, 3) := by decide +kernel
theorem dX8_step1_21 : decode cX8_step1 21 = .ok (.imul, 1) := by decide +kernel
theorem dX8_step1_22 : decode cX8_step1 22 = .ok (.iconst 1, 1) := by decide +kernel
theorem dX8_step1_23 : decode cX8_step1 23 = .ok (.iadd, 1) := by decide +kernel
theorem dX8_step1_24 : decode cX8_step1 24 = .ok (.iload_n 2, 1) := by decide +kernel
theorem dX8_step1_25 : decode cX8_step1 25 = .ok (.iastore, 1) := by decide +kernel
theorem dX8_step1_26 : decode cX8_step1 26 = .ok (.aload_n 0, 1) := by decide +kernel
theorem dX8_step1_27 : decode cX8_step1 27 = .ok (.dup, 1) := by decide +kernel
theorem dX8_step1_28 : decode cX8_step1 28 = .ok (.getfield 134, 3) := by decide +kernel
theorem dX8_step1_31 : decode cX8_step1 31 = .ok (.iconst 1, 1) := by decide +kernel
theorem dX8_step1_32 : decode cX8_step1 32 = .ok (.iadd, 1) := by decide +kernel
theorem dX8_step1_33 : decode cX8_step1 33 = .ok (.putfield 134, 3) := by decide +kernel
theorem dX8_step1_36 : decode cX8_step1 36 = .ok (.return_, 1) := by decide +kernel
theorem dX8_whole_0 : decode cX8_whole 0 = .ok (.aload_n 0, 1) := by decide +kernel
theorem dX8_whole_1 : decode cX8_whole 1 = .ok (.invokevirtual 137, 3) := by decide +kernel
theorem dX8_whole_4 : decode cX8_whole 4 = .ok (.ifCond .ne 5, 3) := by decide +kernel
theorem dX8_whole_7 : decode cX8_whole 7 = .ok (.iconst 0, 1) := by decide +kernel
theorem dX8_whole_8 : decode cX8_whole 8 = .ok (.ireturn, 1) := by decide +kernel
theorem dX8_whole_9 : decode cX8_whole 9 = .ok (.aload_n 0, 1) := by decide +kernel
theorem dX8_whole_10 : decode cX8_whole 10 = .ok (.invokevirtual 141, 3) := by decide +kernel
theorem dX8_whole_13 : decode cX8_whole 13 = .ok (.bipush 124, 2) := by decide +kernel
theorem dX8_whole_15 : decode cX8_whole 15 = .ok (.if_icmp .ne 32, 3) := by decide +kernel
theorem dX8_whole_18 : decode cX8_whole 18 = .ok (.aload_n 0, 1) := by decide +kernel
theorem dX8_whole_19 : decode cX8_whole 19 = .ok (.dup, 1) := by decide +kernel
theorem dX8_whole_20 : decode cX8_whole 20 = .ok (.getfield 127, 3) := by decide +kernel
theorem dX8_whole_23 : decode cX8_whole 23 = .ok (.iconst 1, 1) := by decide +kernel
theorem dX8_whole_24 : decode cX8_whole 24 = .ok (.iadd, 1) := by decide +kernel
theorem dX8_whole_25 : decode cX8_whole 25 = .ok (.putfield 127, 3) := by decide +kernel
theorem dX8_whole_28 : decode cX8_whole 28 = .ok (.aload_n 0, 1) := by decide +kernel
theorem dX8_whole_29 : decode cX8_whole 29 = .ok (.invokevirtual 137, 3) := by decide +kernel
theorem dX8_whole_32 : decode cX8_whole 32 = .ok (.ifCond .ne 5, 3) := by decide +kernel
theorem dX8_whole_35 : decode cX8_whole 35 = .ok (.iconst 0, 1) := by decide +kernel
theorem dX8_whole_36 : decode cX8_whole 36 = .ok (.ireturn, 1) := by decide +kernel
theorem dX8_whole_37 : decode cX8_whole 37 = .ok (.aload_n 0, 1) := by decide +kernel
theorem dX8_whole_38 : decode cX8_whole 38 = .ok (.iconst 3, 1) := by decide +kernel
theorem dX8_whole_39 : decode cX8_whole 39 = .ok (.bipush 124, 2) := by decide +kernel
theorem dX8_whole_41 : decode cX8_whole 41 = .ok (.invokevirtual 145, 3) := by decide +kernel
theorem dX8_whole_44 : decode cX8_whole 44 = .ok (.goto (-35), 3) := by decide +kernel
theorem dX8_whole_47 : decode cX8_whole 47 = .ok (.iconst 1, 1) := by decide +kernel
theorem dX8_whole_48 : decode cX8_whole 48 = .ok (.ireturn, 1) := by decide +kernel
theorem dX8_both_0 : decode cX8_both 0 = .ok (.aload_n 0, 1) := by decide +kernel
theorem dX8_both_1 : decode cX8_both 1 = .ok (.invokevirtual 149, 3) := by decide +kernel
theorem dX8_both_4 : decode cX8_both 4 = .ok (.ifCond .ne 5, 3) := by decide +kernel
theorem dX8_both_7 : decode cX8_both 7 = .ok (.iconst 0, 1) := by decide +kernel
theorem dX8_both_8 : decode cX8_both 8 = .ok (.ireturn, 1) := by decide +kernel
theorem dX8_both_9 : decode cX8_both 9 = .ok (.aload_n 0, 1) := by decide +kernel
theorem dX8_both_10 : decode cX8_both 10 = .ok (.invokevirtual 141, 3) := by decide +kernel
theorem dX8_both_13 : decode cX8_both 13 = .ok (.bipush 38, 2) := by decide +kernel
theorem dX8_both_15 : decode cX8_both 15 = .ok (.if_icmp .ne 32, 3) := by decide +kernel
theorem dX8_both_18 : decode cX8_both 18 = .ok (.aload_n 0, 1) := by decide +kernel
theorem dX8_both_19 : decode cX8_both 19 = .ok (.dup, 1) := by decide +kernel
theorem dX8_both_20 : decode cX8_both 20 = .ok (.getfield 127, 3) := by decide +kernel
theorem dX8_both_23 : decode cX8_both 23 = .ok (.iconst 1, 1) := by decide +kernel
theorem dX8_both_24 : decode cX8_both 24 = .ok (.iadd, 1) := by decide +kernel
theorem dX8_both_25 : decode cX8_both 25 = .ok (.putfield 127, 3) := by decide +kernel
theorem dX8_both_28 : decode cX8_both 28 = .ok (.aload_n 0, 1) := by decide +kernel
theorem dX8_both_29 : decode cX8_both 29 = .ok (.invokevirtual 149, 3) := by decide +kernel
theorem dX8_both_32 : decode cX8_both 32 = .ok (.ifCond .ne 5, 3) := by decide +kernel
theorem dX8_both_35 : decode cX8_both 35 = .ok (.iconst 0, 1) := by decide +kernel
theorem dX8_both_36 : decode cX8_both 36 = .ok (.ireturn, 1) := by decide +kernel
theorem dX8_both_37 : decode cX8_both 37 = .ok (.aload_n 0, 1) := by decide +kernel
theorem dX8_both_38 : decode cX8_both 38 = .ok (.iconst 3, 1) := by decide +kernel
theorem dX8_both_39 : decode cX8_both 39 = .ok (.bipush 38, 2) := by decide +kernel
theorem dX8_both_41 : decode cX8_both 41 = .ok (.invokevirtual 145, 3) := by decide +kernel
theorem dX8_both_44 : decode cX8_both 44 = .ok (.goto (-35), 3) := by decide +kernel
theorem dX8_both_47 : decode cX8_both 47 = .ok (.iconst 1, 1) := by decide +kernel
theorem dX8_both_48 : decode cX8_both 48 = .ok (.ireturn, 1) := by decide +kernel
theorem dX8_compared_0 : decode cX8_compared 0 = .ok (.aload_n 0, 1) := by decide +kernel
theorem dX8_compared_1 : decode cX8_compared 1 = .ok (.invokevirtual 152, 3) := by decide +kernel
theorem dX8_compared_4 : decode cX8_compared 4 = .ok (.ifCond .ne 5, 3) := by decide +kernel
theorem dX8_compared_7 : decode cX8_compared 7 = .ok (.iconst 0, 1) := by decide +kernel
theorem dX8_compared_8 : decode cX8_compared 8 = .ok (.ireturn, 1) := by decide +kernel
theorem dX8_compared_9 : decode cX8_compared 9 = .ok (.aload_n 0, 1) := by decide +kernel
theorem dX8_compared_10 : decode cX8_compared 10 = .ok (.invokevirtual 141, 3) := by decide +kernel
theorem dX8_compared_13 : decode cX8_compared 13 = .ok (.istore_n 1, 1) := by decide +kernel
theorem dX8_compared_14 : decode cX8_compared 14 = .ok (.iload_n 1, 1) := by decide +kernel
theorem dX8_compared_15 : decode cX8_compared 15 = .ok (.bipush 60, 2) := by decide +kernel
theorem dX8_compared_17 : decode cX8_compared 17 = .ok (.if_icmp .eq 17, 3) := by decide +kernel
theorem dX8_compared_20 : decode cX8_compared 20 = .ok (.iload_n 1, 1) := by decide +kernel
theorem dX8_compared_21 : decode cX8_compared 21 = .ok (.bipush 61, 2) := by decide +kernel
theorem dX8_compared_23 : decode cX8_compared 23 = .ok (.if_icmp .eq 11, 3) := by decide +kernel
theorem dX8_compared_26 : decode cX8_compared 26 = .ok (.iload_n 1, 1) := by decide +kernel
theorem dX8_compared_27 : decode cX8_compared 27 = .ok (.bipush 62, 2) := by decide +kernel
theorem dX8_compared_29 : decode cX8_compared 29 = .ok (.if_icmp .eq 5, 3) := by decide +kernel
theorem dX8_compared_32 : decode cX8_compared 32 = .ok (.iconst 1, 1) := by decide +kernel
theorem dX8_compared_33 : decode cX8_compared 33 = .ok (.ireturn, 1) := by decide +kernel
theorem dX8_compared_34 : decode cX8_compared 34 = .ok (.aload_n 0, 1) := by decide +kernel
theorem dX8_compared_35 : decode cX8_compared 35 = .ok (.dup, 1) := by decide +kernel
theorem dX8_compared_36 : decode cX8_compared 36 = .ok (.getfield 127, 3) := by decide +kernel
theorem dX8_compared_39 : decode cX8_compared 39 = .ok (.iconst 1, 1) := by decide +kernel
theorem dX8_compared_40 : decode cX8_compared 40 = .ok (.iadd, 1) := by decide +kernel
theorem dX8_compared_41 : decode cX8_compared 41 = .ok (.putfield 127, 3) := by decide +kernel
theorem dX8_compared_44 : decode cX8_compared 44 = .ok (.aload_n 0, 1) := by decide +kernel
theorem dX8_compared_45 : decode cX8_compared 45 = .ok (.invokevirtual 152, 3) := by decide +kernel
theorem dX8_compared_48 : decode cX8_compared 48 = .ok (.ifCond .ne 5, 3) := by decide +kernel
theorem dX8_compared_51 : decode cX8_compared 51 = .ok (.iconst 0, 1) := by decide +kernel
theorem dX8_compared_52 : decode cX8_compared 52 = .ok (.ireturn, 1) := by decide +kernel
theorem dX8_compared_53 : decode cX8_compared 53 = .ok (.aload_n 0, 1) := by decide +kernel
theorem dX8_compared_54 : decode cX8_compared 54 = .ok (.iconst 3, 1) := by decide +kernel
theorem dX8_compared_55 : decode cX8_compared 55 = .ok (.iload_n 1, 1) := by decide +kernel
theorem dX8_compared_56 : decode cX8_compared 56 = .ok (.invokevirtual 145, 3) := by decide +kernel
theorem dX8_compared_59 : decode cX8_compared 59 = .ok (.iconst 1, 1) := by decide +kernel
theorem dX8_compared_60 : decode cX8_compared 60 = .ok (.ireturn, 1) := by decide +kernel
theorem dX8_sum_0 : decode cX8_sum 0 = .ok (.aload_n 0, 1) := by decide +kernel
theorem dX8_sum_1 : decode cX8_sum 1 = .ok (.invokevirtual 155, 3) := by decide +kernel
theorem dX8_sum_4 : decode cX8_sum 4 = .ok (.ifCond .ne 5, 3) := by decide +kernel
theorem dX8_sum_7 : decode cX8_sum 7 = .ok (.iconst 0, 1) := by decide +kernel
theorem dX8_sum_8 : decode cX8_sum 8 = .ok (.ireturn, 1) := by decide +kernel
theorem dX8_sum_9 : decode cX8_sum 9 = .ok (.aload_n 0, 1) := by decide +kernel
theorem dX8_sum_10 : decode cX8_sum 10 = .ok (.invokevirtual 141, 3) := by decide +kernel
theorem dX8_sum_13 : decode cX8_sum 13 = .ok (.bipush 43, 2) := by decide +kernel
theorem dX8_sum_15 : decode cX8_sum 15 = .ok (.if_icmp .eq 12, 3) := by decide +kernel
theorem dX8_sum_18 : decode cX8_sum 18 = .ok (.aload_n 0, 1) := by decide +kernel
theorem dX8_sum_19 : decode cX8_sum 19 = .ok (.invokevirtual 141, 3) := by decide +kernel
theorem dX8_sum_22 : decode cX8_sum 22 = .ok (.bipush 45, 2) := by decide +kernel
theorem dX8_sum_24 : decode cX8_sum 24 = .ok (.if_icmp .ne 36, 3) := by decide +kernel
theorem dX8_sum_27 : decode cX8_sum 27 = .ok (.aload_n 0, 1) := by decide +kernel
theorem dX8_sum_28 : decode cX8_sum 28 = .ok (.invokevirtual 141, 3) := by decide +kernel
theorem dX8_sum_31 : decode cX8_sum 31 = .ok (.istore_n 1, 1) := by decide +kernel
theorem dX8_sum_32 : decode cX8_sum 32 = .ok (.aload_n 0, 1) := by decide +kernel
theorem dX8_sum_33 : decode cX8_sum 33 = .ok (.dup, 1) := by decide +kernel
theorem dX8_sum_34 : decode cX8_sum 34 = .ok (.getfield 127, 3) := by decide +kernel
theorem dX8_sum_37 : decode cX8_sum 37 = .ok (.iconst 1, 1) := by decide +kernel
theorem dX8_sum_38 : decode cX8_sum 38 = .ok (.iadd, 1) := by decide +kernel
theorem dX8_sum_39 : decode cX8_sum 39 = .ok (.putfield 127, 3) := by decide +kernel
theorem dX8_sum_42 : decode cX8_sum 42 = .ok (.aload_n 0, 1) := by decide +kernel
theorem dX8_sum_43 : decode cX8_sum 43 = .ok (.invokevirtual 155, 3) := by decide +kernel
theorem dX8_sum_46 : decode cX8_sum 46 = .ok (.ifCond .ne 5, 3) := by decide +kernel
theorem dX8_sum_49 : decode cX8_sum 49 = .ok (.iconst 0, 1) := by decide +kernel
theorem dX8_sum_50 : decode cX8_sum 50 = .ok (.ireturn, 1) := by decide +kernel
theorem dX8_sum_51 : decode cX8_sum 51 = .ok (.aload_n 0, 1) := by decide +kernel
theorem dX8_sum_52 : decode cX8_sum 52 = .ok (.iconst 3, 1) := by decide +kernel
theorem dX8_sum_53 : decode cX8_sum 53 = .ok (.iload_n 1, 1) := by decide +kernel
theorem dX8_sum_54 : decode cX8_sum 54 = .ok (.invokevirtual 145, 3) := by decide +kernel
theorem dX8_sum_57 : decode cX8_sum 57 = .ok (.goto (-48), 3) := by decide +kernel
theorem dX8_sum_60 : decode cX8_sum 60 = .ok (.iconst 1, 1) := by decide +kernel
theorem dX8_sum_61 : decode cX8_sum 61 = .ok (.ireturn, 1) := by decide +kernel
theorem dX8_product_0 : decode cX8_product 0 = .ok (.aload_n 0, 1) := by decide +kernel
theorem dX8_product_1 : decode cX8_product 1 = .ok (.invokevirtual 158, 3) := by decide +kernel
theorem dX8_product_4 : decode cX8_product 4 = .ok (.ifCond .ne 5, 3) := by decide +kernel
theorem dX8_product_7 : decode cX8_product 7 = .ok (.iconst 0, 1) := by decide +kernel
theorem dX8_product_8 : decode cX8_product 8 = .ok (.ireturn, 1) := by decide +kernel
theorem dX8_product_9 : decode cX8_product 9 = .ok (.aload_n 0, 1) := by decide +kernel
theorem dX8_product_10 : decode cX8_product 10 = .ok (.invokevirtual 141, 3) := by decide +kernel
theorem dX8_product_13 : decode cX8_product 13 = .ok (.bipush 42, 2) := by decide +kernel
theorem dX8_product_15 : decode cX8_product 15 = .ok (.if_icmp .eq 21, 3) := by decide +kernel
theorem dX8_product_18 : decode cX8_product 18 = .ok (.aload_n 0, 1) := by decide +kernel
theorem dX8_product_19 : decode cX8_product 19 = .ok (.invokevirtual 141, 3) := by decide +kernel
theorem dX8_product_22 : decode cX8_product 22 = .ok (.bipush 47, 2) := by decide +kernel
theorem dX8_product_24 : decode cX8_product 24 = .ok (.if_icmp .eq 12, 3) := by decide +kernel
theorem dX8_product_27 : decode cX8_product 27 = .ok (.aload_n 0, 1) := by decide +kernel
theorem dX8_product_28 : decode cX8_product 28 = .ok (.invokevirtual 141, 3) := by decide +kernel
theorem dX8_product_31 : decode cX8_product 31 = .ok (.bipush 37, 2) := by decide +kernel
theorem dX8_product_33 : decode cX8_product 33 = .ok (.if_icmp .ne 36, 3) := by decide +kernel
theorem dX8_product_36 : decode cX8_product 36 = .ok (.aload_n 0, 1) := by decide +kernel
theorem dX8_product_37 : decode cX8_product 37 = .ok (.invokevirtual 141, 3) := by decide +kernel
theorem dX8_product_40 : decode cX8_product 40 = .ok (.istore_n 1, 1) := by decide +kernel
theorem dX8_product_41 : decode cX8_product 41 = .ok (.aload_n 0, 1) := by decide +kernel
theorem dX8_product_42 : decode cX8_product 42 = .ok (.dup, 1) := by decide +kernel
theorem dX8_product_43 : decode cX8_product 43 = .ok (.getfield 127, 3) := by decide +kernel
theorem dX8_product_46 : decode cX8_product 46 = .ok (.iconst 1, 1) := by decide +kernel
theorem dX8_product_47 : decode cX8_product 47 = .ok (.iadd, 1) := by decide +kernel
theorem dX8_product_48 : decode cX8_product 48 = .ok (.putfield 127, 3) := by decide +kernel
theorem dX8_product_51 : decode cX8_product 51 = .ok (.aload_n 0, 1) := by decide +kernel
theorem dX8_product_52 : decode cX8_product 52 = .ok (.invokevirtual 158, 3) := by decide +kernel
theorem dX8_product_55 : decode cX8_product 55 = .ok (.ifCond .ne 5, 3) := by decide +kernel
theorem dX8_product_58 : decode cX8_product 58 = .ok (.iconst 0, 1) := by decide +kernel
theorem dX8_product_59 : decode cX8_product 59 = .ok (.ireturn, 1) := by decide +kernel
theorem dX8_product_60 : decode cX8_product 60 = .ok (.aload_n 0, 1) := by decide +kernel
theorem dX8_product_61 : decode cX8_product 61 = .ok (.iconst 3, 1) := by decide +kernel
theorem dX8_product_62 : decode cX8_product 62 = .ok (.iload_n 1, 1) := by decide +kernel
theorem dX8_product_63 : decode cX8_product 63 = .ok (.invokevirtual 145, 3) := by decide +kernel
theorem dX8_product_66 : decode cX8_product 66 = .ok (.goto (-57), 3) := by decide +kernel
theorem dX8_product_69 : decode cX8_product 69 = .ok (.iconst 1, 1) := by decide +kernel
theorem dX8_product_70 : decode cX8_product 70 = .ok (.ireturn, 1) := by decide +kernel
theorem dX8_opens_0 : decode cX8_opens 0 = .ok (.aload_n 0, 1) := by decide +kernel
theorem dX8_opens_1 : decode cX8_opens 1 = .ok (.getfield 161, 3) := by decide +kernel
theorem dX8_opens_4 : decode cX8_opens 4 = .ok (.iconst 5, 1) := by decide +kernel
theorem dX8_opens_5 : decode cX8_opens 5 = .ok (.if_icmp .ne 5, 3) := by decide +kernel
theorem dX8_opens_8 : decode cX8_opens 8 = .ok (.iconst 0, 1) := by decide +kernel
theorem dX8_opens_9 : decode cX8_opens 9 = .ok (.ireturn, 1) := by decide +kernel
theorem dX8_opens_10 : decode cX8_opens 10 = .ok (.aload_n 0, 1) := by decide +kernel
theorem dX8_opens_11 : decode cX8_opens 11 = .ok (.dup, 1) := by decide +kernel
theorem dX8_opens_12 : decode cX8_opens 12 = .ok (.getfield 161, 3) := by decide +kernel
theorem dX8_opens_15 : decode cX8_opens 15 = .ok (.iconst 1, 1) := by decide +kernel
theorem dX8_opens_16 : decode cX8_opens 16 = .ok (.iadd, 1) := by decide +kernel
theorem dX8_opens_17 : decode cX8_opens 17 = .ok (.putfield 161, 3) := by decide +kernel
theorem dX8_opens_20 : decode cX8_opens 20 = .ok (.aload_n 0, 1) := by decide +kernel
theorem dX8_opens_21 : decode cX8_opens 21 = .ok (.dup, 1) := by decide +kernel
theorem dX8_opens_22 : decode cX8_opens 22 = .ok (.getfield 127, 3) := by decide +kernel
theorem dX8_opens_25 : decode cX8_opens 25 = .ok (.iconst 1, 1) := by decide +kernel
theorem dX8_opens_26 : decode cX8_opens 26 = .ok (.iadd, 1) := by decide +kernel
theorem dX8_opens_27 : decode cX8_opens 27 = .ok (.putfield 127, 3) := by decide +kernel
theorem dX8_opens_30 : decode cX8_opens 30 = .ok (.iconst 1, 1) := by decide +kernel
theorem dX8_opens_31 : decode cX8_opens 31 = .ok (.ireturn, 1) := by decide +kernel
theorem dX8_one_0 : decode cX8_one 0 = .ok (.aload_n 0, 1) := by decide +kernel
theorem dX8_one_1 : decode cX8_one 1 = .ok (.invokevirtual 141, 3) := by decide +kernel
theorem dX8_one_4 : decode cX8_one 4 = .ok (.istore_n 1, 1) := by decide +kernel
theorem dX8_one_5 : decode cX8_one 5 = .ok (.aload_n 0, 1) := by decide +kernel
theorem dX8_one_6 : decode cX8_one 6 = .ok (.iload_n 1, 1) := by decide +kernel
theorem dX8_one_7 : decode cX8_one 7 = .ok (.invokevirtual 164, 3) := by decide +kernel
theorem dX8_one_10 : decode cX8_one 10 = .ok (.ifCond .eq 21, 3) := by decide +kernel
theorem dX8_one_13 : decode cX8_one 13 = .ok (.aload_n 0, 1) := by decide +kernel
theorem dX8_one_14 : decode cX8_one 14 = .ok (.dup, 1) := by decide +kernel
theorem dX8_one_15 : decode cX8_one 15 = .ok (.getfield 127, 3) := by decide +kernel
theorem dX8_one_18 : decode cX8_one 18 = .ok (.iconst 1, 1) := by decide +kernel
theorem dX8_one_19 : decode cX8_one 19 = .ok (.iadd, 1) := by decide +kernel
theorem dX8_one_20 : decode cX8_one 20 = .ok (.putfield 127, 3) := by decide +kernel
theorem dX8_one_23 : decode cX8_one 23 = .ok (.aload_n 0, 1) := by decide +kernel
theorem dX8_one_24 : decode cX8_one 24 = .ok (.iconst 1, 1) := by decide +kernel
theorem dX8_one_25 : decode cX8_one 25 = .ok (.iload_n 1, 1) := by decide +kernel
theorem dX8_one_26 : decode cX8_one 26 = .ok (.invokevirtual 145, 3) := by decide +kernel
theorem dX8_one_29 : decode cX8_one 29 = .ok (.iconst 1, 1) := by decide +kernel
theorem dX8_one_30 : decode cX8_one 30 = .ok (.ireturn, 1) := by decide +kernel
theorem dX8_one_31 : decode cX8_one 31 = .ok (.iload_n 1, 1) := by decide +kernel
theorem dX8_one_32 : decode cX8_one 32 = .ok (.bipush 48, 2) := by decide +kernel
theorem dX8_one_34 : decode cX8_one 34 = .ok (.bipush 57, 2) := by decide +kernel
theorem dX8_one_36 : decode cX8_one 36 = .ok (.invokestatic 56, 3) := by decide +kernel
theorem dX8_one_39 : decode cX8_one 39 = .ok (.ifCond .eq 63, 3) := by decide +kernel
theorem dX8_one_42 : decode cX8_one 42 = .ok (.iconst 0, 1) := by decide +kernel
theorem dX8_one_43 : decode cX8_one 43 = .ok (.istore_n 2, 1) := by decide +kernel
theorem dX8_one_44 : decode cX8_one 44 = .ok (.iconst 0, 1) := by decide +kernel
theorem dX8_one_45 : decode cX8_one 45 = .ok (.istore_n 3, 1) := by decide +kernel
theorem dX8_one_46 : decode cX8_one 46 = .ok (.iload_n 3, 1) := by decide +kernel
theorem dX8_one_47 : decode cX8_one 47 = .ok (.iconst 4, 1) := by decide +kernel
theorem dX8_one_48 : decode cX8_one 48 = .ok (.if_icmp .ge 46, 3) := by decide +kernel
theorem dX8_one_51 : decode cX8_one 51 = .ok (.aload_n 0, 1) := by decide +kernel
theorem dX8_one_52 : decode cX8_one 52 = .ok (.invokevirtual 141, 3) := by decide +kernel
theorem dX8_one_55 : decode cX8_one 55 = .ok (.bipush 48, 2) := by decide +kernel
theorem dX8_one_57 : decode cX8_one 57 = .ok (.bipush 57, 2) := by decide +kernel
theorem dX8_one_59 : decode cX8_one 59 = .ok (.invokestatic 56, 3) := by decide +kernel
theorem dX8_one_62 : decode cX8_one 62 = .ok (.ifCond .eq 32, 3) := by decide +kernel
theorem dX8_one_65 : decode cX8_one 65 = .ok (.bipush 10, 2) := by decide +kernel
theorem dX8_one_67 : decode cX8_one 67 = .ok (.iload_n 2, 1) := by decide +kernel
theorem dX8_one_68 : decode cX8_one 68 = .ok (.imul, 1) := by decide +kernel
theorem dX8_one_69 : decode cX8_one 69 = .ok (.aload_n 0, 1) := by decide +kernel
theorem dX8_one_70 : decode cX8_one 70 = .ok (.invokevirtual 141, 3) := by decide +kernel
theorem dX8_one_73 : decode cX8_one 73 = .ok (.iadd, 1) := by decide +kernel
theorem dX8_one_74 : decode cX8_one 74 = .ok (.bipush 48, 2) := by decide +kernel
theorem dX8_one_76 : decode cX8_one 76 = .ok (.isub, 1) := by decide +kernel
theorem dX8_one_77 : decode cX8_one 77 = .ok (.istore_n 2, 1) := by decide +kernel
theorem dX8_one_78 : decode cX8_one 78 = .ok (.aload_n 0, 1) := by decide +kernel
theorem dX8_one_79 : decode cX8_one 79 = .ok (.dup, 1) := by decide +kernel
theorem dX8_one_80 : decode cX8_one 80 = .ok (.getfield 127, 3) := by decide +kernel
theorem dX8_one_83 : decode cX8_one 83 = .ok (.iconst 1, 1) := by decide +kernel
theorem dX8_one_84 : decode cX8_one 84 = .ok (.iadd, 1) := by decide +kernel
theorem dX8_one_85 : decode cX8_one 85 = .ok (.putfield 127, 3) := by decide +kernel
theorem dX8_one_88 : decode cX8_one 88 = .ok (.iinc 3 1, 3) := by decide +kernel
theorem dX8_one_91 : decode cX8_one 91 = .ok (.goto (-45), 3) := by decide +kernel
theorem dX8_one_94 : decode cX8_one 94 = .ok (.aload_n 0, 1) := by decide +kernel
theorem dX8_one_95 : decode cX8_one 95 = .ok (.iconst 0, 1) := by decide +kernel
theorem dX8_one_96 : decode cX8_one 96 = .ok (.iload_n 2, 1) := by decide +kernel
theorem dX8_one_97 : decode cX8_one 97 = .ok (.invokevirtual 145, 3) := by decide +kernel
theorem dX8_one_100 : decode cX8_one 100 = .ok (.iconst 1, 1) := by decide +kernel
theorem dX8_one_101 : decode cX8_one 101 = .ok (.ireturn, 1) := by decide +kernel
theorem dX8_one_102 : decode cX8_one 102 = .ok (.iload_n 1, 1) := by decide +kernel
theorem dX8_one_103 : decode cX8_one 103 = .ok (.bipush 33, 2) := by decide +kernel
theorem dX8_one_105 : decode cX8_one 105 = .ok (.if_icmp .ne 37, 3) := by decide +kernel
theorem dX8_one_108 : decode cX8_one 108 = .ok (.aload_n 0, 1) := by decide +kernel
theorem dX8_one_109 : decode cX8_one 109 = .ok (.invokevirtual 167, 3) := by decide +kernel
theorem dX8_one_112 : decode cX8_one 112 = .ok (.ifCond .eq 10, 3) := by decide +kernel
theorem dX8_one_115 : decode cX8_one 115 = .ok (.aload_n 0, 1) := by decide +kernel
theorem dX8_one_116 : decode cX8_one 116 = .ok (.invokevirtual 158, 3) := by decide +kernel
theorem dX8_one_119 : decode cX8_one 119 = .ok (.ifCond .ne 5, 3) := by decide +kernel
theorem dX8_one_122 : decode cX8_one 122 = .ok (.iconst 0, 1) := by decide +kernel
theorem dX8_one_123 : decode cX8_one 123 = .ok (.ireturn, 1) := by decide +kernel
theorem dX8_one_124 : decode cX8_one 124 = .ok (.aload_n 0, 1) := by decide +kernel
theorem dX8_one_125 : decode cX8_one 125 = .ok (.dup, 1) := by decide +kernel
theorem dX8_one_126 : decode cX8_one 126 = .ok (.getfield 161, 3) := by decide +kernel
theorem dX8_one_129 : decode cX8_one 129 = .ok (.iconst 1, 1) := by decide +kernel
theorem dX8_one_130 : decode cX8_one 130 = .ok (.isub, 1) := by decide +kernel
theorem dX8_one_131 : decode cX8_one 131 = .ok (.putfield 161, 3) := by decide +kernel
theorem dX8_one_134 : decode cX8_one 134 = .ok (.aload_n 0, 1) := by decide +kernel
theorem dX8_one_135 : decode cX8_one 135 = .ok (.iconst 2, 1) := by decide +kernel
theorem dX8_one_136 : decode cX8_one 136 = .ok (.iconst 0, 1) := by decide +kernel
theorem dX8_one_137 : decode cX8_one 137 = .ok (.invokevirtual 145, 3) := by decide +kernel
theorem dX8_one_140 : decode cX8_one 140 = .ok (.iconst 1, 1) := by decide +kernel
theorem dX8_one_141 : decode cX8_one 141 = .ok (.ireturn, 1) := by decide +kernel
theorem dX8_one_142 : decode cX8_one 142 = .ok (.iload_n 1, 1) := by decide +kernel
theorem dX8_one_143 : decode cX8_one 143 = .ok (.bipush 40, 2) := by decide +kernel
theorem dX8_one_145 : decode cX8_one 145 = .ok (.if_icmp .ne 26, 3) := by decide +kernel
theorem dX8_one_148 : decode cX8_one 148 = .ok (.aload_n 0, 1) := by decide +kernel
theorem dX8_one_149 : decode cX8_one 149 = .ok (.invokevirtual 167, 3) := by decide +kernel
theorem dX8_one_152 : decode cX8_one 152 = .ok (.ifCond .eq 19, 3) := by decide +kernel
theorem dX8_one_155 : decode cX8_one 155 = .ok (.aload_n 0, 1) := by decide +kernel
theorem dX8_one_156 : decode cX8_one 156 = .ok (.invokevirtual 170, 3) := by decide +kernel
theorem dX8_one_159 : decode cX8_one 159 = .ok (.ifCond .eq 12, 3) := by decide +kernel
theorem dX8_one_162 : decode cX8_one 162 = .ok (.aload_n 0, 1) := by decide +kernel
theorem dX8_one_163 : decode cX8_one 163 = .ok (.invokevirtual 141, 3) := by decide +kernel
theorem dX8_one_166 : decode cX8_one 166 = .ok (.bipush 41, 2) := by decide +kernel
theorem dX8_one_168 : decode cX8_one 168 = .ok (.if_icmp .eq 5, 3) := by decide +kernel
theorem dX8_one_171 : decode cX8_one 171 = .ok (.iconst 0, 1) := by decide +kernel
theorem dX8_one_172 : decode cX8_one 172 = .ok (.ireturn, 1) := by decide +kernel
theorem dX8_one_173 : decode cX8_one 173 = .ok (.aload_n 0, 1) := by decide +kernel
theorem dX8_one_174 : decode cX8_one 174 = .ok (.dup, 1) := by decide +kernel
theorem dX8_one_175 : decode cX8_one 175 = .ok (.getfield 127, 3) := by decide +kernel
theorem dX8_one_178 : decode cX8_one 178 = .ok (.iconst 1, 1) := by decide +kernel
theorem dX8_one_179 : decode cX8_one 179 = .ok (.iadd, 1) := by decide +kernel
theorem dX8_one_180 : decode cX8_one 180 = .ok (.putfield 127, 3) := by decide +kernel
theorem dX8_one_183 : decode cX8_one 183 = .ok (.aload_n 0, 1) := by decide +kernel
theorem dX8_one_184 : decode cX8_one 184 = .ok (.dup, 1) := by decide +kernel
theorem dX8_one_185 : decode cX8_one 185 = .ok (.getfield 161, 3) := by decide +kernel
theorem dX8_one_188 : decode cX8_one 188 = .ok (.iconst 1, 1) := by decide +kernel
theorem dX8_one_189 : decode cX8_one 189 = .ok (.isub, 1) := by decide +kernel
theorem dX8_one_190 : decode cX8_one 190 = .ok (.putfield 161, 3) := by decide +kernel
theorem dX8_one_193 : decode cX8_one 193 = .ok (.iconst 1, 1) := by decide +kernel
theorem dX8_one_194 : decode cX8_one 194 = .ok (.ireturn, 1) := by decide +kernel
theorem dX8_hasText_0 : decode cX8_hasText 0 = .ok (.aload_n 0, 1) := by decide +kernel
theorem dX8_hasText_1 : decode cX8_hasText 1 = .ok (.getfield 7, 3) := by decide +kernel
theorem dX8_hasText_4 : decode cX8_hasText 4 = .ok (.bipush 115, 2) := by decide +kernel
theorem dX8_hasText_6 : decode cX8_hasText 6 = .ok (.bipush 125, 2) := by decide +kernel
theorem dX8_hasText_8 : decode cX8_hasText 8 = .ok (.iload_n 1, 1) := by decide +kernel
theorem dX8_hasText_9 : decode cX8_hasText 9 = .ok (.imul, 1) := by decide +kernel
theorem dX8_hasText_10 : decode cX8_hasText 10 = .ok (.iadd, 1) := by decide +kernel
theorem dX8_hasText_11 : decode cX8_hasText 11 = .ok (.iaload, 1) := by decide +kernel
theorem dX8_hasText_12 : decode cX8_hasText 12 = .ok (.ifCond .le 7, 3) := by decide +kernel
theorem dX8_hasText_15 : decode cX8_hasText 15 = .ok (.iconst 1, 1) := by decide +kernel
theorem dX8_hasText_16 : decode cX8_hasText 16 = .ok (.goto 4, 3) := by decide +kernel
theorem dX8_hasText_19 : decode cX8_hasText 19 = .ok (.iconst 0, 1) := by decide +kernel
theorem dX8_hasText_20 : decode cX8_hasText 20 = .ok (.ireturn, 1) := by decide +kernel
theorem dX8_text_0 : decode cX8_text 0 = .ok (.iload_n 1, 1) := by decide +kernel
theorem dX8_text_1 : decode cX8_text 1 = .ok (.iconst 0, 1) := by decide +kernel
theorem dX8_text_2 : decode cX8_text 2 = .ok (.iconst 1, 1) := by decide +kernel
theorem dX8_text_3 : decode cX8_text 3 = .ok (.invokestatic 56, 3) := by decide +kernel
theorem dX8_text_6 : decode cX8_text 6 = .ok (.ifCond .ne 9, 3) := by decide +kernel
theorem dX8_text_9 : decode cX8_text 9 = .ok (.aload_n 0, 1) := by decide +kernel
theorem dX8_text_10 : decode cX8_text 10 = .ok (.iconst 1, 1) := by decide +kernel
theorem dX8_text_11 : decode cX8_text 11 = .ok (.invokevirtual 76, 3) := by decide +kernel
theorem dX8_text_14 : decode cX8_text 14 = .ok (.ireturn, 1) := by decide +kernel
theorem dX8_text_15 : decode cX8_text 15 = .ok (.aload_n 0, 1) := by decide +kernel
theorem dX8_text_16 : decode cX8_text 16 = .ok (.iload_n 1, 1) := by decide +kernel
theorem dX8_text_17 : decode cX8_text 17 = .ok (.putfield 131, 3) := by decide +kernel
theorem dX8_text_20 : decode cX8_text 20 = .ok (.aload_n 0, 1) := by decide +kernel
theorem dX8_text_21 : decode cX8_text 21 = .ok (.iconst 0, 1) := by decide +kernel
theorem dX8_text_22 : decode cX8_text 22 = .ok (.putfield 127, 3) := by decide +kernel
theorem dX8_text_25 : decode cX8_text 25 = .ok (.aload_n 0, 1) := by decide +kernel
theorem dX8_text_26 : decode cX8_text 26 = .ok (.iconst 0, 1) := by decide +kernel
theorem dX8_text_27 : decode cX8_text 27 = .ok (.putfield 161, 3) := by decide +kernel
theorem dX8_text_30 : decode cX8_text 30 = .ok (.aload_n 0, 1) := by decide +kernel
theorem dX8_text_31 : decode cX8_text 31 = .ok (.iconst 0, 1) := by decide +kernel
theorem dX8_text_32 : decode cX8_text 32 = .ok (.putfield 134, 3) := by decide +kernel
theorem dX8_text_35 : decode cX8_text 35 = .ok (.aload_n 0, 1) := by decide +kernel
theorem dX8_text_36 : decode cX8_text 36 = .ok (.invokevirtual 170, 3) := by decide +kernel
theorem dX8_text_39 : decode cX8_text 39 = .ok (.ifCond .eq 20, 3) := by decide +kernel
theorem dX8_text_42 : decode cX8_text 42 = .ok (.aload_n 0, 1) := by decide +kernel
theorem dX8_text_43 : decode cX8_text 43 = .ok (.getfield 127, 3) := by decide +kernel
theorem dX8_text_46 : decode cX8_text 46 = .ok (.aload_n 0, 1) := by decide +kernel
theorem dX8_text_47 : decode cX8_text 47 = .ok (.getfield 7, 3) := by decide +kernel
theorem dX8_text_50 : decode cX8_text 50 = .ok (.iconst 3, 1) := by decide +kernel
theorem dX8_text_51 : decode cX8_text 51 = .ok (.iaload, 1) := by decide +kernel
theorem dX8_text_52 : decode cX8_text 52 = .ok (.if_icmp .ne 7, 3) := by decide +kernel
theorem dX8_text_55 : decode cX8_text 55 = .ok (.iconst 1, 1) := by decide +kernel
theorem dX8_text_56 : decode cX8_text 56 = .ok (.goto 4, 3) := by decide +kernel
theorem dX8_text_59 : decode cX8_text 59 = .ok (.iconst 0, 1) := by decide +kernel
theorem dX8_text_60 : decode cX8_text 60 = .ok (.istore_n 2, 1) := by decide +kernel
theorem dX8_text_61 : decode cX8_text 61 = .ok (.aload_n 0, 1) := by decide +kernel
theorem dX8_text_62 : decode cX8_text 62 = .ok (.getfield 7, 3) := by decide +kernel
theorem dX8_text_65 : decode cX8_text 65 = .ok (.iconst 3, 1) := by decide +kernel
theorem dX8_text_66 : decode cX8_text 66 = .ok (.iconst 0, 1) := by decide +kernel
theorem dX8_text_67 : decode cX8_text 67 = .ok (.iastore, 1) := by decide +kernel
theorem dX8_text_68 : decode cX8_text 68 = .ok (.iload_n 2, 1) := by decide +kernel
theorem dX8_text_69 : decode cX8_text 69 = .ok (.ifCond .ne 11, 3) := by decide +kernel
theorem dX8_text_72 : decode cX8_text 72 = .ok (.bipush (-10), 2) := by decide +kernel
theorem dX8_text_74 : decode cX8_text 74 = .ok (.aload_n 0, 1) := by decide +kernel
theorem dX8_text_75 : decode cX8_text 75 = .ok (.getfield 127, 3) := by decide +kernel
theorem dX8_text_78 : decode cX8_text 78 = .ok (.isub, 1) := by decide +kernel
theorem dX8_text_79 : decode cX8_text 79 = .ok (.ireturn, 1) := by decide +kernel
theorem dX8_text_80 : decode cX8_text 80 = .ok (.bipush 115, 2) := by decide +kernel
theorem dX8_text_82 : decode cX8_text 82 = .ok (.bipush 125, 2) := by decide +kernel
theorem dX8_text_84 : decode cX8_text 84 = .ok (.iload_n 1, 1) := by decide +kernel
theorem dX8_text_85 : decode cX8_text 85 = .ok (.imul, 1) := by decide +kernel
theorem dX8_text_86 : decode cX8_text 86 = .ok (.iadd, 1) := by decide +kernel
theorem dX8_text_87 : decode cX8_text 87 = .ok (.istore_n 3, 1) := by decide +kernel
theorem dX8_text_88 : decode cX8_text 88 = .ok (.aload_n 0, 1) := by decide +kernel
theorem dX8_text_89 : decode cX8_text 89 = .ok (.getfield 7, 3) := by decide +kernel
theorem dX8_text_92 : decode cX8_text 92 = .ok (.iload_n 3, 1) := by decide +kernel
theorem dX8_text_93 : decode cX8_text 93 = .ok (.aload_n 0, 1) := by decide +kernel
theorem dX8_text_94 : decode cX8_text 94 = .ok (.getfield 134, 3) := by decide +kernel
theorem dX8_text_97 : decode cX8_text 97 = .ok (.iastore, 1) := by decide +kernel
theorem dX8_text_98 : decode cX8_text 98 = .ok (.iconst 0, 1) := by decide +kernel
theorem dX8_text_99 : decode cX8_text 99 = .ok (.istore 4, 2) := by decide +kernel
theorem dX8_text_101 : decode cX8_text 101 = .ok (.iload 4, 2) := by decide +kernel
theorem dX8_text_103 : decode cX8_text 103 = .ok (.iconst 2, 1) := by decide +kernel
theorem dX8_text_104 : decode cX8_text 104 = .ok (.aload_n 0, 1) := by decide +kernel
theorem dX8_text_105 : decode cX8_text 105 = .ok (.getfield 134, 3) := by decide +kernel
theorem dX8_text_108 : decode cX8_text 108 = .ok (.imul, 1) := by decide +kernel
theorem dX8_text_109 : decode cX8_text 109 = .ok (.if_icmp .ge 27, 3) := by decide +kernel
theorem dX8_text_112 : decode cX8_text 112 = .ok (.aload_n 0, 1) := by decide +kernel
theorem dX8_text_113 : decode cX8_text 113 = .ok (.getfield 7, 3) := by decide +kernel
theorem dX8_text_116 : decode cX8_text 116 = .ok (.iload_n 3, 1) := by decide +kernel
theorem dX8_text_117 : decode cX8_text 117 = .ok (.iconst 1, 1) := by decide +kernel
theorem dX8_text_118 : decode cX8_text 118 = .ok (.iadd, 1) := by decide +kernel
theorem dX8_text_119 : decode cX8_text 119 = .ok (.iload 4, 2) := by decide +kernel
theorem dX8_text_121 : decode cX8_text 121 = .ok (.iadd, 1) := by decide +kernel
theorem dX8_text_122 : decode cX8_text 122 = .ok (.aload_n 0, 1) := by decide +kernel
theorem dX8_text_123 : decode cX8_text 123 = .ok (.getfield 22, 3) := by decide +kernel
theorem dX8_text_126 : decode cX8_text 126 = .ok (.iload 4, 2) := by decide +kernel
theorem dX8_text_128 : decode cX8_text 128 = .ok (.iaload, 1) := by decide +kernel
theorem dX8_text_129 : decode cX8_text 129 = .ok (.iastore, 1) := by decide +kernel
theorem dX8_text_130 : decode cX8_text 130 = .ok (.iinc 4 1, 3) := by decide +kernel
theorem dX8_text_133 : decode cX8_text 133 = .ok (.goto (-32), 3) := by decide +kernel
theorem dX8_text_136 : decode cX8_text 136 = .ok (.iconst 1, 1) := by decide +kernel
theorem dX8_text_137 : decode cX8_text 137 = .ok (.ireturn, 1) := by decide +kernel
theorem dX8_untell_0 : decode cX8_untell 0 = .ok (.iload_n 1, 1) := by decide +kernel
theorem dX8_untell_1 : decode cX8_untell 1 = .ok (.iconst 0, 1) := by decide +kernel
theorem dX8_untell_2 : decode cX8_untell 2 = .ok (.iconst 1, 1) := by decide +kernel
theorem dX8_untell_3 : decode cX8_untell 3 = .ok (.invokestatic 56, 3) := by decide +kernel
theorem dX8_untell_6 : decode cX8_untell 6 = .ok (.ifCond .ne 9, 3) := by decide +kernel
theorem dX8_untell_9 : decode cX8_untell 9 = .ok (.aload_n 0, 1) := by decide +kernel
theorem dX8_untell_10 : decode cX8_untell 10 = .ok (.iconst 1, 1) := by decide +kernel
theorem dX8_untell_11 : decode cX8_untell 11 = .ok (.invokevirtual 76, 3) := by decide +kernel
theorem dX8_untell_14 : decode cX8_untell 14 = .ok (.ireturn, 1) := by decide +kernel
theorem dX8_untell_15 : decode cX8_untell 15 = .ok (.aload_n 0, 1) := by decide +kernel
theorem dX8_untell_16 : decode cX8_untell 16 = .ok (.iload_n 1, 1) := by decide +kernel
theorem dX8_untell_17 : decode cX8_untell 17 = .ok (.invokevirtual 173, 3) := by decide +kernel
theorem dX8_untell_20 : decode cX8_untell 20 = .ok (.ifCond .eq 7, 3) := by decide +kernel
theorem dX8_untell_23 : decode cX8_untell 23 = .ok (.iconst 1, 1) := by decide +kernel
theorem dX8_untell_24 : decode cX8_untell 24 = .ok (.goto 4, 3) := by decide +kernel
theorem dX8_untell_27 : decode cX8_untell 27 = .ok (.iconst 0, 1) := by decide +kernel
theorem dX8_untell_28 : decode cX8_untell 28 = .ok (.istore_n 2, 1) := by decide +kernel
theorem dX8_untell_29 : decode cX8_untell 29 = .ok (.aload_n 0, 1) := by decide +kernel
theorem dX8_untell_30 : decode cX8_untell 30 = .ok (.getfield 7, 3) := by decide +kernel
theorem dX8_untell_33 : decode cX8_untell 33 = .ok (.bipush 115, 2) := by decide +kernel
theorem dX8_untell_35 : decode cX8_untell 35 = .ok (.bipush 125, 2) := by decide +kernel
theorem dX8_untell_37 : decode cX8_untell 37 = .ok (.iload_n 1, 1) := by decide +kernel
theorem dX8_untell_38 : decode cX8_untell 38 = .ok (.imul, 1) := by decide +kernel
theorem dX8_untell_39 : decode cX8_untell 39 = .ok (.iadd, 1) := by decide +kernel
theorem dX8_untell_40 : decode cX8_untell 40 = .ok (.iconst 0, 1) := by decide +kernel
theorem dX8_untell_41 : decode cX8_untell 41 = .ok (.iastore, 1) := by decide +kernel
theorem dX8_untell_42 : decode cX8_untell 42 = .ok (.iload_n 2, 1) := by decide +kernel
theorem dX8_untell_43 : decode cX8_untell 43 = .ok (.ireturn, 1) := by decide +kernel
theorem dX8_joined_0 : decode cX8_joined 0 = .ok (.iload_n 0, 1) := by decide +kernel
theorem dX8_joined_1 : decode cX8_joined 1 = .ok (.tableswitch 217 37 62 #[153, 203, 217, 217, 217, 127, 119, 217, 123, 217, 131, 217, 217, 217, 217, 217, 217, 217, 217, 217, 217, 217, 217, 170, 192, 181], 119) := by decide +kernel
theorem dX8_joined_120 : decode cX8_joined 120 = .ok (.iload_n 1, 1) := by decide +kernel
theorem dX8_joined_121 : decode cX8_joined 121 = .ok (.iload_n 2, 1) := by decide +kernel
theorem dX8_joined_122 : decode cX8_joined 122 = .ok (.iadd, 1) := by decide +kernel
theorem dX8_joined_123 : decode cX8_joined 123 = .ok (.ireturn, 1) := by decide +kernel
theorem dX8_joined_124 : decode cX8_joined 124 = .ok (.iload_n 1, 1) := by decide +kernel
theorem dX8_joined_125 : decode cX8_joined 125 = .ok (.iload_n 2, 1) := by decide +kernel
theorem dX8_joined_126 : decode cX8_joined 126 = .ok (.isub, 1) := by decide +kernel
theorem dX8_joined_127 : decode cX8_joined 127 = .ok (.ireturn, 1) := by decide +kernel
theorem dX8_joined_128 : decode cX8_joined 128 = .ok (.iload_n 1, 1) := by decide +kernel
theorem dX8_joined_129 : decode cX8_joined 129 = .ok (.iload_n 2, 1) := by decide +kernel
theorem dX8_joined_130 : decode cX8_joined 130 = .ok (.imul, 1) := by decide +kernel
theorem dX8_joined_131 : decode cX8_joined 131 = .ok (.ireturn, 1) := by decide +kernel
theorem dX8_joined_132 : decode cX8_joined 132 = .ok (.iload_n 2, 1) := by decide +kernel
theorem dX8_joined_133 : decode cX8_joined 133 = .ok (.ifCond .ne 7, 3) := by decide +kernel
theorem dX8_joined_136 : decode cX8_joined 136 = .ok (.iconst 0, 1) := by decide +kernel
theorem dX8_joined_137 : decode cX8_joined 137 = .ok (.goto 16, 3) := by decide +kernel
theorem dX8_joined_140 : decode cX8_joined 140 = .ok (.iload_n 2, 1) := by decide +kernel
theorem dX8_joined_141 : decode cX8_joined 141 = .ok (.iconst (-1), 1) := by decide +kernel
theorem dX8_joined_142 : decode cX8_joined 142 = .ok (.if_icmp .ne 8, 3) := by decide +kernel
theorem dX8_joined_145 : decode cX8_joined 145 = .ok (.iload_n 1, 1) := by decide +kernel
theorem dX8_joined_146 : decode cX8_joined 146 = .ok (.ineg, 1) := by decide +kernel
theorem dX8_joined_147 : decode cX8_joined 147 = .ok (.goto 6, 3) := by decide +kernel
theorem dX8_joined_150 : decode cX8_joined 150 = .ok (.iload_n 1, 1) := by decide +kernel
theorem dX8_joined_151 : decode cX8_joined 151 = .ok (.iload_n 2, 1) := by decide +kernel
theorem dX8_joined_152 : decode cX8_joined 152 = .ok (.idiv, 1) := by decide +kernel
theorem dX8_joined_153 : decode cX8_joined 153 = .ok (.ireturn, 1) := by decide +kernel
theorem dX8_joined_154 : decode cX8_joined 154 = .ok (.iload_n 2, 1) := by decide +kernel
theorem dX8_joined_155 : decode cX8_joined 155 = .ok (.ifCond .eq 8, 3) := by decide +kernel
theorem dX8_joined_158 : decode cX8_joined 158 = .ok (.iload_n 2, 1) := by decide +kernel
theorem dX8_joined_159 : decode cX8_joined 159 = .ok (.iconst (-1), 1) := by decide +kernel
theorem dX8_joined_160 : decode cX8_joined 160 = .ok (.if_icmp .ne 7, 3) := by decide +kernel
theorem dX8_joined_163 : decode cX8_joined 163 = .ok (.iconst 0, 1) := by decide +kernel
theorem dX8_joined_164 : decode cX8_joined 164 = .ok (.goto 6, 3) := by decide +kernel
theorem dX8_joined_167 : decode cX8_joined 167 = .ok (.iload_n 1, 1) := by decide +kernel
theorem dX8_joined_168 : decode cX8_joined 168 = .ok (.iload_n 2, 1) := by decide +kernel
theorem dX8_joined_169 : decode cX8_joined 169 = .ok (.irem, 1) := by decide +kernel
theorem dX8_joined_170 : decode cX8_joined 170 = .ok (.ireturn, 1) := by decide +kernel
theorem dX8_joined_171 : decode cX8_joined 171 = .ok (.iload_n 1, 1) := by decide +kernel
theorem dX8_joined_172 : decode cX8_joined 172 = .ok (.iload_n 2, 1) := by decide +kernel
theorem dX8_joined_173 : decode cX8_joined 173 = .ok (.if_icmp .ge 7, 3) := by decide +kernel
theorem dX8_joined_176 : decode cX8_joined 176 = .ok (.iconst 1, 1) := by decide +kernel
theorem dX8_joined_177 : decode cX8_joined 177 = .ok (.goto 4, 3) := by decide +kernel
theorem dX8_joined_180 : decode cX8_joined 180 = .ok (.iconst 0, 1) := by decide +kernel
theorem dX8_joined_181 : decode cX8_joined 181 = .ok (.ireturn, 1) := by decide +kernel
theorem dX8_joined_182 : decode cX8_joined 182 = .ok (.iload_n 1, 1) := by decide +kernel
theorem dX8_joined_183 : decode cX8_joined 183 = .ok (.iload_n 2, 1) := by decide +kernel
theorem dX8_joined_184 : decode cX8_joined 184 = .ok (.if_icmp .le 7, 3) := by decide +kernel
theorem dX8_joined_187 : decode cX8_joined 187 = .ok (.iconst 1, 1) := by decide +kernel
theorem dX8_joined_188 : decode cX8_joined 188 = .ok (.goto 4, 3) := by decide +kernel
theorem dX8_joined_191 : decode cX8_joined 191 = .ok (.iconst 0, 1) := by decide +kernel
theorem dX8_joined_192 : decode cX8_joined 192 = .ok (.ireturn, 1) := by decide +kernel
theorem dX8_joined_193 : decode cX8_joined 193 = .ok (.iload_n 1, 1) := by decide +kernel
theorem dX8_joined_194 : decode cX8_joined 194 = .ok (.iload_n 2, 1) := by decide +kernel
theorem dX8_joined_195 : decode cX8_joined 195 = .ok (.if_icmp .ne 7, 3) := by decide +kernel
theorem dX8_joined_198 : decode cX8_joined 198 = .ok (.iconst 1, 1) := by decide +kernel
theorem dX8_joined_199 : decode cX8_joined 199 = .ok (.goto 4, 3) := by decide +kernel
theorem dX8_joined_202 : decode cX8_joined 202 = .ok (.iconst 0, 1) := by decide +kernel
theorem dX8_joined_203 : decode cX8_joined 203 = .ok (.ireturn, 1) := by decide +kernel
theorem dX8_joined_204 : decode cX8_joined 204 = .ok (.iload_n 1, 1) := by decide +kernel
theorem dX8_joined_205 : decode cX8_joined 205 = .ok (.ifCond .eq 11, 3) := by decide +kernel
theorem dX8_joined_208 : decode cX8_joined 208 = .ok (.iload_n 2, 1) := by decide +kernel
theorem dX8_joined_209 : decode cX8_joined 209 = .ok (.ifCond .eq 7, 3) := by decide +kernel
theorem dX8_joined_212 : decode cX8_joined 212 = .ok (.iconst 1, 1) := by decide +kernel
theorem dX8_joined_213 : decode cX8_joined 213 = .ok (.goto 4, 3) := by decide +kernel
theorem dX8_joined_216 : decode cX8_joined 216 = .ok (.iconst 0, 1) := by decide +kernel
theorem dX8_joined_217 : decode cX8_joined 217 = .ok (.ireturn, 1) := by decide +kernel
theorem dX8_joined_218 : decode cX8_joined 218 = .ok (.iload_n 1, 1) := by decide +kernel
theorem dX8_joined_219 : decode cX8_joined 219 = .ok (.ifCond .ne 7, 3) := by decide +kernel
theorem dX8_joined_222 : decode cX8_joined 222 = .ok (.iload_n 2, 1) := by decide +kernel
theorem dX8_joined_223 : decode cX8_joined 223 = .ok (.ifCond .eq 7, 3) := by decide +kernel
theorem dX8_joined_226 : decode cX8_joined 226 = .ok (.iconst 1, 1) := by decide +kernel
theorem dX8_joined_227 : decode cX8_joined 227 = .ok (.goto 4, 3) := by decide +kernel
theorem dX8_joined_230 : decode cX8_joined 230 = .ok (.iconst 0, 1) := by decide +kernel
theorem dX8_joined_231 : decode cX8_joined 231 = .ok (.ireturn, 1) := by decide +kernel
theorem dX8_worked_0 : decode cX8_worked 0 = .ok (.bipush 115, 2) := by decide +kernel
theorem dX8_worked_2 : decode cX8_worked 2 = .ok (.bipush 125, 2) := by decide +kernel
theorem dX8_worked_4 : decode cX8_worked 4 = .ok (.iload_n 1, 1) := by decide +kernel
theorem dX8_worked_5 : decode cX8_worked 5 = .ok (.imul, 1) := by decide +kernel
theorem dX8_worked_6 : decode cX8_worked 6 = .ok (.iadd, 1) := by decide +kernel
theorem dX8_worked_7 : decode cX8_worked 7 = .ok (.istore_n 2, 1) := by decide +kernel
theorem dX8_worked_8 : decode cX8_worked 8 = .ok (.iconst 0, 1) := by decide +kernel
theorem dX8_worked_9 : decode cX8_worked 9 = .ok (.istore_n 3, 1) := by decide +kernel
theorem dX8_worked_10 : decode cX8_worked 10 = .ok (.iconst 0, 1) := by decide +kernel
theorem dX8_worked_11 : decode cX8_worked 11 = .ok (.istore 4, 2) := by decide +kernel
theorem dX8_worked_13 : decode cX8_worked 13 = .ok (.iload 4, 2) := by decide +kernel
theorem dX8_worked_15 : decode cX8_worked 15 = .ok (.aload_n 0, 1) := by decide +kernel
theorem dX8_worked_16 : decode cX8_worked 16 = .ok (.getfield 7, 3) := by decide +kernel
theorem dX8_worked_19 : decode cX8_worked 19 = .ok (.iload_n 2, 1) := by decide +kernel
theorem dX8_worked_20 : decode cX8_worked 20 = .ok (.iaload, 1) := by decide +kernel
theorem dX8_worked_21 : decode cX8_worked 21 = .ok (.if_icmp .ge 142, 3) := by decide +kernel
theorem dX8_worked_24 : decode cX8_worked 24 = .ok (.aload_n 0, 1) := by decide +kernel
theorem dX8_worked_25 : decode cX8_worked 25 = .ok (.getfield 7, 3) := by decide +kernel
theorem dX8_worked_28 : decode cX8_worked 28 = .ok (.iload_n 2, 1) := by decide +kernel
theorem dX8_worked_29 : decode cX8_worked 29 = .ok (.iconst 1, 1) := by decide +kernel
theorem dX8_worked_30 : decode cX8_worked 30 = .ok (.iadd, 1) := by decide +kernel
theorem dX8_worked_31 : decode cX8_worked 31 = .ok (.iconst 2, 1) := by decide +kernel
theorem dX8_worked_32 : decode cX8_worked 32 = .ok (.iload 4, 2) := by decide +kernel
theorem dX8_worked_34 : decode cX8_worked 34 = .ok (.imul, 1) := by decide +kernel
theorem dX8_worked_35 : decode cX8_worked 35 = .ok (.iadd, 1) := by decide +kernel
theorem dX8_worked_36 : decode cX8_worked 36 = .ok (.iaload, 1) := by decide +kernel
theorem dX8_worked_37 : decode cX8_worked 37 = .ok (.istore 5, 2) := by decide +kernel
theorem dX8_worked_39 : decode cX8_worked 39 = .ok (.aload_n 0, 1) := by decide +kernel
theorem dX8_worked_40 : decode cX8_worked 40 = .ok (.getfield 7, 3) := by decide +kernel
theorem dX8_worked_43 : decode cX8_worked 43 = .ok (.iload_n 2, 1) := by decide +kernel
theorem dX8_worked_44 : decode cX8_worked 44 = .ok (.iconst 2, 1) := by decide +kernel
theorem dX8_worked_45 : decode cX8_worked 45 = .ok (.iadd, 1) := by decide +kernel
theorem dX8_worked_46 : decode cX8_worked 46 = .ok (.iconst 2, 1) := by decide +kernel
theorem dX8_worked_47 : decode cX8_worked 47 = .ok (.iload 4, 2) := by decide +kernel
theorem dX8_worked_49 : decode cX8_worked 49 = .ok (.imul, 1) := by decide +kernel
theorem dX8_worked_50 : decode cX8_worked 50 = .ok (.iadd, 1) := by decide +kernel
theorem dX8_worked_51 : decode cX8_worked 51 = .ok (.iaload, 1) := by decide +kernel
theorem dX8_worked_52 : decode cX8_worked 52 = .ok (.istore 6, 2) := by decide +kernel
theorem dX8_worked_54 : decode cX8_worked 54 = .ok (.iload 5, 2) := by decide +kernel
theorem dX8_worked_56 : decode cX8_worked 56 = .ok (.ifCond .eq 9, 3) := by decide +kernel
theorem dX8_worked_59 : decode cX8_worked 59 = .ok (.iload 5, 2) := by decide +kernel
theorem dX8_worked_61 : decode cX8_worked 61 = .ok (.iconst 1, 1) := by decide +kernel
theorem dX8_worked_62 : decode cX8_worked 62 = .ok (.if_icmp .ne 32, 3) := by decide +kernel
theorem dX8_worked_65 : decode cX8_worked 65 = .ok (.aload_n 0, 1) := by decide +kernel
theorem dX8_worked_66 : decode cX8_worked 66 = .ok (.getfield 28, 3) := by decide +kernel
theorem dX8_worked_69 : decode cX8_worked 69 = .ok (.iload_n 3, 1) := by decide +kernel
theorem dX8_worked_70 : decode cX8_worked 70 = .ok (.iload 5, 2) := by decide +kernel
theorem dX8_worked_72 : decode cX8_worked 72 = .ok (.ifCond .ne 8, 3) := by decide +kernel
theorem dX8_worked_75 : decode cX8_worked 75 = .ok (.iload 6, 2) := by decide +kernel
theorem dX8_worked_77 : decode cX8_worked 77 = .ok (.goto 10, 3) := by decide +kernel
theorem dX8_worked_80 : decode cX8_worked 80 = .ok (.aload_n 0, 1) := by decide +kernel
theorem dX8_worked_81 : decode cX8_worked 81 = .ok (.getfield 25, 3) := by decide +kernel
theorem dX8_worked_84 : decode cX8_worked 84 = .ok (.iload 6, 2) := by decide +kernel
theorem dX8_worked_86 : decode cX8_worked 86 = .ok (.iaload, 1) := by decide +kernel
theorem dX8_worked_87 : decode cX8_worked 87 = .ok (.iastore, 1) := by decide +kernel
theorem dX8_worked_88 : decode cX8_worked 88 = .ok (.iinc 3 1, 3) := by decide +kernel
theorem dX8_worked_91 : decode cX8_worked 91 = .ok (.goto 66, 3) := by decide +kernel
theorem dX8_worked_94 : decode cX8_worked 94 = .ok (.iload 5, 2) := by decide +kernel
theorem dX8_worked_96 : decode cX8_worked 96 = .ok (.iconst 2, 1) := by decide +kernel
theorem dX8_worked_97 : decode cX8_worked 97 = .ok (.if_icmp .ne 30, 3) := by decide +kernel
theorem dX8_worked_100 : decode cX8_worked 100 = .ok (.aload_n 0, 1) := by decide +kernel
theorem dX8_worked_101 : decode cX8_worked 101 = .ok (.getfield 28, 3) := by decide +kernel
theorem dX8_worked_104 : decode cX8_worked 104 = .ok (.iload_n 3, 1) := by decide +kernel
theorem dX8_worked_105 : decode cX8_worked 105 = .ok (.iconst 1, 1) := by decide +kernel
theorem dX8_worked_106 : decode cX8_worked 106 = .ok (.isub, 1) := by decide +kernel
theorem dX8_worked_107 : decode cX8_worked 107 = .ok (.aload_n 0, 1) := by decide +kernel
theorem dX8_worked_108 : decode cX8_worked 108 = .ok (.getfield 28, 3) := by decide +kernel
theorem dX8_worked_111 : decode cX8_worked 111 = .ok (.iload_n 3, 1) := by decide +kernel
theorem dX8_worked_112 : decode cX8_worked 112 = .ok (.iconst 1, 1) := by decide +kernel
theorem dX8_worked_113 : decode cX8_worked 113 = .ok (.isub, 1) := by decide +kernel
theorem dX8_worked_114 : decode cX8_worked 114 = .ok (.iaload, 1) := by decide +kernel
theorem dX8_worked_115 : decode cX8_worked 115 = .ok (.ifCond .ne 7, 3) := by decide +kernel
theorem dX8_worked_118 : decode cX8_worked 118 = .ok (.iconst 1, 1) := by decide +kernel
theorem dX8_worked_119 : decode cX8_worked 119 = .ok (.goto 4, 3) := by decide +kernel
theorem dX8_worked_122 : decode cX8_worked 122 = .ok (.iconst 0, 1) := by decide +kernel
theorem dX8_worked_123 : decode cX8_worked 123 = .ok (.iastore, 1) := by decide +kernel
theorem dX8_worked_124 : decode cX8_worked 124 = .ok (.goto 33, 3) := by decide +kernel
theorem dX8_worked_127 : decode cX8_worked 127 = .ok (.iinc 3 (-1), 3) := by decide +kernel
theorem dX8_worked_130 : decode cX8_worked 130 = .ok (.aload_n 0, 1) := by decide +kernel
theorem dX8_worked_131 : decode cX8_worked 131 = .ok (.getfield 28, 3) := by decide +kernel
theorem dX8_worked_134 : decode cX8_worked 134 = .ok (.iload_n 3, 1) := by decide +kernel
theorem dX8_worked_135 : decode cX8_worked 135 = .ok (.iconst 1, 1) := by decide +kernel
theorem dX8_worked_136 : decode cX8_worked 136 = .ok (.isub, 1) := by decide +kernel
theorem dX8_worked_137 : decode cX8_worked 137 = .ok (.iload 6, 2) := by decide +kernel
theorem dX8_worked_139 : decode cX8_worked 139 = .ok (.aload_n 0, 1) := by decide +kernel
theorem dX8_worked_140 : decode cX8_worked 140 = .ok (.getfield 28, 3) := by decide +kernel
theorem dX8_worked_143 : decode cX8_worked 143 = .ok (.iload_n 3, 1) := by decide +kernel
theorem dX8_worked_144 : decode cX8_worked 144 = .ok (.iconst 1, 1) := by decide +kernel
theorem dX8_worked_145 : decode cX8_worked 145 = .ok (.isub, 1) := by decide +kernel
theorem dX8_worked_146 : decode cX8_worked 146 = .ok (.iaload, 1) := by decide +kernel
theorem dX8_worked_147 : decode cX8_worked 147 = .ok (.aload_n 0, 1) := by decide +kernel
theorem dX8_worked_148 : decode cX8_worked 148 = .ok (.getfield 28, 3) := by decide +kernel
theorem dX8_worked_151 : decode cX8_worked 151 = .ok (.iload_n 3, 1) := by decide +kernel
theorem dX8_worked_152 : decode cX8_worked 152 = .ok (.iaload, 1) := by decide +kernel
theorem dX8_worked_153 : decode cX8_worked 153 = .ok (.invokestatic 176, 3) := by decide +kernel
theorem dX8_worked_156 : decode cX8_worked 156 = .ok (.iastore, 1) := by decide +kernel
theorem dX8_worked_157 : decode cX8_worked 157 = .ok (.iinc 4 1, 3) := by decide +kernel
theorem dX8_worked_160 : decode cX8_worked 160 = .ok (.goto (-147), 3) := by decide +kernel
theorem dX8_worked_163 : decode cX8_worked 163 = .ok (.aload_n 0, 1) := by decide +kernel
theorem dX8_worked_164 : decode cX8_worked 164 = .ok (.getfield 28, 3) := by decide +kernel
theorem dX8_worked_167 : decode cX8_worked 167 = .ok (.iconst 0, 1) := by decide +kernel
theorem dX8_worked_168 : decode cX8_worked 168 = .ok (.iaload, 1) := by decide +kernel
theorem dX8_worked_169 : decode cX8_worked 169 = .ok (.ireturn, 1) := by decide +kernel
theorem dX8_takesTold_0 : decode cX8_takesTold 0 = .ok (.aload_n 0, 1) := by decide +kernel
theorem dX8_takesTold_1 : decode cX8_takesTold 1 = .ok (.iconst 0, 1) := by decide +kernel
theorem dX8_takesTold_2 : decode cX8_takesTold 2 = .ok (.invokevirtual 173, 3) := by decide +kernel
theorem dX8_takesTold_5 : decode cX8_takesTold 5 = .ok (.ifCond .ne 7, 3) := by decide +kernel
theorem dX8_takesTold_8 : decode cX8_takesTold 8 = .ok (.iload_n 2, 1) := by decide +kernel
theorem dX8_takesTold_9 : decode cX8_takesTold 9 = .ok (.iconst 2, 1) := by decide +kernel
theorem dX8_takesTold_10 : decode cX8_takesTold 10 = .ok (.idiv, 1) := by decide +kernel
theorem dX8_takesTold_11 : decode cX8_takesTold 11 = .ok (.ireturn, 1) := by decide +kernel
theorem dX8_takesTold_12 : decode cX8_takesTold 12 = .ok (.aload_n 0, 1) := by decide +kernel
theorem dX8_takesTold_13 : decode cX8_takesTold 13 = .ok (.getfield 25, 3) := by decide +kernel
theorem dX8_takesTold_16 : decode cX8_takesTold 16 = .ok (.bipush 102, 2) := by decide +kernel
theorem dX8_takesTold_18 : decode cX8_takesTold 18 = .ok (.iload_n 2, 1) := by decide +kernel
theorem dX8_takesTold_19 : decode cX8_takesTold 19 = .ok (.iastore, 1) := by decide +kernel
theorem dX8_takesTold_20 : decode cX8_takesTold 20 = .ok (.aload_n 0, 1) := by decide +kernel
theorem dX8_takesTold_21 : decode cX8_takesTold 21 = .ok (.getfield 25, 3) := by decide +kernel
theorem dX8_takesTold_24 : decode cX8_takesTold 24 = .ok (.bipush 112, 2) := by decide +kernel
theorem dX8_takesTold_26 : decode cX8_takesTold 26 = .ok (.aload_n 0, 1) := by decide +kernel
theorem dX8_takesTold_27 : decode cX8_takesTold 27 = .ok (.iload_n 1, 1) := by decide +kernel
theorem dX8_takesTold_28 : decode cX8_takesTold 28 = .ok (.iconst 2, 1) := by decide +kernel
theorem dX8_takesTold_29 : decode cX8_takesTold 29 = .ok (.invokevirtual 90, 3) := by decide +kernel
theorem dX8_takesTold_32 : decode cX8_takesTold 32 = .ok (.iastore, 1) := by decide +kernel
theorem dX8_takesTold_33 : decode cX8_takesTold 33 = .ok (.aload_n 0, 1) := by decide +kernel
theorem dX8_takesTold_34 : decode cX8_takesTold 34 = .ok (.getfield 25, 3) := by decide +kernel
theorem dX8_takesTold_37 : decode cX8_takesTold 37 = .ok (.bipush 104, 2) := by decide +kernel
theorem dX8_takesTold_39 : decode cX8_takesTold 39 = .ok (.aload_n 0, 1) := by decide +kernel
theorem dX8_takesTold_40 : decode cX8_takesTold 40 = .ok (.invokevirtual 179, 3) := by decide +kernel
theorem dX8_takesTold_43 : decode cX8_takesTold 43 = .ok (.iastore, 1) := by decide +kernel
theorem dX8_takesTold_44 : decode cX8_takesTold 44 = .ok (.aload_n 0, 1) := by decide +kernel
theorem dX8_takesTold_45 : decode cX8_takesTold 45 = .ok (.getfield 25, 3) := by decide +kernel
theorem dX8_takesTold_48 : decode cX8_takesTold 48 = .ok (.bipush 109, 2) := by decide +kernel
theorem dX8_takesTold_50 : decode cX8_takesTold 50 = .ok (.aload_n 0, 1) := by decide +kernel
theorem dX8_takesTold_51 : decode cX8_takesTold 51 = .ok (.iload_n 1, 1) := by decide +kernel
theorem dX8_takesTold_52 : decode cX8_takesTold 52 = .ok (.iconst 1, 1) := by decide +kernel
theorem dX8_takesTold_53 : decode cX8_takesTold 53 = .ok (.invokevirtual 90, 3) := by decide +kernel
theorem dX8_takesTold_56 : decode cX8_takesTold 56 = .ok (.iastore, 1) := by decide +kernel
theorem dX8_takesTold_57 : decode cX8_takesTold 57 = .ok (.aload_n 0, 1) := by decide +kernel
theorem dX8_takesTold_58 : decode cX8_takesTold 58 = .ok (.iconst 0, 1) := by decide +kernel
theorem dX8_takesTold_59 : decode cX8_takesTold 59 = .ok (.invokevirtual 182, 3) := by decide +kernel
theorem dX8_takesTold_62 : decode cX8_takesTold 62 = .ok (.ireturn, 1) := by decide +kernel
theorem dX8_wants_0 : decode cX8_wants 0 = .ok (.aload_n 0, 1) := by decide +kernel
theorem dX8_wants_1 : decode cX8_wants 1 = .ok (.iload_n 1, 1) := by decide +kernel
theorem dX8_wants_2 : decode cX8_wants 2 = .ok (.iconst 1, 1) := by decide +kernel
theorem dX8_wants_3 : decode cX8_wants 3 = .ok (.invokevirtual 90, 3) := by decide +kernel
theorem dX8_wants_6 : decode cX8_wants 6 = .ok (.istore_n 3, 1) := by decide +kernel
theorem dX8_wants_7 : decode cX8_wants 7 = .ok (.aload_n 0, 1) := by decide +kernel
theorem dX8_wants_8 : decode cX8_wants 8 = .ok (.iload_n 1, 1) := by decide +kernel
theorem dX8_wants_9 : decode cX8_wants 9 = .ok (.iconst 4, 1) := by decide +kernel
theorem dX8_wants_10 : decode cX8_wants 10 = .ok (.invokevirtual 90, 3) := by decide +kernel
theorem dX8_wants_13 : decode cX8_wants 13 = .ok (.ifCond .eq 13, 3) := by decide +kernel
theorem dX8_wants_16 : decode cX8_wants 16 = .ok (.iload_n 3, 1) := by decide +kernel
theorem dX8_wants_17 : decode cX8_wants 17 = .ok (.aload_n 0, 1) := by decide +kernel
theorem dX8_wants_18 : decode cX8_wants 18 = .ok (.getfield 7, 3) := by decide +kernel
theorem dX8_wants_21 : decode cX8_wants 21 = .ok (.iconst 2, 1) := by decide +kernel
theorem dX8_wants_22 : decode cX8_wants 22 = .ok (.iaload, 1) := by decide +kernel
theorem dX8_wants_23 : decode cX8_wants 23 = .ok (.if_icmp .ge 5, 3) := by decide +kernel
theorem dX8_wants_26 : decode cX8_wants 26 = .ok (.iconst 0, 1) := by decide +kernel
theorem dX8_wants_27 : decode cX8_wants 27 = .ok (.ireturn, 1) := by decide +kernel
theorem dX8_wants_28 : decode cX8_wants 28 = .ok (.iload_n 2, 1) := by decide +kernel
theorem dX8_wants_29 : decode cX8_wants 29 = .ok (.iconst 3, 1) := by decide +kernel
theorem dX8_wants_30 : decode cX8_wants 30 = .ok (.idiv, 1) := by decide +kernel
theorem dX8_wants_31 : decode cX8_wants 31 = .ok (.istore 4, 2) := by decide +kernel
theorem dX8_wants_33 : decode cX8_wants 33 = .ok (.aload_n 0, 1) := by decide +kernel
theorem dX8_wants_34 : decode cX8_wants 34 = .ok (.iload_n 1, 1) := by decide +kernel
theorem dX8_wants_35 : decode cX8_wants 35 = .ok (.iconst 0, 1) := by decide +kernel
theorem dX8_wants_36 : decode cX8_wants 36 = .ok (.invokevirtual 90, 3) := by decide +kernel
theorem dX8_wants_39 : decode cX8_wants 39 = .ok (.tableswitch 74 1 6 #[37, 47, 53, 37, 53, 63], 37) := by decide +kernel
theorem dX8_wants_76 : decode cX8_wants 76 = .ok (.iload_n 2, 1) := by decide +kernel
theorem dX8_wants_77 : decode cX8_wants 77 = .ok (.iconst 3, 1) := by decide +kernel
theorem dX8_wants_78 : decode cX8_wants 78 = .ok (.idiv, 1) := by decide +kernel
theorem dX8_wants_79 : decode cX8_wants 79 = .ok (.iload_n 3, 1) := by decide +kernel
theorem dX8_wants_80 : decode cX8_wants 80 = .ok (.iadd, 1) := by decide +kernel
theorem dX8_wants_81 : decode cX8_wants 81 = .ok (.istore 4, 2) := by decide +kernel
theorem dX8_wants_83 : decode cX8_wants 83 = .ok (.goto 30, 3) := by decide +kernel
theorem dX8_wants_86 : decode cX8_wants 86 = .ok (.iload_n 3, 1) := by decide +kernel
theorem dX8_wants_87 : decode cX8_wants 87 = .ok (.istore 4, 2) := by decide +kernel
theorem dX8_wants_89 : decode cX8_wants 89 = .ok (.goto 24, 3) := by decide +kernel
theorem dX8_wants_92 : decode cX8_wants 92 = .ok (.iconst 2, 1) := by decide +kernel
theorem dX8_wants_93 : decode cX8_wants 93 = .ok (.iload_n 2, 1) := by decide +kernel
theorem dX8_wants_94 : decode cX8_wants 94 = .ok (.iconst 3, 1) := by decide +kernel
theorem dX8_wants_95 : decode cX8_wants 95 = .ok (.idiv, 1) := by decide +kernel
theorem dX8_wants_96 : decode cX8_wants 96 = .ok (.imul, 1) := by decide +kernel
theorem dX8_wants_97 : decode cX8_wants 97 = .ok (.istore 4, 2) := by decide +kernel
theorem dX8_wants_99 : decode cX8_wants 99 = .ok (.goto 14, 3) := by decide +kernel
theorem dX8_wants_102 : decode cX8_wants 102 = .ok (.aload_n 0, 1) := by decide +kernel
theorem dX8_wants_103 : decode cX8_wants 103 = .ok (.iload_n 1, 1) := by decide +kernel
theorem dX8_wants_104 : decode cX8_wants 104 = .ok (.iload_n 2, 1) := by decide +kernel
theorem dX8_wants_105 : decode cX8_wants 105 = .ok (.invokevirtual 185, 3) := by decide +kernel
theorem dX8_wants_108 : decode cX8_wants 108 = .ok (.istore 4, 2) := by decide +kernel
theorem dX8_wants_110 : decode cX8_wants 110 = .ok (.goto 3, 3) := by decide +kernel
theorem dX8_wants_113 : decode cX8_wants 113 = .ok (.iload 4, 2) := by decide +kernel
theorem dX8_wants_115 : decode cX8_wants 115 = .ok (.iconst 0, 1) := by decide +kernel
theorem dX8_wants_116 : decode cX8_wants 116 = .ok (.iload_n 2, 1) := by decide +kernel
theorem dX8_wants_117 : decode cX8_wants 117 = .ok (.invokestatic 61, 3) := by decide +kernel
theorem dX8_wants_120 : decode cX8_wants 120 = .ok (.ireturn, 1) := by decide +kernel
theorem dX8_turnsTold_0 : decode cX8_turnsTold 0 = .ok (.aload_n 0, 1) := by decide +kernel
theorem dX8_turnsTold_1 : decode cX8_turnsTold 1 = .ok (.iconst 1, 1) := by decide +kernel
theorem dX8_turnsTold_2 : decode cX8_turnsTold 2 = .ok (.invokevirtual 173, 3) := by decide +kernel
theorem dX8_turnsTold_5 : decode cX8_turnsTold 5 = .ok (.ifCond .ne 5, 3) := by decide +kernel
theorem dX8_turnsTold_8 : decode cX8_turnsTold 8 = .ok (.iload_n 2, 1) := by decide +kernel
theorem dX8_turnsTold_9 : decode cX8_turnsTold 9 = .ok (.ireturn, 1) := by decide +kernel
theorem dX8_turnsTold_10 : decode cX8_turnsTold 10 = .ok (.aload_n 0, 1) := by decide +kernel
theorem dX8_turnsTold_11 : decode cX8_turnsTold 11 = .ok (.getfield 25, 3) := by decide +kernel
theorem dX8_turnsTold_14 : decode cX8_turnsTold 14 = .ok (.bipush 116, 2) := by decide +kernel
theorem dX8_turnsTold_16 : decode cX8_turnsTold 16 = .ok (.iload_n 2, 1) := by decide +kernel
theorem dX8_turnsTold_17 : decode cX8_turnsTold 17 = .ok (.iastore, 1) := by decide +kernel
theorem dX8_turnsTold_18 : decode cX8_turnsTold 18 = .ok (.aload_n 0, 1) := by decide +kernel
theorem dX8_turnsTold_19 : decode cX8_turnsTold 19 = .ok (.getfield 25, 3) := by decide +kernel
theorem dX8_turnsTold_22 : decode cX8_turnsTold 22 = .ok (.bipush 99, 2) := by decide +kernel
theorem dX8_turnsTold_24 : decode cX8_turnsTold 24 = .ok (.aload_n 0, 1) := by decide +kernel
theorem dX8_turnsTold_25 : decode cX8_turnsTold 25 = .ok (.iload_n 1, 1) := by decide +kernel
theorem dX8_turnsTold_26 : decode cX8_turnsTold 26 = .ok (.iconst 5, 1) := by decide +kernel
theorem dX8_turnsTold_27 : decode cX8_turnsTold 27 = .ok (.invokevirtual 90, 3) := by decide +kernel
theorem dX8_turnsTold_30 : decode cX8_turnsTold 30 = .ok (.iastore, 1) := by decide +kernel
theorem dX8_turnsTold_31 : decode cX8_turnsTold 31 = .ok (.aload_n 0, 1) := by decide +kernel
theorem dX8_turnsTold_32 : decode cX8_turnsTold 32 = .ok (.getfield 25, 3) := by decide +kernel
theorem dX8_turnsTold_35 : decode cX8_turnsTold 35 = .ok (.bipush 109, 2) := by decide +kernel
theorem dX8_turnsTold_37 : decode cX8_turnsTold 37 = .ok (.aload_n 0, 1) := by decide +kernel
theorem dX8_turnsTold_38 : decode cX8_turnsTold 38 = .ok (.iload_n 1, 1) := by decide +kernel
theorem dX8_turnsTold_39 : decode cX8_turnsTold 39 = .ok (.iconst 1, 1) := by decide +kernel
