/-! decode rows: printed by wip/whole/gen07.py -/
theorem d_L_cell_0 : decode mi_L_cell.2.1 0 = .ok (.iload_n 1, 1) := by decide +kernel
theorem d_L_cell_1 : decode mi_L_cell.2.1 1 = .ok (.aload_n 0, 1) := by decide +kernel
theorem d_L_cell_2 : decode mi_L_cell.2.1 2 = .ok (.arraylength, 1) := by decide +kernel
theorem d_L_cell_3 : decode mi_L_cell.2.1 3 = .ok (.if_icmp .ge 9, 3) := by decide +kernel
theorem d_L_cell_6 : decode mi_L_cell.2.1 6 = .ok (.aload_n 0, 1) := by decide +kernel
theorem d_L_cell_7 : decode mi_L_cell.2.1 7 = .ok (.iload_n 1, 1) := by decide +kernel
theorem d_L_cell_8 : decode mi_L_cell.2.1 8 = .ok (.iaload, 1) := by decide +kernel
theorem d_L_cell_9 : decode mi_L_cell.2.1 9 = .ok (.goto 15, 3) := by decide +kernel
theorem d_L_cell_12 : decode mi_L_cell.2.1 12 = .ok (.sipush 7919, 3) := by decide +kernel
theorem d_L_cell_15 : decode mi_L_cell.2.1 15 = .ok (.iload_n 1, 1) := by decide +kernel
theorem d_L_cell_16 : decode mi_L_cell.2.1 16 = .ok (.iconst 3, 1) := by decide +kernel
theorem d_L_cell_17 : decode mi_L_cell.2.1 17 = .ok (.iadd, 1) := by decide +kernel
theorem d_L_cell_18 : decode mi_L_cell.2.1 18 = .ok (.imul, 1) := by decide +kernel
theorem d_L_cell_19 : decode mi_L_cell.2.1 19 = .ok (.iload_n 1, 1) := by decide +kernel
theorem d_L_cell_20 : decode mi_L_cell.2.1 20 = .ok (.bipush 11, 2) := by decide +kernel
theorem d_L_cell_22 : decode mi_L_cell.2.1 22 = .ok (.iadd, 1) := by decide +kernel
theorem d_L_cell_23 : decode mi_L_cell.2.1 23 = .ok (.imul, 1) := by decide +kernel
theorem d_L_cell_24 : decode mi_L_cell.2.1 24 = .ok (.ireturn, 1) := by decide +kernel
theorem d_L_low_0 : decode mi_L_low.2.1 0 = .ok (.iload_n 0, 1) := by decide +kernel
theorem d_L_low_1 : decode mi_L_low.2.1 1 = .ok (.ldc 7, 2) := by decide +kernel
theorem d_L_low_3 : decode mi_L_low.2.1 3 = .ok (.iand, 1) := by decide +kernel
theorem d_L_low_4 : decode mi_L_low.2.1 4 = .ok (.iload_n 1, 1) := by decide +kernel
theorem d_L_low_5 : decode mi_L_low.2.1 5 = .ok (.irem, 1) := by decide +kernel
theorem d_L_low_6 : decode mi_L_low.2.1 6 = .ok (.ireturn, 1) := by decide +kernel
theorem d_L_types_0 : decode mi_L_types.2.1 0 = .ok (.aload_n 1, 1) := by decide +kernel
theorem d_L_types_1 : decode mi_L_types.2.1 1 = .ok (.iload_n 2, 1) := by decide +kernel
theorem d_L_types_2 : decode mi_L_types.2.1 2 = .ok (.invokestatic 8, 3) := by decide +kernel
theorem d_L_types_5 : decode mi_L_types.2.1 5 = .ok (.istore 4, 2) := by decide +kernel
theorem d_L_types_7 : decode mi_L_types.2.1 7 = .ok (.aload_n 3, 1) := by decide +kernel
theorem d_L_types_8 : decode mi_L_types.2.1 8 = .ok (.bipush 60, 2) := by decide +kernel
theorem d_L_types_10 : decode mi_L_types.2.1 10 = .ok (.iconst 1, 1) := by decide +kernel
theorem d_L_types_11 : decode mi_L_types.2.1 11 = .ok (.iload 4, 2) := by decide +kernel
theorem d_L_types_13 : decode mi_L_types.2.1 13 = .ok (.bipush 6, 2) := by decide +kernel
theorem d_L_types_15 : decode mi_L_types.2.1 15 = .ok (.invokestatic 14, 3) := by decide +kernel
theorem d_L_types_18 : decode mi_L_types.2.1 18 = .ok (.iadd, 1) := by decide +kernel
theorem d_L_types_19 : decode mi_L_types.2.1 19 = .ok (.iastore, 1) := by decide +kernel
theorem d_L_types_20 : decode mi_L_types.2.1 20 = .ok (.aload_n 3, 1) := by decide +kernel
theorem d_L_types_21 : decode mi_L_types.2.1 21 = .ok (.bipush 61, 2) := by decide +kernel
theorem d_L_types_23 : decode mi_L_types.2.1 23 = .ok (.iconst 1, 1) := by decide +kernel
theorem d_L_types_24 : decode mi_L_types.2.1 24 = .ok (.iload 4, 2) := by decide +kernel
theorem d_L_types_26 : decode mi_L_types.2.1 26 = .ok (.iconst 3, 1) := by decide +kernel
theorem d_L_types_27 : decode mi_L_types.2.1 27 = .ok (.ishr, 1) := by decide +kernel
theorem d_L_types_28 : decode mi_L_types.2.1 28 = .ok (.bipush 6, 2) := by decide +kernel
theorem d_L_types_30 : decode mi_L_types.2.1 30 = .ok (.invokestatic 14, 3) := by decide +kernel
theorem d_L_types_33 : decode mi_L_types.2.1 33 = .ok (.iadd, 1) := by decide +kernel
theorem d_L_types_34 : decode mi_L_types.2.1 34 = .ok (.iastore, 1) := by decide +kernel
theorem d_L_types_35 : decode mi_L_types.2.1 35 = .ok (.aload_n 0, 1) := by decide +kernel
theorem d_L_types_36 : decode mi_L_types.2.1 36 = .ok (.invokevirtual 18, 3) := by decide +kernel
theorem d_L_types_39 : decode mi_L_types.2.1 39 = .ok (.pop, 1) := by decide +kernel
theorem d_L_types_40 : decode mi_L_types.2.1 40 = .ok (.iconst 0, 1) := by decide +kernel
theorem d_L_types_41 : decode mi_L_types.2.1 41 = .ok (.istore 5, 2) := by decide +kernel
theorem d_L_types_43 : decode mi_L_types.2.1 43 = .ok (.iload 5, 2) := by decide +kernel
theorem d_L_types_45 : decode mi_L_types.2.1 45 = .ok (.aload_n 3, 1) := by decide +kernel
theorem d_L_types_46 : decode mi_L_types.2.1 46 = .ok (.bipush 60, 2) := by decide +kernel
theorem d_L_types_48 : decode mi_L_types.2.1 48 = .ok (.iaload, 1) := by decide +kernel
theorem d_L_types_49 : decode mi_L_types.2.1 49 = .ok (.if_icmp .ge 118, 3) := by decide +kernel
theorem d_L_types_52 : decode mi_L_types.2.1 52 = .ok (.aload_n 1, 1) := by decide +kernel
theorem d_L_types_53 : decode mi_L_types.2.1 53 = .ok (.iload_n 2, 1) := by decide +kernel
theorem d_L_types_54 : decode mi_L_types.2.1 54 = .ok (.iconst 1, 1) := by decide +kernel
theorem d_L_types_55 : decode mi_L_types.2.1 55 = .ok (.iadd, 1) := by decide +kernel
theorem d_L_types_56 : decode mi_L_types.2.1 56 = .ok (.iload 5, 2) := by decide +kernel
theorem d_L_types_58 : decode mi_L_types.2.1 58 = .ok (.iadd, 1) := by decide +kernel
theorem d_L_types_59 : decode mi_L_types.2.1 59 = .ok (.invokestatic 8, 3) := by decide +kernel
theorem d_L_types_62 : decode mi_L_types.2.1 62 = .ok (.istore 6, 2) := by decide +kernel
theorem d_L_types_64 : decode mi_L_types.2.1 64 = .ok (.iconst 0, 1) := by decide +kernel
theorem d_L_types_65 : decode mi_L_types.2.1 65 = .ok (.istore 7, 2) := by decide +kernel
theorem d_L_types_67 : decode mi_L_types.2.1 67 = .ok (.iload 7, 2) := by decide +kernel
theorem d_L_types_69 : decode mi_L_types.2.1 69 = .ok (.aload_n 3, 1) := by decide +kernel
theorem d_L_types_70 : decode mi_L_types.2.1 70 = .ok (.bipush 61, 2) := by decide +kernel
theorem d_L_types_72 : decode mi_L_types.2.1 72 = .ok (.iaload, 1) := by decide +kernel
theorem d_L_types_73 : decode mi_L_types.2.1 73 = .ok (.if_icmp .ge 81, 3) := by decide +kernel
theorem d_L_types_76 : decode mi_L_types.2.1 76 = .ok (.iload 6, 2) := by decide +kernel
theorem d_L_types_78 : decode mi_L_types.2.1 78 = .ok (.iconst 3, 1) := by decide +kernel
theorem d_L_types_79 : decode mi_L_types.2.1 79 = .ok (.iload 7, 2) := by decide +kernel
theorem d_L_types_81 : decode mi_L_types.2.1 81 = .ok (.imul, 1) := by decide +kernel
theorem d_L_types_82 : decode mi_L_types.2.1 82 = .ok (.ishr, 1) := by decide +kernel
theorem d_L_types_83 : decode mi_L_types.2.1 83 = .ok (.bipush 7, 2) := by decide +kernel
theorem d_L_types_85 : decode mi_L_types.2.1 85 = .ok (.iand, 1) := by decide +kernel
theorem d_L_types_86 : decode mi_L_types.2.1 86 = .ok (.istore 8, 2) := by decide +kernel
theorem d_L_types_88 : decode mi_L_types.2.1 88 = .ok (.aload_n 3, 1) := by decide +kernel
theorem d_L_types_89 : decode mi_L_types.2.1 89 = .ok (.bipush 6, 2) := by decide +kernel
theorem d_L_types_91 : decode mi_L_types.2.1 91 = .ok (.iload 5, 2) := by decide +kernel
theorem d_L_types_93 : decode mi_L_types.2.1 93 = .ok (.imul, 1) := by decide +kernel
theorem d_L_types_94 : decode mi_L_types.2.1 94 = .ok (.iload 7, 2) := by decide +kernel
theorem d_L_types_96 : decode mi_L_types.2.1 96 = .ok (.iadd, 1) := by decide +kernel
theorem d_L_types_97 : decode mi_L_types.2.1 97 = .ok (.iload 8, 2) := by decide +kernel
theorem d_L_types_99 : decode mi_L_types.2.1 99 = .ok (.iconst 5, 1) := by decide +kernel
theorem d_L_types_100 : decode mi_L_types.2.1 100 = .ok (.if_icmp .ge 7, 3) := by decide +kernel
theorem d_L_types_103 : decode mi_L_types.2.1 103 = .ok (.iconst 1, 1) := by decide +kernel
theorem d_L_types_104 : decode mi_L_types.2.1 104 = .ok (.goto 14, 3) := by decide +kernel
theorem d_L_types_107 : decode mi_L_types.2.1 107 = .ok (.iload 8, 2) := by decide +kernel
theorem d_L_types_109 : decode mi_L_types.2.1 109 = .ok (.iconst 5, 1) := by decide +kernel
theorem d_L_types_110 : decode mi_L_types.2.1 110 = .ok (.if_icmp .ne 7, 3) := by decide +kernel
theorem d_L_types_113 : decode mi_L_types.2.1 113 = .ok (.iconst 2, 1) := by decide +kernel
theorem d_L_types_114 : decode mi_L_types.2.1 114 = .ok (.goto 4, 3) := by decide +kernel
theorem d_L_types_117 : decode mi_L_types.2.1 117 = .ok (.iconst 0, 1) := by decide +kernel
theorem d_L_types_118 : decode mi_L_types.2.1 118 = .ok (.iastore, 1) := by decide +kernel
theorem d_L_types_119 : decode mi_L_types.2.1 119 = .ok (.aload_n 0, 1) := by decide +kernel
theorem d_L_types_120 : decode mi_L_types.2.1 120 = .ok (.iload 8, 2) := by decide +kernel
theorem d_L_types_122 : decode mi_L_types.2.1 122 = .ok (.iconst 5, 1) := by decide +kernel
theorem d_L_types_123 : decode mi_L_types.2.1 123 = .ok (.if_icmp .ge 8, 3) := by decide +kernel
theorem d_L_types_126 : decode mi_L_types.2.1 126 = .ok (.bipush 115, 2) := by decide +kernel
theorem d_L_types_128 : decode mi_L_types.2.1 128 = .ok (.goto 16, 3) := by decide +kernel
theorem d_L_types_131 : decode mi_L_types.2.1 131 = .ok (.iload 8, 2) := by decide +kernel
theorem d_L_types_133 : decode mi_L_types.2.1 133 = .ok (.iconst 5, 1) := by decide +kernel
theorem d_L_types_134 : decode mi_L_types.2.1 134 = .ok (.if_icmp .ne 8, 3) := by decide +kernel
theorem d_L_types_137 : decode mi_L_types.2.1 137 = .ok (.bipush 112, 2) := by decide +kernel
theorem d_L_types_139 : decode mi_L_types.2.1 139 = .ok (.goto 5, 3) := by decide +kernel
theorem d_L_types_142 : decode mi_L_types.2.1 142 = .ok (.bipush 46, 2) := by decide +kernel
theorem d_L_types_144 : decode mi_L_types.2.1 144 = .ok (.invokevirtual 24, 3) := by decide +kernel
theorem d_L_types_147 : decode mi_L_types.2.1 147 = .ok (.pop, 1) := by decide +kernel
theorem d_L_types_148 : decode mi_L_types.2.1 148 = .ok (.iinc 7 1, 3) := by decide +kernel
theorem d_L_types_151 : decode mi_L_types.2.1 151 = .ok (.goto (-84), 3) := by decide +kernel
theorem d_L_types_154 : decode mi_L_types.2.1 154 = .ok (.aload_n 0, 1) := by decide +kernel
theorem d_L_types_155 : decode mi_L_types.2.1 155 = .ok (.bipush 59, 2) := by decide +kernel
theorem d_L_types_157 : decode mi_L_types.2.1 157 = .ok (.invokevirtual 24, 3) := by decide +kernel
theorem d_L_types_160 : decode mi_L_types.2.1 160 = .ok (.pop, 1) := by decide +kernel
theorem d_L_types_161 : decode mi_L_types.2.1 161 = .ok (.iinc 5 1, 3) := by decide +kernel
theorem d_L_types_164 : decode mi_L_types.2.1 164 = .ok (.goto (-121), 3) := by decide +kernel
theorem d_L_types_167 : decode mi_L_types.2.1 167 = .ok (.return_, 1) := by decide +kernel
theorem d_L_signals_0 : decode mi_L_signals.2.1 0 = .ok (.iconst 0, 1) := by decide +kernel
theorem d_L_signals_1 : decode mi_L_signals.2.1 1 = .ok (.istore_n 1, 1) := by decide +kernel
theorem d_L_signals_2 : decode mi_L_signals.2.1 2 = .ok (.iconst 0, 1) := by decide +kernel
theorem d_L_signals_3 : decode mi_L_signals.2.1 3 = .ok (.istore_n 2, 1) := by decide +kernel
theorem d_L_signals_4 : decode mi_L_signals.2.1 4 = .ok (.iload_n 2, 1) := by decide +kernel
theorem d_L_signals_5 : decode mi_L_signals.2.1 5 = .ok (.aload_n 0, 1) := by decide +kernel
theorem d_L_signals_6 : decode mi_L_signals.2.1 6 = .ok (.bipush 60, 2) := by decide +kernel
theorem d_L_signals_8 : decode mi_L_signals.2.1 8 = .ok (.iaload, 1) := by decide +kernel
theorem d_L_signals_9 : decode mi_L_signals.2.1 9 = .ok (.if_icmp .ge 45, 3) := by decide +kernel
theorem d_L_signals_12 : decode mi_L_signals.2.1 12 = .ok (.iconst 0, 1) := by decide +kernel
theorem d_L_signals_13 : decode mi_L_signals.2.1 13 = .ok (.istore_n 3, 1) := by decide +kernel
theorem d_L_signals_14 : decode mi_L_signals.2.1 14 = .ok (.iload_n 3, 1) := by decide +kernel
theorem d_L_signals_15 : decode mi_L_signals.2.1 15 = .ok (.aload_n 0, 1) := by decide +kernel
theorem d_L_signals_16 : decode mi_L_signals.2.1 16 = .ok (.bipush 61, 2) := by decide +kernel
theorem d_L_signals_18 : decode mi_L_signals.2.1 18 = .ok (.iaload, 1) := by decide +kernel
theorem d_L_signals_19 : decode mi_L_signals.2.1 19 = .ok (.if_icmp .ge 29, 3) := by decide +kernel
theorem d_L_signals_22 : decode mi_L_signals.2.1 22 = .ok (.iload_n 1, 1) := by decide +kernel
theorem d_L_signals_23 : decode mi_L_signals.2.1 23 = .ok (.aload_n 0, 1) := by decide +kernel
theorem d_L_signals_24 : decode mi_L_signals.2.1 24 = .ok (.bipush 6, 2) := by decide +kernel
theorem d_L_signals_26 : decode mi_L_signals.2.1 26 = .ok (.iload_n 2, 1) := by decide +kernel
theorem d_L_signals_27 : decode mi_L_signals.2.1 27 = .ok (.imul, 1) := by decide +kernel
theorem d_L_signals_28 : decode mi_L_signals.2.1 28 = .ok (.iload_n 3, 1) := by decide +kernel
theorem d_L_signals_29 : decode mi_L_signals.2.1 29 = .ok (.iadd, 1) := by decide +kernel
theorem d_L_signals_30 : decode mi_L_signals.2.1 30 = .ok (.iaload, 1) := by decide +kernel
theorem d_L_signals_31 : decode mi_L_signals.2.1 31 = .ok (.iconst 1, 1) := by decide +kernel
theorem d_L_signals_32 : decode mi_L_signals.2.1 32 = .ok (.if_icmp .ne 7, 3) := by decide +kernel
theorem d_L_signals_35 : decode mi_L_signals.2.1 35 = .ok (.iconst 1, 1) := by decide +kernel
theorem d_L_signals_36 : decode mi_L_signals.2.1 36 = .ok (.goto 4, 3) := by decide +kernel
theorem d_L_signals_39 : decode mi_L_signals.2.1 39 = .ok (.iconst 0, 1) := by decide +kernel
theorem d_L_signals_40 : decode mi_L_signals.2.1 40 = .ok (.iadd, 1) := by decide +kernel
theorem d_L_signals_41 : decode mi_L_signals.2.1 41 = .ok (.istore_n 1, 1) := by decide +kernel
theorem d_L_signals_42 : decode mi_L_signals.2.1 42 = .ok (.iinc 3 1, 3) := by decide +kernel
theorem d_L_signals_45 : decode mi_L_signals.2.1 45 = .ok (.goto (-31), 3) := by decide +kernel
theorem d_L_signals_48 : decode mi_L_signals.2.1 48 = .ok (.iinc 2 1, 3) := by decide +kernel
theorem d_L_signals_51 : decode mi_L_signals.2.1 51 = .ok (.goto (-47), 3) := by decide +kernel
theorem d_L_signals_54 : decode mi_L_signals.2.1 54 = .ok (.iload_n 1, 1) := by decide +kernel
theorem d_L_signals_55 : decode mi_L_signals.2.1 55 = .ok (.ireturn, 1) := by decide +kernel
theorem d_L_tale_0 : decode mi_L_tale.2.1 0 = .ok (.aload_n 0, 1) := by decide +kernel
theorem d_L_tale_1 : decode mi_L_tale.2.1 1 = .ok (.invokevirtual 28, 3) := by decide +kernel
theorem d_L_tale_4 : decode mi_L_tale.2.1 4 = .ok (.i2l, 1) := by decide +kernel
theorem d_L_tale_5 : decode mi_L_tale.2.1 5 = .ok (.ldc2_w 31, 3) := by decide +kernel
theorem d_L_tale_8 : decode mi_L_tale.2.1 8 = .ok (.lmul, 1) := by decide +kernel
theorem d_L_tale_9 : decode mi_L_tale.2.1 9 = .ok (.aload_n 0, 1) := by decide +kernel
theorem d_L_tale_10 : decode mi_L_tale.2.1 10 = .ok (.invokevirtual 33, 3) := by decide +kernel
theorem d_L_tale_13 : decode mi_L_tale.2.1 13 = .ok (.i2l, 1) := by decide +kernel
theorem d_L_tale_14 : decode mi_L_tale.2.1 14 = .ok (.ladd, 1) := by decide +kernel
theorem d_L_tale_15 : decode mi_L_tale.2.1 15 = .ok (.lstore_n 1, 1) := by decide +kernel
theorem d_L_tale_16 : decode mi_L_tale.2.1 16 = .ok (.iconst 0, 1) := by decide +kernel
theorem d_L_tale_17 : decode mi_L_tale.2.1 17 = .ok (.istore_n 3, 1) := by decide +kernel
theorem d_L_tale_18 : decode mi_L_tale.2.1 18 = .ok (.iload_n 3, 1) := by decide +kernel
theorem d_L_tale_19 : decode mi_L_tale.2.1 19 = .ok (.bipush 36, 2) := by decide +kernel
theorem d_L_tale_21 : decode mi_L_tale.2.1 21 = .ok (.if_icmp .ge 47, 3) := by decide +kernel
theorem d_L_tale_24 : decode mi_L_tale.2.1 24 = .ok (.lload_n 1, 1) := by decide +kernel
theorem d_L_tale_25 : decode mi_L_tale.2.1 25 = .ok (.ldc2_w 36, 3) := by decide +kernel
theorem d_L_tale_28 : decode mi_L_tale.2.1 28 = .ok (.lmul, 1) := by decide +kernel
theorem d_L_tale_29 : decode mi_L_tale.2.1 29 = .ok (.aload_n 0, 1) := by decide +kernel
theorem d_L_tale_30 : decode mi_L_tale.2.1 30 = .ok (.iload_n 3, 1) := by decide +kernel
theorem d_L_tale_31 : decode mi_L_tale.2.1 31 = .ok (.bipush 6, 2) := by decide +kernel
theorem d_L_tale_33 : decode mi_L_tale.2.1 33 = .ok (.idiv, 1) := by decide +kernel
theorem d_L_tale_34 : decode mi_L_tale.2.1 34 = .ok (.iload_n 3, 1) := by decide +kernel
theorem d_L_tale_35 : decode mi_L_tale.2.1 35 = .ok (.bipush 6, 2) := by decide +kernel
theorem d_L_tale_37 : decode mi_L_tale.2.1 37 = .ok (.irem, 1) := by decide +kernel
theorem d_L_tale_38 : decode mi_L_tale.2.1 38 = .ok (.invokevirtual 38, 3) := by decide +kernel
theorem d_L_tale_41 : decode mi_L_tale.2.1 41 = .ok (.i2l, 1) := by decide +kernel
theorem d_L_tale_42 : decode mi_L_tale.2.1 42 = .ok (.ldc2_w 41, 3) := by decide +kernel
theorem d_L_tale_45 : decode mi_L_tale.2.1 45 = .ok (.lmul, 1) := by decide +kernel
theorem d_L_tale_46 : decode mi_L_tale.2.1 46 = .ok (.ladd, 1) := by decide +kernel
theorem d_L_tale_47 : decode mi_L_tale.2.1 47 = .ok (.aload_n 0, 1) := by decide +kernel
theorem d_L_tale_48 : decode mi_L_tale.2.1 48 = .ok (.iload_n 3, 1) := by decide +kernel
theorem d_L_tale_49 : decode mi_L_tale.2.1 49 = .ok (.bipush 6, 2) := by decide +kernel
theorem d_L_tale_51 : decode mi_L_tale.2.1 51 = .ok (.idiv, 1) := by decide +kernel
theorem d_L_tale_52 : decode mi_L_tale.2.1 52 = .ok (.iload_n 3, 1) := by decide +kernel
theorem d_L_tale_53 : decode mi_L_tale.2.1 53 = .ok (.bipush 6, 2) := by decide +kernel
theorem d_L_tale_55 : decode mi_L_tale.2.1 55 = .ok (.irem, 1) := by decide +kernel
theorem d_L_tale_56 : decode mi_L_tale.2.1 56 = .ok (.invokevirtual 43, 3) := by decide +kernel
theorem d_L_tale_59 : decode mi_L_tale.2.1 59 = .ok (.i2l, 1) := by decide +kernel
theorem d_L_tale_60 : decode mi_L_tale.2.1 60 = .ok (.ladd, 1) := by decide +kernel
theorem d_L_tale_61 : decode mi_L_tale.2.1 61 = .ok (.lstore_n 1, 1) := by decide +kernel
theorem d_L_tale_62 : decode mi_L_tale.2.1 62 = .ok (.iinc 3 1, 3) := by decide +kernel
theorem d_L_tale_65 : decode mi_L_tale.2.1 65 = .ok (.goto (-47), 3) := by decide +kernel
theorem d_L_tale_68 : decode mi_L_tale.2.1 68 = .ok (.iconst 0, 1) := by decide +kernel
theorem d_L_tale_69 : decode mi_L_tale.2.1 69 = .ok (.istore_n 3, 1) := by decide +kernel
theorem d_L_tale_70 : decode mi_L_tale.2.1 70 = .ok (.iload_n 3, 1) := by decide +kernel
theorem d_L_tale_71 : decode mi_L_tale.2.1 71 = .ok (.iconst 4, 1) := by decide +kernel
theorem d_L_tale_72 : decode mi_L_tale.2.1 72 = .ok (.if_icmp .ge 23, 3) := by decide +kernel
theorem d_L_tale_75 : decode mi_L_tale.2.1 75 = .ok (.lload_n 1, 1) := by decide +kernel
theorem d_L_tale_76 : decode mi_L_tale.2.1 76 = .ok (.ldc2_w 46, 3) := by decide +kernel
theorem d_L_tale_79 : decode mi_L_tale.2.1 79 = .ok (.lmul, 1) := by decide +kernel
theorem d_L_tale_80 : decode mi_L_tale.2.1 80 = .ok (.aload_n 0, 1) := by decide +kernel
theorem d_L_tale_81 : decode mi_L_tale.2.1 81 = .ok (.iload_n 3, 1) := by decide +kernel
theorem d_L_tale_82 : decode mi_L_tale.2.1 82 = .ok (.iload_n 3, 1) := by decide +kernel
theorem d_L_tale_83 : decode mi_L_tale.2.1 83 = .ok (.invokevirtual 48, 3) := by decide +kernel
theorem d_L_tale_86 : decode mi_L_tale.2.1 86 = .ok (.i2l, 1) := by decide +kernel
theorem d_L_tale_87 : decode mi_L_tale.2.1 87 = .ok (.ladd, 1) := by decide +kernel
theorem d_L_tale_88 : decode mi_L_tale.2.1 88 = .ok (.lstore_n 1, 1) := by decide +kernel
theorem d_L_tale_89 : decode mi_L_tale.2.1 89 = .ok (.iinc 3 1, 3) := by decide +kernel
theorem d_L_tale_92 : decode mi_L_tale.2.1 92 = .ok (.goto (-22), 3) := by decide +kernel
theorem d_L_tale_95 : decode mi_L_tale.2.1 95 = .ok (.lload_n 1, 1) := by decide +kernel
theorem d_L_tale_96 : decode mi_L_tale.2.1 96 = .ok (.ldc2_w 51, 3) := by decide +kernel
theorem d_L_tale_99 : decode mi_L_tale.2.1 99 = .ok (.lmul, 1) := by decide +kernel
theorem d_L_tale_100 : decode mi_L_tale.2.1 100 = .ok (.aload_n 0, 1) := by decide +kernel
theorem d_L_tale_101 : decode mi_L_tale.2.1 101 = .ok (.invokevirtual 53, 3) := by decide +kernel
theorem d_L_tale_104 : decode mi_L_tale.2.1 104 = .ok (.i2l, 1) := by decide +kernel
theorem d_L_tale_105 : decode mi_L_tale.2.1 105 = .ok (.ldc2_w 56, 3) := by decide +kernel
theorem d_L_tale_108 : decode mi_L_tale.2.1 108 = .ok (.lmul, 1) := by decide +kernel
theorem d_L_tale_109 : decode mi_L_tale.2.1 109 = .ok (.ladd, 1) := by decide +kernel
theorem d_L_tale_110 : decode mi_L_tale.2.1 110 = .ok (.aload_n 0, 1) := by decide +kernel
theorem d_L_tale_111 : decode mi_L_tale.2.1 111 = .ok (.invokevirtual 58, 3) := by decide +kernel
theorem d_L_tale_114 : decode mi_L_tale.2.1 114 = .ok (.i2l, 1) := by decide +kernel
theorem d_L_tale_115 : decode mi_L_tale.2.1 115 = .ok (.ldc2_w 61, 3) := by decide +kernel
theorem d_L_tale_118 : decode mi_L_tale.2.1 118 = .ok (.lmul, 1) := by decide +kernel
theorem d_L_tale_119 : decode mi_L_tale.2.1 119 = .ok (.ladd, 1) := by decide +kernel
theorem d_L_tale_120 : decode mi_L_tale.2.1 120 = .ok (.aload_n 0, 1) := by decide +kernel
theorem d_L_tale_121 : decode mi_L_tale.2.1 121 = .ok (.iconst 0, 1) := by decide +kernel
theorem d_L_tale_122 : decode mi_L_tale.2.1 122 = .ok (.invokevirtual 63, 3) := by decide +kernel
theorem d_L_tale_125 : decode mi_L_tale.2.1 125 = .ok (.i2l, 1) := by decide +kernel
theorem d_L_tale_126 : decode mi_L_tale.2.1 126 = .ok (.ldc2_w 66, 3) := by decide +kernel
theorem d_L_tale_129 : decode mi_L_tale.2.1 129 = .ok (.lmul, 1) := by decide +kernel
theorem d_L_tale_130 : decode mi_L_tale.2.1 130 = .ok (.ladd, 1) := by decide +kernel
theorem d_L_tale_131 : decode mi_L_tale.2.1 131 = .ok (.aload_n 0, 1) := by decide +kernel
theorem d_L_tale_132 : decode mi_L_tale.2.1 132 = .ok (.invokevirtual 68, 3) := by decide +kernel
theorem d_L_tale_135 : decode mi_L_tale.2.1 135 = .ok (.i2l, 1) := by decide +kernel
theorem d_L_tale_136 : decode mi_L_tale.2.1 136 = .ok (.ladd, 1) := by decide +kernel
theorem d_L_tale_137 : decode mi_L_tale.2.1 137 = .ok (.lreturn, 1) := by decide +kernel
theorem d_L_does_0 : decode mi_L_does.2.1 0 = .ok (.iload_n 1, 1) := by decide +kernel
theorem d_L_does_1 : decode mi_L_does.2.1 1 = .ok (.iconst 4, 1) := by decide +kernel
theorem d_L_does_2 : decode mi_L_does.2.1 2 = .ok (.ishr, 1) := by decide +kernel
theorem d_L_does_3 : decode mi_L_does.2.1 3 = .ok (.aload_n 0, 1) := by decide +kernel
theorem d_L_does_4 : decode mi_L_does.2.1 4 = .ok (.invokevirtual 28, 3) := by decide +kernel
theorem d_L_does_7 : decode mi_L_does.2.1 7 = .ok (.invokestatic 14, 3) := by decide +kernel
theorem d_L_does_10 : decode mi_L_does.2.1 10 = .ok (.istore_n 2, 1) := by decide +kernel
theorem d_L_does_11 : decode mi_L_does.2.1 11 = .ok (.iload_n 1, 1) := by decide +kernel
theorem d_L_does_12 : decode mi_L_does.2.1 12 = .ok (.bipush 7, 2) := by decide +kernel
theorem d_L_does_14 : decode mi_L_does.2.1 14 = .ok (.ishr, 1) := by decide +kernel
theorem d_L_does_15 : decode mi_L_does.2.1 15 = .ok (.aload_n 0, 1) := by decide +kernel
theorem d_L_does_16 : decode mi_L_does.2.1 16 = .ok (.invokevirtual 33, 3) := by decide +kernel
theorem d_L_does_19 : decode mi_L_does.2.1 19 = .ok (.invokestatic 14, 3) := by decide +kernel
theorem d_L_does_22 : decode mi_L_does.2.1 22 = .ok (.istore_n 3, 1) := by decide +kernel
theorem d_L_does_23 : decode mi_L_does.2.1 23 = .ok (.iload_n 1, 1) := by decide +kernel
theorem d_L_does_24 : decode mi_L_does.2.1 24 = .ok (.bipush 15, 2) := by decide +kernel
theorem d_L_does_26 : decode mi_L_does.2.1 26 = .ok (.iand, 1) := by decide +kernel
theorem d_L_does_27 : decode mi_L_does.2.1 27 = .ok (.tableswitch 155 0 9 #[53, 53, 68, 82, 96, 96, 107, 118, 125, 132], 53) := by decide +kernel
theorem d_L_does_80 : decode mi_L_does.2.1 80 = .ok (.aload_n 0, 1) := by decide +kernel
theorem d_L_does_81 : decode mi_L_does.2.1 81 = .ok (.iload_n 2, 1) := by decide +kernel
theorem d_L_does_82 : decode mi_L_does.2.1 82 = .ok (.iload_n 3, 1) := by decide +kernel
theorem d_L_does_83 : decode mi_L_does.2.1 83 = .ok (.iload_n 1, 1) := by decide +kernel
theorem d_L_does_84 : decode mi_L_does.2.1 84 = .ok (.bipush 10, 2) := by decide +kernel
theorem d_L_does_86 : decode mi_L_does.2.1 86 = .ok (.ishr, 1) := by decide +kernel
theorem d_L_does_87 : decode mi_L_does.2.1 87 = .ok (.iconst 4, 1) := by decide +kernel
theorem d_L_does_88 : decode mi_L_does.2.1 88 = .ok (.invokestatic 14, 3) := by decide +kernel
theorem d_L_does_91 : decode mi_L_does.2.1 91 = .ok (.invokevirtual 71, 3) := by decide +kernel
theorem d_L_does_94 : decode mi_L_does.2.1 94 = .ok (.ireturn, 1) := by decide +kernel
theorem d_L_does_95 : decode mi_L_does.2.1 95 = .ok (.aload_n 0, 1) := by decide +kernel
theorem d_L_does_96 : decode mi_L_does.2.1 96 = .ok (.iload_n 1, 1) := by decide +kernel
theorem d_L_does_97 : decode mi_L_does.2.1 97 = .ok (.bipush 10, 2) := by decide +kernel
theorem d_L_does_99 : decode mi_L_does.2.1 99 = .ok (.ishr, 1) := by decide +kernel
theorem d_L_does_100 : decode mi_L_does.2.1 100 = .ok (.bipush 7, 2) := by decide +kernel
theorem d_L_does_102 : decode mi_L_does.2.1 102 = .ok (.invokestatic 14, 3) := by decide +kernel
theorem d_L_does_105 : decode mi_L_does.2.1 105 = .ok (.invokevirtual 75, 3) := by decide +kernel
theorem d_L_does_108 : decode mi_L_does.2.1 108 = .ok (.ireturn, 1) := by decide +kernel
theorem d_L_does_109 : decode mi_L_does.2.1 109 = .ok (.aload_n 0, 1) := by decide +kernel
theorem d_L_does_110 : decode mi_L_does.2.1 110 = .ok (.iload_n 1, 1) := by decide +kernel
theorem d_L_does_111 : decode mi_L_does.2.1 111 = .ok (.bipush 10, 2) := by decide +kernel
theorem d_L_does_113 : decode mi_L_does.2.1 113 = .ok (.ishr, 1) := by decide +kernel
theorem d_L_does_114 : decode mi_L_does.2.1 114 = .ok (.bipush 11, 2) := by decide +kernel
theorem d_L_does_116 : decode mi_L_does.2.1 116 = .ok (.invokestatic 14, 3) := by decide +kernel
theorem d_L_does_119 : decode mi_L_does.2.1 119 = .ok (.invokevirtual 78, 3) := by decide +kernel
theorem d_L_does_122 : decode mi_L_does.2.1 122 = .ok (.ireturn, 1) := by decide +kernel
theorem d_L_does_123 : decode mi_L_does.2.1 123 = .ok (.aload_n 0, 1) := by decide +kernel
theorem d_L_does_124 : decode mi_L_does.2.1 124 = .ok (.iload_n 2, 1) := by decide +kernel
theorem d_L_does_125 : decode mi_L_does.2.1 125 = .ok (.iload_n 3, 1) := by decide +kernel
theorem d_L_does_126 : decode mi_L_does.2.1 126 = .ok (.iload_n 2, 1) := by decide +kernel
theorem d_L_does_127 : decode mi_L_does.2.1 127 = .ok (.iload_n 3, 1) := by decide +kernel
theorem d_L_does_128 : decode mi_L_does.2.1 128 = .ok (.iconst 1, 1) := by decide +kernel
theorem d_L_does_129 : decode mi_L_does.2.1 129 = .ok (.iadd, 1) := by decide +kernel
theorem d_L_does_130 : decode mi_L_does.2.1 130 = .ok (.invokevirtual 81, 3) := by decide +kernel
theorem d_L_does_133 : decode mi_L_does.2.1 133 = .ok (.ireturn, 1) := by decide +kernel
theorem d_L_does_134 : decode mi_L_does.2.1 134 = .ok (.aload_n 0, 1) := by decide +kernel
theorem d_L_does_135 : decode mi_L_does.2.1 135 = .ok (.iload_n 2, 1) := by decide +kernel
theorem d_L_does_136 : decode mi_L_does.2.1 136 = .ok (.iload_n 3, 1) := by decide +kernel
theorem d_L_does_137 : decode mi_L_does.2.1 137 = .ok (.iload_n 2, 1) := by decide +kernel
theorem d_L_does_138 : decode mi_L_does.2.1 138 = .ok (.iconst 1, 1) := by decide +kernel
theorem d_L_does_139 : decode mi_L_does.2.1 139 = .ok (.iadd, 1) := by decide +kernel
theorem d_L_does_140 : decode mi_L_does.2.1 140 = .ok (.iload_n 3, 1) := by decide +kernel
theorem d_L_does_141 : decode mi_L_does.2.1 141 = .ok (.invokevirtual 81, 3) := by decide +kernel
theorem d_L_does_144 : decode mi_L_does.2.1 144 = .ok (.ireturn, 1) := by decide +kernel
theorem d_L_does_145 : decode mi_L_does.2.1 145 = .ok (.aload_n 0, 1) := by decide +kernel
theorem d_L_does_146 : decode mi_L_does.2.1 146 = .ok (.iload_n 2, 1) := by decide +kernel
theorem d_L_does_147 : decode mi_L_does.2.1 147 = .ok (.iload_n 3, 1) := by decide +kernel
theorem d_L_does_148 : decode mi_L_does.2.1 148 = .ok (.invokevirtual 85, 3) := by decide +kernel
theorem d_L_does_151 : decode mi_L_does.2.1 151 = .ok (.ireturn, 1) := by decide +kernel
theorem d_L_does_152 : decode mi_L_does.2.1 152 = .ok (.aload_n 0, 1) := by decide +kernel
theorem d_L_does_153 : decode mi_L_does.2.1 153 = .ok (.iload_n 2, 1) := by decide +kernel
theorem d_L_does_154 : decode mi_L_does.2.1 154 = .ok (.iload_n 3, 1) := by decide +kernel
theorem d_L_does_155 : decode mi_L_does.2.1 155 = .ok (.invokevirtual 88, 3) := by decide +kernel
theorem d_L_does_158 : decode mi_L_does.2.1 158 = .ok (.ireturn, 1) := by decide +kernel
theorem d_L_does_159 : decode mi_L_does.2.1 159 = .ok (.iload_n 1, 1) := by decide +kernel
theorem d_L_does_160 : decode mi_L_does.2.1 160 = .ok (.bipush 10, 2) := by decide +kernel
theorem d_L_does_162 : decode mi_L_does.2.1 162 = .ok (.ishr, 1) := by decide +kernel
theorem d_L_does_163 : decode mi_L_does.2.1 163 = .ok (.iconst 3, 1) := by decide +kernel
theorem d_L_does_164 : decode mi_L_does.2.1 164 = .ok (.iand, 1) := by decide +kernel
theorem d_L_does_165 : decode mi_L_does.2.1 165 = .ok (.ifCond .ne 10, 3) := by decide +kernel
theorem d_L_does_168 : decode mi_L_does.2.1 168 = .ok (.aload_n 0, 1) := by decide +kernel
theorem d_L_does_169 : decode mi_L_does.2.1 169 = .ok (.invokevirtual 91, 3) := by decide +kernel
theorem d_L_does_172 : decode mi_L_does.2.1 172 = .ok (.goto 9, 3) := by decide +kernel
theorem d_L_does_175 : decode mi_L_does.2.1 175 = .ok (.aload_n 0, 1) := by decide +kernel
theorem d_L_does_176 : decode mi_L_does.2.1 176 = .ok (.iload_n 2, 1) := by decide +kernel
theorem d_L_does_177 : decode mi_L_does.2.1 177 = .ok (.iload_n 3, 1) := by decide +kernel
theorem d_L_does_178 : decode mi_L_does.2.1 178 = .ok (.invokevirtual 94, 3) := by decide +kernel
theorem d_L_does_181 : decode mi_L_does.2.1 181 = .ok (.ireturn, 1) := by decide +kernel
theorem d_L_does_182 : decode mi_L_does.2.1 182 = .ok (.aload_n 0, 1) := by decide +kernel
theorem d_L_does_183 : decode mi_L_does.2.1 183 = .ok (.iload_n 2, 1) := by decide +kernel
theorem d_L_does_184 : decode mi_L_does.2.1 184 = .ok (.iload_n 3, 1) := by decide +kernel
theorem d_L_does_185 : decode mi_L_does.2.1 185 = .ok (.invokevirtual 94, 3) := by decide +kernel
theorem d_L_does_188 : decode mi_L_does.2.1 188 = .ok (.ireturn, 1) := by decide +kernel
theorem d_L_holds_0 : decode mi_L_holds.2.1 0 = .ok (.aload_n 0, 1) := by decide +kernel
theorem d_L_holds_1 : decode mi_L_holds.2.1 1 = .ok (.iconst 2, 1) := by decide +kernel
theorem d_L_holds_2 : decode mi_L_holds.2.1 2 = .ok (.invokevirtual 63, 3) := by decide +kernel
theorem d_L_holds_5 : decode mi_L_holds.2.1 5 = .ok (.istore_n 1, 1) := by decide +kernel
theorem d_L_holds_6 : decode mi_L_holds.2.1 6 = .ok (.aload_n 0, 1) := by decide +kernel
theorem d_L_holds_7 : decode mi_L_holds.2.1 7 = .ok (.invokevirtual 97, 3) := by decide +kernel
theorem d_L_holds_10 : decode mi_L_holds.2.1 10 = .ok (.istore_n 2, 1) := by decide +kernel
theorem d_L_holds_11 : decode mi_L_holds.2.1 11 = .ok (.aload_n 0, 1) := by decide +kernel
theorem d_L_holds_12 : decode mi_L_holds.2.1 12 = .ok (.invokevirtual 53, 3) := by decide +kernel
theorem d_L_holds_15 : decode mi_L_holds.2.1 15 = .ok (.aload_n 0, 1) := by decide +kernel
theorem d_L_holds_16 : decode mi_L_holds.2.1 16 = .ok (.invokevirtual 100, 3) := by decide +kernel
theorem d_L_holds_19 : decode mi_L_holds.2.1 19 = .ok (.if_icmp .gt 20, 3) := by decide +kernel
theorem d_L_holds_22 : decode mi_L_holds.2.1 22 = .ok (.iload_n 1, 1) := by decide +kernel
theorem d_L_holds_23 : decode mi_L_holds.2.1 23 = .ok (.ifCond .lt 12, 3) := by decide +kernel
theorem d_L_holds_26 : decode mi_L_holds.2.1 26 = .ok (.iload_n 2, 1) := by decide +kernel
theorem d_L_holds_27 : decode mi_L_holds.2.1 27 = .ok (.ifCond .lt 12, 3) := by decide +kernel
theorem d_L_holds_30 : decode mi_L_holds.2.1 30 = .ok (.iload_n 1, 1) := by decide +kernel
theorem d_L_holds_31 : decode mi_L_holds.2.1 31 = .ok (.iload_n 2, 1) := by decide +kernel
theorem d_L_holds_32 : decode mi_L_holds.2.1 32 = .ok (.if_icmp .lt 7, 3) := by decide +kernel
theorem d_L_holds_35 : decode mi_L_holds.2.1 35 = .ok (.iconst 1, 1) := by decide +kernel
theorem d_L_holds_36 : decode mi_L_holds.2.1 36 = .ok (.goto 4, 3) := by decide +kernel
theorem d_L_holds_39 : decode mi_L_holds.2.1 39 = .ok (.iconst 0, 1) := by decide +kernel
theorem d_L_holds_40 : decode mi_L_holds.2.1 40 = .ok (.istore_n 3, 1) := by decide +kernel
theorem d_L_holds_41 : decode mi_L_holds.2.1 41 = .ok (.iload_n 3, 1) := by decide +kernel
theorem d_L_holds_42 : decode mi_L_holds.2.1 42 = .ok (.ifCond .eq 38, 3) := by decide +kernel
theorem d_L_holds_45 : decode mi_L_holds.2.1 45 = .ok (.aload_n 0, 1) := by decide +kernel
theorem d_L_holds_46 : decode mi_L_holds.2.1 46 = .ok (.invokevirtual 100, 3) := by decide +kernel
theorem d_L_holds_49 : decode mi_L_holds.2.1 49 = .ok (.ifCond .ne 7, 3) := by decide +kernel
theorem d_L_holds_52 : decode mi_L_holds.2.1 52 = .ok (.iconst 1, 1) := by decide +kernel
theorem d_L_holds_53 : decode mi_L_holds.2.1 53 = .ok (.goto 4, 3) := by decide +kernel
theorem d_L_holds_56 : decode mi_L_holds.2.1 56 = .ok (.iconst 0, 1) := by decide +kernel
theorem d_L_holds_57 : decode mi_L_holds.2.1 57 = .ok (.iload_n 2, 1) := by decide +kernel
theorem d_L_holds_58 : decode mi_L_holds.2.1 58 = .ok (.ifCond .ne 7, 3) := by decide +kernel
theorem d_L_holds_61 : decode mi_L_holds.2.1 61 = .ok (.iconst 1, 1) := by decide +kernel
theorem d_L_holds_62 : decode mi_L_holds.2.1 62 = .ok (.goto 4, 3) := by decide +kernel
theorem d_L_holds_65 : decode mi_L_holds.2.1 65 = .ok (.iconst 0, 1) := by decide +kernel
theorem d_L_holds_66 : decode mi_L_holds.2.1 66 = .ok (.if_icmp .ne 14, 3) := by decide +kernel
theorem d_L_holds_69 : decode mi_L_holds.2.1 69 = .ok (.aload_n 0, 1) := by decide +kernel
theorem d_L_holds_70 : decode mi_L_holds.2.1 70 = .ok (.invokevirtual 68, 3) := by decide +kernel
theorem d_L_holds_73 : decode mi_L_holds.2.1 73 = .ok (.ifCond .lt 7, 3) := by decide +kernel
theorem d_L_holds_76 : decode mi_L_holds.2.1 76 = .ok (.iconst 1, 1) := by decide +kernel
theorem d_L_holds_77 : decode mi_L_holds.2.1 77 = .ok (.goto 4, 3) := by decide +kernel
theorem d_L_holds_80 : decode mi_L_holds.2.1 80 = .ok (.iconst 0, 1) := by decide +kernel
theorem d_L_holds_81 : decode mi_L_holds.2.1 81 = .ok (.ireturn, 1) := by decide +kernel
theorem d_L_law_0 : decode code 0 = .ok (.new 19, 3) := by decide +kernel
theorem d_L_law_3 : decode code 3 = .ok (.dup, 1) := by decide +kernel
theorem d_L_law_4 : decode code 4 = .ok (.invokespecial 103, 3) := by decide +kernel
theorem d_L_law_7 : decode code 7 = .ok (.astore_n 1, 1) := by decide +kernel
theorem d_L_law_8 : decode code 8 = .ok (.bipush 64, 2) := by decide +kernel
theorem d_L_law_10 : decode code 10 = .ok (.newarray .int, 2) := by decide +kernel
theorem d_L_law_12 : decode code 12 = .ok (.astore_n 2, 1) := by decide +kernel
theorem d_L_law_13 : decode code 13 = .ok (.aload_n 1, 1) := by decide +kernel
theorem d_L_law_14 : decode code 14 = .ok (.invokevirtual 104, 3) := by decide +kernel
theorem d_L_law_17 : decode code 17 = .ok (.bipush (-2), 2) := by decide +kernel
theorem d_L_law_19 : decode code 19 = .ok (.if_icmp .ne 12, 3) := by decide +kernel
theorem d_L_law_22 : decode code 22 = .ok (.aload_n 1, 1) := by decide +kernel
theorem d_L_law_23 : decode code 23 = .ok (.invokevirtual 91, 3) := by decide +kernel
theorem d_L_law_26 : decode code 26 = .ok (.bipush (-2), 2) := by decide +kernel
theorem d_L_law_28 : decode code 28 = .ok (.if_icmp .eq 5, 3) := by decide +kernel
theorem d_L_law_31 : decode code 31 = .ok (.iconst 0, 1) := by decide +kernel
theorem d_L_law_32 : decode code 32 = .ok (.ireturn, 1) := by decide +kernel
theorem d_L_law_33 : decode code 33 = .ok (.aload_n 1, 1) := by decide +kernel
theorem d_L_law_34 : decode code 34 = .ok (.invokestatic 107, 3) := by decide +kernel
theorem d_L_law_37 : decode code 37 = .ok (.lstore_n 3, 1) := by decide +kernel
theorem d_L_law_38 : decode code 38 = .ok (.aload_n 1, 1) := by decide +kernel
theorem d_L_law_39 : decode code 39 = .ok (.aload_n 0, 1) := by decide +kernel
theorem d_L_law_40 : decode code 40 = .ok (.bipush 50, 2) := by decide +kernel
theorem d_L_law_42 : decode code 42 = .ok (.aload_n 2, 1) := by decide +kernel
theorem d_L_law_43 : decode code 43 = .ok (.invokestatic 111, 3) := by decide +kernel
theorem d_L_law_46 : decode code 46 = .ok (.aload_n 1, 1) := by decide +kernel
theorem d_L_law_47 : decode code 47 = .ok (.invokevirtual 115, 3) := by decide +kernel
theorem d_L_law_50 : decode code 50 = .ok (.aload_n 2, 1) := by decide +kernel
theorem d_L_law_51 : decode code 51 = .ok (.invokestatic 118, 3) := by decide +kernel
theorem d_L_law_54 : decode code 54 = .ok (.if_icmp .ne 19, 3) := by decide +kernel
theorem d_L_law_57 : decode code 57 = .ok (.aload_n 1, 1) := by decide +kernel
theorem d_L_law_58 : decode code 58 = .ok (.invokevirtual 104, 3) := by decide +kernel
theorem d_L_law_61 : decode code 61 = .ok (.ifCond .ne 12, 3) := by decide +kernel
theorem d_L_law_64 : decode code 64 = .ok (.aload_n 1, 1) := by decide +kernel
theorem d_L_law_65 : decode code 65 = .ok (.invokestatic 107, 3) := by decide +kernel
theorem d_L_law_68 : decode code 68 = .ok (.lload_n 3, 1) := by decide +kernel
theorem d_L_law_69 : decode code 69 = .ok (.lcmp, 1) := by decide +kernel
theorem d_L_law_70 : decode code 70 = .ok (.ifCond .eq 5, 3) := by decide +kernel
theorem d_L_law_73 : decode code 73 = .ok (.iconst 0, 1) := by decide +kernel
theorem d_L_law_74 : decode code 74 = .ok (.ireturn, 1) := by decide +kernel
theorem d_L_law_75 : decode code 75 = .ok (.aload_n 1, 1) := by decide +kernel
theorem d_L_law_76 : decode code 76 = .ok (.aload_n 0, 1) := by decide +kernel
theorem d_L_law_77 : decode code 77 = .ok (.bipush 50, 2) := by decide +kernel
theorem d_L_law_79 : decode code 79 = .ok (.aload_n 2, 1) := by decide +kernel
theorem d_L_law_80 : decode code 80 = .ok (.invokestatic 111, 3) := by decide +kernel
theorem d_L_law_83 : decode code 83 = .ok (.aload_n 1, 1) := by decide +kernel
theorem d_L_law_84 : decode code 84 = .ok (.invokevirtual 115, 3) := by decide +kernel
theorem d_L_law_87 : decode code 87 = .ok (.aload_n 2, 1) := by decide +kernel
theorem d_L_law_88 : decode code 88 = .ok (.invokestatic 118, 3) := by decide +kernel
theorem d_L_law_91 : decode code 91 = .ok (.if_icmp .eq 5, 3) := by decide +kernel
theorem d_L_law_94 : decode code 94 = .ok (.iconst 0, 1) := by decide +kernel
theorem d_L_law_95 : decode code 95 = .ok (.ireturn, 1) := by decide +kernel
theorem d_L_law_96 : decode code 96 = .ok (.iconst 1, 1) := by decide +kernel
theorem d_L_law_97 : decode code 97 = .ok (.istore 5, 2) := by decide +kernel
theorem d_L_law_99 : decode code 99 = .ok (.iconst 0, 1) := by decide +kernel
theorem d_L_law_100 : decode code 100 = .ok (.istore 6, 2) := by decide +kernel
theorem d_L_law_102 : decode code 102 = .ok (.iload 6, 2) := by decide +kernel
theorem d_L_law_104 : decode code 104 = .ok (.bipush 30, 2) := by decide +kernel
theorem d_L_law_106 : decode code 106 = .ok (.if_icmp .ge 132, 3) := by decide +kernel
theorem d_L_law_109 : decode code 109 = .ok (.aload_n 0, 1) := by decide +kernel
theorem d_L_law_110 : decode code 110 = .ok (.iload 6, 2) := by decide +kernel
theorem d_L_law_112 : decode code 112 = .ok (.invokestatic 8, 3) := by decide +kernel
theorem d_L_law_115 : decode code 115 = .ok (.istore 7, 2) := by decide +kernel
theorem d_L_law_117 : decode code 117 = .ok (.aload_n 1, 1) := by decide +kernel
theorem d_L_law_118 : decode code 118 = .ok (.invokestatic 107, 3) := by decide +kernel
theorem d_L_law_121 : decode code 121 = .ok (.lstore 8, 2) := by decide +kernel
theorem d_L_law_123 : decode code 123 = .ok (.aload_n 1, 1) := by decide +kernel
theorem d_L_law_124 : decode code 124 = .ok (.iload 7, 2) := by decide +kernel
theorem d_L_law_126 : decode code 126 = .ok (.invokestatic 122, 3) := by decide +kernel
theorem d_L_law_129 : decode code 129 = .ok (.istore 10, 2) := by decide +kernel
theorem d_L_law_131 : decode code 131 = .ok (.iload 10, 2) := by decide +kernel
theorem d_L_law_133 : decode code 133 = .ok (.ifCond .ge 13, 3) := by decide +kernel
theorem d_L_law_136 : decode code 136 = .ok (.aload_n 1, 1) := by decide +kernel
theorem d_L_law_137 : decode code 137 = .ok (.invokestatic 107, 3) := by decide +kernel
theorem d_L_law_140 : decode code 140 = .ok (.lload 8, 2) := by decide +kernel
theorem d_L_law_142 : decode code 142 = .ok (.lcmp, 1) := by decide +kernel
theorem d_L_law_143 : decode code 143 = .ok (.ifCond .ne 18, 3) := by decide +kernel
theorem d_L_law_146 : decode code 146 = .ok (.iload 6, 2) := by decide +kernel
theorem d_L_law_148 : decode code 148 = .ok (.bipush 6, 2) := by decide +kernel
theorem d_L_law_150 : decode code 150 = .ok (.irem, 1) := by decide +kernel
theorem d_L_law_151 : decode code 151 = .ok (.ifCond .ne 12, 3) := by decide +kernel
theorem d_L_law_154 : decode code 154 = .ok (.aload_n 1, 1) := by decide +kernel
theorem d_L_law_155 : decode code 155 = .ok (.invokestatic 126, 3) := by decide +kernel
theorem d_L_law_158 : decode code 158 = .ok (.ifCond .ne 5, 3) := by decide +kernel
theorem d_L_law_161 : decode code 161 = .ok (.iconst 0, 1) := by decide +kernel
theorem d_L_law_162 : decode code 162 = .ok (.ireturn, 1) := by decide +kernel
theorem d_L_law_163 : decode code 163 = .ok (.iload 10, 2) := by decide +kernel
theorem d_L_law_165 : decode code 165 = .ok (.ifCond .ge 8, 3) := by decide +kernel
theorem d_L_law_168 : decode code 168 = .ok (.iload 5, 2) := by decide +kernel
theorem d_L_law_170 : decode code 170 = .ok (.goto 19, 3) := by decide +kernel
theorem d_L_law_173 : decode code 173 = .ok (.iload 5, 2) := by decide +kernel
theorem d_L_law_175 : decode code 175 = .ok (.bipush 8, 2) := by decide +kernel
theorem d_L_law_177 : decode code 177 = .ok (.if_icmp .ge 10, 3) := by decide +kernel
theorem d_L_law_180 : decode code 180 = .ok (.iload 5, 2) := by decide +kernel
theorem d_L_law_182 : decode code 182 = .ok (.iconst 1, 1) := by decide +kernel
theorem d_L_law_183 : decode code 183 = .ok (.iadd, 1) := by decide +kernel
theorem d_L_law_184 : decode code 184 = .ok (.goto 5, 3) := by decide +kernel
theorem d_L_law_187 : decode code 187 = .ok (.bipush 8, 2) := by decide +kernel
theorem d_L_law_189 : decode code 189 = .ok (.istore 5, 2) := by decide +kernel
theorem d_L_law_191 : decode code 191 = .ok (.iload 10, 2) := by decide +kernel
theorem d_L_law_193 : decode code 193 = .ok (.ifCond .lt 39, 3) := by decide +kernel
theorem d_L_law_196 : decode code 196 = .ok (.iload 7, 2) := by decide +kernel
theorem d_L_law_198 : decode code 198 = .ok (.bipush 25, 2) := by decide +kernel
theorem d_L_law_200 : decode code 200 = .ok (.ishr, 1) := by decide +kernel
theorem d_L_law_201 : decode code 201 = .ok (.iconst 3, 1) := by decide +kernel
theorem d_L_law_202 : decode code 202 = .ok (.iand, 1) := by decide +kernel
theorem d_L_law_203 : decode code 203 = .ok (.ifCond .ne 29, 3) := by decide +kernel
theorem d_L_law_206 : decode code 206 = .ok (.aload_n 1, 1) := by decide +kernel
theorem d_L_law_207 : decode code 207 = .ok (.invokevirtual 104, 3) := by decide +kernel
theorem d_L_law_210 : decode code 210 = .ok (.iload 5, 2) := by decide +kernel
theorem d_L_law_212 : decode code 212 = .ok (.iconst 1, 1) := by decide +kernel
theorem d_L_law_213 : decode code 213 = .ok (.isub, 1) := by decide +kernel
theorem d_L_law_214 : decode code 214 = .ok (.if_icmp .ne 13, 3) := by decide +kernel
theorem d_L_law_217 : decode code 217 = .ok (.aload_n 1, 1) := by decide +kernel
theorem d_L_law_218 : decode code 218 = .ok (.invokestatic 107, 3) := by decide +kernel
theorem d_L_law_221 : decode code 221 = .ok (.lload 8, 2) := by decide +kernel
theorem d_L_law_223 : decode code 223 = .ok (.lcmp, 1) := by decide +kernel
theorem d_L_law_224 : decode code 224 = .ok (.ifCond .eq 5, 3) := by decide +kernel
theorem d_L_law_227 : decode code 227 = .ok (.iconst 0, 1) := by decide +kernel
theorem d_L_law_228 : decode code 228 = .ok (.ireturn, 1) := by decide +kernel
theorem d_L_law_229 : decode code 229 = .ok (.iinc 5 (-1), 3) := by decide +kernel
theorem d_L_law_232 : decode code 232 = .ok (.iinc 6 1, 3) := by decide +kernel
theorem d_L_law_235 : decode code 235 = .ok (.goto (-133), 3) := by decide +kernel
theorem d_L_law_238 : decode code 238 = .ok (.aload_n 1, 1) := by decide +kernel
theorem d_L_law_239 : decode code 239 = .ok (.invokestatic 126, 3) := by decide +kernel
theorem d_L_law_242 : decode code 242 = .ok (.ifCond .ne 5, 3) := by decide +kernel
theorem d_L_law_245 : decode code 245 = .ok (.iconst 0, 1) := by decide +kernel
theorem d_L_law_246 : decode code 246 = .ok (.ireturn, 1) := by decide +kernel
theorem d_L_law_247 : decode code 247 = .ok (.aload_n 1, 1) := by decide +kernel
theorem d_L_law_248 : decode code 248 = .ok (.invokestatic 107, 3) := by decide +kernel
theorem d_L_law_251 : decode code 251 = .ok (.lstore 6, 2) := by decide +kernel
theorem d_L_law_253 : decode code 253 = .ok (.aload_n 1, 1) := by decide +kernel
theorem d_L_law_254 : decode code 254 = .ok (.invokevirtual 18, 3) := by decide +kernel
theorem d_L_law_257 : decode code 257 = .ok (.pop, 1) := by decide +kernel
theorem d_L_law_258 : decode code 258 = .ok (.aload_n 1, 1) := by decide +kernel
theorem d_L_law_259 : decode code 259 = .ok (.bipush 115, 2) := by decide +kernel
theorem d_L_law_261 : decode code 261 = .ok (.invokevirtual 24, 3) := by decide +kernel
theorem d_L_law_264 : decode code 264 = .ok (.pop, 1) := by decide +kernel
theorem d_L_law_265 : decode code 265 = .ok (.aload_n 1, 1) := by decide +kernel
theorem d_L_law_266 : decode code 266 = .ok (.invokevirtual 115, 3) := by decide +kernel
theorem d_L_law_269 : decode code 269 = .ok (.bipush (-11), 2) := by decide +kernel
theorem d_L_law_271 : decode code 271 = .ok (.if_icmp .ne 54, 3) := by decide +kernel
theorem d_L_law_274 : decode code 274 = .ok (.aload_n 1, 1) := by decide +kernel
theorem d_L_law_275 : decode code 275 = .ok (.invokestatic 107, 3) := by decide +kernel
theorem d_L_law_278 : decode code 278 = .ok (.lload 6, 2) := by decide +kernel
theorem d_L_law_280 : decode code 280 = .ok (.lcmp, 1) := by decide +kernel
theorem d_L_law_281 : decode code 281 = .ok (.ifCond .ne 44, 3) := by decide +kernel
theorem d_L_law_284 : decode code 284 = .ok (.aload_n 1, 1) := by decide +kernel
theorem d_L_law_285 : decode code 285 = .ok (.invokevirtual 18, 3) := by decide +kernel
theorem d_L_law_288 : decode code 288 = .ok (.iconst 1, 1) := by decide +kernel
theorem d_L_law_289 : decode code 289 = .ok (.if_icmp .ne 36, 3) := by decide +kernel
theorem d_L_law_292 : decode code 292 = .ok (.aload_n 1, 1) := by decide +kernel
theorem d_L_law_293 : decode code 293 = .ok (.iconst (-1), 1) := by decide +kernel
theorem d_L_law_294 : decode code 294 = .ok (.invokevirtual 24, 3) := by decide +kernel
theorem d_L_law_297 : decode code 297 = .ok (.iconst (-1), 1) := by decide +kernel
theorem d_L_law_298 : decode code 298 = .ok (.if_icmp .ne 27, 3) := by decide +kernel
theorem d_L_law_301 : decode code 301 = .ok (.aload_n 1, 1) := by decide +kernel
theorem d_L_law_302 : decode code 302 = .ok (.iconst 4, 1) := by decide +kernel
theorem d_L_law_303 : decode code 303 = .ok (.iconst 1, 1) := by decide +kernel
theorem d_L_law_304 : decode code 304 = .ok (.invokevirtual 130, 3) := by decide +kernel
theorem d_L_law_307 : decode code 307 = .ok (.iconst (-1), 1) := by decide +kernel
theorem d_L_law_308 : decode code 308 = .ok (.if_icmp .ne 17, 3) := by decide +kernel
theorem d_L_law_311 : decode code 311 = .ok (.aload_n 1, 1) := by decide +kernel
theorem d_L_law_312 : decode code 312 = .ok (.invokestatic 107, 3) := by decide +kernel
theorem d_L_law_315 : decode code 315 = .ok (.lload 6, 2) := by decide +kernel
theorem d_L_law_317 : decode code 317 = .ok (.lcmp, 1) := by decide +kernel
theorem d_L_law_318 : decode code 318 = .ok (.ifCond .ne 7, 3) := by decide +kernel
theorem d_L_law_321 : decode code 321 = .ok (.iconst 1, 1) := by decide +kernel
theorem d_L_law_322 : decode code 322 = .ok (.goto 4, 3) := by decide +kernel
theorem d_L_law_325 : decode code 325 = .ok (.iconst 0, 1) := by decide +kernel
theorem d_L_law_326 : decode code 326 = .ok (.ireturn, 1) := by decide +kernel
