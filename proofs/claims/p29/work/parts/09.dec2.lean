/-! decode rows: printed by wip/whole/gen07.py -/
theorem d_N_init_0 : decode mi_N_init.2.1 0 = .ok (.aload_n 0, 1) := by decide +kernel
theorem d_N_init_1 : decode mi_N_init.2.1 1 = .ok (.invokespecial 5, 3) := by decide +kernel
theorem d_N_init_4 : decode mi_N_init.2.1 4 = .ok (.aload_n 0, 1) := by decide +kernel
theorem d_N_init_5 : decode mi_N_init.2.1 5 = .ok (.sipush 136, 3) := by decide +kernel
theorem d_N_init_8 : decode mi_N_init.2.1 8 = .ok (.newarray .int, 2) := by decide +kernel
theorem d_N_init_10 : decode mi_N_init.2.1 10 = .ok (.putfield 11, 3) := by decide +kernel
theorem d_N_init_13 : decode mi_N_init.2.1 13 = .ok (.aload_n 0, 1) := by decide +kernel
theorem d_N_init_14 : decode mi_N_init.2.1 14 = .ok (.sipush 746, 3) := by decide +kernel
theorem d_N_init_17 : decode mi_N_init.2.1 17 = .ok (.newarray .int, 2) := by decide +kernel
theorem d_N_init_19 : decode mi_N_init.2.1 19 = .ok (.putfield 15, 3) := by decide +kernel
theorem d_N_init_22 : decode mi_N_init.2.1 22 = .ok (.aload_n 0, 1) := by decide +kernel
theorem d_N_init_23 : decode mi_N_init.2.1 23 = .ok (.sipush 746, 3) := by decide +kernel
theorem d_N_init_26 : decode mi_N_init.2.1 26 = .ok (.newarray .int, 2) := by decide +kernel
theorem d_N_init_28 : decode mi_N_init.2.1 28 = .ok (.putfield 18, 3) := by decide +kernel
theorem d_N_init_31 : decode mi_N_init.2.1 31 = .ok (.aload_n 0, 1) := by decide +kernel
theorem d_N_init_32 : decode mi_N_init.2.1 32 = .ok (.sipush 746, 3) := by decide +kernel
theorem d_N_init_35 : decode mi_N_init.2.1 35 = .ok (.newarray .int, 2) := by decide +kernel
theorem d_N_init_37 : decode mi_N_init.2.1 37 = .ok (.putfield 21, 3) := by decide +kernel
theorem d_N_init_40 : decode mi_N_init.2.1 40 = .ok (.aload_n 0, 1) := by decide +kernel
theorem d_N_init_41 : decode mi_N_init.2.1 41 = .ok (.sipush 746, 3) := by decide +kernel
theorem d_N_init_44 : decode mi_N_init.2.1 44 = .ok (.newarray .int, 2) := by decide +kernel
theorem d_N_init_46 : decode mi_N_init.2.1 46 = .ok (.putfield 24, 3) := by decide +kernel
theorem d_N_init_49 : decode mi_N_init.2.1 49 = .ok (.aload_n 0, 1) := by decide +kernel
theorem d_N_init_50 : decode mi_N_init.2.1 50 = .ok (.sipush 136, 3) := by decide +kernel
theorem d_N_init_53 : decode mi_N_init.2.1 53 = .ok (.newarray .int, 2) := by decide +kernel
theorem d_N_init_55 : decode mi_N_init.2.1 55 = .ok (.putfield 27, 3) := by decide +kernel
theorem d_N_init_58 : decode mi_N_init.2.1 58 = .ok (.aload_n 0, 1) := by decide +kernel
theorem d_N_init_59 : decode mi_N_init.2.1 59 = .ok (.sipush 136, 3) := by decide +kernel
theorem d_N_init_62 : decode mi_N_init.2.1 62 = .ok (.newarray .int, 2) := by decide +kernel
theorem d_N_init_64 : decode mi_N_init.2.1 64 = .ok (.putfield 30, 3) := by decide +kernel
theorem d_N_init_67 : decode mi_N_init.2.1 67 = .ok (.aload_n 0, 1) := by decide +kernel
theorem d_N_init_68 : decode mi_N_init.2.1 68 = .ok (.sipush 136, 3) := by decide +kernel
theorem d_N_init_71 : decode mi_N_init.2.1 71 = .ok (.newarray .int, 2) := by decide +kernel
theorem d_N_init_73 : decode mi_N_init.2.1 73 = .ok (.putfield 33, 3) := by decide +kernel
theorem d_N_init_76 : decode mi_N_init.2.1 76 = .ok (.aload_n 0, 1) := by decide +kernel
theorem d_N_init_77 : decode mi_N_init.2.1 77 = .ok (.iconst 0, 1) := by decide +kernel
theorem d_N_init_78 : decode mi_N_init.2.1 78 = .ok (.putfield 36, 3) := by decide +kernel
theorem d_N_init_81 : decode mi_N_init.2.1 81 = .ok (.aload_n 0, 1) := by decide +kernel
theorem d_N_init_82 : decode mi_N_init.2.1 82 = .ok (.iconst 0, 1) := by decide +kernel
theorem d_N_init_83 : decode mi_N_init.2.1 83 = .ok (.putfield 40, 3) := by decide +kernel
theorem d_N_init_86 : decode mi_N_init.2.1 86 = .ok (.aload_n 0, 1) := by decide +kernel
theorem d_N_init_87 : decode mi_N_init.2.1 87 = .ok (.iconst 0, 1) := by decide +kernel
theorem d_N_init_88 : decode mi_N_init.2.1 88 = .ok (.putfield 43, 3) := by decide +kernel
theorem d_N_init_91 : decode mi_N_init.2.1 91 = .ok (.return_, 1) := by decide +kernel
theorem d_N_build_0 : decode mi_N_build.2.1 0 = .ok (.aload_n 0, 1) := by decide +kernel
theorem d_N_build_1 : decode mi_N_build.2.1 1 = .ok (.iconst 0, 1) := by decide +kernel
theorem d_N_build_2 : decode mi_N_build.2.1 2 = .ok (.putfield 36, 3) := by decide +kernel
theorem d_N_build_5 : decode mi_N_build.2.1 5 = .ok (.iconst 0, 1) := by decide +kernel
theorem d_N_build_6 : decode mi_N_build.2.1 6 = .ok (.istore 4, 2) := by decide +kernel
theorem d_N_build_8 : decode mi_N_build.2.1 8 = .ok (.iload 4, 2) := by decide +kernel
theorem d_N_build_10 : decode mi_N_build.2.1 10 = .ok (.sipush 136, 3) := by decide +kernel
theorem d_N_build_13 : decode mi_N_build.2.1 13 = .ok (.if_icmp .ge 17, 3) := by decide +kernel
theorem d_N_build_16 : decode mi_N_build.2.1 16 = .ok (.aload_n 0, 1) := by decide +kernel
theorem d_N_build_17 : decode mi_N_build.2.1 17 = .ok (.getfield 11, 3) := by decide +kernel
theorem d_N_build_20 : decode mi_N_build.2.1 20 = .ok (.iload 4, 2) := by decide +kernel
theorem d_N_build_22 : decode mi_N_build.2.1 22 = .ok (.iconst (-1), 1) := by decide +kernel
theorem d_N_build_23 : decode mi_N_build.2.1 23 = .ok (.iastore, 1) := by decide +kernel
theorem d_N_build_24 : decode mi_N_build.2.1 24 = .ok (.iinc 4 1, 3) := by decide +kernel
theorem d_N_build_27 : decode mi_N_build.2.1 27 = .ok (.goto (-19), 3) := by decide +kernel
theorem d_N_build_30 : decode mi_N_build.2.1 30 = .ok (.iconst 0, 1) := by decide +kernel
theorem d_N_build_31 : decode mi_N_build.2.1 31 = .ok (.istore 4, 2) := by decide +kernel
theorem d_N_build_33 : decode mi_N_build.2.1 33 = .ok (.iload 4, 2) := by decide +kernel
theorem d_N_build_35 : decode mi_N_build.2.1 35 = .ok (.bipush 36, 2) := by decide +kernel
theorem d_N_build_37 : decode mi_N_build.2.1 37 = .ok (.if_icmp .ge 19, 3) := by decide +kernel
theorem d_N_build_40 : decode mi_N_build.2.1 40 = .ok (.aload_n 0, 1) := by decide +kernel
theorem d_N_build_41 : decode mi_N_build.2.1 41 = .ok (.iconst 0, 1) := by decide +kernel
theorem d_N_build_42 : decode mi_N_build.2.1 42 = .ok (.iconst 2, 1) := by decide +kernel
theorem d_N_build_43 : decode mi_N_build.2.1 43 = .ok (.iload 4, 2) := by decide +kernel
theorem d_N_build_45 : decode mi_N_build.2.1 45 = .ok (.iadd, 1) := by decide +kernel
theorem d_N_build_46 : decode mi_N_build.2.1 46 = .ok (.iconst 0, 1) := by decide +kernel
theorem d_N_build_47 : decode mi_N_build.2.1 47 = .ok (.invokevirtual 46, 3) := by decide +kernel
theorem d_N_build_50 : decode mi_N_build.2.1 50 = .ok (.iinc 4 1, 3) := by decide +kernel
theorem d_N_build_53 : decode mi_N_build.2.1 53 = .ok (.goto (-20), 3) := by decide +kernel
theorem d_N_build_56 : decode mi_N_build.2.1 56 = .ok (.aload_n 0, 1) := by decide +kernel
theorem d_N_build_57 : decode mi_N_build.2.1 57 = .ok (.aload_n 1, 1) := by decide +kernel
theorem d_N_build_58 : decode mi_N_build.2.1 58 = .ok (.iload_n 3, 1) := by decide +kernel
theorem d_N_build_59 : decode mi_N_build.2.1 59 = .ok (.invokevirtual 50, 3) := by decide +kernel
theorem d_N_build_62 : decode mi_N_build.2.1 62 = .ok (.aload_n 0, 1) := by decide +kernel
theorem d_N_build_63 : decode mi_N_build.2.1 63 = .ok (.aload_n 1, 1) := by decide +kernel
theorem d_N_build_64 : decode mi_N_build.2.1 64 = .ok (.invokevirtual 54, 3) := by decide +kernel
theorem d_N_build_67 : decode mi_N_build.2.1 67 = .ok (.aload_n 0, 1) := by decide +kernel
theorem d_N_build_68 : decode mi_N_build.2.1 68 = .ok (.aload_n 0, 1) := by decide +kernel
theorem d_N_build_69 : decode mi_N_build.2.1 69 = .ok (.getfield 36, 3) := by decide +kernel
theorem d_N_build_72 : decode mi_N_build.2.1 72 = .ok (.putfield 40, 3) := by decide +kernel
theorem d_N_build_75 : decode mi_N_build.2.1 75 = .ok (.aload_n 0, 1) := by decide +kernel
theorem d_N_build_76 : decode mi_N_build.2.1 76 = .ok (.aload_n 1, 1) := by decide +kernel
theorem d_N_build_77 : decode mi_N_build.2.1 77 = .ok (.aload_n 2, 1) := by decide +kernel
theorem d_N_build_78 : decode mi_N_build.2.1 78 = .ok (.invokevirtual 58, 3) := by decide +kernel
theorem d_N_build_81 : decode mi_N_build.2.1 81 = .ok (.return_, 1) := by decide +kernel
theorem d_N_connectPins_0 : decode mi_N_connectPins.2.1 0 = .ok (.iconst 0, 1) := by decide +kernel
theorem d_N_connectPins_1 : decode mi_N_connectPins.2.1 1 = .ok (.istore_n 3, 1) := by decide +kernel
theorem d_N_connectPins_2 : decode mi_N_connectPins.2.1 2 = .ok (.iload_n 3, 1) := by decide +kernel
theorem d_N_connectPins_3 : decode mi_N_connectPins.2.1 3 = .ok (.aload_n 1, 1) := by decide +kernel
theorem d_N_connectPins_4 : decode mi_N_connectPins.2.1 4 = .ok (.getfield 62, 3) := by decide +kernel
theorem d_N_connectPins_7 : decode mi_N_connectPins.2.1 7 = .ok (.if_icmp .ge 124, 3) := by decide +kernel
theorem d_N_connectPins_10 : decode mi_N_connectPins.2.1 10 = .ok (.iconst 0, 1) := by decide +kernel
theorem d_N_connectPins_11 : decode mi_N_connectPins.2.1 11 = .ok (.istore 4, 2) := by decide +kernel
theorem d_N_connectPins_13 : decode mi_N_connectPins.2.1 13 = .ok (.iload 4, 2) := by decide +kernel
theorem d_N_connectPins_15 : decode mi_N_connectPins.2.1 15 = .ok (.aload_n 1, 1) := by decide +kernel
theorem d_N_connectPins_16 : decode mi_N_connectPins.2.1 16 = .ok (.getfield 67, 3) := by decide +kernel
theorem d_N_connectPins_19 : decode mi_N_connectPins.2.1 19 = .ok (.if_icmp .ge 106, 3) := by decide +kernel
theorem d_N_connectPins_22 : decode mi_N_connectPins.2.1 22 = .ok (.iload_n 3, 1) := by decide +kernel
theorem d_N_connectPins_23 : decode mi_N_connectPins.2.1 23 = .ok (.iload 4, 2) := by decide +kernel
theorem d_N_connectPins_25 : decode mi_N_connectPins.2.1 25 = .ok (.invokestatic 70, 3) := by decide +kernel
theorem d_N_connectPins_28 : decode mi_N_connectPins.2.1 28 = .ok (.istore 5, 2) := by decide +kernel
theorem d_N_connectPins_30 : decode mi_N_connectPins.2.1 30 = .ok (.aload_n 1, 1) := by decide +kernel
theorem d_N_connectPins_31 : decode mi_N_connectPins.2.1 31 = .ok (.getfield 74, 3) := by decide +kernel
theorem d_N_connectPins_34 : decode mi_N_connectPins.2.1 34 = .ok (.iload 5, 2) := by decide +kernel
theorem d_N_connectPins_36 : decode mi_N_connectPins.2.1 36 = .ok (.iaload, 1) := by decide +kernel
theorem d_N_connectPins_37 : decode mi_N_connectPins.2.1 37 = .ok (.iconst 1, 1) := by decide +kernel
theorem d_N_connectPins_38 : decode mi_N_connectPins.2.1 38 = .ok (.if_icmp .ne 81, 3) := by decide +kernel
theorem d_N_connectPins_41 : decode mi_N_connectPins.2.1 41 = .ok (.iconst 2, 1) := by decide +kernel
theorem d_N_connectPins_42 : decode mi_N_connectPins.2.1 42 = .ok (.iload 5, 2) := by decide +kernel
theorem d_N_connectPins_44 : decode mi_N_connectPins.2.1 44 = .ok (.iadd, 1) := by decide +kernel
theorem d_N_connectPins_45 : decode mi_N_connectPins.2.1 45 = .ok (.istore 6, 2) := by decide +kernel
theorem d_N_connectPins_47 : decode mi_N_connectPins.2.1 47 = .ok (.aload_n 0, 1) := by decide +kernel
theorem d_N_connectPins_48 : decode mi_N_connectPins.2.1 48 = .ok (.iload 6, 2) := by decide +kernel
theorem d_N_connectPins_50 : decode mi_N_connectPins.2.1 50 = .ok (.bipush 38, 2) := by decide +kernel
theorem d_N_connectPins_52 : decode mi_N_connectPins.2.1 52 = .ok (.iload_n 3, 1) := by decide +kernel
theorem d_N_connectPins_53 : decode mi_N_connectPins.2.1 53 = .ok (.iload 4, 2) := by decide +kernel
theorem d_N_connectPins_55 : decode mi_N_connectPins.2.1 55 = .ok (.invokestatic 77, 3) := by decide +kernel
theorem d_N_connectPins_58 : decode mi_N_connectPins.2.1 58 = .ok (.iadd, 1) := by decide +kernel
theorem d_N_connectPins_59 : decode mi_N_connectPins.2.1 59 = .ok (.iload_n 2, 1) := by decide +kernel
theorem d_N_connectPins_60 : decode mi_N_connectPins.2.1 60 = .ok (.invokevirtual 46, 3) := by decide +kernel
theorem d_N_connectPins_63 : decode mi_N_connectPins.2.1 63 = .ok (.aload_n 0, 1) := by decide +kernel
theorem d_N_connectPins_64 : decode mi_N_connectPins.2.1 64 = .ok (.iload 6, 2) := by decide +kernel
theorem d_N_connectPins_66 : decode mi_N_connectPins.2.1 66 = .ok (.bipush 38, 2) := by decide +kernel
theorem d_N_connectPins_68 : decode mi_N_connectPins.2.1 68 = .ok (.iload_n 3, 1) := by decide +kernel
theorem d_N_connectPins_69 : decode mi_N_connectPins.2.1 69 = .ok (.iload 4, 2) := by decide +kernel
theorem d_N_connectPins_71 : decode mi_N_connectPins.2.1 71 = .ok (.iconst 1, 1) := by decide +kernel
theorem d_N_connectPins_72 : decode mi_N_connectPins.2.1 72 = .ok (.iadd, 1) := by decide +kernel
theorem d_N_connectPins_73 : decode mi_N_connectPins.2.1 73 = .ok (.invokestatic 77, 3) := by decide +kernel
theorem d_N_connectPins_76 : decode mi_N_connectPins.2.1 76 = .ok (.iadd, 1) := by decide +kernel
theorem d_N_connectPins_77 : decode mi_N_connectPins.2.1 77 = .ok (.iload_n 2, 1) := by decide +kernel
theorem d_N_connectPins_78 : decode mi_N_connectPins.2.1 78 = .ok (.invokevirtual 46, 3) := by decide +kernel
theorem d_N_connectPins_81 : decode mi_N_connectPins.2.1 81 = .ok (.aload_n 0, 1) := by decide +kernel
theorem d_N_connectPins_82 : decode mi_N_connectPins.2.1 82 = .ok (.iload 6, 2) := by decide +kernel
theorem d_N_connectPins_84 : decode mi_N_connectPins.2.1 84 = .ok (.bipush 38, 2) := by decide +kernel
theorem d_N_connectPins_86 : decode mi_N_connectPins.2.1 86 = .ok (.iload_n 3, 1) := by decide +kernel
theorem d_N_connectPins_87 : decode mi_N_connectPins.2.1 87 = .ok (.iconst 1, 1) := by decide +kernel
theorem d_N_connectPins_88 : decode mi_N_connectPins.2.1 88 = .ok (.iadd, 1) := by decide +kernel
theorem d_N_connectPins_89 : decode mi_N_connectPins.2.1 89 = .ok (.iload 4, 2) := by decide +kernel
theorem d_N_connectPins_91 : decode mi_N_connectPins.2.1 91 = .ok (.invokestatic 77, 3) := by decide +kernel
theorem d_N_connectPins_94 : decode mi_N_connectPins.2.1 94 = .ok (.iadd, 1) := by decide +kernel
theorem d_N_connectPins_95 : decode mi_N_connectPins.2.1 95 = .ok (.iload_n 2, 1) := by decide +kernel
theorem d_N_connectPins_96 : decode mi_N_connectPins.2.1 96 = .ok (.invokevirtual 46, 3) := by decide +kernel
theorem d_N_connectPins_99 : decode mi_N_connectPins.2.1 99 = .ok (.aload_n 0, 1) := by decide +kernel
theorem d_N_connectPins_100 : decode mi_N_connectPins.2.1 100 = .ok (.iload 6, 2) := by decide +kernel
theorem d_N_connectPins_102 : decode mi_N_connectPins.2.1 102 = .ok (.bipush 38, 2) := by decide +kernel
theorem d_N_connectPins_104 : decode mi_N_connectPins.2.1 104 = .ok (.iload_n 3, 1) := by decide +kernel
theorem d_N_connectPins_105 : decode mi_N_connectPins.2.1 105 = .ok (.iconst 1, 1) := by decide +kernel
theorem d_N_connectPins_106 : decode mi_N_connectPins.2.1 106 = .ok (.iadd, 1) := by decide +kernel
theorem d_N_connectPins_107 : decode mi_N_connectPins.2.1 107 = .ok (.iload 4, 2) := by decide +kernel
theorem d_N_connectPins_109 : decode mi_N_connectPins.2.1 109 = .ok (.iconst 1, 1) := by decide +kernel
theorem d_N_connectPins_110 : decode mi_N_connectPins.2.1 110 = .ok (.iadd, 1) := by decide +kernel
theorem d_N_connectPins_111 : decode mi_N_connectPins.2.1 111 = .ok (.invokestatic 77, 3) := by decide +kernel
theorem d_N_connectPins_114 : decode mi_N_connectPins.2.1 114 = .ok (.iadd, 1) := by decide +kernel
theorem d_N_connectPins_115 : decode mi_N_connectPins.2.1 115 = .ok (.iload_n 2, 1) := by decide +kernel
theorem d_N_connectPins_116 : decode mi_N_connectPins.2.1 116 = .ok (.invokevirtual 46, 3) := by decide +kernel
theorem d_N_connectPins_119 : decode mi_N_connectPins.2.1 119 = .ok (.iinc 4 1, 3) := by decide +kernel
theorem d_N_connectPins_122 : decode mi_N_connectPins.2.1 122 = .ok (.goto (-109), 3) := by decide +kernel
theorem d_N_connectPins_125 : decode mi_N_connectPins.2.1 125 = .ok (.iinc 3 1, 3) := by decide +kernel
theorem d_N_connectPins_128 : decode mi_N_connectPins.2.1 128 = .ok (.goto (-126), 3) := by decide +kernel
theorem d_N_connectPins_131 : decode mi_N_connectPins.2.1 131 = .ok (.return_, 1) := by decide +kernel
theorem d_N_connectTiles_0 : decode mi_N_connectTiles.2.1 0 = .ok (.iconst 0, 1) := by decide +kernel
theorem d_N_connectTiles_1 : decode mi_N_connectTiles.2.1 1 = .ok (.istore_n 2, 1) := by decide +kernel
theorem d_N_connectTiles_2 : decode mi_N_connectTiles.2.1 2 = .ok (.iload_n 2, 1) := by decide +kernel
theorem d_N_connectTiles_3 : decode mi_N_connectTiles.2.1 3 = .ok (.aload_n 1, 1) := by decide +kernel
theorem d_N_connectTiles_4 : decode mi_N_connectTiles.2.1 4 = .ok (.getfield 62, 3) := by decide +kernel
theorem d_N_connectTiles_7 : decode mi_N_connectTiles.2.1 7 = .ok (.if_icmp .gt 86, 3) := by decide +kernel
theorem d_N_connectTiles_10 : decode mi_N_connectTiles.2.1 10 = .ok (.iconst 0, 1) := by decide +kernel
theorem d_N_connectTiles_11 : decode mi_N_connectTiles.2.1 11 = .ok (.istore_n 3, 1) := by decide +kernel
theorem d_N_connectTiles_12 : decode mi_N_connectTiles.2.1 12 = .ok (.iload_n 3, 1) := by decide +kernel
theorem d_N_connectTiles_13 : decode mi_N_connectTiles.2.1 13 = .ok (.aload_n 1, 1) := by decide +kernel
theorem d_N_connectTiles_14 : decode mi_N_connectTiles.2.1 14 = .ok (.getfield 67, 3) := by decide +kernel
theorem d_N_connectTiles_17 : decode mi_N_connectTiles.2.1 17 = .ok (.if_icmp .gt 70, 3) := by decide +kernel
theorem d_N_connectTiles_20 : decode mi_N_connectTiles.2.1 20 = .ok (.iload_n 2, 1) := by decide +kernel
theorem d_N_connectTiles_21 : decode mi_N_connectTiles.2.1 21 = .ok (.iload_n 3, 1) := by decide +kernel
theorem d_N_connectTiles_22 : decode mi_N_connectTiles.2.1 22 = .ok (.invokestatic 77, 3) := by decide +kernel
theorem d_N_connectTiles_25 : decode mi_N_connectTiles.2.1 25 = .ok (.istore 4, 2) := by decide +kernel
theorem d_N_connectTiles_27 : decode mi_N_connectTiles.2.1 27 = .ok (.aload_n 0, 1) := by decide +kernel
theorem d_N_connectTiles_28 : decode mi_N_connectTiles.2.1 28 = .ok (.bipush 38, 2) := by decide +kernel
theorem d_N_connectTiles_30 : decode mi_N_connectTiles.2.1 30 = .ok (.iload 4, 2) := by decide +kernel
theorem d_N_connectTiles_32 : decode mi_N_connectTiles.2.1 32 = .ok (.iadd, 1) := by decide +kernel
theorem d_N_connectTiles_33 : decode mi_N_connectTiles.2.1 33 = .ok (.bipush 87, 2) := by decide +kernel
theorem d_N_connectTiles_35 : decode mi_N_connectTiles.2.1 35 = .ok (.iload 4, 2) := by decide +kernel
theorem d_N_connectTiles_37 : decode mi_N_connectTiles.2.1 37 = .ok (.iadd, 1) := by decide +kernel
theorem d_N_connectTiles_38 : decode mi_N_connectTiles.2.1 38 = .ok (.aload_n 1, 1) := by decide +kernel
theorem d_N_connectTiles_39 : decode mi_N_connectTiles.2.1 39 = .ok (.getfield 80, 3) := by decide +kernel
theorem d_N_connectTiles_42 : decode mi_N_connectTiles.2.1 42 = .ok (.invokevirtual 46, 3) := by decide +kernel
theorem d_N_connectTiles_45 : decode mi_N_connectTiles.2.1 45 = .ok (.iload_n 2, 1) := by decide +kernel
theorem d_N_connectTiles_46 : decode mi_N_connectTiles.2.1 46 = .ok (.ifCond .eq 23, 3) := by decide +kernel
theorem d_N_connectTiles_49 : decode mi_N_connectTiles.2.1 49 = .ok (.iload_n 2, 1) := by decide +kernel
theorem d_N_connectTiles_50 : decode mi_N_connectTiles.2.1 50 = .ok (.aload_n 1, 1) := by decide +kernel
theorem d_N_connectTiles_51 : decode mi_N_connectTiles.2.1 51 = .ok (.getfield 62, 3) := by decide +kernel
theorem d_N_connectTiles_54 : decode mi_N_connectTiles.2.1 54 = .ok (.if_icmp .eq 15, 3) := by decide +kernel
theorem d_N_connectTiles_57 : decode mi_N_connectTiles.2.1 57 = .ok (.iload_n 3, 1) := by decide +kernel
theorem d_N_connectTiles_58 : decode mi_N_connectTiles.2.1 58 = .ok (.ifCond .eq 11, 3) := by decide +kernel
theorem d_N_connectTiles_61 : decode mi_N_connectTiles.2.1 61 = .ok (.iload_n 3, 1) := by decide +kernel
theorem d_N_connectTiles_62 : decode mi_N_connectTiles.2.1 62 = .ok (.aload_n 1, 1) := by decide +kernel
theorem d_N_connectTiles_63 : decode mi_N_connectTiles.2.1 63 = .ok (.getfield 67, 3) := by decide +kernel
theorem d_N_connectTiles_66 : decode mi_N_connectTiles.2.1 66 = .ok (.if_icmp .ne 15, 3) := by decide +kernel
theorem d_N_connectTiles_69 : decode mi_N_connectTiles.2.1 69 = .ok (.aload_n 0, 1) := by decide +kernel
theorem d_N_connectTiles_70 : decode mi_N_connectTiles.2.1 70 = .ok (.bipush 87, 2) := by decide +kernel
theorem d_N_connectTiles_72 : decode mi_N_connectTiles.2.1 72 = .ok (.iload 4, 2) := by decide +kernel
theorem d_N_connectTiles_74 : decode mi_N_connectTiles.2.1 74 = .ok (.iadd, 1) := by decide +kernel
theorem d_N_connectTiles_75 : decode mi_N_connectTiles.2.1 75 = .ok (.iconst 1, 1) := by decide +kernel
theorem d_N_connectTiles_76 : decode mi_N_connectTiles.2.1 76 = .ok (.ldc 83, 2) := by decide +kernel
theorem d_N_connectTiles_78 : decode mi_N_connectTiles.2.1 78 = .ok (.invokevirtual 46, 3) := by decide +kernel
theorem d_N_connectTiles_81 : decode mi_N_connectTiles.2.1 81 = .ok (.iinc 3 1, 3) := by decide +kernel
theorem d_N_connectTiles_84 : decode mi_N_connectTiles.2.1 84 = .ok (.goto (-72), 3) := by decide +kernel
theorem d_N_connectTiles_87 : decode mi_N_connectTiles.2.1 87 = .ok (.iinc 2 1, 3) := by decide +kernel
theorem d_N_connectTiles_90 : decode mi_N_connectTiles.2.1 90 = .ok (.goto (-88), 3) := by decide +kernel
theorem d_N_connectTiles_93 : decode mi_N_connectTiles.2.1 93 = .ok (.return_, 1) := by decide +kernel
theorem d_N_connectChannels_0 : decode mi_N_connectChannels.2.1 0 = .ok (.iconst 0, 1) := by decide +kernel
theorem d_N_connectChannels_1 : decode mi_N_connectChannels.2.1 1 = .ok (.istore_n 3, 1) := by decide +kernel
theorem d_N_connectChannels_2 : decode mi_N_connectChannels.2.1 2 = .ok (.iload_n 3, 1) := by decide +kernel
theorem d_N_connectChannels_3 : decode mi_N_connectChannels.2.1 3 = .ok (.aload_n 1, 1) := by decide +kernel
theorem d_N_connectChannels_4 : decode mi_N_connectChannels.2.1 4 = .ok (.getfield 62, 3) := by decide +kernel
theorem d_N_connectChannels_7 : decode mi_N_connectChannels.2.1 7 = .ok (.if_icmp .ge 165, 3) := by decide +kernel
theorem d_N_connectChannels_10 : decode mi_N_connectChannels.2.1 10 = .ok (.iconst 0, 1) := by decide +kernel
theorem d_N_connectChannels_11 : decode mi_N_connectChannels.2.1 11 = .ok (.istore 4, 2) := by decide +kernel
theorem d_N_connectChannels_13 : decode mi_N_connectChannels.2.1 13 = .ok (.iload 4, 2) := by decide +kernel
theorem d_N_connectChannels_15 : decode mi_N_connectChannels.2.1 15 = .ok (.aload_n 1, 1) := by decide +kernel
theorem d_N_connectChannels_16 : decode mi_N_connectChannels.2.1 16 = .ok (.getfield 67, 3) := by decide +kernel
theorem d_N_connectChannels_19 : decode mi_N_connectChannels.2.1 19 = .ok (.if_icmp .ge 147, 3) := by decide +kernel
theorem d_N_connectChannels_22 : decode mi_N_connectChannels.2.1 22 = .ok (.iload_n 3, 1) := by decide +kernel
theorem d_N_connectChannels_23 : decode mi_N_connectChannels.2.1 23 = .ok (.iload 4, 2) := by decide +kernel
theorem d_N_connectChannels_25 : decode mi_N_connectChannels.2.1 25 = .ok (.invokestatic 70, 3) := by decide +kernel
theorem d_N_connectChannels_28 : decode mi_N_connectChannels.2.1 28 = .ok (.istore 5, 2) := by decide +kernel
theorem d_N_connectChannels_30 : decode mi_N_connectChannels.2.1 30 = .ok (.iload_n 3, 1) := by decide +kernel
theorem d_N_connectChannels_31 : decode mi_N_connectChannels.2.1 31 = .ok (.iconst 1, 1) := by decide +kernel
theorem d_N_connectChannels_32 : decode mi_N_connectChannels.2.1 32 = .ok (.iadd, 1) := by decide +kernel
theorem d_N_connectChannels_33 : decode mi_N_connectChannels.2.1 33 = .ok (.iload 4, 2) := by decide +kernel
theorem d_N_connectChannels_35 : decode mi_N_connectChannels.2.1 35 = .ok (.iconst 1, 1) := by decide +kernel
theorem d_N_connectChannels_36 : decode mi_N_connectChannels.2.1 36 = .ok (.iadd, 1) := by decide +kernel
theorem d_N_connectChannels_37 : decode mi_N_connectChannels.2.1 37 = .ok (.invokestatic 77, 3) := by decide +kernel
theorem d_N_connectChannels_40 : decode mi_N_connectChannels.2.1 40 = .ok (.istore 6, 2) := by decide +kernel
theorem d_N_connectChannels_42 : decode mi_N_connectChannels.2.1 42 = .ok (.aload_n 1, 1) := by decide +kernel
theorem d_N_connectChannels_43 : decode mi_N_connectChannels.2.1 43 = .ok (.getfield 84, 3) := by decide +kernel
theorem d_N_connectChannels_46 : decode mi_N_connectChannels.2.1 46 = .ok (.aload_n 2, 1) := by decide +kernel
theorem d_N_connectChannels_47 : decode mi_N_connectChannels.2.1 47 = .ok (.iload 5, 2) := by decide +kernel
theorem d_N_connectChannels_49 : decode mi_N_connectChannels.2.1 49 = .ok (.baload, 1) := by decide +kernel
theorem d_N_connectChannels_50 : decode mi_N_connectChannels.2.1 50 = .ok (.ifCond .eq 7, 3) := by decide +kernel
theorem d_N_connectChannels_53 : decode mi_N_connectChannels.2.1 53 = .ok (.iconst 1, 1) := by decide +kernel
theorem d_N_connectChannels_54 : decode mi_N_connectChannels.2.1 54 = .ok (.goto 4, 3) := by decide +kernel
theorem d_N_connectChannels_57 : decode mi_N_connectChannels.2.1 57 = .ok (.iconst 0, 1) := by decide +kernel
theorem d_N_connectChannels_58 : decode mi_N_connectChannels.2.1 58 = .ok (.iadd, 1) := by decide +kernel
theorem d_N_connectChannels_59 : decode mi_N_connectChannels.2.1 59 = .ok (.istore 7, 2) := by decide +kernel
theorem d_N_connectChannels_61 : decode mi_N_connectChannels.2.1 61 = .ok (.iload 4, 2) := by decide +kernel
theorem d_N_connectChannels_63 : decode mi_N_connectChannels.2.1 63 = .ok (.iconst 1, 1) := by decide +kernel
theorem d_N_connectChannels_64 : decode mi_N_connectChannels.2.1 64 = .ok (.iadd, 1) := by decide +kernel
theorem d_N_connectChannels_65 : decode mi_N_connectChannels.2.1 65 = .ok (.aload_n 1, 1) := by decide +kernel
theorem d_N_connectChannels_66 : decode mi_N_connectChannels.2.1 66 = .ok (.getfield 67, 3) := by decide +kernel
theorem d_N_connectChannels_69 : decode mi_N_connectChannels.2.1 69 = .ok (.if_icmp .ge 42, 3) := by decide +kernel
theorem d_N_connectChannels_72 : decode mi_N_connectChannels.2.1 72 = .ok (.aload_n 2, 1) := by decide +kernel
theorem d_N_connectChannels_73 : decode mi_N_connectChannels.2.1 73 = .ok (.iload_n 3, 1) := by decide +kernel
theorem d_N_connectChannels_74 : decode mi_N_connectChannels.2.1 74 = .ok (.iload 4, 2) := by decide +kernel
theorem d_N_connectChannels_76 : decode mi_N_connectChannels.2.1 76 = .ok (.iconst 1, 1) := by decide +kernel
theorem d_N_connectChannels_77 : decode mi_N_connectChannels.2.1 77 = .ok (.iadd, 1) := by decide +kernel
theorem d_N_connectChannels_78 : decode mi_N_connectChannels.2.1 78 = .ok (.invokestatic 70, 3) := by decide +kernel
theorem d_N_connectChannels_81 : decode mi_N_connectChannels.2.1 81 = .ok (.baload, 1) := by decide +kernel
theorem d_N_connectChannels_82 : decode mi_N_connectChannels.2.1 82 = .ok (.ifCond .eq 7, 3) := by decide +kernel
theorem d_N_connectChannels_85 : decode mi_N_connectChannels.2.1 85 = .ok (.iconst 1, 1) := by decide +kernel
theorem d_N_connectChannels_86 : decode mi_N_connectChannels.2.1 86 = .ok (.goto 4, 3) := by decide +kernel
theorem d_N_connectChannels_89 : decode mi_N_connectChannels.2.1 89 = .ok (.iconst 0, 1) := by decide +kernel
theorem d_N_connectChannels_90 : decode mi_N_connectChannels.2.1 90 = .ok (.istore 8, 2) := by decide +kernel
theorem d_N_connectChannels_92 : decode mi_N_connectChannels.2.1 92 = .ok (.aload_n 0, 1) := by decide +kernel
theorem d_N_connectChannels_93 : decode mi_N_connectChannels.2.1 93 = .ok (.iload_n 3, 1) := by decide +kernel
theorem d_N_connectChannels_94 : decode mi_N_connectChannels.2.1 94 = .ok (.iload 4, 2) := by decide +kernel
theorem d_N_connectChannels_96 : decode mi_N_connectChannels.2.1 96 = .ok (.iconst 1, 1) := by decide +kernel
theorem d_N_connectChannels_97 : decode mi_N_connectChannels.2.1 97 = .ok (.iadd, 1) := by decide +kernel
theorem d_N_connectChannels_98 : decode mi_N_connectChannels.2.1 98 = .ok (.invokestatic 77, 3) := by decide +kernel
theorem d_N_connectChannels_101 : decode mi_N_connectChannels.2.1 101 = .ok (.iload 6, 2) := by decide +kernel
theorem d_N_connectChannels_103 : decode mi_N_connectChannels.2.1 103 = .ok (.iload 7, 2) := by decide +kernel
theorem d_N_connectChannels_105 : decode mi_N_connectChannels.2.1 105 = .ok (.iload 8, 2) := by decide +kernel
theorem d_N_connectChannels_107 : decode mi_N_connectChannels.2.1 107 = .ok (.iadd, 1) := by decide +kernel
theorem d_N_connectChannels_108 : decode mi_N_connectChannels.2.1 108 = .ok (.invokevirtual 87, 3) := by decide +kernel
theorem d_N_connectChannels_111 : decode mi_N_connectChannels.2.1 111 = .ok (.iload_n 3, 1) := by decide +kernel
theorem d_N_connectChannels_112 : decode mi_N_connectChannels.2.1 112 = .ok (.iconst 1, 1) := by decide +kernel
theorem d_N_connectChannels_113 : decode mi_N_connectChannels.2.1 113 = .ok (.iadd, 1) := by decide +kernel
theorem d_N_connectChannels_114 : decode mi_N_connectChannels.2.1 114 = .ok (.aload_n 1, 1) := by decide +kernel
theorem d_N_connectChannels_115 : decode mi_N_connectChannels.2.1 115 = .ok (.getfield 62, 3) := by decide +kernel
theorem d_N_connectChannels_118 : decode mi_N_connectChannels.2.1 118 = .ok (.if_icmp .ge 42, 3) := by decide +kernel
theorem d_N_connectChannels_121 : decode mi_N_connectChannels.2.1 121 = .ok (.aload_n 2, 1) := by decide +kernel
theorem d_N_connectChannels_122 : decode mi_N_connectChannels.2.1 122 = .ok (.iload_n 3, 1) := by decide +kernel
theorem d_N_connectChannels_123 : decode mi_N_connectChannels.2.1 123 = .ok (.iconst 1, 1) := by decide +kernel
theorem d_N_connectChannels_124 : decode mi_N_connectChannels.2.1 124 = .ok (.iadd, 1) := by decide +kernel
theorem d_N_connectChannels_125 : decode mi_N_connectChannels.2.1 125 = .ok (.iload 4, 2) := by decide +kernel
theorem d_N_connectChannels_127 : decode mi_N_connectChannels.2.1 127 = .ok (.invokestatic 70, 3) := by decide +kernel
theorem d_N_connectChannels_130 : decode mi_N_connectChannels.2.1 130 = .ok (.baload, 1) := by decide +kernel
theorem d_N_connectChannels_131 : decode mi_N_connectChannels.2.1 131 = .ok (.ifCond .eq 7, 3) := by decide +kernel
theorem d_N_connectChannels_134 : decode mi_N_connectChannels.2.1 134 = .ok (.iconst 1, 1) := by decide +kernel
theorem d_N_connectChannels_135 : decode mi_N_connectChannels.2.1 135 = .ok (.goto 4, 3) := by decide +kernel
theorem d_N_connectChannels_138 : decode mi_N_connectChannels.2.1 138 = .ok (.iconst 0, 1) := by decide +kernel
theorem d_N_connectChannels_139 : decode mi_N_connectChannels.2.1 139 = .ok (.istore 8, 2) := by decide +kernel
theorem d_N_connectChannels_141 : decode mi_N_connectChannels.2.1 141 = .ok (.aload_n 0, 1) := by decide +kernel
theorem d_N_connectChannels_142 : decode mi_N_connectChannels.2.1 142 = .ok (.iload_n 3, 1) := by decide +kernel
theorem d_N_connectChannels_143 : decode mi_N_connectChannels.2.1 143 = .ok (.iconst 1, 1) := by decide +kernel
theorem d_N_connectChannels_144 : decode mi_N_connectChannels.2.1 144 = .ok (.iadd, 1) := by decide +kernel
theorem d_N_connectChannels_145 : decode mi_N_connectChannels.2.1 145 = .ok (.iload 4, 2) := by decide +kernel
theorem d_N_connectChannels_147 : decode mi_N_connectChannels.2.1 147 = .ok (.invokestatic 77, 3) := by decide +kernel
theorem d_N_connectChannels_150 : decode mi_N_connectChannels.2.1 150 = .ok (.iload 6, 2) := by decide +kernel
theorem d_N_connectChannels_152 : decode mi_N_connectChannels.2.1 152 = .ok (.iload 7, 2) := by decide +kernel
theorem d_N_connectChannels_154 : decode mi_N_connectChannels.2.1 154 = .ok (.iload 8, 2) := by decide +kernel
theorem d_N_connectChannels_156 : decode mi_N_connectChannels.2.1 156 = .ok (.iadd, 1) := by decide +kernel
theorem d_N_connectChannels_157 : decode mi_N_connectChannels.2.1 157 = .ok (.invokevirtual 87, 3) := by decide +kernel
theorem d_N_connectChannels_160 : decode mi_N_connectChannels.2.1 160 = .ok (.iinc 4 1, 3) := by decide +kernel
theorem d_N_connectChannels_163 : decode mi_N_connectChannels.2.1 163 = .ok (.goto (-150), 3) := by decide +kernel
theorem d_N_connectChannels_166 : decode mi_N_connectChannels.2.1 166 = .ok (.iinc 3 1, 3) := by decide +kernel
theorem d_N_connectChannels_169 : decode mi_N_connectChannels.2.1 169 = .ok (.goto (-167), 3) := by decide +kernel
theorem d_N_connectChannels_172 : decode mi_N_connectChannels.2.1 172 = .ok (.return_, 1) := by decide +kernel
theorem d_N_connectBothWays_0 : decode mi_N_connectBothWays.2.1 0 = .ok (.aload_n 0, 1) := by decide +kernel
theorem d_N_connectBothWays_1 : decode mi_N_connectBothWays.2.1 1 = .ok (.bipush 87, 2) := by decide +kernel
theorem d_N_connectBothWays_3 : decode mi_N_connectBothWays.2.1 3 = .ok (.iload_n 1, 1) := by decide +kernel
theorem d_N_connectBothWays_4 : decode mi_N_connectBothWays.2.1 4 = .ok (.iadd, 1) := by decide +kernel
theorem d_N_connectBothWays_5 : decode mi_N_connectBothWays.2.1 5 = .ok (.bipush 38, 2) := by decide +kernel
theorem d_N_connectBothWays_7 : decode mi_N_connectBothWays.2.1 7 = .ok (.iload_n 2, 1) := by decide +kernel
theorem d_N_connectBothWays_8 : decode mi_N_connectBothWays.2.1 8 = .ok (.iadd, 1) := by decide +kernel
theorem d_N_connectBothWays_9 : decode mi_N_connectBothWays.2.1 9 = .ok (.iload_n 3, 1) := by decide +kernel
theorem d_N_connectBothWays_10 : decode mi_N_connectBothWays.2.1 10 = .ok (.invokevirtual 46, 3) := by decide +kernel
theorem d_N_connectBothWays_13 : decode mi_N_connectBothWays.2.1 13 = .ok (.aload_n 0, 1) := by decide +kernel
theorem d_N_connectBothWays_14 : decode mi_N_connectBothWays.2.1 14 = .ok (.bipush 87, 2) := by decide +kernel
theorem d_N_connectBothWays_16 : decode mi_N_connectBothWays.2.1 16 = .ok (.iload_n 2, 1) := by decide +kernel
theorem d_N_connectBothWays_17 : decode mi_N_connectBothWays.2.1 17 = .ok (.iadd, 1) := by decide +kernel
theorem d_N_connectBothWays_18 : decode mi_N_connectBothWays.2.1 18 = .ok (.bipush 38, 2) := by decide +kernel
theorem d_N_connectBothWays_20 : decode mi_N_connectBothWays.2.1 20 = .ok (.iload_n 1, 1) := by decide +kernel
theorem d_N_connectBothWays_21 : decode mi_N_connectBothWays.2.1 21 = .ok (.iadd, 1) := by decide +kernel
theorem d_N_connectBothWays_22 : decode mi_N_connectBothWays.2.1 22 = .ok (.iload_n 3, 1) := by decide +kernel
theorem d_N_connectBothWays_23 : decode mi_N_connectBothWays.2.1 23 = .ok (.invokevirtual 46, 3) := by decide +kernel
theorem d_N_connectBothWays_26 : decode mi_N_connectBothWays.2.1 26 = .ok (.return_, 1) := by decide +kernel
theorem d_N_connect_0 : decode mi_N_connect.2.1 0 = .ok (.aload_n 0, 1) := by decide +kernel
theorem d_N_connect_1 : decode mi_N_connect.2.1 1 = .ok (.getfield 36, 3) := by decide +kernel
theorem d_N_connect_4 : decode mi_N_connect.2.1 4 = .ok (.istore 4, 2) := by decide +kernel
theorem d_N_connect_6 : decode mi_N_connect.2.1 6 = .ok (.iload 4, 2) := by decide +kernel
theorem d_N_connect_8 : decode mi_N_connect.2.1 8 = .ok (.iconst 1, 1) := by decide +kernel
theorem d_N_connect_9 : decode mi_N_connect.2.1 9 = .ok (.iadd, 1) := by decide +kernel
theorem d_N_connect_10 : decode mi_N_connect.2.1 10 = .ok (.istore 5, 2) := by decide +kernel
theorem d_N_connect_12 : decode mi_N_connect.2.1 12 = .ok (.iload 5, 2) := by decide +kernel
theorem d_N_connect_14 : decode mi_N_connect.2.1 14 = .ok (.sipush 746, 3) := by decide +kernel
theorem d_N_connect_17 : decode mi_N_connect.2.1 17 = .ok (.if_icmp .lt 4, 3) := by decide +kernel
theorem d_N_connect_20 : decode mi_N_connect.2.1 20 = .ok (.return_, 1) := by decide +kernel
theorem d_N_connect_21 : decode mi_N_connect.2.1 21 = .ok (.aload_n 0, 1) := by decide +kernel
theorem d_N_connect_22 : decode mi_N_connect.2.1 22 = .ok (.getfield 18, 3) := by decide +kernel
theorem d_N_connect_25 : decode mi_N_connect.2.1 25 = .ok (.iload 4, 2) := by decide +kernel
theorem d_N_connect_27 : decode mi_N_connect.2.1 27 = .ok (.iload_n 2, 1) := by decide +kernel
theorem d_N_connect_28 : decode mi_N_connect.2.1 28 = .ok (.iastore, 1) := by decide +kernel
theorem d_N_connect_29 : decode mi_N_connect.2.1 29 = .ok (.aload_n 0, 1) := by decide +kernel
theorem d_N_connect_30 : decode mi_N_connect.2.1 30 = .ok (.getfield 21, 3) := by decide +kernel
theorem d_N_connect_33 : decode mi_N_connect.2.1 33 = .ok (.iload 4, 2) := by decide +kernel
theorem d_N_connect_35 : decode mi_N_connect.2.1 35 = .ok (.iload_n 3, 1) := by decide +kernel
theorem d_N_connect_36 : decode mi_N_connect.2.1 36 = .ok (.iastore, 1) := by decide +kernel
theorem d_N_connect_37 : decode mi_N_connect.2.1 37 = .ok (.aload_n 0, 1) := by decide +kernel
theorem d_N_connect_38 : decode mi_N_connect.2.1 38 = .ok (.getfield 15, 3) := by decide +kernel
theorem d_N_connect_41 : decode mi_N_connect.2.1 41 = .ok (.iload 4, 2) := by decide +kernel
theorem d_N_connect_43 : decode mi_N_connect.2.1 43 = .ok (.aload_n 0, 1) := by decide +kernel
theorem d_N_connect_44 : decode mi_N_connect.2.1 44 = .ok (.getfield 11, 3) := by decide +kernel
theorem d_N_connect_47 : decode mi_N_connect.2.1 47 = .ok (.iload_n 1, 1) := by decide +kernel
theorem d_N_connect_48 : decode mi_N_connect.2.1 48 = .ok (.iaload, 1) := by decide +kernel
theorem d_N_connect_49 : decode mi_N_connect.2.1 49 = .ok (.iastore, 1) := by decide +kernel
theorem d_N_connect_50 : decode mi_N_connect.2.1 50 = .ok (.aload_n 0, 1) := by decide +kernel
theorem d_N_connect_51 : decode mi_N_connect.2.1 51 = .ok (.getfield 11, 3) := by decide +kernel
theorem d_N_connect_54 : decode mi_N_connect.2.1 54 = .ok (.iload_n 1, 1) := by decide +kernel
theorem d_N_connect_55 : decode mi_N_connect.2.1 55 = .ok (.iload 4, 2) := by decide +kernel
theorem d_N_connect_57 : decode mi_N_connect.2.1 57 = .ok (.iastore, 1) := by decide +kernel
theorem d_N_connect_58 : decode mi_N_connect.2.1 58 = .ok (.aload_n 0, 1) := by decide +kernel
theorem d_N_connect_59 : decode mi_N_connect.2.1 59 = .ok (.getfield 18, 3) := by decide +kernel
theorem d_N_connect_62 : decode mi_N_connect.2.1 62 = .ok (.iload 5, 2) := by decide +kernel
theorem d_N_connect_64 : decode mi_N_connect.2.1 64 = .ok (.iload_n 1, 1) := by decide +kernel
theorem d_N_connect_65 : decode mi_N_connect.2.1 65 = .ok (.iastore, 1) := by decide +kernel
theorem d_N_connect_66 : decode mi_N_connect.2.1 66 = .ok (.aload_n 0, 1) := by decide +kernel
theorem d_N_connect_67 : decode mi_N_connect.2.1 67 = .ok (.getfield 21, 3) := by decide +kernel
theorem d_N_connect_70 : decode mi_N_connect.2.1 70 = .ok (.iload 5, 2) := by decide +kernel
theorem d_N_connect_72 : decode mi_N_connect.2.1 72 = .ok (.iconst 0, 1) := by decide +kernel
theorem d_N_connect_73 : decode mi_N_connect.2.1 73 = .ok (.iastore, 1) := by decide +kernel
theorem d_N_connect_74 : decode mi_N_connect.2.1 74 = .ok (.aload_n 0, 1) := by decide +kernel
theorem d_N_connect_75 : decode mi_N_connect.2.1 75 = .ok (.getfield 15, 3) := by decide +kernel
theorem d_N_connect_78 : decode mi_N_connect.2.1 78 = .ok (.iload 5, 2) := by decide +kernel
theorem d_N_connect_80 : decode mi_N_connect.2.1 80 = .ok (.aload_n 0, 1) := by decide +kernel
theorem d_N_connect_81 : decode mi_N_connect.2.1 81 = .ok (.getfield 11, 3) := by decide +kernel
theorem d_N_connect_84 : decode mi_N_connect.2.1 84 = .ok (.iload_n 2, 1) := by decide +kernel
theorem d_N_connect_85 : decode mi_N_connect.2.1 85 = .ok (.iaload, 1) := by decide +kernel
theorem d_N_connect_86 : decode mi_N_connect.2.1 86 = .ok (.iastore, 1) := by decide +kernel
theorem d_N_connect_87 : decode mi_N_connect.2.1 87 = .ok (.aload_n 0, 1) := by decide +kernel
theorem d_N_connect_88 : decode mi_N_connect.2.1 88 = .ok (.getfield 11, 3) := by decide +kernel
theorem d_N_connect_91 : decode mi_N_connect.2.1 91 = .ok (.iload_n 2, 1) := by decide +kernel
theorem d_N_connect_92 : decode mi_N_connect.2.1 92 = .ok (.iload 5, 2) := by decide +kernel
theorem d_N_connect_94 : decode mi_N_connect.2.1 94 = .ok (.iastore, 1) := by decide +kernel
theorem d_N_connect_95 : decode mi_N_connect.2.1 95 = .ok (.aload_n 0, 1) := by decide +kernel
theorem d_N_connect_96 : decode mi_N_connect.2.1 96 = .ok (.dup, 1) := by decide +kernel
theorem d_N_connect_97 : decode mi_N_connect.2.1 97 = .ok (.getfield 36, 3) := by decide +kernel
theorem d_N_connect_100 : decode mi_N_connect.2.1 100 = .ok (.iconst 2, 1) := by decide +kernel
theorem d_N_connect_101 : decode mi_N_connect.2.1 101 = .ok (.iadd, 1) := by decide +kernel
theorem d_N_connect_102 : decode mi_N_connect.2.1 102 = .ok (.putfield 36, 3) := by decide +kernel
theorem d_N_connect_105 : decode mi_N_connect.2.1 105 = .ok (.return_, 1) := by decide +kernel
theorem d_N_supply_0 : decode mi_N_supply.2.1 0 = .ok (.aload_n 0, 1) := by decide +kernel
theorem d_N_supply_1 : decode mi_N_supply.2.1 1 = .ok (.getfield 21, 3) := by decide +kernel
theorem d_N_supply_4 : decode mi_N_supply.2.1 4 = .ok (.iconst 2, 1) := by decide +kernel
theorem d_N_supply_5 : decode mi_N_supply.2.1 5 = .ok (.iload_n 1, 1) := by decide +kernel
theorem d_N_supply_6 : decode mi_N_supply.2.1 6 = .ok (.imul, 1) := by decide +kernel
theorem d_N_supply_7 : decode mi_N_supply.2.1 7 = .ok (.iload_n 2, 1) := by decide +kernel
theorem d_N_supply_8 : decode mi_N_supply.2.1 8 = .ok (.iastore, 1) := by decide +kernel
theorem d_N_supply_9 : decode mi_N_supply.2.1 9 = .ok (.return_, 1) := by decide +kernel
theorem d_N_keepFlow_0 : decode mi_N_keepFlow.2.1 0 = .ok (.aload_n 0, 1) := by decide +kernel
theorem d_N_keepFlow_1 : decode mi_N_keepFlow.2.1 1 = .ok (.getfield 21, 3) := by decide +kernel
theorem d_N_keepFlow_4 : decode mi_N_keepFlow.2.1 4 = .ok (.iconst 0, 1) := by decide +kernel
theorem d_N_keepFlow_5 : decode mi_N_keepFlow.2.1 5 = .ok (.aload_n 0, 1) := by decide +kernel
theorem d_N_keepFlow_6 : decode mi_N_keepFlow.2.1 6 = .ok (.getfield 24, 3) := by decide +kernel
theorem d_N_keepFlow_9 : decode mi_N_keepFlow.2.1 9 = .ok (.iconst 0, 1) := by decide +kernel
theorem d_N_keepFlow_10 : decode mi_N_keepFlow.2.1 10 = .ok (.sipush 746, 3) := by decide +kernel
theorem d_N_keepFlow_13 : decode mi_N_keepFlow.2.1 13 = .ok (.invokestatic 90, 3) := by decide +kernel
theorem d_N_keepFlow_16 : decode mi_N_keepFlow.2.1 16 = .ok (.return_, 1) := by decide +kernel
theorem d_N_giveFlowBack_0 : decode mi_N_giveFlowBack.2.1 0 = .ok (.aload_n 0, 1) := by decide +kernel
theorem d_N_giveFlowBack_1 : decode mi_N_giveFlowBack.2.1 1 = .ok (.getfield 24, 3) := by decide +kernel
theorem d_N_giveFlowBack_4 : decode mi_N_giveFlowBack.2.1 4 = .ok (.iconst 0, 1) := by decide +kernel
theorem d_N_giveFlowBack_5 : decode mi_N_giveFlowBack.2.1 5 = .ok (.aload_n 0, 1) := by decide +kernel
theorem d_N_giveFlowBack_6 : decode mi_N_giveFlowBack.2.1 6 = .ok (.getfield 21, 3) := by decide +kernel
theorem d_N_giveFlowBack_9 : decode mi_N_giveFlowBack.2.1 9 = .ok (.iconst 0, 1) := by decide +kernel
theorem d_N_giveFlowBack_10 : decode mi_N_giveFlowBack.2.1 10 = .ok (.sipush 746, 3) := by decide +kernel
theorem d_N_giveFlowBack_13 : decode mi_N_giveFlowBack.2.1 13 = .ok (.invokestatic 90, 3) := by decide +kernel
theorem d_N_giveFlowBack_16 : decode mi_N_giveFlowBack.2.1 16 = .ok (.return_, 1) := by decide +kernel
theorem d_N_pushAll_0 : decode mi_N_pushAll.2.1 0 = .ok (.iconst 0, 1) := by decide +kernel
theorem d_N_pushAll_1 : decode mi_N_pushAll.2.1 1 = .ok (.istore_n 1, 1) := by decide +kernel
theorem d_N_pushAll_2 : decode mi_N_pushAll.2.1 2 = .ok (.iconst 0, 1) := by decide +kernel
theorem d_N_pushAll_3 : decode mi_N_pushAll.2.1 3 = .ok (.istore_n 2, 1) := by decide +kernel
theorem d_N_pushAll_4 : decode mi_N_pushAll.2.1 4 = .ok (.iload_n 2, 1) := by decide +kernel
theorem d_N_pushAll_5 : decode mi_N_pushAll.2.1 5 = .ok (.sipush 217, 3) := by decide +kernel
theorem d_N_pushAll_8 : decode mi_N_pushAll.2.1 8 = .ok (.if_icmp .ge 25, 3) := by decide +kernel
theorem d_N_pushAll_11 : decode mi_N_pushAll.2.1 11 = .ok (.aload_n 0, 1) := by decide +kernel
theorem d_N_pushAll_12 : decode mi_N_pushAll.2.1 12 = .ok (.invokevirtual 96, 3) := by decide +kernel
theorem d_N_pushAll_15 : decode mi_N_pushAll.2.1 15 = .ok (.istore_n 3, 1) := by decide +kernel
theorem d_N_pushAll_16 : decode mi_N_pushAll.2.1 16 = .ok (.iload_n 3, 1) := by decide +kernel
theorem d_N_pushAll_17 : decode mi_N_pushAll.2.1 17 = .ok (.ifCond .ne 6, 3) := by decide +kernel
theorem d_N_pushAll_20 : decode mi_N_pushAll.2.1 20 = .ok (.goto 13, 3) := by decide +kernel
theorem d_N_pushAll_23 : decode mi_N_pushAll.2.1 23 = .ok (.iload_n 1, 1) := by decide +kernel
theorem d_N_pushAll_24 : decode mi_N_pushAll.2.1 24 = .ok (.iload_n 3, 1) := by decide +kernel
theorem d_N_pushAll_25 : decode mi_N_pushAll.2.1 25 = .ok (.iadd, 1) := by decide +kernel
theorem d_N_pushAll_26 : decode mi_N_pushAll.2.1 26 = .ok (.istore_n 1, 1) := by decide +kernel
theorem d_N_pushAll_27 : decode mi_N_pushAll.2.1 27 = .ok (.iinc 2 1, 3) := by decide +kernel
theorem d_N_pushAll_30 : decode mi_N_pushAll.2.1 30 = .ok (.goto (-26), 3) := by decide +kernel
theorem d_N_pushAll_33 : decode mi_N_pushAll.2.1 33 = .ok (.iload_n 1, 1) := by decide +kernel
theorem d_N_pushAll_34 : decode mi_N_pushAll.2.1 34 = .ok (.ireturn, 1) := by decide +kernel
theorem d_N_push_0 : decode mi_N_push.2.1 0 = .ok (.aload_n 0, 1) := by decide +kernel
theorem d_N_push_1 : decode mi_N_push.2.1 1 = .ok (.invokevirtual 100, 3) := by decide +kernel
theorem d_N_push_4 : decode mi_N_push.2.1 4 = .ok (.ifCond .ne 5, 3) := by decide +kernel
theorem d_N_push_7 : decode mi_N_push.2.1 7 = .ok (.iconst 0, 1) := by decide +kernel
theorem d_N_push_8 : decode mi_N_push.2.1 8 = .ok (.ireturn, 1) := by decide +kernel
theorem d_N_push_9 : decode mi_N_push.2.1 9 = .ok (.ldc 83, 2) := by decide +kernel
theorem d_N_push_11 : decode mi_N_push.2.1 11 = .ok (.istore_n 1, 1) := by decide +kernel
theorem d_N_push_12 : decode mi_N_push.2.1 12 = .ok (.iconst 1, 1) := by decide +kernel
theorem d_N_push_13 : decode mi_N_push.2.1 13 = .ok (.istore_n 2, 1) := by decide +kernel
theorem d_N_push_14 : decode mi_N_push.2.1 14 = .ok (.iconst 0, 1) := by decide +kernel
theorem d_N_push_15 : decode mi_N_push.2.1 15 = .ok (.istore_n 3, 1) := by decide +kernel
theorem d_N_push_16 : decode mi_N_push.2.1 16 = .ok (.iload_n 3, 1) := by decide +kernel
theorem d_N_push_17 : decode mi_N_push.2.1 17 = .ok (.sipush 136, 3) := by decide +kernel
theorem d_N_push_20 : decode mi_N_push.2.1 20 = .ok (.if_icmp .ge 43, 3) := by decide +kernel
theorem d_N_push_23 : decode mi_N_push.2.1 23 = .ok (.iload_n 2, 1) := by decide +kernel
theorem d_N_push_24 : decode mi_N_push.2.1 24 = .ok (.ifCond .eq 39, 3) := by decide +kernel
theorem d_N_push_27 : decode mi_N_push.2.1 27 = .ok (.aload_n 0, 1) := by decide +kernel
theorem d_N_push_28 : decode mi_N_push.2.1 28 = .ok (.getfield 30, 3) := by decide +kernel
theorem d_N_push_31 : decode mi_N_push.2.1 31 = .ok (.iload_n 2, 1) := by decide +kernel
theorem d_N_push_32 : decode mi_N_push.2.1 32 = .ok (.iaload, 1) := by decide +kernel
theorem d_N_push_33 : decode mi_N_push.2.1 33 = .ok (.istore 4, 2) := by decide +kernel
theorem d_N_push_35 : decode mi_N_push.2.1 35 = .ok (.iload_n 1, 1) := by decide +kernel
theorem d_N_push_36 : decode mi_N_push.2.1 36 = .ok (.aload_n 0, 1) := by decide +kernel
theorem d_N_push_37 : decode mi_N_push.2.1 37 = .ok (.getfield 21, 3) := by decide +kernel
theorem d_N_push_40 : decode mi_N_push.2.1 40 = .ok (.iload 4, 2) := by decide +kernel
theorem d_N_push_42 : decode mi_N_push.2.1 42 = .ok (.iaload, 1) := by decide +kernel
theorem d_N_push_43 : decode mi_N_push.2.1 43 = .ok (.invokestatic 104, 3) := by decide +kernel
theorem d_N_push_46 : decode mi_N_push.2.1 46 = .ok (.istore_n 1, 1) := by decide +kernel
theorem d_N_push_47 : decode mi_N_push.2.1 47 = .ok (.aload_n 0, 1) := by decide +kernel
theorem d_N_push_48 : decode mi_N_push.2.1 48 = .ok (.getfield 18, 3) := by decide +kernel
theorem d_N_push_51 : decode mi_N_push.2.1 51 = .ok (.iload 4, 2) := by decide +kernel
theorem d_N_push_53 : decode mi_N_push.2.1 53 = .ok (.iconst 1, 1) := by decide +kernel
theorem d_N_push_54 : decode mi_N_push.2.1 54 = .ok (.ixor, 1) := by decide +kernel
theorem d_N_push_55 : decode mi_N_push.2.1 55 = .ok (.iaload, 1) := by decide +kernel
theorem d_N_push_56 : decode mi_N_push.2.1 56 = .ok (.istore_n 2, 1) := by decide +kernel
theorem d_N_push_57 : decode mi_N_push.2.1 57 = .ok (.iinc 3 1, 3) := by decide +kernel
theorem d_N_push_60 : decode mi_N_push.2.1 60 = .ok (.goto (-44), 3) := by decide +kernel
theorem d_N_push_63 : decode mi_N_push.2.1 63 = .ok (.iconst 1, 1) := by decide +kernel
theorem d_N_push_64 : decode mi_N_push.2.1 64 = .ok (.istore_n 2, 1) := by decide +kernel
theorem d_N_push_65 : decode mi_N_push.2.1 65 = .ok (.iconst 0, 1) := by decide +kernel
theorem d_N_push_66 : decode mi_N_push.2.1 66 = .ok (.istore_n 3, 1) := by decide +kernel
theorem d_N_push_67 : decode mi_N_push.2.1 67 = .ok (.iload_n 3, 1) := by decide +kernel
theorem d_N_push_68 : decode mi_N_push.2.1 68 = .ok (.sipush 136, 3) := by decide +kernel
theorem d_N_push_71 : decode mi_N_push.2.1 71 = .ok (.if_icmp .ge 55, 3) := by decide +kernel
theorem d_N_push_74 : decode mi_N_push.2.1 74 = .ok (.iload_n 2, 1) := by decide +kernel
theorem d_N_push_75 : decode mi_N_push.2.1 75 = .ok (.ifCond .eq 51, 3) := by decide +kernel
theorem d_N_push_78 : decode mi_N_push.2.1 78 = .ok (.aload_n 0, 1) := by decide +kernel
theorem d_N_push_79 : decode mi_N_push.2.1 79 = .ok (.getfield 30, 3) := by decide +kernel
theorem d_N_push_82 : decode mi_N_push.2.1 82 = .ok (.iload_n 2, 1) := by decide +kernel
theorem d_N_push_83 : decode mi_N_push.2.1 83 = .ok (.iaload, 1) := by decide +kernel
theorem d_N_push_84 : decode mi_N_push.2.1 84 = .ok (.istore 4, 2) := by decide +kernel
theorem d_N_push_86 : decode mi_N_push.2.1 86 = .ok (.aload_n 0, 1) := by decide +kernel
theorem d_N_push_87 : decode mi_N_push.2.1 87 = .ok (.getfield 21, 3) := by decide +kernel
theorem d_N_push_90 : decode mi_N_push.2.1 90 = .ok (.iload 4, 2) := by decide +kernel
theorem d_N_push_92 : decode mi_N_push.2.1 92 = .ok (.dup2, 1) := by decide +kernel
theorem d_N_push_93 : decode mi_N_push.2.1 93 = .ok (.iaload, 1) := by decide +kernel
theorem d_N_push_94 : decode mi_N_push.2.1 94 = .ok (.iload_n 1, 1) := by decide +kernel
theorem d_N_push_95 : decode mi_N_push.2.1 95 = .ok (.isub, 1) := by decide +kernel
theorem d_N_push_96 : decode mi_N_push.2.1 96 = .ok (.iastore, 1) := by decide +kernel
theorem d_N_push_97 : decode mi_N_push.2.1 97 = .ok (.aload_n 0, 1) := by decide +kernel
theorem d_N_push_98 : decode mi_N_push.2.1 98 = .ok (.getfield 21, 3) := by decide +kernel
theorem d_N_push_101 : decode mi_N_push.2.1 101 = .ok (.iload 4, 2) := by decide +kernel
theorem d_N_push_103 : decode mi_N_push.2.1 103 = .ok (.iconst 1, 1) := by decide +kernel
theorem d_N_push_104 : decode mi_N_push.2.1 104 = .ok (.ixor, 1) := by decide +kernel
theorem d_N_push_105 : decode mi_N_push.2.1 105 = .ok (.dup2, 1) := by decide +kernel
theorem d_N_push_106 : decode mi_N_push.2.1 106 = .ok (.iaload, 1) := by decide +kernel
theorem d_N_push_107 : decode mi_N_push.2.1 107 = .ok (.iload_n 1, 1) := by decide +kernel
theorem d_N_push_108 : decode mi_N_push.2.1 108 = .ok (.iadd, 1) := by decide +kernel
theorem d_N_push_109 : decode mi_N_push.2.1 109 = .ok (.iastore, 1) := by decide +kernel
theorem d_N_push_110 : decode mi_N_push.2.1 110 = .ok (.aload_n 0, 1) := by decide +kernel
theorem d_N_push_111 : decode mi_N_push.2.1 111 = .ok (.getfield 18, 3) := by decide +kernel
theorem d_N_push_114 : decode mi_N_push.2.1 114 = .ok (.iload 4, 2) := by decide +kernel
theorem d_N_push_116 : decode mi_N_push.2.1 116 = .ok (.iconst 1, 1) := by decide +kernel
theorem d_N_push_117 : decode mi_N_push.2.1 117 = .ok (.ixor, 1) := by decide +kernel
theorem d_N_push_118 : decode mi_N_push.2.1 118 = .ok (.iaload, 1) := by decide +kernel
theorem d_N_push_119 : decode mi_N_push.2.1 119 = .ok (.istore_n 2, 1) := by decide +kernel
theorem d_N_push_120 : decode mi_N_push.2.1 120 = .ok (.iinc 3 1, 3) := by decide +kernel
theorem d_N_push_123 : decode mi_N_push.2.1 123 = .ok (.goto (-56), 3) := by decide +kernel
theorem d_N_push_126 : decode mi_N_push.2.1 126 = .ok (.iload_n 1, 1) := by decide +kernel
theorem d_N_push_127 : decode mi_N_push.2.1 127 = .ok (.ireturn, 1) := by decide +kernel
theorem d_N_findWay_0 : decode mi_N_findWay.2.1 0 = .ok (.aload_n 0, 1) := by decide +kernel
theorem d_N_findWay_1 : decode mi_N_findWay.2.1 1 = .ok (.dup, 1) := by decide +kernel
theorem d_N_findWay_2 : decode mi_N_findWay.2.1 2 = .ok (.getfield 43, 3) := by decide +kernel
theorem d_N_findWay_5 : decode mi_N_findWay.2.1 5 = .ok (.iconst 1, 1) := by decide +kernel
theorem d_N_findWay_6 : decode mi_N_findWay.2.1 6 = .ok (.iadd, 1) := by decide +kernel
theorem d_N_findWay_7 : decode mi_N_findWay.2.1 7 = .ok (.putfield 43, 3) := by decide +kernel
theorem d_N_findWay_10 : decode mi_N_findWay.2.1 10 = .ok (.aload_n 0, 1) := by decide +kernel
theorem d_N_findWay_11 : decode mi_N_findWay.2.1 11 = .ok (.getfield 27, 3) := by decide +kernel
theorem d_N_findWay_14 : decode mi_N_findWay.2.1 14 = .ok (.iconst 0, 1) := by decide +kernel
theorem d_N_findWay_15 : decode mi_N_findWay.2.1 15 = .ok (.aload_n 0, 1) := by decide +kernel
theorem d_N_findWay_16 : decode mi_N_findWay.2.1 16 = .ok (.getfield 43, 3) := by decide +kernel
theorem d_N_findWay_19 : decode mi_N_findWay.2.1 19 = .ok (.iastore, 1) := by decide +kernel
theorem d_N_findWay_20 : decode mi_N_findWay.2.1 20 = .ok (.aload_n 0, 1) := by decide +kernel
theorem d_N_findWay_21 : decode mi_N_findWay.2.1 21 = .ok (.getfield 33, 3) := by decide +kernel
theorem d_N_findWay_24 : decode mi_N_findWay.2.1 24 = .ok (.iconst 0, 1) := by decide +kernel
theorem d_N_findWay_25 : decode mi_N_findWay.2.1 25 = .ok (.iconst 0, 1) := by decide +kernel
theorem d_N_findWay_26 : decode mi_N_findWay.2.1 26 = .ok (.iastore, 1) := by decide +kernel
theorem d_N_findWay_27 : decode mi_N_findWay.2.1 27 = .ok (.iconst 1, 1) := by decide +kernel
theorem d_N_findWay_28 : decode mi_N_findWay.2.1 28 = .ok (.istore_n 1, 1) := by decide +kernel
theorem d_N_findWay_29 : decode mi_N_findWay.2.1 29 = .ok (.iconst 0, 1) := by decide +kernel
theorem d_N_findWay_30 : decode mi_N_findWay.2.1 30 = .ok (.istore_n 2, 1) := by decide +kernel
theorem d_N_findWay_31 : decode mi_N_findWay.2.1 31 = .ok (.iload_n 2, 1) := by decide +kernel
theorem d_N_findWay_32 : decode mi_N_findWay.2.1 32 = .ok (.iload_n 1, 1) := by decide +kernel
theorem d_N_findWay_33 : decode mi_N_findWay.2.1 33 = .ok (.if_icmp .ge 133, 3) := by decide +kernel
theorem d_N_findWay_36 : decode mi_N_findWay.2.1 36 = .ok (.iload_n 2, 1) := by decide +kernel
theorem d_N_findWay_37 : decode mi_N_findWay.2.1 37 = .ok (.sipush 136, 3) := by decide +kernel
theorem d_N_findWay_40 : decode mi_N_findWay.2.1 40 = .ok (.if_icmp .ge 126, 3) := by decide +kernel
theorem d_N_findWay_43 : decode mi_N_findWay.2.1 43 = .ok (.aload_n 0, 1) := by decide +kernel
theorem d_N_findWay_44 : decode mi_N_findWay.2.1 44 = .ok (.getfield 11, 3) := by decide +kernel
theorem d_N_findWay_47 : decode mi_N_findWay.2.1 47 = .ok (.aload_n 0, 1) := by decide +kernel
theorem d_N_findWay_48 : decode mi_N_findWay.2.1 48 = .ok (.getfield 33, 3) := by decide +kernel
theorem d_N_findWay_51 : decode mi_N_findWay.2.1 51 = .ok (.iload_n 2, 1) := by decide +kernel
theorem d_N_findWay_52 : decode mi_N_findWay.2.1 52 = .ok (.iaload, 1) := by decide +kernel
theorem d_N_findWay_53 : decode mi_N_findWay.2.1 53 = .ok (.iaload, 1) := by decide +kernel
theorem d_N_findWay_54 : decode mi_N_findWay.2.1 54 = .ok (.istore_n 3, 1) := by decide +kernel
theorem d_N_findWay_55 : decode mi_N_findWay.2.1 55 = .ok (.iconst 0, 1) := by decide +kernel
theorem d_N_findWay_56 : decode mi_N_findWay.2.1 56 = .ok (.istore 4, 2) := by decide +kernel
theorem d_N_findWay_58 : decode mi_N_findWay.2.1 58 = .ok (.iload_n 3, 1) := by decide +kernel
theorem d_N_findWay_59 : decode mi_N_findWay.2.1 59 = .ok (.iconst (-1), 1) := by decide +kernel
theorem d_N_findWay_60 : decode mi_N_findWay.2.1 60 = .ok (.if_icmp .eq 100, 3) := by decide +kernel
theorem d_N_findWay_63 : decode mi_N_findWay.2.1 63 = .ok (.iload 4, 2) := by decide +kernel
theorem d_N_findWay_65 : decode mi_N_findWay.2.1 65 = .ok (.sipush 746, 3) := by decide +kernel
theorem d_N_findWay_68 : decode mi_N_findWay.2.1 68 = .ok (.if_icmp .ge 92, 3) := by decide +kernel
theorem d_N_findWay_71 : decode mi_N_findWay.2.1 71 = .ok (.aload_n 0, 1) := by decide +kernel
theorem d_N_findWay_72 : decode mi_N_findWay.2.1 72 = .ok (.getfield 18, 3) := by decide +kernel
theorem d_N_findWay_75 : decode mi_N_findWay.2.1 75 = .ok (.iload_n 3, 1) := by decide +kernel
theorem d_N_findWay_76 : decode mi_N_findWay.2.1 76 = .ok (.iaload, 1) := by decide +kernel
theorem d_N_findWay_77 : decode mi_N_findWay.2.1 77 = .ok (.istore 5, 2) := by decide +kernel
theorem d_N_findWay_79 : decode mi_N_findWay.2.1 79 = .ok (.aload_n 0, 1) := by decide +kernel
theorem d_N_findWay_80 : decode mi_N_findWay.2.1 80 = .ok (.getfield 21, 3) := by decide +kernel
theorem d_N_findWay_83 : decode mi_N_findWay.2.1 83 = .ok (.iload_n 3, 1) := by decide +kernel
theorem d_N_findWay_84 : decode mi_N_findWay.2.1 84 = .ok (.iaload, 1) := by decide +kernel
theorem d_N_findWay_85 : decode mi_N_findWay.2.1 85 = .ok (.ifCond .le 62, 3) := by decide +kernel
theorem d_N_findWay_88 : decode mi_N_findWay.2.1 88 = .ok (.aload_n 0, 1) := by decide +kernel
theorem d_N_findWay_89 : decode mi_N_findWay.2.1 89 = .ok (.getfield 27, 3) := by decide +kernel
theorem d_N_findWay_92 : decode mi_N_findWay.2.1 92 = .ok (.iload 5, 2) := by decide +kernel
theorem d_N_findWay_94 : decode mi_N_findWay.2.1 94 = .ok (.iaload, 1) := by decide +kernel
theorem d_N_findWay_95 : decode mi_N_findWay.2.1 95 = .ok (.aload_n 0, 1) := by decide +kernel
theorem d_N_findWay_96 : decode mi_N_findWay.2.1 96 = .ok (.getfield 43, 3) := by decide +kernel
theorem d_N_findWay_99 : decode mi_N_findWay.2.1 99 = .ok (.if_icmp .eq 48, 3) := by decide +kernel
theorem d_N_findWay_102 : decode mi_N_findWay.2.1 102 = .ok (.iload_n 1, 1) := by decide +kernel
theorem d_N_findWay_103 : decode mi_N_findWay.2.1 103 = .ok (.sipush 136, 3) := by decide +kernel
theorem d_N_findWay_106 : decode mi_N_findWay.2.1 106 = .ok (.if_icmp .ge 41, 3) := by decide +kernel
theorem d_N_findWay_109 : decode mi_N_findWay.2.1 109 = .ok (.aload_n 0, 1) := by decide +kernel
theorem d_N_findWay_110 : decode mi_N_findWay.2.1 110 = .ok (.getfield 27, 3) := by decide +kernel
theorem d_N_findWay_113 : decode mi_N_findWay.2.1 113 = .ok (.iload 5, 2) := by decide +kernel
theorem d_N_findWay_115 : decode mi_N_findWay.2.1 115 = .ok (.aload_n 0, 1) := by decide +kernel
theorem d_N_findWay_116 : decode mi_N_findWay.2.1 116 = .ok (.getfield 43, 3) := by decide +kernel
theorem d_N_findWay_119 : decode mi_N_findWay.2.1 119 = .ok (.iastore, 1) := by decide +kernel
theorem d_N_findWay_120 : decode mi_N_findWay.2.1 120 = .ok (.aload_n 0, 1) := by decide +kernel
theorem d_N_findWay_121 : decode mi_N_findWay.2.1 121 = .ok (.getfield 30, 3) := by decide +kernel
theorem d_N_findWay_124 : decode mi_N_findWay.2.1 124 = .ok (.iload 5, 2) := by decide +kernel
theorem d_N_findWay_126 : decode mi_N_findWay.2.1 126 = .ok (.iload_n 3, 1) := by decide +kernel
theorem d_N_findWay_127 : decode mi_N_findWay.2.1 127 = .ok (.iastore, 1) := by decide +kernel
theorem d_N_findWay_128 : decode mi_N_findWay.2.1 128 = .ok (.iload 5, 2) := by decide +kernel
theorem d_N_findWay_130 : decode mi_N_findWay.2.1 130 = .ok (.iconst 1, 1) := by decide +kernel
theorem d_N_findWay_131 : decode mi_N_findWay.2.1 131 = .ok (.if_icmp .ne 5, 3) := by decide +kernel
theorem d_N_findWay_134 : decode mi_N_findWay.2.1 134 = .ok (.iconst 1, 1) := by decide +kernel
theorem d_N_findWay_135 : decode mi_N_findWay.2.1 135 = .ok (.ireturn, 1) := by decide +kernel
theorem d_N_findWay_136 : decode mi_N_findWay.2.1 136 = .ok (.aload_n 0, 1) := by decide +kernel
theorem d_N_findWay_137 : decode mi_N_findWay.2.1 137 = .ok (.getfield 33, 3) := by decide +kernel
theorem d_N_findWay_140 : decode mi_N_findWay.2.1 140 = .ok (.iload_n 1, 1) := by decide +kernel
theorem d_N_findWay_141 : decode mi_N_findWay.2.1 141 = .ok (.iload 5, 2) := by decide +kernel
theorem d_N_findWay_143 : decode mi_N_findWay.2.1 143 = .ok (.iastore, 1) := by decide +kernel
theorem d_N_findWay_144 : decode mi_N_findWay.2.1 144 = .ok (.iinc 1 1, 3) := by decide +kernel
theorem d_N_findWay_147 : decode mi_N_findWay.2.1 147 = .ok (.aload_n 0, 1) := by decide +kernel
theorem d_N_findWay_148 : decode mi_N_findWay.2.1 148 = .ok (.getfield 15, 3) := by decide +kernel
theorem d_N_findWay_151 : decode mi_N_findWay.2.1 151 = .ok (.iload_n 3, 1) := by decide +kernel
theorem d_N_findWay_152 : decode mi_N_findWay.2.1 152 = .ok (.iaload, 1) := by decide +kernel
theorem d_N_findWay_153 : decode mi_N_findWay.2.1 153 = .ok (.istore_n 3, 1) := by decide +kernel
theorem d_N_findWay_154 : decode mi_N_findWay.2.1 154 = .ok (.iinc 4 1, 3) := by decide +kernel
theorem d_N_findWay_157 : decode mi_N_findWay.2.1 157 = .ok (.goto (-99), 3) := by decide +kernel
theorem d_N_findWay_160 : decode mi_N_findWay.2.1 160 = .ok (.iinc 2 1, 3) := by decide +kernel
theorem d_N_findWay_163 : decode mi_N_findWay.2.1 163 = .ok (.goto (-132), 3) := by decide +kernel
theorem d_N_findWay_166 : decode mi_N_findWay.2.1 166 = .ok (.iconst 0, 1) := by decide +kernel
theorem d_N_findWay_167 : decode mi_N_findWay.2.1 167 = .ok (.ireturn, 1) := by decide +kernel
theorem d_N_isNear_0 : decode mi_N_isNear.2.1 0 = .ok (.aload_n 0, 1) := by decide +kernel
theorem d_N_isNear_1 : decode mi_N_isNear.2.1 1 = .ok (.getfield 27, 3) := by decide +kernel
theorem d_N_isNear_4 : decode mi_N_isNear.2.1 4 = .ok (.iload_n 1, 1) := by decide +kernel
theorem d_N_isNear_5 : decode mi_N_isNear.2.1 5 = .ok (.iaload, 1) := by decide +kernel
theorem d_N_isNear_6 : decode mi_N_isNear.2.1 6 = .ok (.aload_n 0, 1) := by decide +kernel
theorem d_N_isNear_7 : decode mi_N_isNear.2.1 7 = .ok (.getfield 43, 3) := by decide +kernel
theorem d_N_isNear_10 : decode mi_N_isNear.2.1 10 = .ok (.if_icmp .ne 7, 3) := by decide +kernel
theorem d_N_isNear_13 : decode mi_N_isNear.2.1 13 = .ok (.iconst 1, 1) := by decide +kernel
theorem d_N_isNear_14 : decode mi_N_isNear.2.1 14 = .ok (.goto 4, 3) := by decide +kernel
theorem d_N_isNear_17 : decode mi_N_isNear.2.1 17 = .ok (.iconst 0, 1) := by decide +kernel
theorem d_N_isNear_18 : decode mi_N_isNear.2.1 18 = .ok (.ireturn, 1) := by decide +kernel
theorem d_N_sideOf_0 : decode mi_N_sideOf.2.1 0 = .ok (.aload_n 0, 1) := by decide +kernel
theorem d_N_sideOf_1 : decode mi_N_sideOf.2.1 1 = .ok (.bipush 38, 2) := by decide +kernel
theorem d_N_sideOf_3 : decode mi_N_sideOf.2.1 3 = .ok (.iload_n 1, 1) := by decide +kernel
theorem d_N_sideOf_4 : decode mi_N_sideOf.2.1 4 = .ok (.iadd, 1) := by decide +kernel
theorem d_N_sideOf_5 : decode mi_N_sideOf.2.1 5 = .ok (.invokevirtual 109, 3) := by decide +kernel
theorem d_N_sideOf_8 : decode mi_N_sideOf.2.1 8 = .ok (.ifCond .ne 5, 3) := by decide +kernel
theorem d_N_sideOf_11 : decode mi_N_sideOf.2.1 11 = .ok (.iconst 2, 1) := by decide +kernel
theorem d_N_sideOf_12 : decode mi_N_sideOf.2.1 12 = .ok (.ireturn, 1) := by decide +kernel
theorem d_N_sideOf_13 : decode mi_N_sideOf.2.1 13 = .ok (.aload_n 0, 1) := by decide +kernel
theorem d_N_sideOf_14 : decode mi_N_sideOf.2.1 14 = .ok (.bipush 87, 2) := by decide +kernel
theorem d_N_sideOf_16 : decode mi_N_sideOf.2.1 16 = .ok (.iload_n 1, 1) := by decide +kernel
theorem d_N_sideOf_17 : decode mi_N_sideOf.2.1 17 = .ok (.iadd, 1) := by decide +kernel
theorem d_N_sideOf_18 : decode mi_N_sideOf.2.1 18 = .ok (.invokevirtual 109, 3) := by decide +kernel
theorem d_N_sideOf_21 : decode mi_N_sideOf.2.1 21 = .ok (.ifCond .eq 7, 3) := by decide +kernel
theorem d_N_sideOf_24 : decode mi_N_sideOf.2.1 24 = .ok (.iconst 0, 1) := by decide +kernel
theorem d_N_sideOf_25 : decode mi_N_sideOf.2.1 25 = .ok (.goto 4, 3) := by decide +kernel
theorem d_N_sideOf_28 : decode mi_N_sideOf.2.1 28 = .ok (.iconst 1, 1) := by decide +kernel
theorem d_N_sideOf_29 : decode mi_N_sideOf.2.1 29 = .ok (.ireturn, 1) := by decide +kernel
theorem d_N_countCutChannels_0 : decode mi_N_countCutChannels.2.1 0 = .ok (.iconst 0, 1) := by decide +kernel
theorem d_N_countCutChannels_1 : decode mi_N_countCutChannels.2.1 1 = .ok (.istore_n 1, 1) := by decide +kernel
theorem d_N_countCutChannels_2 : decode mi_N_countCutChannels.2.1 2 = .ok (.aload_n 0, 1) := by decide +kernel
theorem d_N_countCutChannels_3 : decode mi_N_countCutChannels.2.1 3 = .ok (.getfield 40, 3) := by decide +kernel
theorem d_N_countCutChannels_6 : decode mi_N_countCutChannels.2.1 6 = .ok (.istore_n 2, 1) := by decide +kernel
theorem d_N_countCutChannels_7 : decode mi_N_countCutChannels.2.1 7 = .ok (.iload_n 2, 1) := by decide +kernel
theorem d_N_countCutChannels_8 : decode mi_N_countCutChannels.2.1 8 = .ok (.iconst 3, 1) := by decide +kernel
theorem d_N_countCutChannels_9 : decode mi_N_countCutChannels.2.1 9 = .ok (.iadd, 1) := by decide +kernel
theorem d_N_countCutChannels_10 : decode mi_N_countCutChannels.2.1 10 = .ok (.aload_n 0, 1) := by decide +kernel
theorem d_N_countCutChannels_11 : decode mi_N_countCutChannels.2.1 11 = .ok (.getfield 36, 3) := by decide +kernel
theorem d_N_countCutChannels_14 : decode mi_N_countCutChannels.2.1 14 = .ok (.if_icmp .ge 30, 3) := by decide +kernel
theorem d_N_countCutChannels_17 : decode mi_N_countCutChannels.2.1 17 = .ok (.aload_n 0, 1) := by decide +kernel
theorem d_N_countCutChannels_18 : decode mi_N_countCutChannels.2.1 18 = .ok (.iload_n 2, 1) := by decide +kernel
theorem d_N_countCutChannels_19 : decode mi_N_countCutChannels.2.1 19 = .ok (.invokevirtual 113, 3) := by decide +kernel
theorem d_N_countCutChannels_22 : decode mi_N_countCutChannels.2.1 22 = .ok (.ifCond .ne 13, 3) := by decide +kernel
theorem d_N_countCutChannels_25 : decode mi_N_countCutChannels.2.1 25 = .ok (.aload_n 0, 1) := by decide +kernel
theorem d_N_countCutChannels_26 : decode mi_N_countCutChannels.2.1 26 = .ok (.iload_n 2, 1) := by decide +kernel
theorem d_N_countCutChannels_27 : decode mi_N_countCutChannels.2.1 27 = .ok (.iconst 2, 1) := by decide +kernel
theorem d_N_countCutChannels_28 : decode mi_N_countCutChannels.2.1 28 = .ok (.iadd, 1) := by decide +kernel
theorem d_N_countCutChannels_29 : decode mi_N_countCutChannels.2.1 29 = .ok (.invokevirtual 113, 3) := by decide +kernel
theorem d_N_countCutChannels_32 : decode mi_N_countCutChannels.2.1 32 = .ok (.ifCond .eq 6, 3) := by decide +kernel
theorem d_N_countCutChannels_35 : decode mi_N_countCutChannels.2.1 35 = .ok (.iinc 1 1, 3) := by decide +kernel
theorem d_N_countCutChannels_38 : decode mi_N_countCutChannels.2.1 38 = .ok (.iinc 2 4, 3) := by decide +kernel
theorem d_N_countCutChannels_41 : decode mi_N_countCutChannels.2.1 41 = .ok (.goto (-34), 3) := by decide +kernel
theorem d_N_countCutChannels_44 : decode mi_N_countCutChannels.2.1 44 = .ok (.iload_n 1, 1) := by decide +kernel
theorem d_N_countCutChannels_45 : decode mi_N_countCutChannels.2.1 45 = .ok (.ireturn, 1) := by decide +kernel
theorem d_N_leavesNearSide_0 : decode mi_N_leavesNearSide.2.1 0 = .ok (.aload_n 0, 1) := by decide +kernel
theorem d_N_leavesNearSide_1 : decode mi_N_leavesNearSide.2.1 1 = .ok (.aload_n 0, 1) := by decide +kernel
theorem d_N_leavesNearSide_2 : decode mi_N_leavesNearSide.2.1 2 = .ok (.getfield 18, 3) := by decide +kernel
theorem d_N_leavesNearSide_5 : decode mi_N_leavesNearSide.2.1 5 = .ok (.iload_n 1, 1) := by decide +kernel
theorem d_N_leavesNearSide_6 : decode mi_N_leavesNearSide.2.1 6 = .ok (.iconst 1, 1) := by decide +kernel
theorem d_N_leavesNearSide_7 : decode mi_N_leavesNearSide.2.1 7 = .ok (.ixor, 1) := by decide +kernel
theorem d_N_leavesNearSide_8 : decode mi_N_leavesNearSide.2.1 8 = .ok (.iaload, 1) := by decide +kernel
theorem d_N_leavesNearSide_9 : decode mi_N_leavesNearSide.2.1 9 = .ok (.invokevirtual 109, 3) := by decide +kernel
theorem d_N_leavesNearSide_12 : decode mi_N_leavesNearSide.2.1 12 = .ok (.ifCond .eq 20, 3) := by decide +kernel
theorem d_N_leavesNearSide_15 : decode mi_N_leavesNearSide.2.1 15 = .ok (.aload_n 0, 1) := by decide +kernel
theorem d_N_leavesNearSide_16 : decode mi_N_leavesNearSide.2.1 16 = .ok (.aload_n 0, 1) := by decide +kernel
theorem d_N_leavesNearSide_17 : decode mi_N_leavesNearSide.2.1 17 = .ok (.getfield 18, 3) := by decide +kernel
theorem d_N_leavesNearSide_20 : decode mi_N_leavesNearSide.2.1 20 = .ok (.iload_n 1, 1) := by decide +kernel
theorem d_N_leavesNearSide_21 : decode mi_N_leavesNearSide.2.1 21 = .ok (.iaload, 1) := by decide +kernel
theorem d_N_leavesNearSide_22 : decode mi_N_leavesNearSide.2.1 22 = .ok (.invokevirtual 109, 3) := by decide +kernel
theorem d_N_leavesNearSide_25 : decode mi_N_leavesNearSide.2.1 25 = .ok (.ifCond .ne 7, 3) := by decide +kernel
theorem d_N_leavesNearSide_28 : decode mi_N_leavesNearSide.2.1 28 = .ok (.iconst 1, 1) := by decide +kernel
theorem d_N_leavesNearSide_29 : decode mi_N_leavesNearSide.2.1 29 = .ok (.goto 4, 3) := by decide +kernel
theorem d_N_leavesNearSide_32 : decode mi_N_leavesNearSide.2.1 32 = .ok (.iconst 0, 1) := by decide +kernel
theorem d_N_leavesNearSide_33 : decode mi_N_leavesNearSide.2.1 33 = .ok (.ireturn, 1) := by decide +kernel
theorem d_Y_init_0 : decode mi_Y_init.2.1 0 = .ok (.aload_n 0, 1) := by decide +kernel
theorem d_Y_init_1 : decode mi_Y_init.2.1 1 = .ok (.invokespecial 3, 3) := by decide +kernel
theorem d_Y_init_4 : decode mi_Y_init.2.1 4 = .ok (.aload_n 0, 1) := by decide +kernel
theorem d_Y_init_5 : decode mi_Y_init.2.1 5 = .ok (.iload_n 1, 1) := by decide +kernel
theorem d_Y_init_6 : decode mi_Y_init.2.1 6 = .ok (.putfield 9, 3) := by decide +kernel
theorem d_Y_init_9 : decode mi_Y_init.2.1 9 = .ok (.aload_n 0, 1) := by decide +kernel
theorem d_Y_init_10 : decode mi_Y_init.2.1 10 = .ok (.bipush 36, 2) := by decide +kernel
theorem d_Y_init_12 : decode mi_Y_init.2.1 12 = .ok (.newarray .int, 2) := by decide +kernel
theorem d_Y_init_14 : decode mi_Y_init.2.1 14 = .ok (.putfield 15, 3) := by decide +kernel
theorem d_Y_init_17 : decode mi_Y_init.2.1 17 = .ok (.aload_n 0, 1) := by decide +kernel
theorem d_Y_init_18 : decode mi_Y_init.2.1 18 = .ok (.iconst 0, 1) := by decide +kernel
theorem d_Y_init_19 : decode mi_Y_init.2.1 19 = .ok (.putfield 19, 3) := by decide +kernel
theorem d_Y_init_22 : decode mi_Y_init.2.1 22 = .ok (.aload_n 0, 1) := by decide +kernel
theorem d_Y_init_23 : decode mi_Y_init.2.1 23 = .ok (.bipush 36, 2) := by decide +kernel
theorem d_Y_init_25 : decode mi_Y_init.2.1 25 = .ok (.newarray .int, 2) := by decide +kernel
theorem d_Y_init_27 : decode mi_Y_init.2.1 27 = .ok (.putfield 22, 3) := by decide +kernel
theorem d_Y_init_30 : decode mi_Y_init.2.1 30 = .ok (.aload_n 0, 1) := by decide +kernel
theorem d_Y_init_31 : decode mi_Y_init.2.1 31 = .ok (.bipush 36, 2) := by decide +kernel
theorem d_Y_init_33 : decode mi_Y_init.2.1 33 = .ok (.newarray .boolean, 2) := by decide +kernel
theorem d_Y_init_35 : decode mi_Y_init.2.1 35 = .ok (.putfield 25, 3) := by decide +kernel
theorem d_Y_init_38 : decode mi_Y_init.2.1 38 = .ok (.aload_n 0, 1) := by decide +kernel
theorem d_Y_init_39 : decode mi_Y_init.2.1 39 = .ok (.bipush 36, 2) := by decide +kernel
theorem d_Y_init_41 : decode mi_Y_init.2.1 41 = .ok (.newarray .int, 2) := by decide +kernel
theorem d_Y_init_43 : decode mi_Y_init.2.1 43 = .ok (.putfield 29, 3) := by decide +kernel
theorem d_Y_init_46 : decode mi_Y_init.2.1 46 = .ok (.aload_n 0, 1) := by decide +kernel
theorem d_Y_init_47 : decode mi_Y_init.2.1 47 = .ok (.iconst 0, 1) := by decide +kernel
theorem d_Y_init_48 : decode mi_Y_init.2.1 48 = .ok (.putfield 32, 3) := by decide +kernel
theorem d_Y_init_51 : decode mi_Y_init.2.1 51 = .ok (.aload_n 0, 1) := by decide +kernel
theorem d_Y_init_52 : decode mi_Y_init.2.1 52 = .ok (.iconst 0, 1) := by decide +kernel
theorem d_Y_init_53 : decode mi_Y_init.2.1 53 = .ok (.putfield 35, 3) := by decide +kernel
theorem d_Y_init_56 : decode mi_Y_init.2.1 56 = .ok (.aload_n 0, 1) := by decide +kernel
theorem d_Y_init_57 : decode mi_Y_init.2.1 57 = .ok (.iconst 0, 1) := by decide +kernel
theorem d_Y_init_58 : decode mi_Y_init.2.1 58 = .ok (.putfield 39, 3) := by decide +kernel
theorem d_Y_init_61 : decode mi_Y_init.2.1 61 = .ok (.return_, 1) := by decide +kernel
theorem d_Y_countOn_0 : decode mi_Y_countOn.2.1 0 = .ok (.iconst 0, 1) := by decide +kernel
theorem d_Y_countOn_1 : decode mi_Y_countOn.2.1 1 = .ok (.istore_n 2, 1) := by decide +kernel
theorem d_Y_countOn_2 : decode mi_Y_countOn.2.1 2 = .ok (.iconst 0, 1) := by decide +kernel
theorem d_Y_countOn_3 : decode mi_Y_countOn.2.1 3 = .ok (.istore_n 3, 1) := by decide +kernel
theorem d_Y_countOn_4 : decode mi_Y_countOn.2.1 4 = .ok (.iload_n 3, 1) := by decide +kernel
theorem d_Y_countOn_5 : decode mi_Y_countOn.2.1 5 = .ok (.bipush 36, 2) := by decide +kernel
theorem d_Y_countOn_7 : decode mi_Y_countOn.2.1 7 = .ok (.if_icmp .ge 22, 3) := by decide +kernel
theorem d_Y_countOn_10 : decode mi_Y_countOn.2.1 10 = .ok (.aload_n 0, 1) := by decide +kernel
theorem d_Y_countOn_11 : decode mi_Y_countOn.2.1 11 = .ok (.getfield 29, 3) := by decide +kernel
theorem d_Y_countOn_14 : decode mi_Y_countOn.2.1 14 = .ok (.iload_n 3, 1) := by decide +kernel
theorem d_Y_countOn_15 : decode mi_Y_countOn.2.1 15 = .ok (.iaload, 1) := by decide +kernel
theorem d_Y_countOn_16 : decode mi_Y_countOn.2.1 16 = .ok (.iload_n 1, 1) := by decide +kernel
theorem d_Y_countOn_17 : decode mi_Y_countOn.2.1 17 = .ok (.if_icmp .ne 6, 3) := by decide +kernel
theorem d_Y_countOn_20 : decode mi_Y_countOn.2.1 20 = .ok (.iinc 2 1, 3) := by decide +kernel
theorem d_Y_countOn_23 : decode mi_Y_countOn.2.1 23 = .ok (.iinc 3 1, 3) := by decide +kernel
theorem d_Y_countOn_26 : decode mi_Y_countOn.2.1 26 = .ok (.goto (-22), 3) := by decide +kernel
theorem d_Y_countOn_29 : decode mi_Y_countOn.2.1 29 = .ok (.iload_n 2, 1) := by decide +kernel
theorem d_Y_countOn_30 : decode mi_Y_countOn.2.1 30 = .ok (.ireturn, 1) := by decide +kernel
theorem d_Y_refresh_0 : decode mi_Y_refresh.2.1 0 = .ok (.aload_n 0, 1) := by decide +kernel
theorem d_Y_refresh_1 : decode mi_Y_refresh.2.1 1 = .ok (.getfield 39, 3) := by decide +kernel
theorem d_Y_refresh_4 : decode mi_Y_refresh.2.1 4 = .ok (.ifCond .eq 5, 3) := by decide +kernel
theorem d_Y_refresh_7 : decode mi_Y_refresh.2.1 7 = .ok (.aload_n 0, 1) := by decide +kernel
theorem d_Y_refresh_8 : decode mi_Y_refresh.2.1 8 = .ok (.areturn, 1) := by decide +kernel
theorem d_Y_refresh_9 : decode mi_Y_refresh.2.1 9 = .ok (.aload_n 0, 1) := by decide +kernel
theorem d_Y_refresh_10 : decode mi_Y_refresh.2.1 10 = .ok (.aload_n 1, 1) := by decide +kernel
theorem d_Y_refresh_11 : decode mi_Y_refresh.2.1 11 = .ok (.invokevirtual 42, 3) := by decide +kernel
theorem d_Y_refresh_14 : decode mi_Y_refresh.2.1 14 = .ok (.iconst 0, 1) := by decide +kernel
theorem d_Y_refresh_15 : decode mi_Y_refresh.2.1 15 = .ok (.istore_n 3, 1) := by decide +kernel
theorem d_Y_refresh_16 : decode mi_Y_refresh.2.1 16 = .ok (.iload_n 3, 1) := by decide +kernel
theorem d_Y_refresh_17 : decode mi_Y_refresh.2.1 17 = .ok (.bipush 36, 2) := by decide +kernel
theorem d_Y_refresh_19 : decode mi_Y_refresh.2.1 19 = .ok (.if_icmp .ge 23, 3) := by decide +kernel
theorem d_Y_refresh_22 : decode mi_Y_refresh.2.1 22 = .ok (.aload_n 0, 1) := by decide +kernel
theorem d_Y_refresh_23 : decode mi_Y_refresh.2.1 23 = .ok (.getfield 29, 3) := by decide +kernel
theorem d_Y_refresh_26 : decode mi_Y_refresh.2.1 26 = .ok (.iload_n 3, 1) := by decide +kernel
theorem d_Y_refresh_27 : decode mi_Y_refresh.2.1 27 = .ok (.iconst 0, 1) := by decide +kernel
theorem d_Y_refresh_28 : decode mi_Y_refresh.2.1 28 = .ok (.iastore, 1) := by decide +kernel
theorem d_Y_refresh_29 : decode mi_Y_refresh.2.1 29 = .ok (.aload_n 0, 1) := by decide +kernel
theorem d_Y_refresh_30 : decode mi_Y_refresh.2.1 30 = .ok (.getfield 22, 3) := by decide +kernel
theorem d_Y_refresh_33 : decode mi_Y_refresh.2.1 33 = .ok (.iload_n 3, 1) := by decide +kernel
theorem d_Y_refresh_34 : decode mi_Y_refresh.2.1 34 = .ok (.iconst 0, 1) := by decide +kernel
theorem d_Y_refresh_35 : decode mi_Y_refresh.2.1 35 = .ok (.iastore, 1) := by decide +kernel
theorem d_Y_refresh_36 : decode mi_Y_refresh.2.1 36 = .ok (.iinc 3 1, 3) := by decide +kernel
theorem d_Y_refresh_39 : decode mi_Y_refresh.2.1 39 = .ok (.goto (-23), 3) := by decide +kernel
theorem d_Y_refresh_42 : decode mi_Y_refresh.2.1 42 = .ok (.aload_n 0, 1) := by decide +kernel
theorem d_Y_refresh_43 : decode mi_Y_refresh.2.1 43 = .ok (.iconst 0, 1) := by decide +kernel
theorem d_Y_refresh_44 : decode mi_Y_refresh.2.1 44 = .ok (.putfield 32, 3) := by decide +kernel
theorem d_Y_refresh_47 : decode mi_Y_refresh.2.1 47 = .ok (.aload_n 1, 1) := by decide +kernel
theorem d_Y_refresh_48 : decode mi_Y_refresh.2.1 48 = .ok (.invokevirtual 46, 3) := by decide +kernel
theorem d_Y_refresh_51 : decode mi_Y_refresh.2.1 51 = .ok (.istore_n 3, 1) := by decide +kernel
theorem d_Y_refresh_52 : decode mi_Y_refresh.2.1 52 = .ok (.iconst 1, 1) := by decide +kernel
theorem d_Y_refresh_53 : decode mi_Y_refresh.2.1 53 = .ok (.istore 4, 2) := by decide +kernel
theorem d_Y_refresh_55 : decode mi_Y_refresh.2.1 55 = .ok (.iload 4, 2) := by decide +kernel
theorem d_Y_refresh_57 : decode mi_Y_refresh.2.1 57 = .ok (.bipush 36, 2) := by decide +kernel
theorem d_Y_refresh_59 : decode mi_Y_refresh.2.1 59 = .ok (.if_icmp .gt 42, 3) := by decide +kernel
theorem d_Y_refresh_62 : decode mi_Y_refresh.2.1 62 = .ok (.iload_n 3, 1) := by decide +kernel
theorem d_Y_refresh_63 : decode mi_Y_refresh.2.1 63 = .ok (.ifCond .le 38, 3) := by decide +kernel
theorem d_Y_refresh_66 : decode mi_Y_refresh.2.1 66 = .ok (.aload_n 0, 1) := by decide +kernel
theorem d_Y_refresh_67 : decode mi_Y_refresh.2.1 67 = .ok (.iload 4, 2) := by decide +kernel
theorem d_Y_refresh_69 : decode mi_Y_refresh.2.1 69 = .ok (.aload_n 1, 1) := by decide +kernel
theorem d_Y_refresh_70 : decode mi_Y_refresh.2.1 70 = .ok (.aload_n 2, 1) := by decide +kernel
theorem d_Y_refresh_71 : decode mi_Y_refresh.2.1 71 = .ok (.invokevirtual 52, 3) := by decide +kernel
theorem d_Y_refresh_74 : decode mi_Y_refresh.2.1 74 = .ok (.istore 5, 2) := by decide +kernel
theorem d_Y_refresh_76 : decode mi_Y_refresh.2.1 76 = .ok (.iload 5, 2) := by decide +kernel
theorem d_Y_refresh_78 : decode mi_Y_refresh.2.1 78 = .ok (.ifCond .ne 6, 3) := by decide +kernel
theorem d_Y_refresh_81 : decode mi_Y_refresh.2.1 81 = .ok (.goto 20, 3) := by decide +kernel
theorem d_Y_refresh_84 : decode mi_Y_refresh.2.1 84 = .ok (.aload_n 0, 1) := by decide +kernel
theorem d_Y_refresh_85 : decode mi_Y_refresh.2.1 85 = .ok (.iload 4, 2) := by decide +kernel
theorem d_Y_refresh_87 : decode mi_Y_refresh.2.1 87 = .ok (.putfield 32, 3) := by decide +kernel
theorem d_Y_refresh_90 : decode mi_Y_refresh.2.1 90 = .ok (.iload_n 3, 1) := by decide +kernel
theorem d_Y_refresh_91 : decode mi_Y_refresh.2.1 91 = .ok (.iload 5, 2) := by decide +kernel
theorem d_Y_refresh_93 : decode mi_Y_refresh.2.1 93 = .ok (.isub, 1) := by decide +kernel
theorem d_Y_refresh_94 : decode mi_Y_refresh.2.1 94 = .ok (.istore_n 3, 1) := by decide +kernel
theorem d_Y_refresh_95 : decode mi_Y_refresh.2.1 95 = .ok (.iinc 4 1, 3) := by decide +kernel
theorem d_Y_refresh_98 : decode mi_Y_refresh.2.1 98 = .ok (.goto (-43), 3) := by decide +kernel
theorem d_Y_refresh_101 : decode mi_Y_refresh.2.1 101 = .ok (.aload_n 0, 1) := by decide +kernel
theorem d_Y_refresh_102 : decode mi_Y_refresh.2.1 102 = .ok (.iload_n 3, 1) := by decide +kernel
theorem d_Y_refresh_103 : decode mi_Y_refresh.2.1 103 = .ok (.ifCond .ne 7, 3) := by decide +kernel
theorem d_Y_refresh_106 : decode mi_Y_refresh.2.1 106 = .ok (.iconst 1, 1) := by decide +kernel
theorem d_Y_refresh_107 : decode mi_Y_refresh.2.1 107 = .ok (.goto 4, 3) := by decide +kernel
theorem d_Y_refresh_110 : decode mi_Y_refresh.2.1 110 = .ok (.iconst 0, 1) := by decide +kernel
theorem d_Y_refresh_111 : decode mi_Y_refresh.2.1 111 = .ok (.putfield 35, 3) := by decide +kernel
theorem d_Y_refresh_114 : decode mi_Y_refresh.2.1 114 = .ok (.aload_n 0, 1) := by decide +kernel
theorem d_Y_refresh_115 : decode mi_Y_refresh.2.1 115 = .ok (.iconst 1, 1) := by decide +kernel
theorem d_Y_refresh_116 : decode mi_Y_refresh.2.1 116 = .ok (.putfield 39, 3) := by decide +kernel
theorem d_Y_refresh_119 : decode mi_Y_refresh.2.1 119 = .ok (.aload_n 0, 1) := by decide +kernel
theorem d_Y_refresh_120 : decode mi_Y_refresh.2.1 120 = .ok (.areturn, 1) := by decide +kernel
theorem d_Y_fill_0 : decode mi_Y_fill.2.1 0 = .ok (.iconst 0, 1) := by decide +kernel
theorem d_Y_fill_1 : decode mi_Y_fill.2.1 1 = .ok (.istore 4, 2) := by decide +kernel
theorem d_Y_fill_3 : decode mi_Y_fill.2.1 3 = .ok (.iload 4, 2) := by decide +kernel
theorem d_Y_fill_5 : decode mi_Y_fill.2.1 5 = .ok (.bipush 36, 2) := by decide +kernel
theorem d_Y_fill_7 : decode mi_Y_fill.2.1 7 = .ok (.if_icmp .ge 41, 3) := by decide +kernel
theorem d_Y_fill_10 : decode mi_Y_fill.2.1 10 = .ok (.aload_n 0, 1) := by decide +kernel
theorem d_Y_fill_11 : decode mi_Y_fill.2.1 11 = .ok (.getfield 25, 3) := by decide +kernel
theorem d_Y_fill_14 : decode mi_Y_fill.2.1 14 = .ok (.iload 4, 2) := by decide +kernel
theorem d_Y_fill_16 : decode mi_Y_fill.2.1 16 = .ok (.aload_n 2, 1) := by decide +kernel
theorem d_Y_fill_17 : decode mi_Y_fill.2.1 17 = .ok (.getfield 56, 3) := by decide +kernel
theorem d_Y_fill_20 : decode mi_Y_fill.2.1 20 = .ok (.iload 4, 2) := by decide +kernel
theorem d_Y_fill_22 : decode mi_Y_fill.2.1 22 = .ok (.iaload, 1) := by decide +kernel
theorem d_Y_fill_23 : decode mi_Y_fill.2.1 23 = .ok (.ifCond .eq 13, 3) := by decide +kernel
theorem d_Y_fill_26 : decode mi_Y_fill.2.1 26 = .ok (.aload_n 0, 1) := by decide +kernel
theorem d_Y_fill_27 : decode mi_Y_fill.2.1 27 = .ok (.getfield 29, 3) := by decide +kernel
theorem d_Y_fill_30 : decode mi_Y_fill.2.1 30 = .ok (.iload 4, 2) := by decide +kernel
theorem d_Y_fill_32 : decode mi_Y_fill.2.1 32 = .ok (.iaload, 1) := by decide +kernel
theorem d_Y_fill_33 : decode mi_Y_fill.2.1 33 = .ok (.ifCond .eq 7, 3) := by decide +kernel
theorem d_Y_fill_36 : decode mi_Y_fill.2.1 36 = .ok (.iconst 1, 1) := by decide +kernel
theorem d_Y_fill_37 : decode mi_Y_fill.2.1 37 = .ok (.goto 4, 3) := by decide +kernel
theorem d_Y_fill_40 : decode mi_Y_fill.2.1 40 = .ok (.iconst 0, 1) := by decide +kernel
theorem d_Y_fill_41 : decode mi_Y_fill.2.1 41 = .ok (.bastore, 1) := by decide +kernel
theorem d_Y_fill_42 : decode mi_Y_fill.2.1 42 = .ok (.iinc 4 1, 3) := by decide +kernel
theorem d_Y_fill_45 : decode mi_Y_fill.2.1 45 = .ok (.goto (-42), 3) := by decide +kernel
theorem d_Y_fill_48 : decode mi_Y_fill.2.1 48 = .ok (.aload_n 3, 1) := by decide +kernel
theorem d_Y_fill_49 : decode mi_Y_fill.2.1 49 = .ok (.aload_n 2, 1) := by decide +kernel
theorem d_Y_fill_50 : decode mi_Y_fill.2.1 50 = .ok (.aload_n 0, 1) := by decide +kernel
theorem d_Y_fill_51 : decode mi_Y_fill.2.1 51 = .ok (.getfield 25, 3) := by decide +kernel
theorem d_Y_fill_54 : decode mi_Y_fill.2.1 54 = .ok (.iconst 1, 1) := by decide +kernel
theorem d_Y_fill_55 : decode mi_Y_fill.2.1 55 = .ok (.invokevirtual 59, 3) := by decide +kernel
theorem d_Y_fill_58 : decode mi_Y_fill.2.1 58 = .ok (.iconst 0, 1) := by decide +kernel
theorem d_Y_fill_59 : decode mi_Y_fill.2.1 59 = .ok (.istore 4, 2) := by decide +kernel
theorem d_Y_fill_61 : decode mi_Y_fill.2.1 61 = .ok (.iconst 0, 1) := by decide +kernel
theorem d_Y_fill_62 : decode mi_Y_fill.2.1 62 = .ok (.istore 5, 2) := by decide +kernel
theorem d_Y_fill_64 : decode mi_Y_fill.2.1 64 = .ok (.iload 5, 2) := by decide +kernel
theorem d_Y_fill_66 : decode mi_Y_fill.2.1 66 = .ok (.aload_n 0, 1) := by decide +kernel
theorem d_Y_fill_67 : decode mi_Y_fill.2.1 67 = .ok (.getfield 19, 3) := by decide +kernel
theorem d_Y_fill_70 : decode mi_Y_fill.2.1 70 = .ok (.if_icmp .ge 82, 3) := by decide +kernel
theorem d_Y_fill_73 : decode mi_Y_fill.2.1 73 = .ok (.aload_n 0, 1) := by decide +kernel
theorem d_Y_fill_74 : decode mi_Y_fill.2.1 74 = .ok (.getfield 15, 3) := by decide +kernel
theorem d_Y_fill_77 : decode mi_Y_fill.2.1 77 = .ok (.iload 5, 2) := by decide +kernel
theorem d_Y_fill_79 : decode mi_Y_fill.2.1 79 = .ok (.iaload, 1) := by decide +kernel
theorem d_Y_fill_80 : decode mi_Y_fill.2.1 80 = .ok (.istore 6, 2) := by decide +kernel
theorem d_Y_fill_82 : decode mi_Y_fill.2.1 82 = .ok (.aload_n 2, 1) := by decide +kernel
theorem d_Y_fill_83 : decode mi_Y_fill.2.1 83 = .ok (.getfield 56, 3) := by decide +kernel
theorem d_Y_fill_86 : decode mi_Y_fill.2.1 86 = .ok (.iload 6, 2) := by decide +kernel
theorem d_Y_fill_88 : decode mi_Y_fill.2.1 88 = .ok (.iaload, 1) := by decide +kernel
theorem d_Y_fill_89 : decode mi_Y_fill.2.1 89 = .ok (.iconst 1, 1) := by decide +kernel
theorem d_Y_fill_90 : decode mi_Y_fill.2.1 90 = .ok (.if_icmp .ne 17, 3) := by decide +kernel
theorem d_Y_fill_93 : decode mi_Y_fill.2.1 93 = .ok (.aload_n 0, 1) := by decide +kernel
theorem d_Y_fill_94 : decode mi_Y_fill.2.1 94 = .ok (.getfield 29, 3) := by decide +kernel
theorem d_Y_fill_97 : decode mi_Y_fill.2.1 97 = .ok (.iload 6, 2) := by decide +kernel
theorem d_Y_fill_99 : decode mi_Y_fill.2.1 99 = .ok (.iaload, 1) := by decide +kernel
theorem d_Y_fill_100 : decode mi_Y_fill.2.1 100 = .ok (.ifCond .ne 7, 3) := by decide +kernel
theorem d_Y_fill_103 : decode mi_Y_fill.2.1 103 = .ok (.iconst 1, 1) := by decide +kernel
theorem d_Y_fill_104 : decode mi_Y_fill.2.1 104 = .ok (.goto 4, 3) := by decide +kernel
theorem d_Y_fill_107 : decode mi_Y_fill.2.1 107 = .ok (.iconst 0, 1) := by decide +kernel
theorem d_Y_fill_108 : decode mi_Y_fill.2.1 108 = .ok (.istore 7, 2) := by decide +kernel
theorem d_Y_fill_110 : decode mi_Y_fill.2.1 110 = .ok (.iload 7, 2) := by decide +kernel
theorem d_Y_fill_112 : decode mi_Y_fill.2.1 112 = .ok (.ifCond .eq 34, 3) := by decide +kernel
theorem d_Y_fill_115 : decode mi_Y_fill.2.1 115 = .ok (.aload_n 0, 1) := by decide +kernel
theorem d_Y_fill_116 : decode mi_Y_fill.2.1 116 = .ok (.getfield 22, 3) := by decide +kernel
theorem d_Y_fill_119 : decode mi_Y_fill.2.1 119 = .ok (.iload 6, 2) := by decide +kernel
theorem d_Y_fill_121 : decode mi_Y_fill.2.1 121 = .ok (.iaload, 1) := by decide +kernel
theorem d_Y_fill_122 : decode mi_Y_fill.2.1 122 = .ok (.iload_n 1, 1) := by decide +kernel
theorem d_Y_fill_123 : decode mi_Y_fill.2.1 123 = .ok (.if_icmp .eq 23, 3) := by decide +kernel
theorem d_Y_fill_126 : decode mi_Y_fill.2.1 126 = .ok (.iload 4, 2) := by decide +kernel
theorem d_Y_fill_128 : decode mi_Y_fill.2.1 128 = .ok (.aload_n 0, 1) := by decide +kernel
theorem d_Y_fill_129 : decode mi_Y_fill.2.1 129 = .ok (.iload 6, 2) := by decide +kernel
theorem d_Y_fill_131 : decode mi_Y_fill.2.1 131 = .ok (.aload_n 2, 1) := by decide +kernel
theorem d_Y_fill_132 : decode mi_Y_fill.2.1 132 = .ok (.getfield 65, 3) := by decide +kernel
theorem d_Y_fill_135 : decode mi_Y_fill.2.1 135 = .ok (.iload 6, 2) := by decide +kernel
theorem d_Y_fill_137 : decode mi_Y_fill.2.1 137 = .ok (.iaload, 1) := by decide +kernel
theorem d_Y_fill_138 : decode mi_Y_fill.2.1 138 = .ok (.iload_n 1, 1) := by decide +kernel
theorem d_Y_fill_139 : decode mi_Y_fill.2.1 139 = .ok (.aload_n 3, 1) := by decide +kernel
theorem d_Y_fill_140 : decode mi_Y_fill.2.1 140 = .ok (.invokevirtual 68, 3) := by decide +kernel
theorem d_Y_fill_143 : decode mi_Y_fill.2.1 143 = .ok (.iadd, 1) := by decide +kernel
theorem d_Y_fill_144 : decode mi_Y_fill.2.1 144 = .ok (.istore 4, 2) := by decide +kernel
theorem d_Y_fill_146 : decode mi_Y_fill.2.1 146 = .ok (.iinc 5 1, 3) := by decide +kernel
theorem d_Y_fill_149 : decode mi_Y_fill.2.1 149 = .ok (.goto (-85), 3) := by decide +kernel
theorem d_Y_fill_152 : decode mi_Y_fill.2.1 152 = .ok (.iload 4, 2) := by decide +kernel
theorem d_Y_fill_154 : decode mi_Y_fill.2.1 154 = .ok (.ireturn, 1) := by decide +kernel
theorem d_Y_consider_0 : decode mi_Y_consider.2.1 0 = .ok (.iload_n 2, 1) := by decide +kernel
theorem d_Y_consider_1 : decode mi_Y_consider.2.1 1 = .ok (.iconst (-1), 1) := by decide +kernel
theorem d_Y_consider_2 : decode mi_Y_consider.2.1 2 = .ok (.if_icmp .eq 7, 3) := by decide +kernel
theorem d_Y_consider_5 : decode mi_Y_consider.2.1 5 = .ok (.iconst 1, 1) := by decide +kernel
theorem d_Y_consider_6 : decode mi_Y_consider.2.1 6 = .ok (.goto 4, 3) := by decide +kernel
theorem d_Y_consider_9 : decode mi_Y_consider.2.1 9 = .ok (.iconst 0, 1) := by decide +kernel
theorem d_Y_consider_10 : decode mi_Y_consider.2.1 10 = .ok (.istore 5, 2) := by decide +kernel
theorem d_Y_consider_12 : decode mi_Y_consider.2.1 12 = .ok (.aload 4, 2) := by decide +kernel
theorem d_Y_consider_14 : decode mi_Y_consider.2.1 14 = .ok (.invokevirtual 72, 3) := by decide +kernel
theorem d_Y_consider_17 : decode mi_Y_consider.2.1 17 = .ok (.aload_n 0, 1) := by decide +kernel
theorem d_Y_consider_18 : decode mi_Y_consider.2.1 18 = .ok (.getfield 22, 3) := by decide +kernel
theorem d_Y_consider_21 : decode mi_Y_consider.2.1 21 = .ok (.iload_n 1, 1) := by decide +kernel
theorem d_Y_consider_22 : decode mi_Y_consider.2.1 22 = .ok (.iload_n 3, 1) := by decide +kernel
theorem d_Y_consider_23 : decode mi_Y_consider.2.1 23 = .ok (.iastore, 1) := by decide +kernel
theorem d_Y_consider_24 : decode mi_Y_consider.2.1 24 = .ok (.aload 4, 2) := by decide +kernel
theorem d_Y_consider_26 : decode mi_Y_consider.2.1 26 = .ok (.iload_n 1, 1) := by decide +kernel
theorem d_Y_consider_27 : decode mi_Y_consider.2.1 27 = .ok (.iconst 1, 1) := by decide +kernel
theorem d_Y_consider_28 : decode mi_Y_consider.2.1 28 = .ok (.invokevirtual 75, 3) := by decide +kernel
theorem d_Y_consider_31 : decode mi_Y_consider.2.1 31 = .ok (.iload 5, 2) := by decide +kernel
theorem d_Y_consider_33 : decode mi_Y_consider.2.1 33 = .ok (.ifCond .eq 17, 3) := by decide +kernel
theorem d_Y_consider_36 : decode mi_Y_consider.2.1 36 = .ok (.aload_n 0, 1) := by decide +kernel
theorem d_Y_consider_37 : decode mi_Y_consider.2.1 37 = .ok (.getfield 22, 3) := by decide +kernel
theorem d_Y_consider_40 : decode mi_Y_consider.2.1 40 = .ok (.iload_n 2, 1) := by decide +kernel
theorem d_Y_consider_41 : decode mi_Y_consider.2.1 41 = .ok (.iload_n 3, 1) := by decide +kernel
theorem d_Y_consider_42 : decode mi_Y_consider.2.1 42 = .ok (.iastore, 1) := by decide +kernel
theorem d_Y_consider_43 : decode mi_Y_consider.2.1 43 = .ok (.aload 4, 2) := by decide +kernel
theorem d_Y_consider_45 : decode mi_Y_consider.2.1 45 = .ok (.iload_n 2, 1) := by decide +kernel
theorem d_Y_consider_46 : decode mi_Y_consider.2.1 46 = .ok (.iconst 1, 1) := by decide +kernel
theorem d_Y_consider_47 : decode mi_Y_consider.2.1 47 = .ok (.invokevirtual 75, 3) := by decide +kernel
theorem d_Y_consider_50 : decode mi_Y_consider.2.1 50 = .ok (.iload 5, 2) := by decide +kernel
theorem d_Y_consider_52 : decode mi_Y_consider.2.1 52 = .ok (.ifCond .eq 7, 3) := by decide +kernel
theorem d_Y_consider_55 : decode mi_Y_consider.2.1 55 = .ok (.iconst 2, 1) := by decide +kernel
theorem d_Y_consider_56 : decode mi_Y_consider.2.1 56 = .ok (.goto 4, 3) := by decide +kernel
theorem d_Y_consider_59 : decode mi_Y_consider.2.1 59 = .ok (.iconst 1, 1) := by decide +kernel
theorem d_Y_consider_60 : decode mi_Y_consider.2.1 60 = .ok (.istore 6, 2) := by decide +kernel
theorem d_Y_consider_62 : decode mi_Y_consider.2.1 62 = .ok (.iconst 0, 1) := by decide +kernel
theorem d_Y_consider_63 : decode mi_Y_consider.2.1 63 = .ok (.istore 7, 2) := by decide +kernel
theorem d_Y_consider_65 : decode mi_Y_consider.2.1 65 = .ok (.iload 7, 2) := by decide +kernel
theorem d_Y_consider_67 : decode mi_Y_consider.2.1 67 = .ok (.iload 6, 2) := by decide +kernel
theorem d_Y_consider_69 : decode mi_Y_consider.2.1 69 = .ok (.if_icmp .ge 24, 3) := by decide +kernel
theorem d_Y_consider_72 : decode mi_Y_consider.2.1 72 = .ok (.aload 4, 2) := by decide +kernel
theorem d_Y_consider_74 : decode mi_Y_consider.2.1 74 = .ok (.invokevirtual 79, 3) := by decide +kernel
theorem d_Y_consider_77 : decode mi_Y_consider.2.1 77 = .ok (.ifCond .ne 10, 3) := by decide +kernel
theorem d_Y_consider_80 : decode mi_Y_consider.2.1 80 = .ok (.aload 4, 2) := by decide +kernel
theorem d_Y_consider_82 : decode mi_Y_consider.2.1 82 = .ok (.invokevirtual 82, 3) := by decide +kernel
theorem d_Y_consider_85 : decode mi_Y_consider.2.1 85 = .ok (.iconst 0, 1) := by decide +kernel
theorem d_Y_consider_86 : decode mi_Y_consider.2.1 86 = .ok (.ireturn, 1) := by decide +kernel
theorem d_Y_consider_87 : decode mi_Y_consider.2.1 87 = .ok (.iinc 7 1, 3) := by decide +kernel
theorem d_Y_consider_90 : decode mi_Y_consider.2.1 90 = .ok (.goto (-25), 3) := by decide +kernel
theorem d_Y_consider_93 : decode mi_Y_consider.2.1 93 = .ok (.aload_n 0, 1) := by decide +kernel
theorem d_Y_consider_94 : decode mi_Y_consider.2.1 94 = .ok (.getfield 29, 3) := by decide +kernel
theorem d_Y_consider_97 : decode mi_Y_consider.2.1 97 = .ok (.iload_n 1, 1) := by decide +kernel
theorem d_Y_consider_98 : decode mi_Y_consider.2.1 98 = .ok (.iload_n 3, 1) := by decide +kernel
theorem d_Y_consider_99 : decode mi_Y_consider.2.1 99 = .ok (.iastore, 1) := by decide +kernel
theorem d_Y_consider_100 : decode mi_Y_consider.2.1 100 = .ok (.iload 5, 2) := by decide +kernel
theorem d_Y_consider_102 : decode mi_Y_consider.2.1 102 = .ok (.ifCond .eq 10, 3) := by decide +kernel
theorem d_Y_consider_105 : decode mi_Y_consider.2.1 105 = .ok (.aload_n 0, 1) := by decide +kernel
theorem d_Y_consider_106 : decode mi_Y_consider.2.1 106 = .ok (.getfield 29, 3) := by decide +kernel
theorem d_Y_consider_109 : decode mi_Y_consider.2.1 109 = .ok (.iload_n 2, 1) := by decide +kernel
theorem d_Y_consider_110 : decode mi_Y_consider.2.1 110 = .ok (.iload_n 3, 1) := by decide +kernel
theorem d_Y_consider_111 : decode mi_Y_consider.2.1 111 = .ok (.iastore, 1) := by decide +kernel
theorem d_Y_consider_112 : decode mi_Y_consider.2.1 112 = .ok (.iload 6, 2) := by decide +kernel
theorem d_Y_consider_114 : decode mi_Y_consider.2.1 114 = .ok (.ireturn, 1) := by decide +kernel
theorem d_Y_putInOrder_0 : decode mi_Y_putInOrder.2.1 0 = .ok (.aload_n 0, 1) := by decide +kernel
theorem d_Y_putInOrder_1 : decode mi_Y_putInOrder.2.1 1 = .ok (.iconst 0, 1) := by decide +kernel
theorem d_Y_putInOrder_2 : decode mi_Y_putInOrder.2.1 2 = .ok (.putfield 19, 3) := by decide +kernel
theorem d_Y_putInOrder_5 : decode mi_Y_putInOrder.2.1 5 = .ok (.aload_n 0, 1) := by decide +kernel
theorem d_Y_putInOrder_6 : decode mi_Y_putInOrder.2.1 6 = .ok (.getfield 9, 3) := by decide +kernel
theorem d_Y_putInOrder_9 : decode mi_Y_putInOrder.2.1 9 = .ok (.ifCond .ne 11, 3) := by decide +kernel
theorem d_Y_putInOrder_12 : decode mi_Y_putInOrder.2.1 12 = .ok (.aload_n 0, 1) := by decide +kernel
theorem d_Y_putInOrder_13 : decode mi_Y_putInOrder.2.1 13 = .ok (.aload_n 1, 1) := by decide +kernel
theorem d_Y_putInOrder_14 : decode mi_Y_putInOrder.2.1 14 = .ok (.invokevirtual 85, 3) := by decide +kernel
theorem d_Y_putInOrder_17 : decode mi_Y_putInOrder.2.1 17 = .ok (.goto 52, 3) := by decide +kernel
theorem d_Y_putInOrder_20 : decode mi_Y_putInOrder.2.1 20 = .ok (.aload_n 0, 1) := by decide +kernel
theorem d_Y_putInOrder_21 : decode mi_Y_putInOrder.2.1 21 = .ok (.getfield 9, 3) := by decide +kernel
theorem d_Y_putInOrder_24 : decode mi_Y_putInOrder.2.1 24 = .ok (.iconst 1, 1) := by decide +kernel
theorem d_Y_putInOrder_25 : decode mi_Y_putInOrder.2.1 25 = .ok (.if_icmp .ne 11, 3) := by decide +kernel
theorem d_Y_putInOrder_28 : decode mi_Y_putInOrder.2.1 28 = .ok (.aload_n 0, 1) := by decide +kernel
theorem d_Y_putInOrder_29 : decode mi_Y_putInOrder.2.1 29 = .ok (.aload_n 1, 1) := by decide +kernel
theorem d_Y_putInOrder_30 : decode mi_Y_putInOrder.2.1 30 = .ok (.invokevirtual 88, 3) := by decide +kernel
theorem d_Y_putInOrder_33 : decode mi_Y_putInOrder.2.1 33 = .ok (.goto 36, 3) := by decide +kernel
theorem d_Y_putInOrder_36 : decode mi_Y_putInOrder.2.1 36 = .ok (.iconst 0, 1) := by decide +kernel
theorem d_Y_putInOrder_37 : decode mi_Y_putInOrder.2.1 37 = .ok (.istore_n 2, 1) := by decide +kernel
theorem d_Y_putInOrder_38 : decode mi_Y_putInOrder.2.1 38 = .ok (.iload_n 2, 1) := by decide +kernel
theorem d_Y_putInOrder_39 : decode mi_Y_putInOrder.2.1 39 = .ok (.iconst 2, 1) := by decide +kernel
theorem d_Y_putInOrder_40 : decode mi_Y_putInOrder.2.1 40 = .ok (.if_icmp .gt 29, 3) := by decide +kernel
theorem d_Y_putInOrder_43 : decode mi_Y_putInOrder.2.1 43 = .ok (.aload_n 0, 1) := by decide +kernel
theorem d_Y_putInOrder_44 : decode mi_Y_putInOrder.2.1 44 = .ok (.aload_n 1, 1) := by decide +kernel
theorem d_Y_putInOrder_45 : decode mi_Y_putInOrder.2.1 45 = .ok (.aload_n 0, 1) := by decide +kernel
theorem d_Y_putInOrder_46 : decode mi_Y_putInOrder.2.1 46 = .ok (.getfield 9, 3) := by decide +kernel
theorem d_Y_putInOrder_49 : decode mi_Y_putInOrder.2.1 49 = .ok (.iconst 2, 1) := by decide +kernel
theorem d_Y_putInOrder_50 : decode mi_Y_putInOrder.2.1 50 = .ok (.if_icmp .ne 7, 3) := by decide +kernel
theorem d_Y_putInOrder_53 : decode mi_Y_putInOrder.2.1 53 = .ok (.iload_n 2, 1) := by decide +kernel
theorem d_Y_putInOrder_54 : decode mi_Y_putInOrder.2.1 54 = .ok (.goto 6, 3) := by decide +kernel
theorem d_Y_putInOrder_57 : decode mi_Y_putInOrder.2.1 57 = .ok (.iconst 2, 1) := by decide +kernel
theorem d_Y_putInOrder_58 : decode mi_Y_putInOrder.2.1 58 = .ok (.iload_n 2, 1) := by decide +kernel
theorem d_Y_putInOrder_59 : decode mi_Y_putInOrder.2.1 59 = .ok (.isub, 1) := by decide +kernel
theorem d_Y_putInOrder_60 : decode mi_Y_putInOrder.2.1 60 = .ok (.invokevirtual 91, 3) := by decide +kernel
theorem d_Y_putInOrder_63 : decode mi_Y_putInOrder.2.1 63 = .ok (.iinc 2 1, 3) := by decide +kernel
theorem d_Y_putInOrder_66 : decode mi_Y_putInOrder.2.1 66 = .ok (.goto (-28), 3) := by decide +kernel
theorem d_Y_putInOrder_69 : decode mi_Y_putInOrder.2.1 69 = .ok (.return_, 1) := by decide +kernel
theorem d_Y_addByRows_0 : decode mi_Y_addByRows.2.1 0 = .ok (.iconst 0, 1) := by decide +kernel
theorem d_Y_addByRows_1 : decode mi_Y_addByRows.2.1 1 = .ok (.istore_n 2, 1) := by decide +kernel
theorem d_Y_addByRows_2 : decode mi_Y_addByRows.2.1 2 = .ok (.iload_n 2, 1) := by decide +kernel
theorem d_Y_addByRows_3 : decode mi_Y_addByRows.2.1 3 = .ok (.aload_n 1, 1) := by decide +kernel
theorem d_Y_addByRows_4 : decode mi_Y_addByRows.2.1 4 = .ok (.getfield 95, 3) := by decide +kernel
theorem d_Y_addByRows_7 : decode mi_Y_addByRows.2.1 7 = .ok (.if_icmp .ge 31, 3) := by decide +kernel
theorem d_Y_addByRows_10 : decode mi_Y_addByRows.2.1 10 = .ok (.iconst 0, 1) := by decide +kernel
theorem d_Y_addByRows_11 : decode mi_Y_addByRows.2.1 11 = .ok (.istore_n 3, 1) := by decide +kernel
theorem d_Y_addByRows_12 : decode mi_Y_addByRows.2.1 12 = .ok (.iload_n 3, 1) := by decide +kernel
theorem d_Y_addByRows_13 : decode mi_Y_addByRows.2.1 13 = .ok (.aload_n 1, 1) := by decide +kernel
theorem d_Y_addByRows_14 : decode mi_Y_addByRows.2.1 14 = .ok (.getfield 98, 3) := by decide +kernel
theorem d_Y_addByRows_17 : decode mi_Y_addByRows.2.1 17 = .ok (.if_icmp .ge 15, 3) := by decide +kernel
theorem d_Y_addByRows_20 : decode mi_Y_addByRows.2.1 20 = .ok (.aload_n 0, 1) := by decide +kernel
theorem d_Y_addByRows_21 : decode mi_Y_addByRows.2.1 21 = .ok (.iload_n 2, 1) := by decide +kernel
theorem d_Y_addByRows_22 : decode mi_Y_addByRows.2.1 22 = .ok (.iload_n 3, 1) := by decide +kernel
theorem d_Y_addByRows_23 : decode mi_Y_addByRows.2.1 23 = .ok (.invokevirtual 101, 3) := by decide +kernel
theorem d_Y_addByRows_26 : decode mi_Y_addByRows.2.1 26 = .ok (.iinc 3 1, 3) := by decide +kernel
theorem d_Y_addByRows_29 : decode mi_Y_addByRows.2.1 29 = .ok (.goto (-17), 3) := by decide +kernel
theorem d_Y_addByRows_32 : decode mi_Y_addByRows.2.1 32 = .ok (.iinc 2 1, 3) := by decide +kernel
theorem d_Y_addByRows_35 : decode mi_Y_addByRows.2.1 35 = .ok (.goto (-33), 3) := by decide +kernel
theorem d_Y_addByRows_38 : decode mi_Y_addByRows.2.1 38 = .ok (.return_, 1) := by decide +kernel
theorem d_Y_addByColumns_0 : decode mi_Y_addByColumns.2.1 0 = .ok (.iconst 0, 1) := by decide +kernel
theorem d_Y_addByColumns_1 : decode mi_Y_addByColumns.2.1 1 = .ok (.istore_n 2, 1) := by decide +kernel
theorem d_Y_addByColumns_2 : decode mi_Y_addByColumns.2.1 2 = .ok (.iload_n 2, 1) := by decide +kernel
theorem d_Y_addByColumns_3 : decode mi_Y_addByColumns.2.1 3 = .ok (.aload_n 1, 1) := by decide +kernel
theorem d_Y_addByColumns_4 : decode mi_Y_addByColumns.2.1 4 = .ok (.getfield 98, 3) := by decide +kernel
theorem d_Y_addByColumns_7 : decode mi_Y_addByColumns.2.1 7 = .ok (.if_icmp .ge 31, 3) := by decide +kernel
theorem d_Y_addByColumns_10 : decode mi_Y_addByColumns.2.1 10 = .ok (.iconst 0, 1) := by decide +kernel
theorem d_Y_addByColumns_11 : decode mi_Y_addByColumns.2.1 11 = .ok (.istore_n 3, 1) := by decide +kernel
theorem d_Y_addByColumns_12 : decode mi_Y_addByColumns.2.1 12 = .ok (.iload_n 3, 1) := by decide +kernel
theorem d_Y_addByColumns_13 : decode mi_Y_addByColumns.2.1 13 = .ok (.aload_n 1, 1) := by decide +kernel
theorem d_Y_addByColumns_14 : decode mi_Y_addByColumns.2.1 14 = .ok (.getfield 95, 3) := by decide +kernel
theorem d_Y_addByColumns_17 : decode mi_Y_addByColumns.2.1 17 = .ok (.if_icmp .ge 15, 3) := by decide +kernel
theorem d_Y_addByColumns_20 : decode mi_Y_addByColumns.2.1 20 = .ok (.aload_n 0, 1) := by decide +kernel
theorem d_Y_addByColumns_21 : decode mi_Y_addByColumns.2.1 21 = .ok (.iload_n 3, 1) := by decide +kernel
theorem d_Y_addByColumns_22 : decode mi_Y_addByColumns.2.1 22 = .ok (.iload_n 2, 1) := by decide +kernel
theorem d_Y_addByColumns_23 : decode mi_Y_addByColumns.2.1 23 = .ok (.invokevirtual 101, 3) := by decide +kernel
theorem d_Y_addByColumns_26 : decode mi_Y_addByColumns.2.1 26 = .ok (.iinc 3 1, 3) := by decide +kernel
theorem d_Y_addByColumns_29 : decode mi_Y_addByColumns.2.1 29 = .ok (.goto (-17), 3) := by decide +kernel
theorem d_Y_addByColumns_32 : decode mi_Y_addByColumns.2.1 32 = .ok (.iinc 2 1, 3) := by decide +kernel
theorem d_Y_addByColumns_35 : decode mi_Y_addByColumns.2.1 35 = .ok (.goto (-33), 3) := by decide +kernel
theorem d_Y_addByColumns_38 : decode mi_Y_addByColumns.2.1 38 = .ok (.return_, 1) := by decide +kernel
theorem d_Y_addRing_0 : decode mi_Y_addRing.2.1 0 = .ok (.iconst 0, 1) := by decide +kernel
theorem d_Y_addRing_1 : decode mi_Y_addRing.2.1 1 = .ok (.istore_n 3, 1) := by decide +kernel
theorem d_Y_addRing_2 : decode mi_Y_addRing.2.1 2 = .ok (.iload_n 3, 1) := by decide +kernel
theorem d_Y_addRing_3 : decode mi_Y_addRing.2.1 3 = .ok (.aload_n 1, 1) := by decide +kernel
theorem d_Y_addRing_4 : decode mi_Y_addRing.2.1 4 = .ok (.getfield 95, 3) := by decide +kernel
theorem d_Y_addRing_7 : decode mi_Y_addRing.2.1 7 = .ok (.if_icmp .ge 45, 3) := by decide +kernel
theorem d_Y_addRing_10 : decode mi_Y_addRing.2.1 10 = .ok (.iconst 0, 1) := by decide +kernel
theorem d_Y_addRing_11 : decode mi_Y_addRing.2.1 11 = .ok (.istore 4, 2) := by decide +kernel
theorem d_Y_addRing_13 : decode mi_Y_addRing.2.1 13 = .ok (.iload 4, 2) := by decide +kernel
theorem d_Y_addRing_15 : decode mi_Y_addRing.2.1 15 = .ok (.aload_n 1, 1) := by decide +kernel
theorem d_Y_addRing_16 : decode mi_Y_addRing.2.1 16 = .ok (.getfield 98, 3) := by decide +kernel
theorem d_Y_addRing_19 : decode mi_Y_addRing.2.1 19 = .ok (.if_icmp .ge 27, 3) := by decide +kernel
theorem d_Y_addRing_22 : decode mi_Y_addRing.2.1 22 = .ok (.aload_n 1, 1) := by decide +kernel
theorem d_Y_addRing_23 : decode mi_Y_addRing.2.1 23 = .ok (.iload_n 3, 1) := by decide +kernel
theorem d_Y_addRing_24 : decode mi_Y_addRing.2.1 24 = .ok (.iload 4, 2) := by decide +kernel
theorem d_Y_addRing_26 : decode mi_Y_addRing.2.1 26 = .ok (.invokestatic 104, 3) := by decide +kernel
theorem d_Y_addRing_29 : decode mi_Y_addRing.2.1 29 = .ok (.iload_n 2, 1) := by decide +kernel
theorem d_Y_addRing_30 : decode mi_Y_addRing.2.1 30 = .ok (.if_icmp .ne 10, 3) := by decide +kernel
theorem d_Y_addRing_33 : decode mi_Y_addRing.2.1 33 = .ok (.aload_n 0, 1) := by decide +kernel
theorem d_Y_addRing_34 : decode mi_Y_addRing.2.1 34 = .ok (.iload_n 3, 1) := by decide +kernel
theorem d_Y_addRing_35 : decode mi_Y_addRing.2.1 35 = .ok (.iload 4, 2) := by decide +kernel
theorem d_Y_addRing_37 : decode mi_Y_addRing.2.1 37 = .ok (.invokevirtual 101, 3) := by decide +kernel
theorem d_Y_addRing_40 : decode mi_Y_addRing.2.1 40 = .ok (.iinc 4 1, 3) := by decide +kernel
theorem d_Y_addRing_43 : decode mi_Y_addRing.2.1 43 = .ok (.goto (-30), 3) := by decide +kernel
theorem d_Y_addRing_46 : decode mi_Y_addRing.2.1 46 = .ok (.iinc 3 1, 3) := by decide +kernel
theorem d_Y_addRing_49 : decode mi_Y_addRing.2.1 49 = .ok (.goto (-47), 3) := by decide +kernel
theorem d_Y_addRing_52 : decode mi_Y_addRing.2.1 52 = .ok (.return_, 1) := by decide +kernel
theorem d_Y_ringOf_0 : decode mi_Y_ringOf.2.1 0 = .ok (.iload_n 1, 1) := by decide +kernel
theorem d_Y_ringOf_1 : decode mi_Y_ringOf.2.1 1 = .ok (.aload_n 0, 1) := by decide +kernel
theorem d_Y_ringOf_2 : decode mi_Y_ringOf.2.1 2 = .ok (.getfield 95, 3) := by decide +kernel
theorem d_Y_ringOf_5 : decode mi_Y_ringOf.2.1 5 = .ok (.iconst 1, 1) := by decide +kernel
theorem d_Y_ringOf_6 : decode mi_Y_ringOf.2.1 6 = .ok (.isub, 1) := by decide +kernel
theorem d_Y_ringOf_7 : decode mi_Y_ringOf.2.1 7 = .ok (.iload_n 1, 1) := by decide +kernel
theorem d_Y_ringOf_8 : decode mi_Y_ringOf.2.1 8 = .ok (.isub, 1) := by decide +kernel
theorem d_Y_ringOf_9 : decode mi_Y_ringOf.2.1 9 = .ok (.invokestatic 108, 3) := by decide +kernel
theorem d_Y_ringOf_12 : decode mi_Y_ringOf.2.1 12 = .ok (.istore_n 3, 1) := by decide +kernel
theorem d_Y_ringOf_13 : decode mi_Y_ringOf.2.1 13 = .ok (.iload_n 2, 1) := by decide +kernel
theorem d_Y_ringOf_14 : decode mi_Y_ringOf.2.1 14 = .ok (.aload_n 0, 1) := by decide +kernel
theorem d_Y_ringOf_15 : decode mi_Y_ringOf.2.1 15 = .ok (.getfield 98, 3) := by decide +kernel
theorem d_Y_ringOf_18 : decode mi_Y_ringOf.2.1 18 = .ok (.iconst 1, 1) := by decide +kernel
theorem d_Y_ringOf_19 : decode mi_Y_ringOf.2.1 19 = .ok (.isub, 1) := by decide +kernel
theorem d_Y_ringOf_20 : decode mi_Y_ringOf.2.1 20 = .ok (.iload_n 2, 1) := by decide +kernel
theorem d_Y_ringOf_21 : decode mi_Y_ringOf.2.1 21 = .ok (.isub, 1) := by decide +kernel
theorem d_Y_ringOf_22 : decode mi_Y_ringOf.2.1 22 = .ok (.invokestatic 108, 3) := by decide +kernel
theorem d_Y_ringOf_25 : decode mi_Y_ringOf.2.1 25 = .ok (.istore 4, 2) := by decide +kernel
theorem d_Y_ringOf_27 : decode mi_Y_ringOf.2.1 27 = .ok (.iload_n 3, 1) := by decide +kernel
theorem d_Y_ringOf_28 : decode mi_Y_ringOf.2.1 28 = .ok (.iload 4, 2) := by decide +kernel
theorem d_Y_ringOf_30 : decode mi_Y_ringOf.2.1 30 = .ok (.invokestatic 108, 3) := by decide +kernel
theorem d_Y_ringOf_33 : decode mi_Y_ringOf.2.1 33 = .ok (.ireturn, 1) := by decide +kernel
theorem d_Y_addPlace_0 : decode mi_Y_addPlace.2.1 0 = .ok (.aload_n 0, 1) := by decide +kernel
theorem d_Y_addPlace_1 : decode mi_Y_addPlace.2.1 1 = .ok (.getfield 19, 3) := by decide +kernel
theorem d_Y_addPlace_4 : decode mi_Y_addPlace.2.1 4 = .ok (.bipush 36, 2) := by decide +kernel
theorem d_Y_addPlace_6 : decode mi_Y_addPlace.2.1 6 = .ok (.if_icmp .ge 27, 3) := by decide +kernel
theorem d_Y_addPlace_9 : decode mi_Y_addPlace.2.1 9 = .ok (.aload_n 0, 1) := by decide +kernel
theorem d_Y_addPlace_10 : decode mi_Y_addPlace.2.1 10 = .ok (.getfield 15, 3) := by decide +kernel
theorem d_Y_addPlace_13 : decode mi_Y_addPlace.2.1 13 = .ok (.aload_n 0, 1) := by decide +kernel
theorem d_Y_addPlace_14 : decode mi_Y_addPlace.2.1 14 = .ok (.getfield 19, 3) := by decide +kernel
theorem d_Y_addPlace_17 : decode mi_Y_addPlace.2.1 17 = .ok (.iload_n 1, 1) := by decide +kernel
theorem d_Y_addPlace_18 : decode mi_Y_addPlace.2.1 18 = .ok (.iload_n 2, 1) := by decide +kernel
theorem d_Y_addPlace_19 : decode mi_Y_addPlace.2.1 19 = .ok (.invokestatic 114, 3) := by decide +kernel
theorem d_Y_addPlace_22 : decode mi_Y_addPlace.2.1 22 = .ok (.iastore, 1) := by decide +kernel
theorem d_Y_addPlace_23 : decode mi_Y_addPlace.2.1 23 = .ok (.aload_n 0, 1) := by decide +kernel
theorem d_Y_addPlace_24 : decode mi_Y_addPlace.2.1 24 = .ok (.dup, 1) := by decide +kernel
theorem d_Y_addPlace_25 : decode mi_Y_addPlace.2.1 25 = .ok (.getfield 19, 3) := by decide +kernel
theorem d_Y_addPlace_28 : decode mi_Y_addPlace.2.1 28 = .ok (.iconst 1, 1) := by decide +kernel
theorem d_Y_addPlace_29 : decode mi_Y_addPlace.2.1 29 = .ok (.iadd, 1) := by decide +kernel
theorem d_Y_addPlace_30 : decode mi_Y_addPlace.2.1 30 = .ok (.putfield 19, 3) := by decide +kernel
theorem d_Y_addPlace_33 : decode mi_Y_addPlace.2.1 33 = .ok (.return_, 1) := by decide +kernel
