/-! decode rows: printed by wip/whole/gen07.py -/
theorem d_R_init_0 : decode mi_R_init.2.1 0 = .ok (.aload_n 0, 1) := by decide +kernel
theorem d_R_init_1 : decode mi_R_init.2.1 1 = .ok (.invokespecial 3, 3) := by decide +kernel
theorem d_R_init_4 : decode mi_R_init.2.1 4 = .ok (.aload_n 0, 1) := by decide +kernel
theorem d_R_init_5 : decode mi_R_init.2.1 5 = .ok (.new 9, 3) := by decide +kernel
theorem d_R_init_8 : decode mi_R_init.2.1 8 = .ok (.dup, 1) := by decide +kernel
theorem d_R_init_9 : decode mi_R_init.2.1 9 = .ok (.invokespecial 11, 3) := by decide +kernel
theorem d_R_init_12 : decode mi_R_init.2.1 12 = .ok (.putfield 12, 3) := by decide +kernel
theorem d_R_init_15 : decode mi_R_init.2.1 15 = .ok (.aload_n 0, 1) := by decide +kernel
theorem d_R_init_16 : decode mi_R_init.2.1 16 = .ok (.new 16, 3) := by decide +kernel
theorem d_R_init_19 : decode mi_R_init.2.1 19 = .ok (.dup, 1) := by decide +kernel
theorem d_R_init_20 : decode mi_R_init.2.1 20 = .ok (.invokespecial 18, 3) := by decide +kernel
theorem d_R_init_23 : decode mi_R_init.2.1 23 = .ok (.putfield 19, 3) := by decide +kernel
theorem d_R_init_26 : decode mi_R_init.2.1 26 = .ok (.aload_n 0, 1) := by decide +kernel
theorem d_R_init_27 : decode mi_R_init.2.1 27 = .ok (.new 23, 3) := by decide +kernel
theorem d_R_init_30 : decode mi_R_init.2.1 30 = .ok (.dup, 1) := by decide +kernel
theorem d_R_init_31 : decode mi_R_init.2.1 31 = .ok (.invokespecial 25, 3) := by decide +kernel
theorem d_R_init_34 : decode mi_R_init.2.1 34 = .ok (.putfield 26, 3) := by decide +kernel
theorem d_R_init_37 : decode mi_R_init.2.1 37 = .ok (.aload_n 0, 1) := by decide +kernel
theorem d_R_init_38 : decode mi_R_init.2.1 38 = .ok (.new 30, 3) := by decide +kernel
theorem d_R_init_41 : decode mi_R_init.2.1 41 = .ok (.dup, 1) := by decide +kernel
theorem d_R_init_42 : decode mi_R_init.2.1 42 = .ok (.invokespecial 32, 3) := by decide +kernel
theorem d_R_init_45 : decode mi_R_init.2.1 45 = .ok (.putfield 33, 3) := by decide +kernel
theorem d_R_init_48 : decode mi_R_init.2.1 48 = .ok (.aload_n 0, 1) := by decide +kernel
theorem d_R_init_49 : decode mi_R_init.2.1 49 = .ok (.new 30, 3) := by decide +kernel
theorem d_R_init_52 : decode mi_R_init.2.1 52 = .ok (.dup, 1) := by decide +kernel
theorem d_R_init_53 : decode mi_R_init.2.1 53 = .ok (.invokespecial 32, 3) := by decide +kernel
theorem d_R_init_56 : decode mi_R_init.2.1 56 = .ok (.putfield 37, 3) := by decide +kernel
theorem d_R_init_59 : decode mi_R_init.2.1 59 = .ok (.aload_n 0, 1) := by decide +kernel
theorem d_R_init_60 : decode mi_R_init.2.1 60 = .ok (.iconst 4, 1) := by decide +kernel
theorem d_R_init_61 : decode mi_R_init.2.1 61 = .ok (.anewarray 40, 3) := by decide +kernel
theorem d_R_init_64 : decode mi_R_init.2.1 64 = .ok (.putfield 42, 3) := by decide +kernel
theorem d_R_init_67 : decode mi_R_init.2.1 67 = .ok (.iconst 0, 1) := by decide +kernel
theorem d_R_init_68 : decode mi_R_init.2.1 68 = .ok (.istore_n 1, 1) := by decide +kernel
theorem d_R_init_69 : decode mi_R_init.2.1 69 = .ok (.iload_n 1, 1) := by decide +kernel
theorem d_R_init_70 : decode mi_R_init.2.1 70 = .ok (.iconst 4, 1) := by decide +kernel
theorem d_R_init_71 : decode mi_R_init.2.1 71 = .ok (.if_icmp .ge 23, 3) := by decide +kernel
theorem d_R_init_74 : decode mi_R_init.2.1 74 = .ok (.aload_n 0, 1) := by decide +kernel
theorem d_R_init_75 : decode mi_R_init.2.1 75 = .ok (.getfield 42, 3) := by decide +kernel
theorem d_R_init_78 : decode mi_R_init.2.1 78 = .ok (.iload_n 1, 1) := by decide +kernel
theorem d_R_init_79 : decode mi_R_init.2.1 79 = .ok (.new 40, 3) := by decide +kernel
theorem d_R_init_82 : decode mi_R_init.2.1 82 = .ok (.dup, 1) := by decide +kernel
theorem d_R_init_83 : decode mi_R_init.2.1 83 = .ok (.iload_n 1, 1) := by decide +kernel
theorem d_R_init_84 : decode mi_R_init.2.1 84 = .ok (.invokespecial 46, 3) := by decide +kernel
theorem d_R_init_87 : decode mi_R_init.2.1 87 = .ok (.aastore, 1) := by decide +kernel
theorem d_R_init_88 : decode mi_R_init.2.1 88 = .ok (.iinc 1 1, 3) := by decide +kernel
theorem d_R_init_91 : decode mi_R_init.2.1 91 = .ok (.goto (-22), 3) := by decide +kernel
theorem d_R_init_94 : decode mi_R_init.2.1 94 = .ok (.aload_n 0, 1) := by decide +kernel
theorem d_R_init_95 : decode mi_R_init.2.1 95 = .ok (.bipush 36, 2) := by decide +kernel
theorem d_R_init_97 : decode mi_R_init.2.1 97 = .ok (.newarray .boolean, 2) := by decide +kernel
theorem d_R_init_99 : decode mi_R_init.2.1 99 = .ok (.putfield 49, 3) := by decide +kernel
theorem d_R_init_102 : decode mi_R_init.2.1 102 = .ok (.aload_n 0, 1) := by decide +kernel
theorem d_R_init_103 : decode mi_R_init.2.1 103 = .ok (.iconst 0, 1) := by decide +kernel
theorem d_R_init_104 : decode mi_R_init.2.1 104 = .ok (.putfield 53, 3) := by decide +kernel
theorem d_R_init_107 : decode mi_R_init.2.1 107 = .ok (.aload_n 0, 1) := by decide +kernel
theorem d_R_init_108 : decode mi_R_init.2.1 108 = .ok (.iconst 0, 1) := by decide +kernel
theorem d_R_init_109 : decode mi_R_init.2.1 109 = .ok (.putfield 57, 3) := by decide +kernel
theorem d_R_init_112 : decode mi_R_init.2.1 112 = .ok (.aload_n 0, 1) := by decide +kernel
theorem d_R_init_113 : decode mi_R_init.2.1 113 = .ok (.bipush (-9), 2) := by decide +kernel
theorem d_R_init_115 : decode mi_R_init.2.1 115 = .ok (.putfield 61, 3) := by decide +kernel
theorem d_R_init_118 : decode mi_R_init.2.1 118 = .ok (.return_, 1) := by decide +kernel
theorem d_R_appendCharacter_0 : decode mi_R_appendCharacter.2.1 0 = .ok (.iload_n 1, 1) := by decide +kernel
theorem d_R_appendCharacter_1 : decode mi_R_appendCharacter.2.1 1 = .ok (.ifCond .lt 10, 3) := by decide +kernel
theorem d_R_appendCharacter_4 : decode mi_R_appendCharacter.2.1 4 = .ok (.iload_n 1, 1) := by decide +kernel
theorem d_R_appendCharacter_5 : decode mi_R_appendCharacter.2.1 5 = .ok (.sipush 255, 3) := by decide +kernel
theorem d_R_appendCharacter_8 : decode mi_R_appendCharacter.2.1 8 = .ok (.if_icmp .le 5, 3) := by decide +kernel
theorem d_R_appendCharacter_11 : decode mi_R_appendCharacter.2.1 11 = .ok (.iconst (-1), 1) := by decide +kernel
theorem d_R_appendCharacter_12 : decode mi_R_appendCharacter.2.1 12 = .ok (.ireturn, 1) := by decide +kernel
theorem d_R_appendCharacter_13 : decode mi_R_appendCharacter.2.1 13 = .ok (.aload_n 0, 1) := by decide +kernel
theorem d_R_appendCharacter_14 : decode mi_R_appendCharacter.2.1 14 = .ok (.getfield 26, 3) := by decide +kernel
theorem d_R_appendCharacter_17 : decode mi_R_appendCharacter.2.1 17 = .ok (.iload_n 1, 1) := by decide +kernel
theorem d_R_appendCharacter_18 : decode mi_R_appendCharacter.2.1 18 = .ok (.invokevirtual 64, 3) := by decide +kernel
theorem d_R_appendCharacter_21 : decode mi_R_appendCharacter.2.1 21 = .ok (.ifCond .eq 13, 3) := by decide +kernel
theorem d_R_appendCharacter_24 : decode mi_R_appendCharacter.2.1 24 = .ok (.aload_n 0, 1) := by decide +kernel
theorem d_R_appendCharacter_25 : decode mi_R_appendCharacter.2.1 25 = .ok (.getfield 26, 3) := by decide +kernel
theorem d_R_appendCharacter_28 : decode mi_R_appendCharacter.2.1 28 = .ok (.getfield 68, 3) := by decide +kernel
theorem d_R_appendCharacter_31 : decode mi_R_appendCharacter.2.1 31 = .ok (.goto 5, 3) := by decide +kernel
theorem d_R_appendCharacter_34 : decode mi_R_appendCharacter.2.1 34 = .ok (.bipush (-3), 2) := by decide +kernel
theorem d_R_appendCharacter_36 : decode mi_R_appendCharacter.2.1 36 = .ok (.ireturn, 1) := by decide +kernel
theorem d_R_clearText_0 : decode mi_R_clearText.2.1 0 = .ok (.aload_n 0, 1) := by decide +kernel
theorem d_R_clearText_1 : decode mi_R_clearText.2.1 1 = .ok (.getfield 26, 3) := by decide +kernel
theorem d_R_clearText_4 : decode mi_R_clearText.2.1 4 = .ok (.getfield 68, 3) := by decide +kernel
theorem d_R_clearText_7 : decode mi_R_clearText.2.1 7 = .ok (.istore_n 1, 1) := by decide +kernel
theorem d_R_clearText_8 : decode mi_R_clearText.2.1 8 = .ok (.aload_n 0, 1) := by decide +kernel
theorem d_R_clearText_9 : decode mi_R_clearText.2.1 9 = .ok (.getfield 26, 3) := by decide +kernel
theorem d_R_clearText_12 : decode mi_R_clearText.2.1 12 = .ok (.iconst 0, 1) := by decide +kernel
theorem d_R_clearText_13 : decode mi_R_clearText.2.1 13 = .ok (.putfield 68, 3) := by decide +kernel
theorem d_R_clearText_16 : decode mi_R_clearText.2.1 16 = .ok (.iload_n 1, 1) := by decide +kernel
theorem d_R_clearText_17 : decode mi_R_clearText.2.1 17 = .ok (.ireturn, 1) := by decide +kernel
theorem d_R_loadGrid_0 : decode mi_R_loadGrid.2.1 0 = .ok (.aload_n 0, 1) := by decide +kernel
theorem d_R_loadGrid_1 : decode mi_R_loadGrid.2.1 1 = .ok (.getfield 26, 3) := by decide +kernel
theorem d_R_loadGrid_4 : decode mi_R_loadGrid.2.1 4 = .ok (.invokevirtual 71, 3) := by decide +kernel
theorem d_R_loadGrid_7 : decode mi_R_loadGrid.2.1 7 = .ok (.istore_n 1, 1) := by decide +kernel
theorem d_R_loadGrid_8 : decode mi_R_loadGrid.2.1 8 = .ok (.iload_n 1, 1) := by decide +kernel
theorem d_R_loadGrid_9 : decode mi_R_loadGrid.2.1 9 = .ok (.iconst (-1), 1) := by decide +kernel
theorem d_R_loadGrid_10 : decode mi_R_loadGrid.2.1 10 = .ok (.if_icmp .eq 8, 3) := by decide +kernel
theorem d_R_loadGrid_13 : decode mi_R_loadGrid.2.1 13 = .ok (.bipush (-10), 2) := by decide +kernel
theorem d_R_loadGrid_15 : decode mi_R_loadGrid.2.1 15 = .ok (.iload_n 1, 1) := by decide +kernel
theorem d_R_loadGrid_16 : decode mi_R_loadGrid.2.1 16 = .ok (.isub, 1) := by decide +kernel
theorem d_R_loadGrid_17 : decode mi_R_loadGrid.2.1 17 = .ok (.ireturn, 1) := by decide +kernel
theorem d_R_loadGrid_18 : decode mi_R_loadGrid.2.1 18 = .ok (.aload_n 0, 1) := by decide +kernel
theorem d_R_loadGrid_19 : decode mi_R_loadGrid.2.1 19 = .ok (.invokevirtual 75, 3) := by decide +kernel
theorem d_R_loadGrid_22 : decode mi_R_loadGrid.2.1 22 = .ok (.aload_n 0, 1) := by decide +kernel
theorem d_R_loadGrid_23 : decode mi_R_loadGrid.2.1 23 = .ok (.getfield 12, 3) := by decide +kernel
theorem d_R_loadGrid_26 : decode mi_R_loadGrid.2.1 26 = .ok (.aload_n 0, 1) := by decide +kernel
theorem d_R_loadGrid_27 : decode mi_R_loadGrid.2.1 27 = .ok (.getfield 26, 3) := by decide +kernel
theorem d_R_loadGrid_30 : decode mi_R_loadGrid.2.1 30 = .ok (.invokevirtual 78, 3) := by decide +kernel
theorem d_R_loadGrid_33 : decode mi_R_loadGrid.2.1 33 = .ok (.aload_n 0, 1) := by decide +kernel
theorem d_R_loadGrid_34 : decode mi_R_loadGrid.2.1 34 = .ok (.getfield 26, 3) := by decide +kernel
theorem d_R_loadGrid_37 : decode mi_R_loadGrid.2.1 37 = .ok (.iconst 0, 1) := by decide +kernel
theorem d_R_loadGrid_38 : decode mi_R_loadGrid.2.1 38 = .ok (.putfield 68, 3) := by decide +kernel
theorem d_R_loadGrid_41 : decode mi_R_loadGrid.2.1 41 = .ok (.aload_n 0, 1) := by decide +kernel
theorem d_R_loadGrid_42 : decode mi_R_loadGrid.2.1 42 = .ok (.getfield 12, 3) := by decide +kernel
theorem d_R_loadGrid_45 : decode mi_R_loadGrid.2.1 45 = .ok (.invokevirtual 82, 3) := by decide +kernel
theorem d_R_loadGrid_48 : decode mi_R_loadGrid.2.1 48 = .ok (.ireturn, 1) := by decide +kernel
theorem d_R_setKind_0 : decode mi_R_setKind.2.1 0 = .ok (.aload_n 0, 1) := by decide +kernel
theorem d_R_setKind_1 : decode mi_R_setKind.2.1 1 = .ok (.getfield 12, 3) := by decide +kernel
theorem d_R_setKind_4 : decode mi_R_setKind.2.1 4 = .ok (.iload_n 1, 1) := by decide +kernel
theorem d_R_setKind_5 : decode mi_R_setKind.2.1 5 = .ok (.iload_n 2, 1) := by decide +kernel
theorem d_R_setKind_6 : decode mi_R_setKind.2.1 6 = .ok (.invokevirtual 85, 3) := by decide +kernel
theorem d_R_setKind_9 : decode mi_R_setKind.2.1 9 = .ok (.ifCond .eq 12, 3) := by decide +kernel
theorem d_R_setKind_12 : decode mi_R_setKind.2.1 12 = .ok (.iload_n 3, 1) := by decide +kernel
theorem d_R_setKind_13 : decode mi_R_setKind.2.1 13 = .ok (.ifCond .lt 8, 3) := by decide +kernel
theorem d_R_setKind_16 : decode mi_R_setKind.2.1 16 = .ok (.iload_n 3, 1) := by decide +kernel
theorem d_R_setKind_17 : decode mi_R_setKind.2.1 17 = .ok (.iconst 2, 1) := by decide +kernel
theorem d_R_setKind_18 : decode mi_R_setKind.2.1 18 = .ok (.if_icmp .le 5, 3) := by decide +kernel
theorem d_R_setKind_21 : decode mi_R_setKind.2.1 21 = .ok (.iconst (-1), 1) := by decide +kernel
theorem d_R_setKind_22 : decode mi_R_setKind.2.1 22 = .ok (.ireturn, 1) := by decide +kernel
theorem d_R_setKind_23 : decode mi_R_setKind.2.1 23 = .ok (.iload_n 1, 1) := by decide +kernel
theorem d_R_setKind_24 : decode mi_R_setKind.2.1 24 = .ok (.iload_n 2, 1) := by decide +kernel
theorem d_R_setKind_25 : decode mi_R_setKind.2.1 25 = .ok (.invokestatic 89, 3) := by decide +kernel
theorem d_R_setKind_28 : decode mi_R_setKind.2.1 28 = .ok (.istore 4, 2) := by decide +kernel
theorem d_R_setKind_30 : decode mi_R_setKind.2.1 30 = .ok (.aload_n 0, 1) := by decide +kernel
theorem d_R_setKind_31 : decode mi_R_setKind.2.1 31 = .ok (.getfield 12, 3) := by decide +kernel
theorem d_R_setKind_34 : decode mi_R_setKind.2.1 34 = .ok (.getfield 93, 3) := by decide +kernel
theorem d_R_setKind_37 : decode mi_R_setKind.2.1 37 = .ok (.iload 4, 2) := by decide +kernel
theorem d_R_setKind_39 : decode mi_R_setKind.2.1 39 = .ok (.iaload, 1) := by decide +kernel
theorem d_R_setKind_40 : decode mi_R_setKind.2.1 40 = .ok (.istore 5, 2) := by decide +kernel
theorem d_R_setKind_42 : decode mi_R_setKind.2.1 42 = .ok (.iload 5, 2) := by decide +kernel
theorem d_R_setKind_44 : decode mi_R_setKind.2.1 44 = .ok (.iload_n 3, 1) := by decide +kernel
theorem d_R_setKind_45 : decode mi_R_setKind.2.1 45 = .ok (.if_icmp .ne 6, 3) := by decide +kernel
theorem d_R_setKind_48 : decode mi_R_setKind.2.1 48 = .ok (.bipush (-2), 2) := by decide +kernel
theorem d_R_setKind_50 : decode mi_R_setKind.2.1 50 = .ok (.ireturn, 1) := by decide +kernel
theorem d_R_setKind_51 : decode mi_R_setKind.2.1 51 = .ok (.aload_n 0, 1) := by decide +kernel
theorem d_R_setKind_52 : decode mi_R_setKind.2.1 52 = .ok (.invokevirtual 75, 3) := by decide +kernel
theorem d_R_setKind_55 : decode mi_R_setKind.2.1 55 = .ok (.aload_n 0, 1) := by decide +kernel
theorem d_R_setKind_56 : decode mi_R_setKind.2.1 56 = .ok (.getfield 12, 3) := by decide +kernel
theorem d_R_setKind_59 : decode mi_R_setKind.2.1 59 = .ok (.iload 4, 2) := by decide +kernel
theorem d_R_setKind_61 : decode mi_R_setKind.2.1 61 = .ok (.invokevirtual 97, 3) := by decide +kernel
theorem d_R_setKind_64 : decode mi_R_setKind.2.1 64 = .ok (.aload_n 0, 1) := by decide +kernel
theorem d_R_setKind_65 : decode mi_R_setKind.2.1 65 = .ok (.getfield 12, 3) := by decide +kernel
theorem d_R_setKind_68 : decode mi_R_setKind.2.1 68 = .ok (.getfield 100, 3) := by decide +kernel
theorem d_R_setKind_71 : decode mi_R_setKind.2.1 71 = .ok (.iload 4, 2) := by decide +kernel
theorem d_R_setKind_73 : decode mi_R_setKind.2.1 73 = .ok (.iconst 0, 1) := by decide +kernel
theorem d_R_setKind_74 : decode mi_R_setKind.2.1 74 = .ok (.bastore, 1) := by decide +kernel
theorem d_R_setKind_75 : decode mi_R_setKind.2.1 75 = .ok (.aload_n 0, 1) := by decide +kernel
theorem d_R_setKind_76 : decode mi_R_setKind.2.1 76 = .ok (.getfield 12, 3) := by decide +kernel
theorem d_R_setKind_79 : decode mi_R_setKind.2.1 79 = .ok (.getfield 93, 3) := by decide +kernel
theorem d_R_setKind_82 : decode mi_R_setKind.2.1 82 = .ok (.iload 4, 2) := by decide +kernel
theorem d_R_setKind_84 : decode mi_R_setKind.2.1 84 = .ok (.iload_n 3, 1) := by decide +kernel
theorem d_R_setKind_85 : decode mi_R_setKind.2.1 85 = .ok (.iastore, 1) := by decide +kernel
theorem d_R_setKind_86 : decode mi_R_setKind.2.1 86 = .ok (.iload 5, 2) := by decide +kernel
theorem d_R_setKind_88 : decode mi_R_setKind.2.1 88 = .ok (.ireturn, 1) := by decide +kernel
theorem d_R_setChannelCapacity_0 : decode mi_R_setChannelCapacity.2.1 0 = .ok (.iload_n 1, 1) := by decide +kernel
theorem d_R_setChannelCapacity_1 : decode mi_R_setChannelCapacity.2.1 1 = .ok (.ifCond .lt 8, 3) := by decide +kernel
theorem d_R_setChannelCapacity_4 : decode mi_R_setChannelCapacity.2.1 4 = .ok (.iload_n 1, 1) := by decide +kernel
theorem d_R_setChannelCapacity_5 : decode mi_R_setChannelCapacity.2.1 5 = .ok (.iconst 5, 1) := by decide +kernel
theorem d_R_setChannelCapacity_6 : decode mi_R_setChannelCapacity.2.1 6 = .ok (.if_icmp .le 5, 3) := by decide +kernel
theorem d_R_setChannelCapacity_9 : decode mi_R_setChannelCapacity.2.1 9 = .ok (.iconst (-1), 1) := by decide +kernel
theorem d_R_setChannelCapacity_10 : decode mi_R_setChannelCapacity.2.1 10 = .ok (.ireturn, 1) := by decide +kernel
theorem d_R_setChannelCapacity_11 : decode mi_R_setChannelCapacity.2.1 11 = .ok (.aload_n 0, 1) := by decide +kernel
theorem d_R_setChannelCapacity_12 : decode mi_R_setChannelCapacity.2.1 12 = .ok (.invokevirtual 75, 3) := by decide +kernel
theorem d_R_setChannelCapacity_15 : decode mi_R_setChannelCapacity.2.1 15 = .ok (.aload_n 0, 1) := by decide +kernel
theorem d_R_setChannelCapacity_16 : decode mi_R_setChannelCapacity.2.1 16 = .ok (.getfield 12, 3) := by decide +kernel
theorem d_R_setChannelCapacity_19 : decode mi_R_setChannelCapacity.2.1 19 = .ok (.getfield 103, 3) := by decide +kernel
theorem d_R_setChannelCapacity_22 : decode mi_R_setChannelCapacity.2.1 22 = .ok (.istore_n 2, 1) := by decide +kernel
theorem d_R_setChannelCapacity_23 : decode mi_R_setChannelCapacity.2.1 23 = .ok (.aload_n 0, 1) := by decide +kernel
theorem d_R_setChannelCapacity_24 : decode mi_R_setChannelCapacity.2.1 24 = .ok (.getfield 12, 3) := by decide +kernel
theorem d_R_setChannelCapacity_27 : decode mi_R_setChannelCapacity.2.1 27 = .ok (.iload_n 1, 1) := by decide +kernel
theorem d_R_setChannelCapacity_28 : decode mi_R_setChannelCapacity.2.1 28 = .ok (.putfield 103, 3) := by decide +kernel
theorem d_R_setChannelCapacity_31 : decode mi_R_setChannelCapacity.2.1 31 = .ok (.iload_n 2, 1) := by decide +kernel
theorem d_R_setChannelCapacity_32 : decode mi_R_setChannelCapacity.2.1 32 = .ok (.ireturn, 1) := by decide +kernel
theorem d_R_setTileCapacity_0 : decode mi_R_setTileCapacity.2.1 0 = .ok (.iload_n 1, 1) := by decide +kernel
theorem d_R_setTileCapacity_1 : decode mi_R_setTileCapacity.2.1 1 = .ok (.ifCond .lt 9, 3) := by decide +kernel
theorem d_R_setTileCapacity_4 : decode mi_R_setTileCapacity.2.1 4 = .ok (.iload_n 1, 1) := by decide +kernel
theorem d_R_setTileCapacity_5 : decode mi_R_setTileCapacity.2.1 5 = .ok (.bipush 9, 2) := by decide +kernel
theorem d_R_setTileCapacity_7 : decode mi_R_setTileCapacity.2.1 7 = .ok (.if_icmp .le 5, 3) := by decide +kernel
theorem d_R_setTileCapacity_10 : decode mi_R_setTileCapacity.2.1 10 = .ok (.iconst (-1), 1) := by decide +kernel
theorem d_R_setTileCapacity_11 : decode mi_R_setTileCapacity.2.1 11 = .ok (.ireturn, 1) := by decide +kernel
theorem d_R_setTileCapacity_12 : decode mi_R_setTileCapacity.2.1 12 = .ok (.aload_n 0, 1) := by decide +kernel
theorem d_R_setTileCapacity_13 : decode mi_R_setTileCapacity.2.1 13 = .ok (.invokevirtual 75, 3) := by decide +kernel
theorem d_R_setTileCapacity_16 : decode mi_R_setTileCapacity.2.1 16 = .ok (.aload_n 0, 1) := by decide +kernel
theorem d_R_setTileCapacity_17 : decode mi_R_setTileCapacity.2.1 17 = .ok (.getfield 12, 3) := by decide +kernel
theorem d_R_setTileCapacity_20 : decode mi_R_setTileCapacity.2.1 20 = .ok (.getfield 106, 3) := by decide +kernel
theorem d_R_setTileCapacity_23 : decode mi_R_setTileCapacity.2.1 23 = .ok (.istore_n 2, 1) := by decide +kernel
theorem d_R_setTileCapacity_24 : decode mi_R_setTileCapacity.2.1 24 = .ok (.aload_n 0, 1) := by decide +kernel
theorem d_R_setTileCapacity_25 : decode mi_R_setTileCapacity.2.1 25 = .ok (.getfield 12, 3) := by decide +kernel
theorem d_R_setTileCapacity_28 : decode mi_R_setTileCapacity.2.1 28 = .ok (.iload_n 1, 1) := by decide +kernel
theorem d_R_setTileCapacity_29 : decode mi_R_setTileCapacity.2.1 29 = .ok (.putfield 106, 3) := by decide +kernel
theorem d_R_setTileCapacity_32 : decode mi_R_setTileCapacity.2.1 32 = .ok (.iload_n 2, 1) := by decide +kernel
theorem d_R_setTileCapacity_33 : decode mi_R_setTileCapacity.2.1 33 = .ok (.ireturn, 1) := by decide +kernel
theorem d_R_rows_0 : decode mi_R_rows.2.1 0 = .ok (.aload_n 0, 1) := by decide +kernel
theorem d_R_rows_1 : decode mi_R_rows.2.1 1 = .ok (.getfield 12, 3) := by decide +kernel
theorem d_R_rows_4 : decode mi_R_rows.2.1 4 = .ok (.getfield 109, 3) := by decide +kernel
theorem d_R_rows_7 : decode mi_R_rows.2.1 7 = .ok (.ireturn, 1) := by decide +kernel
theorem d_R_columns_0 : decode mi_R_columns.2.1 0 = .ok (.aload_n 0, 1) := by decide +kernel
theorem d_R_columns_1 : decode mi_R_columns.2.1 1 = .ok (.getfield 12, 3) := by decide +kernel
theorem d_R_columns_4 : decode mi_R_columns.2.1 4 = .ok (.getfield 112, 3) := by decide +kernel
theorem d_R_columns_7 : decode mi_R_columns.2.1 7 = .ok (.ireturn, 1) := by decide +kernel
theorem d_R_kindAt_0 : decode mi_R_kindAt.2.1 0 = .ok (.aload_n 0, 1) := by decide +kernel
theorem d_R_kindAt_1 : decode mi_R_kindAt.2.1 1 = .ok (.getfield 12, 3) := by decide +kernel
theorem d_R_kindAt_4 : decode mi_R_kindAt.2.1 4 = .ok (.iload_n 1, 1) := by decide +kernel
theorem d_R_kindAt_5 : decode mi_R_kindAt.2.1 5 = .ok (.iload_n 2, 1) := by decide +kernel
theorem d_R_kindAt_6 : decode mi_R_kindAt.2.1 6 = .ok (.invokevirtual 85, 3) := by decide +kernel
theorem d_R_kindAt_9 : decode mi_R_kindAt.2.1 9 = .ok (.ifCond .eq 19, 3) := by decide +kernel
theorem d_R_kindAt_12 : decode mi_R_kindAt.2.1 12 = .ok (.aload_n 0, 1) := by decide +kernel
theorem d_R_kindAt_13 : decode mi_R_kindAt.2.1 13 = .ok (.getfield 12, 3) := by decide +kernel
theorem d_R_kindAt_16 : decode mi_R_kindAt.2.1 16 = .ok (.getfield 93, 3) := by decide +kernel
theorem d_R_kindAt_19 : decode mi_R_kindAt.2.1 19 = .ok (.iload_n 1, 1) := by decide +kernel
theorem d_R_kindAt_20 : decode mi_R_kindAt.2.1 20 = .ok (.iload_n 2, 1) := by decide +kernel
theorem d_R_kindAt_21 : decode mi_R_kindAt.2.1 21 = .ok (.invokestatic 89, 3) := by decide +kernel
theorem d_R_kindAt_24 : decode mi_R_kindAt.2.1 24 = .ok (.iaload, 1) := by decide +kernel
theorem d_R_kindAt_25 : decode mi_R_kindAt.2.1 25 = .ok (.goto 4, 3) := by decide +kernel
theorem d_R_kindAt_28 : decode mi_R_kindAt.2.1 28 = .ok (.iconst (-1), 1) := by decide +kernel
theorem d_R_kindAt_29 : decode mi_R_kindAt.2.1 29 = .ok (.ireturn, 1) := by decide +kernel
theorem d_R_signalCount_0 : decode mi_R_signalCount.2.1 0 = .ok (.aload_n 0, 1) := by decide +kernel
theorem d_R_signalCount_1 : decode mi_R_signalCount.2.1 1 = .ok (.getfield 12, 3) := by decide +kernel
theorem d_R_signalCount_4 : decode mi_R_signalCount.2.1 4 = .ok (.invokevirtual 82, 3) := by decide +kernel
theorem d_R_signalCount_7 : decode mi_R_signalCount.2.1 7 = .ok (.ireturn, 1) := by decide +kernel
theorem d_R_makePair_0 : decode mi_R_makePair.2.1 0 = .ok (.aload_n 0, 1) := by decide +kernel
theorem d_R_makePair_1 : decode mi_R_makePair.2.1 1 = .ok (.getfield 12, 3) := by decide +kernel
theorem d_R_makePair_4 : decode mi_R_makePair.2.1 4 = .ok (.iload_n 1, 1) := by decide +kernel
theorem d_R_makePair_5 : decode mi_R_makePair.2.1 5 = .ok (.iload_n 2, 1) := by decide +kernel
theorem d_R_makePair_6 : decode mi_R_makePair.2.1 6 = .ok (.invokevirtual 85, 3) := by decide +kernel
theorem d_R_makePair_9 : decode mi_R_makePair.2.1 9 = .ok (.ifCond .eq 16, 3) := by decide +kernel
theorem d_R_makePair_12 : decode mi_R_makePair.2.1 12 = .ok (.aload_n 0, 1) := by decide +kernel
theorem d_R_makePair_13 : decode mi_R_makePair.2.1 13 = .ok (.getfield 12, 3) := by decide +kernel
theorem d_R_makePair_16 : decode mi_R_makePair.2.1 16 = .ok (.iload_n 3, 1) := by decide +kernel
theorem d_R_makePair_17 : decode mi_R_makePair.2.1 17 = .ok (.iload 4, 2) := by decide +kernel
theorem d_R_makePair_19 : decode mi_R_makePair.2.1 19 = .ok (.invokevirtual 85, 3) := by decide +kernel
theorem d_R_makePair_22 : decode mi_R_makePair.2.1 22 = .ok (.ifCond .ne 5, 3) := by decide +kernel
theorem d_R_makePair_25 : decode mi_R_makePair.2.1 25 = .ok (.iconst (-1), 1) := by decide +kernel
theorem d_R_makePair_26 : decode mi_R_makePair.2.1 26 = .ok (.ireturn, 1) := by decide +kernel
theorem d_R_makePair_27 : decode mi_R_makePair.2.1 27 = .ok (.iload_n 1, 1) := by decide +kernel
theorem d_R_makePair_28 : decode mi_R_makePair.2.1 28 = .ok (.iload_n 3, 1) := by decide +kernel
theorem d_R_makePair_29 : decode mi_R_makePair.2.1 29 = .ok (.isub, 1) := by decide +kernel
theorem d_R_makePair_30 : decode mi_R_makePair.2.1 30 = .ok (.invokestatic 115, 3) := by decide +kernel
theorem d_R_makePair_33 : decode mi_R_makePair.2.1 33 = .ok (.iload_n 2, 1) := by decide +kernel
theorem d_R_makePair_34 : decode mi_R_makePair.2.1 34 = .ok (.iload 4, 2) := by decide +kernel
theorem d_R_makePair_36 : decode mi_R_makePair.2.1 36 = .ok (.isub, 1) := by decide +kernel
theorem d_R_makePair_37 : decode mi_R_makePair.2.1 37 = .ok (.invokestatic 115, 3) := by decide +kernel
theorem d_R_makePair_40 : decode mi_R_makePair.2.1 40 = .ok (.iadd, 1) := by decide +kernel
theorem d_R_makePair_41 : decode mi_R_makePair.2.1 41 = .ok (.iconst 1, 1) := by decide +kernel
theorem d_R_makePair_42 : decode mi_R_makePair.2.1 42 = .ok (.if_icmp .eq 5, 3) := by decide +kernel
theorem d_R_makePair_45 : decode mi_R_makePair.2.1 45 = .ok (.iconst (-1), 1) := by decide +kernel
theorem d_R_makePair_46 : decode mi_R_makePair.2.1 46 = .ok (.ireturn, 1) := by decide +kernel
theorem d_R_makePair_47 : decode mi_R_makePair.2.1 47 = .ok (.iload_n 1, 1) := by decide +kernel
theorem d_R_makePair_48 : decode mi_R_makePair.2.1 48 = .ok (.iload_n 2, 1) := by decide +kernel
theorem d_R_makePair_49 : decode mi_R_makePair.2.1 49 = .ok (.invokestatic 89, 3) := by decide +kernel
theorem d_R_makePair_52 : decode mi_R_makePair.2.1 52 = .ok (.istore 5, 2) := by decide +kernel
theorem d_R_makePair_54 : decode mi_R_makePair.2.1 54 = .ok (.iload_n 3, 1) := by decide +kernel
theorem d_R_makePair_55 : decode mi_R_makePair.2.1 55 = .ok (.iload 4, 2) := by decide +kernel
theorem d_R_makePair_57 : decode mi_R_makePair.2.1 57 = .ok (.invokestatic 89, 3) := by decide +kernel
theorem d_R_makePair_60 : decode mi_R_makePair.2.1 60 = .ok (.istore 6, 2) := by decide +kernel
theorem d_R_makePair_62 : decode mi_R_makePair.2.1 62 = .ok (.aload_n 0, 1) := by decide +kernel
theorem d_R_makePair_63 : decode mi_R_makePair.2.1 63 = .ok (.getfield 12, 3) := by decide +kernel
theorem d_R_makePair_66 : decode mi_R_makePair.2.1 66 = .ok (.iload 5, 2) := by decide +kernel
theorem d_R_makePair_68 : decode mi_R_makePair.2.1 68 = .ok (.invokevirtual 121, 3) := by decide +kernel
theorem d_R_makePair_71 : decode mi_R_makePair.2.1 71 = .ok (.ifCond .eq 15, 3) := by decide +kernel
theorem d_R_makePair_74 : decode mi_R_makePair.2.1 74 = .ok (.aload_n 0, 1) := by decide +kernel
theorem d_R_makePair_75 : decode mi_R_makePair.2.1 75 = .ok (.getfield 12, 3) := by decide +kernel
theorem d_R_makePair_78 : decode mi_R_makePair.2.1 78 = .ok (.iload 6, 2) := by decide +kernel
theorem d_R_makePair_80 : decode mi_R_makePair.2.1 80 = .ok (.invokevirtual 121, 3) := by decide +kernel
theorem d_R_makePair_83 : decode mi_R_makePair.2.1 83 = .ok (.ifCond .ne 6, 3) := by decide +kernel
theorem d_R_makePair_86 : decode mi_R_makePair.2.1 86 = .ok (.bipush (-2), 2) := by decide +kernel
theorem d_R_makePair_88 : decode mi_R_makePair.2.1 88 = .ok (.ireturn, 1) := by decide +kernel
theorem d_R_makePair_89 : decode mi_R_makePair.2.1 89 = .ok (.aload_n 0, 1) := by decide +kernel
theorem d_R_makePair_90 : decode mi_R_makePair.2.1 90 = .ok (.invokevirtual 75, 3) := by decide +kernel
theorem d_R_makePair_93 : decode mi_R_makePair.2.1 93 = .ok (.aload_n 0, 1) := by decide +kernel
theorem d_R_makePair_94 : decode mi_R_makePair.2.1 94 = .ok (.getfield 12, 3) := by decide +kernel
theorem d_R_makePair_97 : decode mi_R_makePair.2.1 97 = .ok (.getfield 124, 3) := by decide +kernel
theorem d_R_makePair_100 : decode mi_R_makePair.2.1 100 = .ok (.iload 5, 2) := by decide +kernel
theorem d_R_makePair_102 : decode mi_R_makePair.2.1 102 = .ok (.iload 6, 2) := by decide +kernel
theorem d_R_makePair_104 : decode mi_R_makePair.2.1 104 = .ok (.iastore, 1) := by decide +kernel
theorem d_R_makePair_105 : decode mi_R_makePair.2.1 105 = .ok (.aload_n 0, 1) := by decide +kernel
theorem d_R_makePair_106 : decode mi_R_makePair.2.1 106 = .ok (.getfield 12, 3) := by decide +kernel
theorem d_R_makePair_109 : decode mi_R_makePair.2.1 109 = .ok (.getfield 124, 3) := by decide +kernel
theorem d_R_makePair_112 : decode mi_R_makePair.2.1 112 = .ok (.iload 6, 2) := by decide +kernel
theorem d_R_makePair_114 : decode mi_R_makePair.2.1 114 = .ok (.iload 5, 2) := by decide +kernel
theorem d_R_makePair_116 : decode mi_R_makePair.2.1 116 = .ok (.iastore, 1) := by decide +kernel
theorem d_R_makePair_117 : decode mi_R_makePair.2.1 117 = .ok (.aload_n 0, 1) := by decide +kernel
theorem d_R_makePair_118 : decode mi_R_makePair.2.1 118 = .ok (.getfield 12, 3) := by decide +kernel
theorem d_R_makePair_121 : decode mi_R_makePair.2.1 121 = .ok (.invokevirtual 127, 3) := by decide +kernel
theorem d_R_makePair_124 : decode mi_R_makePair.2.1 124 = .ok (.ireturn, 1) := by decide +kernel
theorem d_R_breakPair_0 : decode mi_R_breakPair.2.1 0 = .ok (.aload_n 0, 1) := by decide +kernel
theorem d_R_breakPair_1 : decode mi_R_breakPair.2.1 1 = .ok (.getfield 12, 3) := by decide +kernel
theorem d_R_breakPair_4 : decode mi_R_breakPair.2.1 4 = .ok (.iload_n 1, 1) := by decide +kernel
theorem d_R_breakPair_5 : decode mi_R_breakPair.2.1 5 = .ok (.iload_n 2, 1) := by decide +kernel
theorem d_R_breakPair_6 : decode mi_R_breakPair.2.1 6 = .ok (.invokevirtual 85, 3) := by decide +kernel
theorem d_R_breakPair_9 : decode mi_R_breakPair.2.1 9 = .ok (.ifCond .ne 5, 3) := by decide +kernel
theorem d_R_breakPair_12 : decode mi_R_breakPair.2.1 12 = .ok (.iconst (-1), 1) := by decide +kernel
theorem d_R_breakPair_13 : decode mi_R_breakPair.2.1 13 = .ok (.ireturn, 1) := by decide +kernel
theorem d_R_breakPair_14 : decode mi_R_breakPair.2.1 14 = .ok (.iload_n 1, 1) := by decide +kernel
theorem d_R_breakPair_15 : decode mi_R_breakPair.2.1 15 = .ok (.iload_n 2, 1) := by decide +kernel
theorem d_R_breakPair_16 : decode mi_R_breakPair.2.1 16 = .ok (.invokestatic 89, 3) := by decide +kernel
theorem d_R_breakPair_19 : decode mi_R_breakPair.2.1 19 = .ok (.istore_n 3, 1) := by decide +kernel
theorem d_R_breakPair_20 : decode mi_R_breakPair.2.1 20 = .ok (.aload_n 0, 1) := by decide +kernel
theorem d_R_breakPair_21 : decode mi_R_breakPair.2.1 21 = .ok (.getfield 12, 3) := by decide +kernel
theorem d_R_breakPair_24 : decode mi_R_breakPair.2.1 24 = .ok (.getfield 124, 3) := by decide +kernel
theorem d_R_breakPair_27 : decode mi_R_breakPair.2.1 27 = .ok (.iload_n 3, 1) := by decide +kernel
theorem d_R_breakPair_28 : decode mi_R_breakPair.2.1 28 = .ok (.iaload, 1) := by decide +kernel
theorem d_R_breakPair_29 : decode mi_R_breakPair.2.1 29 = .ok (.iconst (-1), 1) := by decide +kernel
theorem d_R_breakPair_30 : decode mi_R_breakPair.2.1 30 = .ok (.if_icmp .ne 6, 3) := by decide +kernel
theorem d_R_breakPair_33 : decode mi_R_breakPair.2.1 33 = .ok (.bipush (-2), 2) := by decide +kernel
theorem d_R_breakPair_35 : decode mi_R_breakPair.2.1 35 = .ok (.ireturn, 1) := by decide +kernel
theorem d_R_breakPair_36 : decode mi_R_breakPair.2.1 36 = .ok (.aload_n 0, 1) := by decide +kernel
theorem d_R_breakPair_37 : decode mi_R_breakPair.2.1 37 = .ok (.invokevirtual 75, 3) := by decide +kernel
theorem d_R_breakPair_40 : decode mi_R_breakPair.2.1 40 = .ok (.aload_n 0, 1) := by decide +kernel
theorem d_R_breakPair_41 : decode mi_R_breakPair.2.1 41 = .ok (.getfield 12, 3) := by decide +kernel
theorem d_R_breakPair_44 : decode mi_R_breakPair.2.1 44 = .ok (.iload_n 3, 1) := by decide +kernel
theorem d_R_breakPair_45 : decode mi_R_breakPair.2.1 45 = .ok (.invokevirtual 97, 3) := by decide +kernel
theorem d_R_breakPair_48 : decode mi_R_breakPair.2.1 48 = .ok (.aload_n 0, 1) := by decide +kernel
theorem d_R_breakPair_49 : decode mi_R_breakPair.2.1 49 = .ok (.getfield 12, 3) := by decide +kernel
theorem d_R_breakPair_52 : decode mi_R_breakPair.2.1 52 = .ok (.invokevirtual 127, 3) := by decide +kernel
theorem d_R_breakPair_55 : decode mi_R_breakPair.2.1 55 = .ok (.ireturn, 1) := by decide +kernel
theorem d_R_partnerOf_0 : decode mi_R_partnerOf.2.1 0 = .ok (.aload_n 0, 1) := by decide +kernel
theorem d_R_partnerOf_1 : decode mi_R_partnerOf.2.1 1 = .ok (.getfield 12, 3) := by decide +kernel
theorem d_R_partnerOf_4 : decode mi_R_partnerOf.2.1 4 = .ok (.iload_n 1, 1) := by decide +kernel
theorem d_R_partnerOf_5 : decode mi_R_partnerOf.2.1 5 = .ok (.iload_n 2, 1) := by decide +kernel
theorem d_R_partnerOf_6 : decode mi_R_partnerOf.2.1 6 = .ok (.invokevirtual 85, 3) := by decide +kernel
theorem d_R_partnerOf_9 : decode mi_R_partnerOf.2.1 9 = .ok (.ifCond .ne 5, 3) := by decide +kernel
theorem d_R_partnerOf_12 : decode mi_R_partnerOf.2.1 12 = .ok (.iconst (-1), 1) := by decide +kernel
theorem d_R_partnerOf_13 : decode mi_R_partnerOf.2.1 13 = .ok (.ireturn, 1) := by decide +kernel
theorem d_R_partnerOf_14 : decode mi_R_partnerOf.2.1 14 = .ok (.aload_n 0, 1) := by decide +kernel
theorem d_R_partnerOf_15 : decode mi_R_partnerOf.2.1 15 = .ok (.getfield 12, 3) := by decide +kernel
theorem d_R_partnerOf_18 : decode mi_R_partnerOf.2.1 18 = .ok (.getfield 124, 3) := by decide +kernel
theorem d_R_partnerOf_21 : decode mi_R_partnerOf.2.1 21 = .ok (.iload_n 1, 1) := by decide +kernel
theorem d_R_partnerOf_22 : decode mi_R_partnerOf.2.1 22 = .ok (.iload_n 2, 1) := by decide +kernel
theorem d_R_partnerOf_23 : decode mi_R_partnerOf.2.1 23 = .ok (.invokestatic 89, 3) := by decide +kernel
theorem d_R_partnerOf_26 : decode mi_R_partnerOf.2.1 26 = .ok (.iaload, 1) := by decide +kernel
theorem d_R_partnerOf_27 : decode mi_R_partnerOf.2.1 27 = .ok (.istore_n 3, 1) := by decide +kernel
theorem d_R_partnerOf_28 : decode mi_R_partnerOf.2.1 28 = .ok (.iload_n 3, 1) := by decide +kernel
theorem d_R_partnerOf_29 : decode mi_R_partnerOf.2.1 29 = .ok (.iconst (-1), 1) := by decide +kernel
theorem d_R_partnerOf_30 : decode mi_R_partnerOf.2.1 30 = .ok (.if_icmp .ne 6, 3) := by decide +kernel
theorem d_R_partnerOf_33 : decode mi_R_partnerOf.2.1 33 = .ok (.bipush (-9), 2) := by decide +kernel
theorem d_R_partnerOf_35 : decode mi_R_partnerOf.2.1 35 = .ok (.ireturn, 1) := by decide +kernel
theorem d_R_partnerOf_36 : decode mi_R_partnerOf.2.1 36 = .ok (.bipush 10, 2) := by decide +kernel
theorem d_R_partnerOf_38 : decode mi_R_partnerOf.2.1 38 = .ok (.iload_n 3, 1) := by decide +kernel
theorem d_R_partnerOf_39 : decode mi_R_partnerOf.2.1 39 = .ok (.bipush 6, 2) := by decide +kernel
theorem d_R_partnerOf_41 : decode mi_R_partnerOf.2.1 41 = .ok (.idiv, 1) := by decide +kernel
theorem d_R_partnerOf_42 : decode mi_R_partnerOf.2.1 42 = .ok (.imul, 1) := by decide +kernel
theorem d_R_partnerOf_43 : decode mi_R_partnerOf.2.1 43 = .ok (.iload_n 3, 1) := by decide +kernel
theorem d_R_partnerOf_44 : decode mi_R_partnerOf.2.1 44 = .ok (.bipush 6, 2) := by decide +kernel
theorem d_R_partnerOf_46 : decode mi_R_partnerOf.2.1 46 = .ok (.irem, 1) := by decide +kernel
theorem d_R_partnerOf_47 : decode mi_R_partnerOf.2.1 47 = .ok (.iadd, 1) := by decide +kernel
theorem d_R_partnerOf_48 : decode mi_R_partnerOf.2.1 48 = .ok (.ireturn, 1) := by decide +kernel
theorem d_R_select_0 : decode mi_R_select.2.1 0 = .ok (.aload_n 0, 1) := by decide +kernel
theorem d_R_select_1 : decode mi_R_select.2.1 1 = .ok (.getfield 12, 3) := by decide +kernel
theorem d_R_select_4 : decode mi_R_select.2.1 4 = .ok (.iload_n 1, 1) := by decide +kernel
theorem d_R_select_5 : decode mi_R_select.2.1 5 = .ok (.iload_n 2, 1) := by decide +kernel
theorem d_R_select_6 : decode mi_R_select.2.1 6 = .ok (.invokevirtual 85, 3) := by decide +kernel
theorem d_R_select_9 : decode mi_R_select.2.1 9 = .ok (.ifCond .ne 5, 3) := by decide +kernel
theorem d_R_select_12 : decode mi_R_select.2.1 12 = .ok (.iconst (-1), 1) := by decide +kernel
theorem d_R_select_13 : decode mi_R_select.2.1 13 = .ok (.ireturn, 1) := by decide +kernel
theorem d_R_select_14 : decode mi_R_select.2.1 14 = .ok (.iload_n 1, 1) := by decide +kernel
theorem d_R_select_15 : decode mi_R_select.2.1 15 = .ok (.iload_n 2, 1) := by decide +kernel
theorem d_R_select_16 : decode mi_R_select.2.1 16 = .ok (.invokestatic 89, 3) := by decide +kernel
theorem d_R_select_19 : decode mi_R_select.2.1 19 = .ok (.istore_n 3, 1) := by decide +kernel
theorem d_R_select_20 : decode mi_R_select.2.1 20 = .ok (.aload_n 0, 1) := by decide +kernel
theorem d_R_select_21 : decode mi_R_select.2.1 21 = .ok (.getfield 12, 3) := by decide +kernel
theorem d_R_select_24 : decode mi_R_select.2.1 24 = .ok (.getfield 93, 3) := by decide +kernel
theorem d_R_select_27 : decode mi_R_select.2.1 27 = .ok (.iload_n 3, 1) := by decide +kernel
theorem d_R_select_28 : decode mi_R_select.2.1 28 = .ok (.iaload, 1) := by decide +kernel
theorem d_R_select_29 : decode mi_R_select.2.1 29 = .ok (.iconst 1, 1) := by decide +kernel
theorem d_R_select_30 : decode mi_R_select.2.1 30 = .ok (.if_icmp .ne 15, 3) := by decide +kernel
theorem d_R_select_33 : decode mi_R_select.2.1 33 = .ok (.aload_n 0, 1) := by decide +kernel
theorem d_R_select_34 : decode mi_R_select.2.1 34 = .ok (.getfield 12, 3) := by decide +kernel
theorem d_R_select_37 : decode mi_R_select.2.1 37 = .ok (.getfield 100, 3) := by decide +kernel
theorem d_R_select_40 : decode mi_R_select.2.1 40 = .ok (.iload_n 3, 1) := by decide +kernel
theorem d_R_select_41 : decode mi_R_select.2.1 41 = .ok (.baload, 1) := by decide +kernel
theorem d_R_select_42 : decode mi_R_select.2.1 42 = .ok (.ifCond .eq 6, 3) := by decide +kernel
theorem d_R_select_45 : decode mi_R_select.2.1 45 = .ok (.bipush (-2), 2) := by decide +kernel
theorem d_R_select_47 : decode mi_R_select.2.1 47 = .ok (.ireturn, 1) := by decide +kernel
theorem d_R_select_48 : decode mi_R_select.2.1 48 = .ok (.aload_n 0, 1) := by decide +kernel
theorem d_R_select_49 : decode mi_R_select.2.1 49 = .ok (.invokevirtual 75, 3) := by decide +kernel
theorem d_R_select_52 : decode mi_R_select.2.1 52 = .ok (.aload_n 0, 1) := by decide +kernel
theorem d_R_select_53 : decode mi_R_select.2.1 53 = .ok (.getfield 12, 3) := by decide +kernel
theorem d_R_select_56 : decode mi_R_select.2.1 56 = .ok (.getfield 100, 3) := by decide +kernel
theorem d_R_select_59 : decode mi_R_select.2.1 59 = .ok (.iload_n 3, 1) := by decide +kernel
theorem d_R_select_60 : decode mi_R_select.2.1 60 = .ok (.iconst 1, 1) := by decide +kernel
theorem d_R_select_61 : decode mi_R_select.2.1 61 = .ok (.bastore, 1) := by decide +kernel
theorem d_R_select_62 : decode mi_R_select.2.1 62 = .ok (.aload_n 0, 1) := by decide +kernel
theorem d_R_select_63 : decode mi_R_select.2.1 63 = .ok (.getfield 12, 3) := by decide +kernel
theorem d_R_select_66 : decode mi_R_select.2.1 66 = .ok (.invokevirtual 130, 3) := by decide +kernel
theorem d_R_select_69 : decode mi_R_select.2.1 69 = .ok (.ireturn, 1) := by decide +kernel
theorem d_R_deselect_0 : decode mi_R_deselect.2.1 0 = .ok (.aload_n 0, 1) := by decide +kernel
theorem d_R_deselect_1 : decode mi_R_deselect.2.1 1 = .ok (.getfield 12, 3) := by decide +kernel
theorem d_R_deselect_4 : decode mi_R_deselect.2.1 4 = .ok (.iload_n 1, 1) := by decide +kernel
theorem d_R_deselect_5 : decode mi_R_deselect.2.1 5 = .ok (.iload_n 2, 1) := by decide +kernel
theorem d_R_deselect_6 : decode mi_R_deselect.2.1 6 = .ok (.invokevirtual 85, 3) := by decide +kernel
theorem d_R_deselect_9 : decode mi_R_deselect.2.1 9 = .ok (.ifCond .ne 5, 3) := by decide +kernel
theorem d_R_deselect_12 : decode mi_R_deselect.2.1 12 = .ok (.iconst (-1), 1) := by decide +kernel
theorem d_R_deselect_13 : decode mi_R_deselect.2.1 13 = .ok (.ireturn, 1) := by decide +kernel
theorem d_R_deselect_14 : decode mi_R_deselect.2.1 14 = .ok (.iload_n 1, 1) := by decide +kernel
theorem d_R_deselect_15 : decode mi_R_deselect.2.1 15 = .ok (.iload_n 2, 1) := by decide +kernel
theorem d_R_deselect_16 : decode mi_R_deselect.2.1 16 = .ok (.invokestatic 89, 3) := by decide +kernel
theorem d_R_deselect_19 : decode mi_R_deselect.2.1 19 = .ok (.istore_n 3, 1) := by decide +kernel
theorem d_R_deselect_20 : decode mi_R_deselect.2.1 20 = .ok (.aload_n 0, 1) := by decide +kernel
theorem d_R_deselect_21 : decode mi_R_deselect.2.1 21 = .ok (.getfield 12, 3) := by decide +kernel
theorem d_R_deselect_24 : decode mi_R_deselect.2.1 24 = .ok (.getfield 100, 3) := by decide +kernel
theorem d_R_deselect_27 : decode mi_R_deselect.2.1 27 = .ok (.iload_n 3, 1) := by decide +kernel
theorem d_R_deselect_28 : decode mi_R_deselect.2.1 28 = .ok (.baload, 1) := by decide +kernel
theorem d_R_deselect_29 : decode mi_R_deselect.2.1 29 = .ok (.ifCond .ne 6, 3) := by decide +kernel
theorem d_R_deselect_32 : decode mi_R_deselect.2.1 32 = .ok (.bipush (-2), 2) := by decide +kernel
theorem d_R_deselect_34 : decode mi_R_deselect.2.1 34 = .ok (.ireturn, 1) := by decide +kernel
theorem d_R_deselect_35 : decode mi_R_deselect.2.1 35 = .ok (.aload_n 0, 1) := by decide +kernel
theorem d_R_deselect_36 : decode mi_R_deselect.2.1 36 = .ok (.invokevirtual 75, 3) := by decide +kernel
theorem d_R_deselect_39 : decode mi_R_deselect.2.1 39 = .ok (.aload_n 0, 1) := by decide +kernel
theorem d_R_deselect_40 : decode mi_R_deselect.2.1 40 = .ok (.getfield 12, 3) := by decide +kernel
theorem d_R_deselect_43 : decode mi_R_deselect.2.1 43 = .ok (.getfield 100, 3) := by decide +kernel
theorem d_R_deselect_46 : decode mi_R_deselect.2.1 46 = .ok (.iload_n 3, 1) := by decide +kernel
theorem d_R_deselect_47 : decode mi_R_deselect.2.1 47 = .ok (.iconst 0, 1) := by decide +kernel
theorem d_R_deselect_48 : decode mi_R_deselect.2.1 48 = .ok (.bastore, 1) := by decide +kernel
theorem d_R_deselect_49 : decode mi_R_deselect.2.1 49 = .ok (.aload_n 0, 1) := by decide +kernel
theorem d_R_deselect_50 : decode mi_R_deselect.2.1 50 = .ok (.getfield 12, 3) := by decide +kernel
theorem d_R_deselect_53 : decode mi_R_deselect.2.1 53 = .ok (.invokevirtual 130, 3) := by decide +kernel
theorem d_R_deselect_56 : decode mi_R_deselect.2.1 56 = .ok (.ireturn, 1) := by decide +kernel
theorem d_R_clearSelection_0 : decode mi_R_clearSelection.2.1 0 = .ok (.aload_n 0, 1) := by decide +kernel
theorem d_R_clearSelection_1 : decode mi_R_clearSelection.2.1 1 = .ok (.getfield 12, 3) := by decide +kernel
theorem d_R_clearSelection_4 : decode mi_R_clearSelection.2.1 4 = .ok (.invokevirtual 130, 3) := by decide +kernel
theorem d_R_clearSelection_7 : decode mi_R_clearSelection.2.1 7 = .ok (.istore_n 1, 1) := by decide +kernel
theorem d_R_clearSelection_8 : decode mi_R_clearSelection.2.1 8 = .ok (.iload_n 1, 1) := by decide +kernel
theorem d_R_clearSelection_9 : decode mi_R_clearSelection.2.1 9 = .ok (.ifCond .ne 6, 3) := by decide +kernel
theorem d_R_clearSelection_12 : decode mi_R_clearSelection.2.1 12 = .ok (.bipush (-2), 2) := by decide +kernel
theorem d_R_clearSelection_14 : decode mi_R_clearSelection.2.1 14 = .ok (.ireturn, 1) := by decide +kernel
theorem d_R_clearSelection_15 : decode mi_R_clearSelection.2.1 15 = .ok (.aload_n 0, 1) := by decide +kernel
theorem d_R_clearSelection_16 : decode mi_R_clearSelection.2.1 16 = .ok (.invokevirtual 75, 3) := by decide +kernel
theorem d_R_clearSelection_19 : decode mi_R_clearSelection.2.1 19 = .ok (.iconst 0, 1) := by decide +kernel
theorem d_R_clearSelection_20 : decode mi_R_clearSelection.2.1 20 = .ok (.istore_n 2, 1) := by decide +kernel
theorem d_R_clearSelection_21 : decode mi_R_clearSelection.2.1 21 = .ok (.iload_n 2, 1) := by decide +kernel
theorem d_R_clearSelection_22 : decode mi_R_clearSelection.2.1 22 = .ok (.bipush 36, 2) := by decide +kernel
theorem d_R_clearSelection_24 : decode mi_R_clearSelection.2.1 24 = .ok (.if_icmp .ge 19, 3) := by decide +kernel
theorem d_R_clearSelection_27 : decode mi_R_clearSelection.2.1 27 = .ok (.aload_n 0, 1) := by decide +kernel
theorem d_R_clearSelection_28 : decode mi_R_clearSelection.2.1 28 = .ok (.getfield 12, 3) := by decide +kernel
theorem d_R_clearSelection_31 : decode mi_R_clearSelection.2.1 31 = .ok (.getfield 100, 3) := by decide +kernel
theorem d_R_clearSelection_34 : decode mi_R_clearSelection.2.1 34 = .ok (.iload_n 2, 1) := by decide +kernel
theorem d_R_clearSelection_35 : decode mi_R_clearSelection.2.1 35 = .ok (.iconst 0, 1) := by decide +kernel
theorem d_R_clearSelection_36 : decode mi_R_clearSelection.2.1 36 = .ok (.bastore, 1) := by decide +kernel
theorem d_R_clearSelection_37 : decode mi_R_clearSelection.2.1 37 = .ok (.iinc 2 1, 3) := by decide +kernel
theorem d_R_clearSelection_40 : decode mi_R_clearSelection.2.1 40 = .ok (.goto (-19), 3) := by decide +kernel
theorem d_R_clearSelection_43 : decode mi_R_clearSelection.2.1 43 = .ok (.iload_n 1, 1) := by decide +kernel
theorem d_R_clearSelection_44 : decode mi_R_clearSelection.2.1 44 = .ok (.ireturn, 1) := by decide +kernel
theorem d_R_escapeCount_0 : decode mi_R_escapeCount.2.1 0 = .ok (.aload_n 0, 1) := by decide +kernel
theorem d_R_escapeCount_1 : decode mi_R_escapeCount.2.1 1 = .ok (.invokevirtual 133, 3) := by decide +kernel
theorem d_R_escapeCount_4 : decode mi_R_escapeCount.2.1 4 = .ok (.aload_n 0, 1) := by decide +kernel
theorem d_R_escapeCount_5 : decode mi_R_escapeCount.2.1 5 = .ok (.getfield 57, 3) := by decide +kernel
theorem d_R_escapeCount_8 : decode mi_R_escapeCount.2.1 8 = .ok (.ireturn, 1) := by decide +kernel
theorem d_R_tileSide_0 : decode mi_R_tileSide.2.1 0 = .ok (.iload_n 1, 1) := by decide +kernel
theorem d_R_tileSide_1 : decode mi_R_tileSide.2.1 1 = .ok (.ifCond .lt 29, 3) := by decide +kernel
theorem d_R_tileSide_4 : decode mi_R_tileSide.2.1 4 = .ok (.iload_n 1, 1) := by decide +kernel
theorem d_R_tileSide_5 : decode mi_R_tileSide.2.1 5 = .ok (.aload_n 0, 1) := by decide +kernel
theorem d_R_tileSide_6 : decode mi_R_tileSide.2.1 6 = .ok (.getfield 12, 3) := by decide +kernel
theorem d_R_tileSide_9 : decode mi_R_tileSide.2.1 9 = .ok (.getfield 109, 3) := by decide +kernel
theorem d_R_tileSide_12 : decode mi_R_tileSide.2.1 12 = .ok (.if_icmp .gt 18, 3) := by decide +kernel
theorem d_R_tileSide_15 : decode mi_R_tileSide.2.1 15 = .ok (.iload_n 2, 1) := by decide +kernel
theorem d_R_tileSide_16 : decode mi_R_tileSide.2.1 16 = .ok (.ifCond .lt 14, 3) := by decide +kernel
theorem d_R_tileSide_19 : decode mi_R_tileSide.2.1 19 = .ok (.iload_n 2, 1) := by decide +kernel
theorem d_R_tileSide_20 : decode mi_R_tileSide.2.1 20 = .ok (.aload_n 0, 1) := by decide +kernel
theorem d_R_tileSide_21 : decode mi_R_tileSide.2.1 21 = .ok (.getfield 12, 3) := by decide +kernel
theorem d_R_tileSide_24 : decode mi_R_tileSide.2.1 24 = .ok (.getfield 112, 3) := by decide +kernel
theorem d_R_tileSide_27 : decode mi_R_tileSide.2.1 27 = .ok (.if_icmp .le 5, 3) := by decide +kernel
theorem d_R_tileSide_30 : decode mi_R_tileSide.2.1 30 = .ok (.iconst (-1), 1) := by decide +kernel
theorem d_R_tileSide_31 : decode mi_R_tileSide.2.1 31 = .ok (.ireturn, 1) := by decide +kernel
theorem d_R_tileSide_32 : decode mi_R_tileSide.2.1 32 = .ok (.aload_n 0, 1) := by decide +kernel
theorem d_R_tileSide_33 : decode mi_R_tileSide.2.1 33 = .ok (.invokevirtual 133, 3) := by decide +kernel
theorem d_R_tileSide_36 : decode mi_R_tileSide.2.1 36 = .ok (.aload_n 0, 1) := by decide +kernel
theorem d_R_tileSide_37 : decode mi_R_tileSide.2.1 37 = .ok (.getfield 33, 3) := by decide +kernel
theorem d_R_tileSide_40 : decode mi_R_tileSide.2.1 40 = .ok (.iload_n 1, 1) := by decide +kernel
theorem d_R_tileSide_41 : decode mi_R_tileSide.2.1 41 = .ok (.iload_n 2, 1) := by decide +kernel
theorem d_R_tileSide_42 : decode mi_R_tileSide.2.1 42 = .ok (.invokestatic 136, 3) := by decide +kernel
theorem d_R_tileSide_45 : decode mi_R_tileSide.2.1 45 = .ok (.invokevirtual 139, 3) := by decide +kernel
theorem d_R_tileSide_48 : decode mi_R_tileSide.2.1 48 = .ok (.ireturn, 1) := by decide +kernel
theorem d_R_cutChannels_0 : decode mi_R_cutChannels.2.1 0 = .ok (.aload_n 0, 1) := by decide +kernel
theorem d_R_cutChannels_1 : decode mi_R_cutChannels.2.1 1 = .ok (.invokevirtual 133, 3) := by decide +kernel
theorem d_R_cutChannels_4 : decode mi_R_cutChannels.2.1 4 = .ok (.aload_n 0, 1) := by decide +kernel
theorem d_R_cutChannels_5 : decode mi_R_cutChannels.2.1 5 = .ok (.getfield 33, 3) := by decide +kernel
theorem d_R_cutChannels_8 : decode mi_R_cutChannels.2.1 8 = .ok (.invokevirtual 142, 3) := by decide +kernel
theorem d_R_cutChannels_11 : decode mi_R_cutChannels.2.1 11 = .ok (.ireturn, 1) := by decide +kernel
theorem d_R_layerCount_0 : decode mi_R_layerCount.2.1 0 = .ok (.iload_n 1, 1) := by decide +kernel
theorem d_R_layerCount_1 : decode mi_R_layerCount.2.1 1 = .ok (.invokestatic 145, 3) := by decide +kernel
theorem d_R_layerCount_4 : decode mi_R_layerCount.2.1 4 = .ok (.ifCond .ne 5, 3) := by decide +kernel
theorem d_R_layerCount_7 : decode mi_R_layerCount.2.1 7 = .ok (.iconst (-1), 1) := by decide +kernel
theorem d_R_layerCount_8 : decode mi_R_layerCount.2.1 8 = .ok (.ireturn, 1) := by decide +kernel
theorem d_R_layerCount_9 : decode mi_R_layerCount.2.1 9 = .ok (.aload_n 0, 1) := by decide +kernel
theorem d_R_layerCount_10 : decode mi_R_layerCount.2.1 10 = .ok (.getfield 42, 3) := by decide +kernel
theorem d_R_layerCount_13 : decode mi_R_layerCount.2.1 13 = .ok (.iload_n 1, 1) := by decide +kernel
theorem d_R_layerCount_14 : decode mi_R_layerCount.2.1 14 = .ok (.aaload, 1) := by decide +kernel
theorem d_R_layerCount_15 : decode mi_R_layerCount.2.1 15 = .ok (.aload_n 0, 1) := by decide +kernel
theorem d_R_layerCount_16 : decode mi_R_layerCount.2.1 16 = .ok (.getfield 12, 3) := by decide +kernel
theorem d_R_layerCount_19 : decode mi_R_layerCount.2.1 19 = .ok (.aload_n 0, 1) := by decide +kernel
theorem d_R_layerCount_20 : decode mi_R_layerCount.2.1 20 = .ok (.getfield 37, 3) := by decide +kernel
theorem d_R_layerCount_23 : decode mi_R_layerCount.2.1 23 = .ok (.invokevirtual 148, 3) := by decide +kernel
theorem d_R_layerCount_26 : decode mi_R_layerCount.2.1 26 = .ok (.astore_n 2, 1) := by decide +kernel
theorem d_R_layerCount_27 : decode mi_R_layerCount.2.1 27 = .ok (.aload_n 2, 1) := by decide +kernel
theorem d_R_layerCount_28 : decode mi_R_layerCount.2.1 28 = .ok (.getfield 152, 3) := by decide +kernel
theorem d_R_layerCount_31 : decode mi_R_layerCount.2.1 31 = .ok (.ifCond .eq 10, 3) := by decide +kernel
theorem d_R_layerCount_34 : decode mi_R_layerCount.2.1 34 = .ok (.aload_n 2, 1) := by decide +kernel
theorem d_R_layerCount_35 : decode mi_R_layerCount.2.1 35 = .ok (.getfield 155, 3) := by decide +kernel
theorem d_R_layerCount_38 : decode mi_R_layerCount.2.1 38 = .ok (.goto 5, 3) := by decide +kernel
theorem d_R_layerCount_41 : decode mi_R_layerCount.2.1 41 = .ok (.bipush (-9), 2) := by decide +kernel
theorem d_R_layerCount_43 : decode mi_R_layerCount.2.1 43 = .ok (.ireturn, 1) := by decide +kernel
theorem d_R_layerLoad_0 : decode mi_R_layerLoad.2.1 0 = .ok (.iload_n 1, 1) := by decide +kernel
theorem d_R_layerLoad_1 : decode mi_R_layerLoad.2.1 1 = .ok (.invokestatic 145, 3) := by decide +kernel
theorem d_R_layerLoad_4 : decode mi_R_layerLoad.2.1 4 = .ok (.ifCond .eq 8, 3) := by decide +kernel
theorem d_R_layerLoad_7 : decode mi_R_layerLoad.2.1 7 = .ok (.iload_n 2, 1) := by decide +kernel
theorem d_R_layerLoad_8 : decode mi_R_layerLoad.2.1 8 = .ok (.iconst 1, 1) := by decide +kernel
theorem d_R_layerLoad_9 : decode mi_R_layerLoad.2.1 9 = .ok (.if_icmp .ge 5, 3) := by decide +kernel
theorem d_R_layerLoad_12 : decode mi_R_layerLoad.2.1 12 = .ok (.iconst (-1), 1) := by decide +kernel
theorem d_R_layerLoad_13 : decode mi_R_layerLoad.2.1 13 = .ok (.ireturn, 1) := by decide +kernel
theorem d_R_layerLoad_14 : decode mi_R_layerLoad.2.1 14 = .ok (.aload_n 0, 1) := by decide +kernel
theorem d_R_layerLoad_15 : decode mi_R_layerLoad.2.1 15 = .ok (.getfield 42, 3) := by decide +kernel
theorem d_R_layerLoad_18 : decode mi_R_layerLoad.2.1 18 = .ok (.iload_n 1, 1) := by decide +kernel
theorem d_R_layerLoad_19 : decode mi_R_layerLoad.2.1 19 = .ok (.aaload, 1) := by decide +kernel
theorem d_R_layerLoad_20 : decode mi_R_layerLoad.2.1 20 = .ok (.aload_n 0, 1) := by decide +kernel
theorem d_R_layerLoad_21 : decode mi_R_layerLoad.2.1 21 = .ok (.getfield 12, 3) := by decide +kernel
theorem d_R_layerLoad_24 : decode mi_R_layerLoad.2.1 24 = .ok (.aload_n 0, 1) := by decide +kernel
theorem d_R_layerLoad_25 : decode mi_R_layerLoad.2.1 25 = .ok (.getfield 37, 3) := by decide +kernel
theorem d_R_layerLoad_28 : decode mi_R_layerLoad.2.1 28 = .ok (.invokevirtual 148, 3) := by decide +kernel
theorem d_R_layerLoad_31 : decode mi_R_layerLoad.2.1 31 = .ok (.iload_n 2, 1) := by decide +kernel
theorem d_R_layerLoad_32 : decode mi_R_layerLoad.2.1 32 = .ok (.invokevirtual 161, 3) := by decide +kernel
theorem d_R_layerLoad_35 : decode mi_R_layerLoad.2.1 35 = .ok (.ireturn, 1) := by decide +kernel
theorem d_R_throughput_0 : decode mi_R_throughput.2.1 0 = .ok (.aload_n 0, 1) := by decide +kernel
theorem d_R_throughput_1 : decode mi_R_throughput.2.1 1 = .ok (.getfield 61, 3) := by decide +kernel
theorem d_R_throughput_4 : decode mi_R_throughput.2.1 4 = .ok (.bipush (-9), 2) := by decide +kernel
theorem d_R_throughput_6 : decode mi_R_throughput.2.1 6 = .ok (.if_icmp .ne 106, 3) := by decide +kernel
theorem d_R_throughput_9 : decode mi_R_throughput.2.1 9 = .ok (.iconst 0, 1) := by decide +kernel
theorem d_R_throughput_10 : decode mi_R_throughput.2.1 10 = .ok (.istore_n 1, 1) := by decide +kernel
theorem d_R_throughput_11 : decode mi_R_throughput.2.1 11 = .ok (.iload_n 1, 1) := by decide +kernel
theorem d_R_throughput_12 : decode mi_R_throughput.2.1 12 = .ok (.bipush 36, 2) := by decide +kernel
theorem d_R_throughput_14 : decode mi_R_throughput.2.1 14 = .ok (.if_icmp .ge 33, 3) := by decide +kernel
theorem d_R_throughput_17 : decode mi_R_throughput.2.1 17 = .ok (.aload_n 0, 1) := by decide +kernel
theorem d_R_throughput_18 : decode mi_R_throughput.2.1 18 = .ok (.getfield 49, 3) := by decide +kernel
theorem d_R_throughput_21 : decode mi_R_throughput.2.1 21 = .ok (.iload_n 1, 1) := by decide +kernel
theorem d_R_throughput_22 : decode mi_R_throughput.2.1 22 = .ok (.aload_n 0, 1) := by decide +kernel
theorem d_R_throughput_23 : decode mi_R_throughput.2.1 23 = .ok (.getfield 12, 3) := by decide +kernel
theorem d_R_throughput_26 : decode mi_R_throughput.2.1 26 = .ok (.getfield 93, 3) := by decide +kernel
theorem d_R_throughput_29 : decode mi_R_throughput.2.1 29 = .ok (.iload_n 1, 1) := by decide +kernel
theorem d_R_throughput_30 : decode mi_R_throughput.2.1 30 = .ok (.iaload, 1) := by decide +kernel
theorem d_R_throughput_31 : decode mi_R_throughput.2.1 31 = .ok (.iconst 2, 1) := by decide +kernel
theorem d_R_throughput_32 : decode mi_R_throughput.2.1 32 = .ok (.if_icmp .eq 7, 3) := by decide +kernel
theorem d_R_throughput_35 : decode mi_R_throughput.2.1 35 = .ok (.iconst 1, 1) := by decide +kernel
theorem d_R_throughput_36 : decode mi_R_throughput.2.1 36 = .ok (.goto 4, 3) := by decide +kernel
theorem d_R_throughput_39 : decode mi_R_throughput.2.1 39 = .ok (.iconst 0, 1) := by decide +kernel
theorem d_R_throughput_40 : decode mi_R_throughput.2.1 40 = .ok (.bastore, 1) := by decide +kernel
theorem d_R_throughput_41 : decode mi_R_throughput.2.1 41 = .ok (.iinc 1 1, 3) := by decide +kernel
theorem d_R_throughput_44 : decode mi_R_throughput.2.1 44 = .ok (.goto (-33), 3) := by decide +kernel
theorem d_R_throughput_47 : decode mi_R_throughput.2.1 47 = .ok (.aload_n 0, 1) := by decide +kernel
theorem d_R_throughput_48 : decode mi_R_throughput.2.1 48 = .ok (.getfield 37, 3) := by decide +kernel
theorem d_R_throughput_51 : decode mi_R_throughput.2.1 51 = .ok (.aload_n 0, 1) := by decide +kernel
theorem d_R_throughput_52 : decode mi_R_throughput.2.1 52 = .ok (.getfield 12, 3) := by decide +kernel
theorem d_R_throughput_55 : decode mi_R_throughput.2.1 55 = .ok (.aload_n 0, 1) := by decide +kernel
theorem d_R_throughput_56 : decode mi_R_throughput.2.1 56 = .ok (.getfield 49, 3) := by decide +kernel
theorem d_R_throughput_59 : decode mi_R_throughput.2.1 59 = .ok (.ldc 164, 2) := by decide +kernel
theorem d_R_throughput_61 : decode mi_R_throughput.2.1 61 = .ok (.invokevirtual 165, 3) := by decide +kernel
theorem d_R_throughput_64 : decode mi_R_throughput.2.1 64 = .ok (.iconst 0, 1) := by decide +kernel
theorem d_R_throughput_65 : decode mi_R_throughput.2.1 65 = .ok (.istore_n 1, 1) := by decide +kernel
theorem d_R_throughput_66 : decode mi_R_throughput.2.1 66 = .ok (.iload_n 1, 1) := by decide +kernel
theorem d_R_throughput_67 : decode mi_R_throughput.2.1 67 = .ok (.bipush 36, 2) := by decide +kernel
theorem d_R_throughput_69 : decode mi_R_throughput.2.1 69 = .ok (.if_icmp .ge 32, 3) := by decide +kernel
theorem d_R_throughput_72 : decode mi_R_throughput.2.1 72 = .ok (.aload_n 0, 1) := by decide +kernel
theorem d_R_throughput_73 : decode mi_R_throughput.2.1 73 = .ok (.getfield 12, 3) := by decide +kernel
theorem d_R_throughput_76 : decode mi_R_throughput.2.1 76 = .ok (.getfield 93, 3) := by decide +kernel
theorem d_R_throughput_79 : decode mi_R_throughput.2.1 79 = .ok (.iload_n 1, 1) := by decide +kernel
theorem d_R_throughput_80 : decode mi_R_throughput.2.1 80 = .ok (.iaload, 1) := by decide +kernel
theorem d_R_throughput_81 : decode mi_R_throughput.2.1 81 = .ok (.iconst 1, 1) := by decide +kernel
theorem d_R_throughput_82 : decode mi_R_throughput.2.1 82 = .ok (.if_icmp .ne 13, 3) := by decide +kernel
theorem d_R_throughput_85 : decode mi_R_throughput.2.1 85 = .ok (.aload_n 0, 1) := by decide +kernel
theorem d_R_throughput_86 : decode mi_R_throughput.2.1 86 = .ok (.getfield 37, 3) := by decide +kernel
theorem d_R_throughput_89 : decode mi_R_throughput.2.1 89 = .ok (.iload_n 1, 1) := by decide +kernel
theorem d_R_throughput_90 : decode mi_R_throughput.2.1 90 = .ok (.ldc 164, 2) := by decide +kernel
theorem d_R_throughput_92 : decode mi_R_throughput.2.1 92 = .ok (.invokevirtual 169, 3) := by decide +kernel
theorem d_R_throughput_95 : decode mi_R_throughput.2.1 95 = .ok (.iinc 1 1, 3) := by decide +kernel
theorem d_R_throughput_98 : decode mi_R_throughput.2.1 98 = .ok (.goto (-32), 3) := by decide +kernel
theorem d_R_throughput_101 : decode mi_R_throughput.2.1 101 = .ok (.aload_n 0, 1) := by decide +kernel
theorem d_R_throughput_102 : decode mi_R_throughput.2.1 102 = .ok (.aload_n 0, 1) := by decide +kernel
theorem d_R_throughput_103 : decode mi_R_throughput.2.1 103 = .ok (.getfield 37, 3) := by decide +kernel
theorem d_R_throughput_106 : decode mi_R_throughput.2.1 106 = .ok (.invokevirtual 173, 3) := by decide +kernel
theorem d_R_throughput_109 : decode mi_R_throughput.2.1 109 = .ok (.putfield 61, 3) := by decide +kernel
theorem d_R_throughput_112 : decode mi_R_throughput.2.1 112 = .ok (.aload_n 0, 1) := by decide +kernel
theorem d_R_throughput_113 : decode mi_R_throughput.2.1 113 = .ok (.getfield 61, 3) := by decide +kernel
theorem d_R_throughput_116 : decode mi_R_throughput.2.1 116 = .ok (.ireturn, 1) := by decide +kernel
theorem d_R_lowerBound_0 : decode mi_R_lowerBound.2.1 0 = .ok (.aload_n 0, 1) := by decide +kernel
theorem d_R_lowerBound_1 : decode mi_R_lowerBound.2.1 1 = .ok (.getfield 12, 3) := by decide +kernel
theorem d_R_lowerBound_4 : decode mi_R_lowerBound.2.1 4 = .ok (.invokevirtual 82, 3) := by decide +kernel
theorem d_R_lowerBound_7 : decode mi_R_lowerBound.2.1 7 = .ok (.istore_n 1, 1) := by decide +kernel
theorem d_R_lowerBound_8 : decode mi_R_lowerBound.2.1 8 = .ok (.iload_n 1, 1) := by decide +kernel
theorem d_R_lowerBound_9 : decode mi_R_lowerBound.2.1 9 = .ok (.ifCond .ne 5, 3) := by decide +kernel
theorem d_R_lowerBound_12 : decode mi_R_lowerBound.2.1 12 = .ok (.iconst 0, 1) := by decide +kernel
theorem d_R_lowerBound_13 : decode mi_R_lowerBound.2.1 13 = .ok (.ireturn, 1) := by decide +kernel
theorem d_R_lowerBound_14 : decode mi_R_lowerBound.2.1 14 = .ok (.aload_n 0, 1) := by decide +kernel
theorem d_R_lowerBound_15 : decode mi_R_lowerBound.2.1 15 = .ok (.invokevirtual 176, 3) := by decide +kernel
theorem d_R_lowerBound_18 : decode mi_R_lowerBound.2.1 18 = .ok (.istore_n 2, 1) := by decide +kernel
theorem d_R_lowerBound_19 : decode mi_R_lowerBound.2.1 19 = .ok (.iload_n 2, 1) := by decide +kernel
theorem d_R_lowerBound_20 : decode mi_R_lowerBound.2.1 20 = .ok (.ifCond .gt 6, 3) := by decide +kernel
theorem d_R_lowerBound_23 : decode mi_R_lowerBound.2.1 23 = .ok (.bipush (-9), 2) := by decide +kernel
theorem d_R_lowerBound_25 : decode mi_R_lowerBound.2.1 25 = .ok (.ireturn, 1) := by decide +kernel
theorem d_R_lowerBound_26 : decode mi_R_lowerBound.2.1 26 = .ok (.iload_n 1, 1) := by decide +kernel
theorem d_R_lowerBound_27 : decode mi_R_lowerBound.2.1 27 = .ok (.iload_n 2, 1) := by decide +kernel
theorem d_R_lowerBound_28 : decode mi_R_lowerBound.2.1 28 = .ok (.iadd, 1) := by decide +kernel
theorem d_R_lowerBound_29 : decode mi_R_lowerBound.2.1 29 = .ok (.iconst 1, 1) := by decide +kernel
theorem d_R_lowerBound_30 : decode mi_R_lowerBound.2.1 30 = .ok (.isub, 1) := by decide +kernel
theorem d_R_lowerBound_31 : decode mi_R_lowerBound.2.1 31 = .ok (.iload_n 2, 1) := by decide +kernel
theorem d_R_lowerBound_32 : decode mi_R_lowerBound.2.1 32 = .ok (.idiv, 1) := by decide +kernel
theorem d_R_lowerBound_33 : decode mi_R_lowerBound.2.1 33 = .ok (.ireturn, 1) := by decide +kernel
theorem d_R_undo_0 : decode mi_R_undo.2.1 0 = .ok (.aload_n 0, 1) := by decide +kernel
theorem d_R_undo_1 : decode mi_R_undo.2.1 1 = .ok (.getfield 19, 3) := by decide +kernel
theorem d_R_undo_4 : decode mi_R_undo.2.1 4 = .ok (.getfield 179, 3) := by decide +kernel
theorem d_R_undo_7 : decode mi_R_undo.2.1 7 = .ok (.ifCond .ne 6, 3) := by decide +kernel
theorem d_R_undo_10 : decode mi_R_undo.2.1 10 = .ok (.bipush (-2), 2) := by decide +kernel
theorem d_R_undo_12 : decode mi_R_undo.2.1 12 = .ok (.ireturn, 1) := by decide +kernel
theorem d_R_undo_13 : decode mi_R_undo.2.1 13 = .ok (.aload_n 0, 1) := by decide +kernel
theorem d_R_undo_14 : decode mi_R_undo.2.1 14 = .ok (.getfield 19, 3) := by decide +kernel
theorem d_R_undo_17 : decode mi_R_undo.2.1 17 = .ok (.aload_n 0, 1) := by decide +kernel
theorem d_R_undo_18 : decode mi_R_undo.2.1 18 = .ok (.getfield 12, 3) := by decide +kernel
theorem d_R_undo_21 : decode mi_R_undo.2.1 21 = .ok (.invokevirtual 182, 3) := by decide +kernel
theorem d_R_undo_24 : decode mi_R_undo.2.1 24 = .ok (.aload_n 0, 1) := by decide +kernel
theorem d_R_undo_25 : decode mi_R_undo.2.1 25 = .ok (.invokevirtual 186, 3) := by decide +kernel
theorem d_R_undo_28 : decode mi_R_undo.2.1 28 = .ok (.aload_n 0, 1) := by decide +kernel
theorem d_R_undo_29 : decode mi_R_undo.2.1 29 = .ok (.getfield 19, 3) := by decide +kernel
theorem d_R_undo_32 : decode mi_R_undo.2.1 32 = .ok (.getfield 179, 3) := by decide +kernel
theorem d_R_undo_35 : decode mi_R_undo.2.1 35 = .ok (.ireturn, 1) := by decide +kernel
theorem d_R_placeOf_0 : decode mi_R_placeOf.2.1 0 = .ok (.iload_n 0, 1) := by decide +kernel
theorem d_R_placeOf_1 : decode mi_R_placeOf.2.1 1 = .ok (.bipush 6, 2) := by decide +kernel
theorem d_R_placeOf_3 : decode mi_R_placeOf.2.1 3 = .ok (.imul, 1) := by decide +kernel
theorem d_R_placeOf_4 : decode mi_R_placeOf.2.1 4 = .ok (.iload_n 1, 1) := by decide +kernel
theorem d_R_placeOf_5 : decode mi_R_placeOf.2.1 5 = .ok (.iadd, 1) := by decide +kernel
theorem d_R_placeOf_6 : decode mi_R_placeOf.2.1 6 = .ok (.ireturn, 1) := by decide +kernel
theorem d_R_tileAt_0 : decode mi_R_tileAt.2.1 0 = .ok (.iload_n 0, 1) := by decide +kernel
theorem d_R_tileAt_1 : decode mi_R_tileAt.2.1 1 = .ok (.bipush 7, 2) := by decide +kernel
theorem d_R_tileAt_3 : decode mi_R_tileAt.2.1 3 = .ok (.imul, 1) := by decide +kernel
theorem d_R_tileAt_4 : decode mi_R_tileAt.2.1 4 = .ok (.iload_n 1, 1) := by decide +kernel
theorem d_R_tileAt_5 : decode mi_R_tileAt.2.1 5 = .ok (.iadd, 1) := by decide +kernel
theorem d_R_tileAt_6 : decode mi_R_tileAt.2.1 6 = .ok (.ireturn, 1) := by decide +kernel
theorem d_R_isStrategy_0 : decode mi_R_isStrategy.2.1 0 = .ok (.iload_n 0, 1) := by decide +kernel
theorem d_R_isStrategy_1 : decode mi_R_isStrategy.2.1 1 = .ok (.ifCond .lt 12, 3) := by decide +kernel
theorem d_R_isStrategy_4 : decode mi_R_isStrategy.2.1 4 = .ok (.iload_n 0, 1) := by decide +kernel
theorem d_R_isStrategy_5 : decode mi_R_isStrategy.2.1 5 = .ok (.iconst 4, 1) := by decide +kernel
theorem d_R_isStrategy_6 : decode mi_R_isStrategy.2.1 6 = .ok (.if_icmp .ge 7, 3) := by decide +kernel
theorem d_R_isStrategy_9 : decode mi_R_isStrategy.2.1 9 = .ok (.iconst 1, 1) := by decide +kernel
theorem d_R_isStrategy_10 : decode mi_R_isStrategy.2.1 10 = .ok (.goto 4, 3) := by decide +kernel
theorem d_R_isStrategy_13 : decode mi_R_isStrategy.2.1 13 = .ok (.iconst 0, 1) := by decide +kernel
theorem d_R_isStrategy_14 : decode mi_R_isStrategy.2.1 14 = .ok (.ireturn, 1) := by decide +kernel
theorem d_R_beginEdit_0 : decode mi_R_beginEdit.2.1 0 = .ok (.aload_n 0, 1) := by decide +kernel
theorem d_R_beginEdit_1 : decode mi_R_beginEdit.2.1 1 = .ok (.getfield 19, 3) := by decide +kernel
theorem d_R_beginEdit_4 : decode mi_R_beginEdit.2.1 4 = .ok (.aload_n 0, 1) := by decide +kernel
theorem d_R_beginEdit_5 : decode mi_R_beginEdit.2.1 5 = .ok (.getfield 12, 3) := by decide +kernel
theorem d_R_beginEdit_8 : decode mi_R_beginEdit.2.1 8 = .ok (.invokevirtual 189, 3) := by decide +kernel
theorem d_R_beginEdit_11 : decode mi_R_beginEdit.2.1 11 = .ok (.aload_n 0, 1) := by decide +kernel
theorem d_R_beginEdit_12 : decode mi_R_beginEdit.2.1 12 = .ok (.invokevirtual 186, 3) := by decide +kernel
theorem d_R_beginEdit_15 : decode mi_R_beginEdit.2.1 15 = .ok (.return_, 1) := by decide +kernel
theorem d_R_forgetResults_0 : decode mi_R_forgetResults.2.1 0 = .ok (.aload_n 0, 1) := by decide +kernel
theorem d_R_forgetResults_1 : decode mi_R_forgetResults.2.1 1 = .ok (.iconst 0, 1) := by decide +kernel
theorem d_R_forgetResults_2 : decode mi_R_forgetResults.2.1 2 = .ok (.putfield 53, 3) := by decide +kernel
theorem d_R_forgetResults_5 : decode mi_R_forgetResults.2.1 5 = .ok (.aload_n 0, 1) := by decide +kernel
theorem d_R_forgetResults_6 : decode mi_R_forgetResults.2.1 6 = .ok (.bipush (-9), 2) := by decide +kernel
theorem d_R_forgetResults_8 : decode mi_R_forgetResults.2.1 8 = .ok (.putfield 61, 3) := by decide +kernel
theorem d_R_forgetResults_11 : decode mi_R_forgetResults.2.1 11 = .ok (.iconst 0, 1) := by decide +kernel
theorem d_R_forgetResults_12 : decode mi_R_forgetResults.2.1 12 = .ok (.istore_n 1, 1) := by decide +kernel
theorem d_R_forgetResults_13 : decode mi_R_forgetResults.2.1 13 = .ok (.iload_n 1, 1) := by decide +kernel
theorem d_R_forgetResults_14 : decode mi_R_forgetResults.2.1 14 = .ok (.iconst 4, 1) := by decide +kernel
theorem d_R_forgetResults_15 : decode mi_R_forgetResults.2.1 15 = .ok (.if_icmp .ge 19, 3) := by decide +kernel
theorem d_R_forgetResults_18 : decode mi_R_forgetResults.2.1 18 = .ok (.aload_n 0, 1) := by decide +kernel
theorem d_R_forgetResults_19 : decode mi_R_forgetResults.2.1 19 = .ok (.getfield 42, 3) := by decide +kernel
theorem d_R_forgetResults_22 : decode mi_R_forgetResults.2.1 22 = .ok (.iload_n 1, 1) := by decide +kernel
theorem d_R_forgetResults_23 : decode mi_R_forgetResults.2.1 23 = .ok (.aaload, 1) := by decide +kernel
theorem d_R_forgetResults_24 : decode mi_R_forgetResults.2.1 24 = .ok (.iconst 0, 1) := by decide +kernel
theorem d_R_forgetResults_25 : decode mi_R_forgetResults.2.1 25 = .ok (.putfield 192, 3) := by decide +kernel
theorem d_R_forgetResults_28 : decode mi_R_forgetResults.2.1 28 = .ok (.iinc 1 1, 3) := by decide +kernel
theorem d_R_forgetResults_31 : decode mi_R_forgetResults.2.1 31 = .ok (.goto (-18), 3) := by decide +kernel
theorem d_R_forgetResults_34 : decode mi_R_forgetResults.2.1 34 = .ok (.return_, 1) := by decide +kernel
theorem d_R_solveSelection_0 : decode mi_R_solveSelection.2.1 0 = .ok (.aload_n 0, 1) := by decide +kernel
theorem d_R_solveSelection_1 : decode mi_R_solveSelection.2.1 1 = .ok (.getfield 53, 3) := by decide +kernel
theorem d_R_solveSelection_4 : decode mi_R_solveSelection.2.1 4 = .ok (.ifCond .eq 4, 3) := by decide +kernel
theorem d_R_solveSelection_7 : decode mi_R_solveSelection.2.1 7 = .ok (.return_, 1) := by decide +kernel
theorem d_R_solveSelection_8 : decode mi_R_solveSelection.2.1 8 = .ok (.iconst 0, 1) := by decide +kernel
theorem d_R_solveSelection_9 : decode mi_R_solveSelection.2.1 9 = .ok (.istore_n 1, 1) := by decide +kernel
theorem d_R_solveSelection_10 : decode mi_R_solveSelection.2.1 10 = .ok (.iload_n 1, 1) := by decide +kernel
theorem d_R_solveSelection_11 : decode mi_R_solveSelection.2.1 11 = .ok (.bipush 36, 2) := by decide +kernel
theorem d_R_solveSelection_13 : decode mi_R_solveSelection.2.1 13 = .ok (.if_icmp .ge 32, 3) := by decide +kernel
theorem d_R_solveSelection_16 : decode mi_R_solveSelection.2.1 16 = .ok (.aload_n 0, 1) := by decide +kernel
theorem d_R_solveSelection_17 : decode mi_R_solveSelection.2.1 17 = .ok (.getfield 49, 3) := by decide +kernel
theorem d_R_solveSelection_20 : decode mi_R_solveSelection.2.1 20 = .ok (.iload_n 1, 1) := by decide +kernel
theorem d_R_solveSelection_21 : decode mi_R_solveSelection.2.1 21 = .ok (.aload_n 0, 1) := by decide +kernel
theorem d_R_solveSelection_22 : decode mi_R_solveSelection.2.1 22 = .ok (.getfield 12, 3) := by decide +kernel
theorem d_R_solveSelection_25 : decode mi_R_solveSelection.2.1 25 = .ok (.getfield 93, 3) := by decide +kernel
theorem d_R_solveSelection_28 : decode mi_R_solveSelection.2.1 28 = .ok (.iload_n 1, 1) := by decide +kernel
theorem d_R_solveSelection_29 : decode mi_R_solveSelection.2.1 29 = .ok (.iaload, 1) := by decide +kernel
theorem d_R_solveSelection_30 : decode mi_R_solveSelection.2.1 30 = .ok (.ifCond .ne 7, 3) := by decide +kernel
theorem d_R_solveSelection_33 : decode mi_R_solveSelection.2.1 33 = .ok (.iconst 1, 1) := by decide +kernel
theorem d_R_solveSelection_34 : decode mi_R_solveSelection.2.1 34 = .ok (.goto 4, 3) := by decide +kernel
theorem d_R_solveSelection_37 : decode mi_R_solveSelection.2.1 37 = .ok (.iconst 0, 1) := by decide +kernel
theorem d_R_solveSelection_38 : decode mi_R_solveSelection.2.1 38 = .ok (.bastore, 1) := by decide +kernel
theorem d_R_solveSelection_39 : decode mi_R_solveSelection.2.1 39 = .ok (.iinc 1 1, 3) := by decide +kernel
theorem d_R_solveSelection_42 : decode mi_R_solveSelection.2.1 42 = .ok (.goto (-32), 3) := by decide +kernel
theorem d_R_solveSelection_45 : decode mi_R_solveSelection.2.1 45 = .ok (.aload_n 0, 1) := by decide +kernel
theorem d_R_solveSelection_46 : decode mi_R_solveSelection.2.1 46 = .ok (.getfield 33, 3) := by decide +kernel
theorem d_R_solveSelection_49 : decode mi_R_solveSelection.2.1 49 = .ok (.aload_n 0, 1) := by decide +kernel
theorem d_R_solveSelection_50 : decode mi_R_solveSelection.2.1 50 = .ok (.getfield 12, 3) := by decide +kernel
theorem d_R_solveSelection_53 : decode mi_R_solveSelection.2.1 53 = .ok (.aload_n 0, 1) := by decide +kernel
theorem d_R_solveSelection_54 : decode mi_R_solveSelection.2.1 54 = .ok (.getfield 49, 3) := by decide +kernel
theorem d_R_solveSelection_57 : decode mi_R_solveSelection.2.1 57 = .ok (.iconst 1, 1) := by decide +kernel
theorem d_R_solveSelection_58 : decode mi_R_solveSelection.2.1 58 = .ok (.invokevirtual 165, 3) := by decide +kernel
theorem d_R_solveSelection_61 : decode mi_R_solveSelection.2.1 61 = .ok (.iconst 0, 1) := by decide +kernel
theorem d_R_solveSelection_62 : decode mi_R_solveSelection.2.1 62 = .ok (.istore_n 1, 1) := by decide +kernel
theorem d_R_solveSelection_63 : decode mi_R_solveSelection.2.1 63 = .ok (.iload_n 1, 1) := by decide +kernel
theorem d_R_solveSelection_64 : decode mi_R_solveSelection.2.1 64 = .ok (.bipush 36, 2) := by decide +kernel
theorem d_R_solveSelection_66 : decode mi_R_solveSelection.2.1 66 = .ok (.if_icmp .ge 30, 3) := by decide +kernel
theorem d_R_solveSelection_69 : decode mi_R_solveSelection.2.1 69 = .ok (.aload_n 0, 1) := by decide +kernel
theorem d_R_solveSelection_70 : decode mi_R_solveSelection.2.1 70 = .ok (.getfield 12, 3) := by decide +kernel
theorem d_R_solveSelection_73 : decode mi_R_solveSelection.2.1 73 = .ok (.getfield 100, 3) := by decide +kernel
theorem d_R_solveSelection_76 : decode mi_R_solveSelection.2.1 76 = .ok (.iload_n 1, 1) := by decide +kernel
theorem d_R_solveSelection_77 : decode mi_R_solveSelection.2.1 77 = .ok (.baload, 1) := by decide +kernel
theorem d_R_solveSelection_78 : decode mi_R_solveSelection.2.1 78 = .ok (.ifCond .eq 12, 3) := by decide +kernel
theorem d_R_solveSelection_81 : decode mi_R_solveSelection.2.1 81 = .ok (.aload_n 0, 1) := by decide +kernel
theorem d_R_solveSelection_82 : decode mi_R_solveSelection.2.1 82 = .ok (.getfield 33, 3) := by decide +kernel
theorem d_R_solveSelection_85 : decode mi_R_solveSelection.2.1 85 = .ok (.iload_n 1, 1) := by decide +kernel
theorem d_R_solveSelection_86 : decode mi_R_solveSelection.2.1 86 = .ok (.iconst 1, 1) := by decide +kernel
theorem d_R_solveSelection_87 : decode mi_R_solveSelection.2.1 87 = .ok (.invokevirtual 169, 3) := by decide +kernel
theorem d_R_solveSelection_90 : decode mi_R_solveSelection.2.1 90 = .ok (.iinc 1 1, 3) := by decide +kernel
theorem d_R_solveSelection_93 : decode mi_R_solveSelection.2.1 93 = .ok (.goto (-30), 3) := by decide +kernel
theorem d_R_solveSelection_96 : decode mi_R_solveSelection.2.1 96 = .ok (.aload_n 0, 1) := by decide +kernel
theorem d_R_solveSelection_97 : decode mi_R_solveSelection.2.1 97 = .ok (.aload_n 0, 1) := by decide +kernel
theorem d_R_solveSelection_98 : decode mi_R_solveSelection.2.1 98 = .ok (.getfield 33, 3) := by decide +kernel
theorem d_R_solveSelection_101 : decode mi_R_solveSelection.2.1 101 = .ok (.invokevirtual 173, 3) := by decide +kernel
theorem d_R_solveSelection_104 : decode mi_R_solveSelection.2.1 104 = .ok (.putfield 57, 3) := by decide +kernel
theorem d_R_solveSelection_107 : decode mi_R_solveSelection.2.1 107 = .ok (.aload_n 0, 1) := by decide +kernel
theorem d_R_solveSelection_108 : decode mi_R_solveSelection.2.1 108 = .ok (.iconst 1, 1) := by decide +kernel
theorem d_R_solveSelection_109 : decode mi_R_solveSelection.2.1 109 = .ok (.putfield 53, 3) := by decide +kernel
theorem d_R_solveSelection_112 : decode mi_R_solveSelection.2.1 112 = .ok (.return_, 1) := by decide +kernel
theorem d_B_init_0 : decode mi_B_init.2.1 0 = .ok (.aload_n 0, 1) := by decide +kernel
theorem d_B_init_1 : decode mi_B_init.2.1 1 = .ok (.invokespecial 3, 3) := by decide +kernel
theorem d_B_init_4 : decode mi_B_init.2.1 4 = .ok (.aload_n 0, 1) := by decide +kernel
theorem d_B_init_5 : decode mi_B_init.2.1 5 = .ok (.iconst 3, 1) := by decide +kernel
theorem d_B_init_6 : decode mi_B_init.2.1 6 = .ok (.putfield 9, 3) := by decide +kernel
theorem d_B_init_9 : decode mi_B_init.2.1 9 = .ok (.aload_n 0, 1) := by decide +kernel
theorem d_B_init_10 : decode mi_B_init.2.1 10 = .ok (.iconst 3, 1) := by decide +kernel
theorem d_B_init_11 : decode mi_B_init.2.1 11 = .ok (.putfield 15, 3) := by decide +kernel
theorem d_B_init_14 : decode mi_B_init.2.1 14 = .ok (.aload_n 0, 1) := by decide +kernel
theorem d_B_init_15 : decode mi_B_init.2.1 15 = .ok (.iconst 1, 1) := by decide +kernel
theorem d_B_init_16 : decode mi_B_init.2.1 16 = .ok (.putfield 18, 3) := by decide +kernel
theorem d_B_init_19 : decode mi_B_init.2.1 19 = .ok (.aload_n 0, 1) := by decide +kernel
theorem d_B_init_20 : decode mi_B_init.2.1 20 = .ok (.iconst 2, 1) := by decide +kernel
theorem d_B_init_21 : decode mi_B_init.2.1 21 = .ok (.putfield 21, 3) := by decide +kernel
theorem d_B_init_24 : decode mi_B_init.2.1 24 = .ok (.aload_n 0, 1) := by decide +kernel
theorem d_B_init_25 : decode mi_B_init.2.1 25 = .ok (.bipush 36, 2) := by decide +kernel
theorem d_B_init_27 : decode mi_B_init.2.1 27 = .ok (.newarray .int, 2) := by decide +kernel
theorem d_B_init_29 : decode mi_B_init.2.1 29 = .ok (.putfield 24, 3) := by decide +kernel
theorem d_B_init_32 : decode mi_B_init.2.1 32 = .ok (.aload_n 0, 1) := by decide +kernel
theorem d_B_init_33 : decode mi_B_init.2.1 33 = .ok (.bipush 36, 2) := by decide +kernel
theorem d_B_init_35 : decode mi_B_init.2.1 35 = .ok (.newarray .int, 2) := by decide +kernel
theorem d_B_init_37 : decode mi_B_init.2.1 37 = .ok (.putfield 28, 3) := by decide +kernel
theorem d_B_init_40 : decode mi_B_init.2.1 40 = .ok (.aload_n 0, 1) := by decide +kernel
theorem d_B_init_41 : decode mi_B_init.2.1 41 = .ok (.bipush 36, 2) := by decide +kernel
theorem d_B_init_43 : decode mi_B_init.2.1 43 = .ok (.newarray .boolean, 2) := by decide +kernel
theorem d_B_init_45 : decode mi_B_init.2.1 45 = .ok (.putfield 31, 3) := by decide +kernel
theorem d_B_init_48 : decode mi_B_init.2.1 48 = .ok (.iconst 0, 1) := by decide +kernel
theorem d_B_init_49 : decode mi_B_init.2.1 49 = .ok (.istore_n 1, 1) := by decide +kernel
theorem d_B_init_50 : decode mi_B_init.2.1 50 = .ok (.iload_n 1, 1) := by decide +kernel
theorem d_B_init_51 : decode mi_B_init.2.1 51 = .ok (.bipush 36, 2) := by decide +kernel
theorem d_B_init_53 : decode mi_B_init.2.1 53 = .ok (.if_icmp .ge 23, 3) := by decide +kernel
theorem d_B_init_56 : decode mi_B_init.2.1 56 = .ok (.aload_n 0, 1) := by decide +kernel
theorem d_B_init_57 : decode mi_B_init.2.1 57 = .ok (.getfield 24, 3) := by decide +kernel
theorem d_B_init_60 : decode mi_B_init.2.1 60 = .ok (.iload_n 1, 1) := by decide +kernel
theorem d_B_init_61 : decode mi_B_init.2.1 61 = .ok (.iconst 0, 1) := by decide +kernel
theorem d_B_init_62 : decode mi_B_init.2.1 62 = .ok (.iastore, 1) := by decide +kernel
theorem d_B_init_63 : decode mi_B_init.2.1 63 = .ok (.aload_n 0, 1) := by decide +kernel
theorem d_B_init_64 : decode mi_B_init.2.1 64 = .ok (.getfield 28, 3) := by decide +kernel
theorem d_B_init_67 : decode mi_B_init.2.1 67 = .ok (.iload_n 1, 1) := by decide +kernel
theorem d_B_init_68 : decode mi_B_init.2.1 68 = .ok (.iconst (-1), 1) := by decide +kernel
theorem d_B_init_69 : decode mi_B_init.2.1 69 = .ok (.iastore, 1) := by decide +kernel
theorem d_B_init_70 : decode mi_B_init.2.1 70 = .ok (.iinc 1 1, 3) := by decide +kernel
theorem d_B_init_73 : decode mi_B_init.2.1 73 = .ok (.goto (-23), 3) := by decide +kernel
theorem d_B_init_76 : decode mi_B_init.2.1 76 = .ok (.iconst 0, 1) := by decide +kernel
theorem d_B_init_77 : decode mi_B_init.2.1 77 = .ok (.istore_n 1, 1) := by decide +kernel
theorem d_B_init_78 : decode mi_B_init.2.1 78 = .ok (.iload_n 1, 1) := by decide +kernel
theorem d_B_init_79 : decode mi_B_init.2.1 79 = .ok (.aload_n 0, 1) := by decide +kernel
theorem d_B_init_80 : decode mi_B_init.2.1 80 = .ok (.getfield 9, 3) := by decide +kernel
theorem d_B_init_83 : decode mi_B_init.2.1 83 = .ok (.if_icmp .ge 36, 3) := by decide +kernel
theorem d_B_init_86 : decode mi_B_init.2.1 86 = .ok (.iconst 0, 1) := by decide +kernel
theorem d_B_init_87 : decode mi_B_init.2.1 87 = .ok (.istore_n 2, 1) := by decide +kernel
theorem d_B_init_88 : decode mi_B_init.2.1 88 = .ok (.iload_n 2, 1) := by decide +kernel
theorem d_B_init_89 : decode mi_B_init.2.1 89 = .ok (.aload_n 0, 1) := by decide +kernel
theorem d_B_init_90 : decode mi_B_init.2.1 90 = .ok (.getfield 15, 3) := by decide +kernel
theorem d_B_init_93 : decode mi_B_init.2.1 93 = .ok (.if_icmp .ge 20, 3) := by decide +kernel
theorem d_B_init_96 : decode mi_B_init.2.1 96 = .ok (.aload_n 0, 1) := by decide +kernel
theorem d_B_init_97 : decode mi_B_init.2.1 97 = .ok (.getfield 24, 3) := by decide +kernel
theorem d_B_init_100 : decode mi_B_init.2.1 100 = .ok (.iload_n 1, 1) := by decide +kernel
theorem d_B_init_101 : decode mi_B_init.2.1 101 = .ok (.iload_n 2, 1) := by decide +kernel
theorem d_B_init_102 : decode mi_B_init.2.1 102 = .ok (.invokestatic 35, 3) := by decide +kernel
theorem d_B_init_105 : decode mi_B_init.2.1 105 = .ok (.iconst 1, 1) := by decide +kernel
theorem d_B_init_106 : decode mi_B_init.2.1 106 = .ok (.iastore, 1) := by decide +kernel
theorem d_B_init_107 : decode mi_B_init.2.1 107 = .ok (.iinc 2 1, 3) := by decide +kernel
theorem d_B_init_110 : decode mi_B_init.2.1 110 = .ok (.goto (-22), 3) := by decide +kernel
theorem d_B_init_113 : decode mi_B_init.2.1 113 = .ok (.iinc 1 1, 3) := by decide +kernel
theorem d_B_init_116 : decode mi_B_init.2.1 116 = .ok (.goto (-38), 3) := by decide +kernel
theorem d_B_init_119 : decode mi_B_init.2.1 119 = .ok (.return_, 1) := by decide +kernel
theorem d_B_copyFrom_0 : decode mi_B_copyFrom.2.1 0 = .ok (.aload_n 0, 1) := by decide +kernel
theorem d_B_copyFrom_1 : decode mi_B_copyFrom.2.1 1 = .ok (.aload_n 1, 1) := by decide +kernel
theorem d_B_copyFrom_2 : decode mi_B_copyFrom.2.1 2 = .ok (.getfield 9, 3) := by decide +kernel
theorem d_B_copyFrom_5 : decode mi_B_copyFrom.2.1 5 = .ok (.putfield 9, 3) := by decide +kernel
theorem d_B_copyFrom_8 : decode mi_B_copyFrom.2.1 8 = .ok (.aload_n 0, 1) := by decide +kernel
theorem d_B_copyFrom_9 : decode mi_B_copyFrom.2.1 9 = .ok (.aload_n 1, 1) := by decide +kernel
theorem d_B_copyFrom_10 : decode mi_B_copyFrom.2.1 10 = .ok (.getfield 15, 3) := by decide +kernel
theorem d_B_copyFrom_13 : decode mi_B_copyFrom.2.1 13 = .ok (.putfield 15, 3) := by decide +kernel
theorem d_B_copyFrom_16 : decode mi_B_copyFrom.2.1 16 = .ok (.aload_n 0, 1) := by decide +kernel
theorem d_B_copyFrom_17 : decode mi_B_copyFrom.2.1 17 = .ok (.aload_n 1, 1) := by decide +kernel
theorem d_B_copyFrom_18 : decode mi_B_copyFrom.2.1 18 = .ok (.getfield 18, 3) := by decide +kernel
theorem d_B_copyFrom_21 : decode mi_B_copyFrom.2.1 21 = .ok (.putfield 18, 3) := by decide +kernel
theorem d_B_copyFrom_24 : decode mi_B_copyFrom.2.1 24 = .ok (.aload_n 0, 1) := by decide +kernel
theorem d_B_copyFrom_25 : decode mi_B_copyFrom.2.1 25 = .ok (.aload_n 1, 1) := by decide +kernel
theorem d_B_copyFrom_26 : decode mi_B_copyFrom.2.1 26 = .ok (.getfield 21, 3) := by decide +kernel
theorem d_B_copyFrom_29 : decode mi_B_copyFrom.2.1 29 = .ok (.putfield 21, 3) := by decide +kernel
theorem d_B_copyFrom_32 : decode mi_B_copyFrom.2.1 32 = .ok (.aload_n 1, 1) := by decide +kernel
theorem d_B_copyFrom_33 : decode mi_B_copyFrom.2.1 33 = .ok (.getfield 24, 3) := by decide +kernel
theorem d_B_copyFrom_36 : decode mi_B_copyFrom.2.1 36 = .ok (.iconst 0, 1) := by decide +kernel
theorem d_B_copyFrom_37 : decode mi_B_copyFrom.2.1 37 = .ok (.aload_n 0, 1) := by decide +kernel
theorem d_B_copyFrom_38 : decode mi_B_copyFrom.2.1 38 = .ok (.getfield 24, 3) := by decide +kernel
theorem d_B_copyFrom_41 : decode mi_B_copyFrom.2.1 41 = .ok (.iconst 0, 1) := by decide +kernel
theorem d_B_copyFrom_42 : decode mi_B_copyFrom.2.1 42 = .ok (.bipush 36, 2) := by decide +kernel
theorem d_B_copyFrom_44 : decode mi_B_copyFrom.2.1 44 = .ok (.invokestatic 39, 3) := by decide +kernel
theorem d_B_copyFrom_47 : decode mi_B_copyFrom.2.1 47 = .ok (.aload_n 1, 1) := by decide +kernel
theorem d_B_copyFrom_48 : decode mi_B_copyFrom.2.1 48 = .ok (.getfield 28, 3) := by decide +kernel
theorem d_B_copyFrom_51 : decode mi_B_copyFrom.2.1 51 = .ok (.iconst 0, 1) := by decide +kernel
theorem d_B_copyFrom_52 : decode mi_B_copyFrom.2.1 52 = .ok (.aload_n 0, 1) := by decide +kernel
theorem d_B_copyFrom_53 : decode mi_B_copyFrom.2.1 53 = .ok (.getfield 28, 3) := by decide +kernel
theorem d_B_copyFrom_56 : decode mi_B_copyFrom.2.1 56 = .ok (.iconst 0, 1) := by decide +kernel
theorem d_B_copyFrom_57 : decode mi_B_copyFrom.2.1 57 = .ok (.bipush 36, 2) := by decide +kernel
theorem d_B_copyFrom_59 : decode mi_B_copyFrom.2.1 59 = .ok (.invokestatic 39, 3) := by decide +kernel
theorem d_B_copyFrom_62 : decode mi_B_copyFrom.2.1 62 = .ok (.iconst 0, 1) := by decide +kernel
theorem d_B_copyFrom_63 : decode mi_B_copyFrom.2.1 63 = .ok (.istore_n 2, 1) := by decide +kernel
theorem d_B_copyFrom_64 : decode mi_B_copyFrom.2.1 64 = .ok (.iload_n 2, 1) := by decide +kernel
theorem d_B_copyFrom_65 : decode mi_B_copyFrom.2.1 65 = .ok (.bipush 36, 2) := by decide +kernel
theorem d_B_copyFrom_67 : decode mi_B_copyFrom.2.1 67 = .ok (.if_icmp .ge 21, 3) := by decide +kernel
theorem d_B_copyFrom_70 : decode mi_B_copyFrom.2.1 70 = .ok (.aload_n 0, 1) := by decide +kernel
theorem d_B_copyFrom_71 : decode mi_B_copyFrom.2.1 71 = .ok (.getfield 31, 3) := by decide +kernel
theorem d_B_copyFrom_74 : decode mi_B_copyFrom.2.1 74 = .ok (.iload_n 2, 1) := by decide +kernel
theorem d_B_copyFrom_75 : decode mi_B_copyFrom.2.1 75 = .ok (.aload_n 1, 1) := by decide +kernel
theorem d_B_copyFrom_76 : decode mi_B_copyFrom.2.1 76 = .ok (.getfield 31, 3) := by decide +kernel
theorem d_B_copyFrom_79 : decode mi_B_copyFrom.2.1 79 = .ok (.iload_n 2, 1) := by decide +kernel
theorem d_B_copyFrom_80 : decode mi_B_copyFrom.2.1 80 = .ok (.baload, 1) := by decide +kernel
theorem d_B_copyFrom_81 : decode mi_B_copyFrom.2.1 81 = .ok (.bastore, 1) := by decide +kernel
theorem d_B_copyFrom_82 : decode mi_B_copyFrom.2.1 82 = .ok (.iinc 2 1, 3) := by decide +kernel
theorem d_B_copyFrom_85 : decode mi_B_copyFrom.2.1 85 = .ok (.goto (-21), 3) := by decide +kernel
theorem d_B_copyFrom_88 : decode mi_B_copyFrom.2.1 88 = .ok (.return_, 1) := by decide +kernel
theorem d_B_replaceGrid_0 : decode mi_B_replaceGrid.2.1 0 = .ok (.aload_n 0, 1) := by decide +kernel
theorem d_B_replaceGrid_1 : decode mi_B_replaceGrid.2.1 1 = .ok (.aload_n 1, 1) := by decide +kernel
theorem d_B_replaceGrid_2 : decode mi_B_replaceGrid.2.1 2 = .ok (.getfield 45, 3) := by decide +kernel
theorem d_B_replaceGrid_5 : decode mi_B_replaceGrid.2.1 5 = .ok (.putfield 9, 3) := by decide +kernel
theorem d_B_replaceGrid_8 : decode mi_B_replaceGrid.2.1 8 = .ok (.aload_n 0, 1) := by decide +kernel
theorem d_B_replaceGrid_9 : decode mi_B_replaceGrid.2.1 9 = .ok (.aload_n 1, 1) := by decide +kernel
theorem d_B_replaceGrid_10 : decode mi_B_replaceGrid.2.1 10 = .ok (.getfield 48, 3) := by decide +kernel
theorem d_B_replaceGrid_13 : decode mi_B_replaceGrid.2.1 13 = .ok (.putfield 15, 3) := by decide +kernel
theorem d_B_replaceGrid_16 : decode mi_B_replaceGrid.2.1 16 = .ok (.iconst 0, 1) := by decide +kernel
theorem d_B_replaceGrid_17 : decode mi_B_replaceGrid.2.1 17 = .ok (.istore_n 2, 1) := by decide +kernel
theorem d_B_replaceGrid_18 : decode mi_B_replaceGrid.2.1 18 = .ok (.iload_n 2, 1) := by decide +kernel
theorem d_B_replaceGrid_19 : decode mi_B_replaceGrid.2.1 19 = .ok (.bipush 6, 2) := by decide +kernel
theorem d_B_replaceGrid_21 : decode mi_B_replaceGrid.2.1 21 = .ok (.if_icmp .ge 73, 3) := by decide +kernel
theorem d_B_replaceGrid_24 : decode mi_B_replaceGrid.2.1 24 = .ok (.iconst 0, 1) := by decide +kernel
theorem d_B_replaceGrid_25 : decode mi_B_replaceGrid.2.1 25 = .ok (.istore_n 3, 1) := by decide +kernel
theorem d_B_replaceGrid_26 : decode mi_B_replaceGrid.2.1 26 = .ok (.iload_n 3, 1) := by decide +kernel
theorem d_B_replaceGrid_27 : decode mi_B_replaceGrid.2.1 27 = .ok (.bipush 6, 2) := by decide +kernel
theorem d_B_replaceGrid_29 : decode mi_B_replaceGrid.2.1 29 = .ok (.if_icmp .ge 59, 3) := by decide +kernel
theorem d_B_replaceGrid_32 : decode mi_B_replaceGrid.2.1 32 = .ok (.iload_n 2, 1) := by decide +kernel
theorem d_B_replaceGrid_33 : decode mi_B_replaceGrid.2.1 33 = .ok (.iload_n 3, 1) := by decide +kernel
theorem d_B_replaceGrid_34 : decode mi_B_replaceGrid.2.1 34 = .ok (.invokestatic 35, 3) := by decide +kernel
theorem d_B_replaceGrid_37 : decode mi_B_replaceGrid.2.1 37 = .ok (.istore 4, 2) := by decide +kernel
theorem d_B_replaceGrid_39 : decode mi_B_replaceGrid.2.1 39 = .ok (.aload_n 0, 1) := by decide +kernel
theorem d_B_replaceGrid_40 : decode mi_B_replaceGrid.2.1 40 = .ok (.getfield 24, 3) := by decide +kernel
theorem d_B_replaceGrid_43 : decode mi_B_replaceGrid.2.1 43 = .ok (.iload 4, 2) := by decide +kernel
theorem d_B_replaceGrid_45 : decode mi_B_replaceGrid.2.1 45 = .ok (.aload_n 0, 1) := by decide +kernel
theorem d_B_replaceGrid_46 : decode mi_B_replaceGrid.2.1 46 = .ok (.iload_n 2, 1) := by decide +kernel
theorem d_B_replaceGrid_47 : decode mi_B_replaceGrid.2.1 47 = .ok (.iload_n 3, 1) := by decide +kernel
theorem d_B_replaceGrid_48 : decode mi_B_replaceGrid.2.1 48 = .ok (.invokevirtual 49, 3) := by decide +kernel
theorem d_B_replaceGrid_51 : decode mi_B_replaceGrid.2.1 51 = .ok (.ifCond .eq 13, 3) := by decide +kernel
theorem d_B_replaceGrid_54 : decode mi_B_replaceGrid.2.1 54 = .ok (.aload_n 1, 1) := by decide +kernel
theorem d_B_replaceGrid_55 : decode mi_B_replaceGrid.2.1 55 = .ok (.getfield 53, 3) := by decide +kernel
theorem d_B_replaceGrid_58 : decode mi_B_replaceGrid.2.1 58 = .ok (.iload 4, 2) := by decide +kernel
theorem d_B_replaceGrid_60 : decode mi_B_replaceGrid.2.1 60 = .ok (.iaload, 1) := by decide +kernel
theorem d_B_replaceGrid_61 : decode mi_B_replaceGrid.2.1 61 = .ok (.goto 4, 3) := by decide +kernel
theorem d_B_replaceGrid_64 : decode mi_B_replaceGrid.2.1 64 = .ok (.iconst 0, 1) := by decide +kernel
theorem d_B_replaceGrid_65 : decode mi_B_replaceGrid.2.1 65 = .ok (.iastore, 1) := by decide +kernel
theorem d_B_replaceGrid_66 : decode mi_B_replaceGrid.2.1 66 = .ok (.aload_n 0, 1) := by decide +kernel
theorem d_B_replaceGrid_67 : decode mi_B_replaceGrid.2.1 67 = .ok (.getfield 28, 3) := by decide +kernel
theorem d_B_replaceGrid_70 : decode mi_B_replaceGrid.2.1 70 = .ok (.iload 4, 2) := by decide +kernel
theorem d_B_replaceGrid_72 : decode mi_B_replaceGrid.2.1 72 = .ok (.iconst (-1), 1) := by decide +kernel
theorem d_B_replaceGrid_73 : decode mi_B_replaceGrid.2.1 73 = .ok (.iastore, 1) := by decide +kernel
theorem d_B_replaceGrid_74 : decode mi_B_replaceGrid.2.1 74 = .ok (.aload_n 0, 1) := by decide +kernel
theorem d_B_replaceGrid_75 : decode mi_B_replaceGrid.2.1 75 = .ok (.getfield 31, 3) := by decide +kernel
theorem d_B_replaceGrid_78 : decode mi_B_replaceGrid.2.1 78 = .ok (.iload 4, 2) := by decide +kernel
theorem d_B_replaceGrid_80 : decode mi_B_replaceGrid.2.1 80 = .ok (.iconst 0, 1) := by decide +kernel
theorem d_B_replaceGrid_81 : decode mi_B_replaceGrid.2.1 81 = .ok (.bastore, 1) := by decide +kernel
theorem d_B_replaceGrid_82 : decode mi_B_replaceGrid.2.1 82 = .ok (.iinc 3 1, 3) := by decide +kernel
theorem d_B_replaceGrid_85 : decode mi_B_replaceGrid.2.1 85 = .ok (.goto (-59), 3) := by decide +kernel
theorem d_B_replaceGrid_88 : decode mi_B_replaceGrid.2.1 88 = .ok (.iinc 2 1, 3) := by decide +kernel
theorem d_B_replaceGrid_91 : decode mi_B_replaceGrid.2.1 91 = .ok (.goto (-73), 3) := by decide +kernel
theorem d_B_replaceGrid_94 : decode mi_B_replaceGrid.2.1 94 = .ok (.return_, 1) := by decide +kernel
theorem d_B_has_0 : decode mi_B_has.2.1 0 = .ok (.iload_n 1, 1) := by decide +kernel
theorem d_B_has_1 : decode mi_B_has.2.1 1 = .ok (.ifCond .lt 27, 3) := by decide +kernel
theorem d_B_has_4 : decode mi_B_has.2.1 4 = .ok (.iload_n 1, 1) := by decide +kernel
theorem d_B_has_5 : decode mi_B_has.2.1 5 = .ok (.aload_n 0, 1) := by decide +kernel
theorem d_B_has_6 : decode mi_B_has.2.1 6 = .ok (.getfield 9, 3) := by decide +kernel
theorem d_B_has_9 : decode mi_B_has.2.1 9 = .ok (.if_icmp .ge 19, 3) := by decide +kernel
theorem d_B_has_12 : decode mi_B_has.2.1 12 = .ok (.iload_n 2, 1) := by decide +kernel
theorem d_B_has_13 : decode mi_B_has.2.1 13 = .ok (.ifCond .lt 15, 3) := by decide +kernel
theorem d_B_has_16 : decode mi_B_has.2.1 16 = .ok (.iload_n 2, 1) := by decide +kernel
theorem d_B_has_17 : decode mi_B_has.2.1 17 = .ok (.aload_n 0, 1) := by decide +kernel
theorem d_B_has_18 : decode mi_B_has.2.1 18 = .ok (.getfield 15, 3) := by decide +kernel
theorem d_B_has_21 : decode mi_B_has.2.1 21 = .ok (.if_icmp .ge 7, 3) := by decide +kernel
theorem d_B_has_24 : decode mi_B_has.2.1 24 = .ok (.iconst 1, 1) := by decide +kernel
theorem d_B_has_25 : decode mi_B_has.2.1 25 = .ok (.goto 4, 3) := by decide +kernel
theorem d_B_has_28 : decode mi_B_has.2.1 28 = .ok (.iconst 0, 1) := by decide +kernel
theorem d_B_has_29 : decode mi_B_has.2.1 29 = .ok (.ireturn, 1) := by decide +kernel
theorem d_B_isFreeForPair_0 : decode mi_B_isFreeForPair.2.1 0 = .ok (.aload_n 0, 1) := by decide +kernel
theorem d_B_isFreeForPair_1 : decode mi_B_isFreeForPair.2.1 1 = .ok (.getfield 24, 3) := by decide +kernel
theorem d_B_isFreeForPair_4 : decode mi_B_isFreeForPair.2.1 4 = .ok (.iload_n 1, 1) := by decide +kernel
theorem d_B_isFreeForPair_5 : decode mi_B_isFreeForPair.2.1 5 = .ok (.iaload, 1) := by decide +kernel
theorem d_B_isFreeForPair_6 : decode mi_B_isFreeForPair.2.1 6 = .ok (.iconst 1, 1) := by decide +kernel
theorem d_B_isFreeForPair_7 : decode mi_B_isFreeForPair.2.1 7 = .ok (.if_icmp .ne 17, 3) := by decide +kernel
theorem d_B_isFreeForPair_10 : decode mi_B_isFreeForPair.2.1 10 = .ok (.aload_n 0, 1) := by decide +kernel
theorem d_B_isFreeForPair_11 : decode mi_B_isFreeForPair.2.1 11 = .ok (.getfield 28, 3) := by decide +kernel
theorem d_B_isFreeForPair_14 : decode mi_B_isFreeForPair.2.1 14 = .ok (.iload_n 1, 1) := by decide +kernel
theorem d_B_isFreeForPair_15 : decode mi_B_isFreeForPair.2.1 15 = .ok (.iaload, 1) := by decide +kernel
theorem d_B_isFreeForPair_16 : decode mi_B_isFreeForPair.2.1 16 = .ok (.iconst (-1), 1) := by decide +kernel
theorem d_B_isFreeForPair_17 : decode mi_B_isFreeForPair.2.1 17 = .ok (.if_icmp .ne 7, 3) := by decide +kernel
theorem d_B_isFreeForPair_20 : decode mi_B_isFreeForPair.2.1 20 = .ok (.iconst 1, 1) := by decide +kernel
theorem d_B_isFreeForPair_21 : decode mi_B_isFreeForPair.2.1 21 = .ok (.goto 4, 3) := by decide +kernel
theorem d_B_isFreeForPair_24 : decode mi_B_isFreeForPair.2.1 24 = .ok (.iconst 0, 1) := by decide +kernel
theorem d_B_isFreeForPair_25 : decode mi_B_isFreeForPair.2.1 25 = .ok (.ireturn, 1) := by decide +kernel
theorem d_B_separate_0 : decode mi_B_separate.2.1 0 = .ok (.aload_n 0, 1) := by decide +kernel
theorem d_B_separate_1 : decode mi_B_separate.2.1 1 = .ok (.getfield 28, 3) := by decide +kernel
theorem d_B_separate_4 : decode mi_B_separate.2.1 4 = .ok (.iload_n 1, 1) := by decide +kernel
theorem d_B_separate_5 : decode mi_B_separate.2.1 5 = .ok (.iaload, 1) := by decide +kernel
theorem d_B_separate_6 : decode mi_B_separate.2.1 6 = .ok (.istore_n 2, 1) := by decide +kernel
theorem d_B_separate_7 : decode mi_B_separate.2.1 7 = .ok (.iload_n 2, 1) := by decide +kernel
theorem d_B_separate_8 : decode mi_B_separate.2.1 8 = .ok (.iconst (-1), 1) := by decide +kernel
theorem d_B_separate_9 : decode mi_B_separate.2.1 9 = .ok (.if_icmp .eq 17, 3) := by decide +kernel
theorem d_B_separate_12 : decode mi_B_separate.2.1 12 = .ok (.aload_n 0, 1) := by decide +kernel
theorem d_B_separate_13 : decode mi_B_separate.2.1 13 = .ok (.getfield 28, 3) := by decide +kernel
theorem d_B_separate_16 : decode mi_B_separate.2.1 16 = .ok (.iload_n 2, 1) := by decide +kernel
theorem d_B_separate_17 : decode mi_B_separate.2.1 17 = .ok (.iconst (-1), 1) := by decide +kernel
theorem d_B_separate_18 : decode mi_B_separate.2.1 18 = .ok (.iastore, 1) := by decide +kernel
theorem d_B_separate_19 : decode mi_B_separate.2.1 19 = .ok (.aload_n 0, 1) := by decide +kernel
theorem d_B_separate_20 : decode mi_B_separate.2.1 20 = .ok (.getfield 28, 3) := by decide +kernel
theorem d_B_separate_23 : decode mi_B_separate.2.1 23 = .ok (.iload_n 1, 1) := by decide +kernel
theorem d_B_separate_24 : decode mi_B_separate.2.1 24 = .ok (.iconst (-1), 1) := by decide +kernel
theorem d_B_separate_25 : decode mi_B_separate.2.1 25 = .ok (.iastore, 1) := by decide +kernel
theorem d_B_separate_26 : decode mi_B_separate.2.1 26 = .ok (.return_, 1) := by decide +kernel
theorem d_B_countSignals_0 : decode mi_B_countSignals.2.1 0 = .ok (.iconst 0, 1) := by decide +kernel
theorem d_B_countSignals_1 : decode mi_B_countSignals.2.1 1 = .ok (.istore_n 1, 1) := by decide +kernel
theorem d_B_countSignals_2 : decode mi_B_countSignals.2.1 2 = .ok (.iconst 0, 1) := by decide +kernel
theorem d_B_countSignals_3 : decode mi_B_countSignals.2.1 3 = .ok (.istore_n 2, 1) := by decide +kernel
theorem d_B_countSignals_4 : decode mi_B_countSignals.2.1 4 = .ok (.iload_n 2, 1) := by decide +kernel
theorem d_B_countSignals_5 : decode mi_B_countSignals.2.1 5 = .ok (.bipush 36, 2) := by decide +kernel
theorem d_B_countSignals_7 : decode mi_B_countSignals.2.1 7 = .ok (.if_icmp .ge 22, 3) := by decide +kernel
theorem d_B_countSignals_10 : decode mi_B_countSignals.2.1 10 = .ok (.aload_n 0, 1) := by decide +kernel
theorem d_B_countSignals_11 : decode mi_B_countSignals.2.1 11 = .ok (.getfield 24, 3) := by decide +kernel
theorem d_B_countSignals_14 : decode mi_B_countSignals.2.1 14 = .ok (.iload_n 2, 1) := by decide +kernel
theorem d_B_countSignals_15 : decode mi_B_countSignals.2.1 15 = .ok (.iaload, 1) := by decide +kernel
theorem d_B_countSignals_16 : decode mi_B_countSignals.2.1 16 = .ok (.iconst 1, 1) := by decide +kernel
theorem d_B_countSignals_17 : decode mi_B_countSignals.2.1 17 = .ok (.if_icmp .ne 6, 3) := by decide +kernel
theorem d_B_countSignals_20 : decode mi_B_countSignals.2.1 20 = .ok (.iinc 1 1, 3) := by decide +kernel
theorem d_B_countSignals_23 : decode mi_B_countSignals.2.1 23 = .ok (.iinc 2 1, 3) := by decide +kernel
theorem d_B_countSignals_26 : decode mi_B_countSignals.2.1 26 = .ok (.goto (-22), 3) := by decide +kernel
theorem d_B_countSignals_29 : decode mi_B_countSignals.2.1 29 = .ok (.iload_n 1, 1) := by decide +kernel
theorem d_B_countSignals_30 : decode mi_B_countSignals.2.1 30 = .ok (.ireturn, 1) := by decide +kernel
theorem d_B_countPairs_0 : decode mi_B_countPairs.2.1 0 = .ok (.iconst 0, 1) := by decide +kernel
theorem d_B_countPairs_1 : decode mi_B_countPairs.2.1 1 = .ok (.istore_n 1, 1) := by decide +kernel
theorem d_B_countPairs_2 : decode mi_B_countPairs.2.1 2 = .ok (.iconst 0, 1) := by decide +kernel
theorem d_B_countPairs_3 : decode mi_B_countPairs.2.1 3 = .ok (.istore_n 2, 1) := by decide +kernel
theorem d_B_countPairs_4 : decode mi_B_countPairs.2.1 4 = .ok (.iload_n 2, 1) := by decide +kernel
theorem d_B_countPairs_5 : decode mi_B_countPairs.2.1 5 = .ok (.bipush 36, 2) := by decide +kernel
theorem d_B_countPairs_7 : decode mi_B_countPairs.2.1 7 = .ok (.if_icmp .ge 22, 3) := by decide +kernel
theorem d_B_countPairs_10 : decode mi_B_countPairs.2.1 10 = .ok (.aload_n 0, 1) := by decide +kernel
theorem d_B_countPairs_11 : decode mi_B_countPairs.2.1 11 = .ok (.getfield 28, 3) := by decide +kernel
theorem d_B_countPairs_14 : decode mi_B_countPairs.2.1 14 = .ok (.iload_n 2, 1) := by decide +kernel
theorem d_B_countPairs_15 : decode mi_B_countPairs.2.1 15 = .ok (.iaload, 1) := by decide +kernel
theorem d_B_countPairs_16 : decode mi_B_countPairs.2.1 16 = .ok (.iload_n 2, 1) := by decide +kernel
theorem d_B_countPairs_17 : decode mi_B_countPairs.2.1 17 = .ok (.if_icmp .le 6, 3) := by decide +kernel
theorem d_B_countPairs_20 : decode mi_B_countPairs.2.1 20 = .ok (.iinc 1 1, 3) := by decide +kernel
theorem d_B_countPairs_23 : decode mi_B_countPairs.2.1 23 = .ok (.iinc 2 1, 3) := by decide +kernel
theorem d_B_countPairs_26 : decode mi_B_countPairs.2.1 26 = .ok (.goto (-22), 3) := by decide +kernel
theorem d_B_countPairs_29 : decode mi_B_countPairs.2.1 29 = .ok (.iload_n 1, 1) := by decide +kernel
theorem d_B_countPairs_30 : decode mi_B_countPairs.2.1 30 = .ok (.ireturn, 1) := by decide +kernel
theorem d_B_countSelected_0 : decode mi_B_countSelected.2.1 0 = .ok (.iconst 0, 1) := by decide +kernel
theorem d_B_countSelected_1 : decode mi_B_countSelected.2.1 1 = .ok (.istore_n 1, 1) := by decide +kernel
theorem d_B_countSelected_2 : decode mi_B_countSelected.2.1 2 = .ok (.iconst 0, 1) := by decide +kernel
theorem d_B_countSelected_3 : decode mi_B_countSelected.2.1 3 = .ok (.istore_n 2, 1) := by decide +kernel
theorem d_B_countSelected_4 : decode mi_B_countSelected.2.1 4 = .ok (.iload_n 2, 1) := by decide +kernel
theorem d_B_countSelected_5 : decode mi_B_countSelected.2.1 5 = .ok (.bipush 36, 2) := by decide +kernel
theorem d_B_countSelected_7 : decode mi_B_countSelected.2.1 7 = .ok (.if_icmp .ge 21, 3) := by decide +kernel
theorem d_B_countSelected_10 : decode mi_B_countSelected.2.1 10 = .ok (.aload_n 0, 1) := by decide +kernel
theorem d_B_countSelected_11 : decode mi_B_countSelected.2.1 11 = .ok (.getfield 31, 3) := by decide +kernel
theorem d_B_countSelected_14 : decode mi_B_countSelected.2.1 14 = .ok (.iload_n 2, 1) := by decide +kernel
theorem d_B_countSelected_15 : decode mi_B_countSelected.2.1 15 = .ok (.baload, 1) := by decide +kernel
theorem d_B_countSelected_16 : decode mi_B_countSelected.2.1 16 = .ok (.ifCond .eq 6, 3) := by decide +kernel
theorem d_B_countSelected_19 : decode mi_B_countSelected.2.1 19 = .ok (.iinc 1 1, 3) := by decide +kernel
theorem d_B_countSelected_22 : decode mi_B_countSelected.2.1 22 = .ok (.iinc 2 1, 3) := by decide +kernel
theorem d_B_countSelected_25 : decode mi_B_countSelected.2.1 25 = .ok (.goto (-21), 3) := by decide +kernel
theorem d_B_countSelected_28 : decode mi_B_countSelected.2.1 28 = .ok (.iload_n 1, 1) := by decide +kernel
theorem d_B_countSelected_29 : decode mi_B_countSelected.2.1 29 = .ok (.ireturn, 1) := by decide +kernel
theorem d_G_init_0 : decode mi_G_init.2.1 0 = .ok (.aload_n 0, 1) := by decide +kernel
theorem d_G_init_1 : decode mi_G_init.2.1 1 = .ok (.invokespecial 3, 3) := by decide +kernel
theorem d_G_init_4 : decode mi_G_init.2.1 4 = .ok (.aload_n 0, 1) := by decide +kernel
theorem d_G_init_5 : decode mi_G_init.2.1 5 = .ok (.bipush 60, 2) := by decide +kernel
theorem d_G_init_7 : decode mi_G_init.2.1 7 = .ok (.newarray .int, 2) := by decide +kernel
theorem d_G_init_9 : decode mi_G_init.2.1 9 = .ok (.putfield 11, 3) := by decide +kernel
theorem d_G_init_12 : decode mi_G_init.2.1 12 = .ok (.aload_n 0, 1) := by decide +kernel
theorem d_G_init_13 : decode mi_G_init.2.1 13 = .ok (.iconst 0, 1) := by decide +kernel
theorem d_G_init_14 : decode mi_G_init.2.1 14 = .ok (.putfield 15, 3) := by decide +kernel
theorem d_G_init_17 : decode mi_G_init.2.1 17 = .ok (.aload_n 0, 1) := by decide +kernel
theorem d_G_init_18 : decode mi_G_init.2.1 18 = .ok (.iconst 0, 1) := by decide +kernel
theorem d_G_init_19 : decode mi_G_init.2.1 19 = .ok (.putfield 19, 3) := by decide +kernel
theorem d_G_init_22 : decode mi_G_init.2.1 22 = .ok (.aload_n 0, 1) := by decide +kernel
theorem d_G_init_23 : decode mi_G_init.2.1 23 = .ok (.iconst 0, 1) := by decide +kernel
theorem d_G_init_24 : decode mi_G_init.2.1 24 = .ok (.putfield 22, 3) := by decide +kernel
theorem d_G_init_27 : decode mi_G_init.2.1 27 = .ok (.aload_n 0, 1) := by decide +kernel
theorem d_G_init_28 : decode mi_G_init.2.1 28 = .ok (.bipush 36, 2) := by decide +kernel
theorem d_G_init_30 : decode mi_G_init.2.1 30 = .ok (.newarray .int, 2) := by decide +kernel
theorem d_G_init_32 : decode mi_G_init.2.1 32 = .ok (.putfield 25, 3) := by decide +kernel
theorem d_G_init_35 : decode mi_G_init.2.1 35 = .ok (.return_, 1) := by decide +kernel
theorem d_G_add_0 : decode mi_G_add.2.1 0 = .ok (.aload_n 0, 1) := by decide +kernel
theorem d_G_add_1 : decode mi_G_add.2.1 1 = .ok (.getfield 15, 3) := by decide +kernel
theorem d_G_add_4 : decode mi_G_add.2.1 4 = .ok (.bipush 60, 2) := by decide +kernel
theorem d_G_add_6 : decode mi_G_add.2.1 6 = .ok (.if_icmp .lt 5, 3) := by decide +kernel
theorem d_G_add_9 : decode mi_G_add.2.1 9 = .ok (.iconst 0, 1) := by decide +kernel
theorem d_G_add_10 : decode mi_G_add.2.1 10 = .ok (.ireturn, 1) := by decide +kernel
theorem d_G_add_11 : decode mi_G_add.2.1 11 = .ok (.aload_n 0, 1) := by decide +kernel
theorem d_G_add_12 : decode mi_G_add.2.1 12 = .ok (.getfield 11, 3) := by decide +kernel
theorem d_G_add_15 : decode mi_G_add.2.1 15 = .ok (.aload_n 0, 1) := by decide +kernel
theorem d_G_add_16 : decode mi_G_add.2.1 16 = .ok (.getfield 15, 3) := by decide +kernel
theorem d_G_add_19 : decode mi_G_add.2.1 19 = .ok (.iload_n 1, 1) := by decide +kernel
theorem d_G_add_20 : decode mi_G_add.2.1 20 = .ok (.iastore, 1) := by decide +kernel
theorem d_G_add_21 : decode mi_G_add.2.1 21 = .ok (.aload_n 0, 1) := by decide +kernel
theorem d_G_add_22 : decode mi_G_add.2.1 22 = .ok (.dup, 1) := by decide +kernel
theorem d_G_add_23 : decode mi_G_add.2.1 23 = .ok (.getfield 15, 3) := by decide +kernel
theorem d_G_add_26 : decode mi_G_add.2.1 26 = .ok (.iconst 1, 1) := by decide +kernel
theorem d_G_add_27 : decode mi_G_add.2.1 27 = .ok (.iadd, 1) := by decide +kernel
theorem d_G_add_28 : decode mi_G_add.2.1 28 = .ok (.putfield 15, 3) := by decide +kernel
theorem d_G_add_31 : decode mi_G_add.2.1 31 = .ok (.iconst 1, 1) := by decide +kernel
theorem d_G_add_32 : decode mi_G_add.2.1 32 = .ok (.ireturn, 1) := by decide +kernel
theorem d_G_read_0 : decode mi_G_read.2.1 0 = .ok (.aload_n 0, 1) := by decide +kernel
theorem d_G_read_1 : decode mi_G_read.2.1 1 = .ok (.iconst 0, 1) := by decide +kernel
theorem d_G_read_2 : decode mi_G_read.2.1 2 = .ok (.putfield 19, 3) := by decide +kernel
theorem d_G_read_5 : decode mi_G_read.2.1 5 = .ok (.aload_n 0, 1) := by decide +kernel
theorem d_G_read_6 : decode mi_G_read.2.1 6 = .ok (.bipush 6, 2) := by decide +kernel
theorem d_G_read_8 : decode mi_G_read.2.1 8 = .ok (.putfield 22, 3) := by decide +kernel
theorem d_G_read_11 : decode mi_G_read.2.1 11 = .ok (.iconst 0, 1) := by decide +kernel
theorem d_G_read_12 : decode mi_G_read.2.1 12 = .ok (.istore_n 1, 1) := by decide +kernel
theorem d_G_read_13 : decode mi_G_read.2.1 13 = .ok (.iconst 0, 1) := by decide +kernel
theorem d_G_read_14 : decode mi_G_read.2.1 14 = .ok (.istore_n 2, 1) := by decide +kernel
theorem d_G_read_15 : decode mi_G_read.2.1 15 = .ok (.iload_n 2, 1) := by decide +kernel
theorem d_G_read_16 : decode mi_G_read.2.1 16 = .ok (.aload_n 0, 1) := by decide +kernel
theorem d_G_read_17 : decode mi_G_read.2.1 17 = .ok (.getfield 15, 3) := by decide +kernel
theorem d_G_read_20 : decode mi_G_read.2.1 20 = .ok (.if_icmp .ge 82, 3) := by decide +kernel
theorem d_G_read_23 : decode mi_G_read.2.1 23 = .ok (.aload_n 0, 1) := by decide +kernel
theorem d_G_read_24 : decode mi_G_read.2.1 24 = .ok (.getfield 11, 3) := by decide +kernel
theorem d_G_read_27 : decode mi_G_read.2.1 27 = .ok (.iload_n 2, 1) := by decide +kernel
theorem d_G_read_28 : decode mi_G_read.2.1 28 = .ok (.iaload, 1) := by decide +kernel
theorem d_G_read_29 : decode mi_G_read.2.1 29 = .ok (.istore_n 3, 1) := by decide +kernel
theorem d_G_read_30 : decode mi_G_read.2.1 30 = .ok (.iload_n 3, 1) := by decide +kernel
theorem d_G_read_31 : decode mi_G_read.2.1 31 = .ok (.bipush 32, 2) := by decide +kernel
theorem d_G_read_33 : decode mi_G_read.2.1 33 = .ok (.if_icmp .ne 6, 3) := by decide +kernel
theorem d_G_read_36 : decode mi_G_read.2.1 36 = .ok (.goto 60, 3) := by decide +kernel
theorem d_G_read_39 : decode mi_G_read.2.1 39 = .ok (.aload_n 0, 1) := by decide +kernel
theorem d_G_read_40 : decode mi_G_read.2.1 40 = .ok (.iload_n 3, 1) := by decide +kernel
theorem d_G_read_41 : decode mi_G_read.2.1 41 = .ok (.iload_n 1, 1) := by decide +kernel
theorem d_G_read_42 : decode mi_G_read.2.1 42 = .ok (.invokevirtual 28, 3) := by decide +kernel
theorem d_G_read_45 : decode mi_G_read.2.1 45 = .ok (.ifCond .ne 5, 3) := by decide +kernel
theorem d_G_read_48 : decode mi_G_read.2.1 48 = .ok (.iload_n 2, 1) := by decide +kernel
theorem d_G_read_49 : decode mi_G_read.2.1 49 = .ok (.ireturn, 1) := by decide +kernel
theorem d_G_read_50 : decode mi_G_read.2.1 50 = .ok (.iload_n 3, 1) := by decide +kernel
theorem d_G_read_51 : decode mi_G_read.2.1 51 = .ok (.bipush 59, 2) := by decide +kernel
theorem d_G_read_53 : decode mi_G_read.2.1 53 = .ok (.if_icmp .ne 23, 3) := by decide +kernel
theorem d_G_read_56 : decode mi_G_read.2.1 56 = .ok (.aload_n 0, 1) := by decide +kernel
theorem d_G_read_57 : decode mi_G_read.2.1 57 = .ok (.iload_n 1, 1) := by decide +kernel
theorem d_G_read_58 : decode mi_G_read.2.1 58 = .ok (.putfield 22, 3) := by decide +kernel
theorem d_G_read_61 : decode mi_G_read.2.1 61 = .ok (.aload_n 0, 1) := by decide +kernel
theorem d_G_read_62 : decode mi_G_read.2.1 62 = .ok (.dup, 1) := by decide +kernel
theorem d_G_read_63 : decode mi_G_read.2.1 63 = .ok (.getfield 19, 3) := by decide +kernel
theorem d_G_read_66 : decode mi_G_read.2.1 66 = .ok (.iconst 1, 1) := by decide +kernel
theorem d_G_read_67 : decode mi_G_read.2.1 67 = .ok (.iadd, 1) := by decide +kernel
theorem d_G_read_68 : decode mi_G_read.2.1 68 = .ok (.putfield 19, 3) := by decide +kernel
theorem d_G_read_71 : decode mi_G_read.2.1 71 = .ok (.iconst 0, 1) := by decide +kernel
theorem d_G_read_72 : decode mi_G_read.2.1 72 = .ok (.istore_n 1, 1) := by decide +kernel
theorem d_G_read_73 : decode mi_G_read.2.1 73 = .ok (.goto 23, 3) := by decide +kernel
theorem d_G_read_76 : decode mi_G_read.2.1 76 = .ok (.aload_n 0, 1) := by decide +kernel
theorem d_G_read_77 : decode mi_G_read.2.1 77 = .ok (.getfield 25, 3) := by decide +kernel
theorem d_G_read_80 : decode mi_G_read.2.1 80 = .ok (.aload_n 0, 1) := by decide +kernel
theorem d_G_read_81 : decode mi_G_read.2.1 81 = .ok (.getfield 19, 3) := by decide +kernel
theorem d_G_read_84 : decode mi_G_read.2.1 84 = .ok (.iload_n 1, 1) := by decide +kernel
theorem d_G_read_85 : decode mi_G_read.2.1 85 = .ok (.invokestatic 32, 3) := by decide +kernel
theorem d_G_read_88 : decode mi_G_read.2.1 88 = .ok (.iload_n 3, 1) := by decide +kernel
theorem d_G_read_89 : decode mi_G_read.2.1 89 = .ok (.invokestatic 36, 3) := by decide +kernel
theorem d_G_read_92 : decode mi_G_read.2.1 92 = .ok (.iastore, 1) := by decide +kernel
theorem d_G_read_93 : decode mi_G_read.2.1 93 = .ok (.iinc 1 1, 3) := by decide +kernel
theorem d_G_read_96 : decode mi_G_read.2.1 96 = .ok (.iinc 2 1, 3) := by decide +kernel
theorem d_G_read_99 : decode mi_G_read.2.1 99 = .ok (.goto (-84), 3) := by decide +kernel
theorem d_G_read_102 : decode mi_G_read.2.1 102 = .ok (.aload_n 0, 1) := by decide +kernel
theorem d_G_read_103 : decode mi_G_read.2.1 103 = .ok (.getfield 19, 3) := by decide +kernel
theorem d_G_read_106 : decode mi_G_read.2.1 106 = .ok (.ifCond .eq 7, 3) := by decide +kernel
theorem d_G_read_109 : decode mi_G_read.2.1 109 = .ok (.iload_n 1, 1) := by decide +kernel
theorem d_G_read_110 : decode mi_G_read.2.1 110 = .ok (.ifCond .le 10, 3) := by decide +kernel
theorem d_G_read_113 : decode mi_G_read.2.1 113 = .ok (.aload_n 0, 1) := by decide +kernel
theorem d_G_read_114 : decode mi_G_read.2.1 114 = .ok (.getfield 15, 3) := by decide +kernel
theorem d_G_read_117 : decode mi_G_read.2.1 117 = .ok (.goto 4, 3) := by decide +kernel
theorem d_G_read_120 : decode mi_G_read.2.1 120 = .ok (.iconst (-1), 1) := by decide +kernel
theorem d_G_read_121 : decode mi_G_read.2.1 121 = .ok (.ireturn, 1) := by decide +kernel
theorem d_G_isAllowed_0 : decode mi_G_isAllowed.2.1 0 = .ok (.aload_n 0, 1) := by decide +kernel
theorem d_G_isAllowed_1 : decode mi_G_isAllowed.2.1 1 = .ok (.getfield 19, 3) := by decide +kernel
theorem d_G_isAllowed_4 : decode mi_G_isAllowed.2.1 4 = .ok (.bipush 6, 2) := by decide +kernel
theorem d_G_isAllowed_6 : decode mi_G_isAllowed.2.1 6 = .ok (.if_icmp .lt 5, 3) := by decide +kernel
theorem d_G_isAllowed_9 : decode mi_G_isAllowed.2.1 9 = .ok (.iconst 0, 1) := by decide +kernel
theorem d_G_isAllowed_10 : decode mi_G_isAllowed.2.1 10 = .ok (.ireturn, 1) := by decide +kernel
theorem d_G_isAllowed_11 : decode mi_G_isAllowed.2.1 11 = .ok (.iload_n 1, 1) := by decide +kernel
theorem d_G_isAllowed_12 : decode mi_G_isAllowed.2.1 12 = .ok (.bipush 59, 2) := by decide +kernel
theorem d_G_isAllowed_14 : decode mi_G_isAllowed.2.1 14 = .ok (.if_icmp .ne 36, 3) := by decide +kernel
theorem d_G_isAllowed_17 : decode mi_G_isAllowed.2.1 17 = .ok (.aload_n 0, 1) := by decide +kernel
theorem d_G_isAllowed_18 : decode mi_G_isAllowed.2.1 18 = .ok (.getfield 19, 3) := by decide +kernel
theorem d_G_isAllowed_21 : decode mi_G_isAllowed.2.1 21 = .ok (.ifCond .ne 15, 3) := by decide +kernel
theorem d_G_isAllowed_24 : decode mi_G_isAllowed.2.1 24 = .ok (.iload_n 2, 1) := by decide +kernel
theorem d_G_isAllowed_25 : decode mi_G_isAllowed.2.1 25 = .ok (.ifCond .le 7, 3) := by decide +kernel
theorem d_G_isAllowed_28 : decode mi_G_isAllowed.2.1 28 = .ok (.iconst 1, 1) := by decide +kernel
theorem d_G_isAllowed_29 : decode mi_G_isAllowed.2.1 29 = .ok (.goto 20, 3) := by decide +kernel
theorem d_G_isAllowed_32 : decode mi_G_isAllowed.2.1 32 = .ok (.iconst 0, 1) := by decide +kernel
theorem d_G_isAllowed_33 : decode mi_G_isAllowed.2.1 33 = .ok (.goto 16, 3) := by decide +kernel
theorem d_G_isAllowed_36 : decode mi_G_isAllowed.2.1 36 = .ok (.iload_n 2, 1) := by decide +kernel
theorem d_G_isAllowed_37 : decode mi_G_isAllowed.2.1 37 = .ok (.aload_n 0, 1) := by decide +kernel
theorem d_G_isAllowed_38 : decode mi_G_isAllowed.2.1 38 = .ok (.getfield 22, 3) := by decide +kernel
theorem d_G_isAllowed_41 : decode mi_G_isAllowed.2.1 41 = .ok (.if_icmp .ne 7, 3) := by decide +kernel
theorem d_G_isAllowed_44 : decode mi_G_isAllowed.2.1 44 = .ok (.iconst 1, 1) := by decide +kernel
theorem d_G_isAllowed_45 : decode mi_G_isAllowed.2.1 45 = .ok (.goto 4, 3) := by decide +kernel
theorem d_G_isAllowed_48 : decode mi_G_isAllowed.2.1 48 = .ok (.iconst 0, 1) := by decide +kernel
theorem d_G_isAllowed_49 : decode mi_G_isAllowed.2.1 49 = .ok (.ireturn, 1) := by decide +kernel
theorem d_G_isAllowed_50 : decode mi_G_isAllowed.2.1 50 = .ok (.iload_n 1, 1) := by decide +kernel
theorem d_G_isAllowed_51 : decode mi_G_isAllowed.2.1 51 = .ok (.invokestatic 36, 3) := by decide +kernel
theorem d_G_isAllowed_54 : decode mi_G_isAllowed.2.1 54 = .ok (.iconst (-1), 1) := by decide +kernel
theorem d_G_isAllowed_55 : decode mi_G_isAllowed.2.1 55 = .ok (.if_icmp .eq 15, 3) := by decide +kernel
theorem d_G_isAllowed_58 : decode mi_G_isAllowed.2.1 58 = .ok (.iload_n 2, 1) := by decide +kernel
theorem d_G_isAllowed_59 : decode mi_G_isAllowed.2.1 59 = .ok (.aload_n 0, 1) := by decide +kernel
theorem d_G_isAllowed_60 : decode mi_G_isAllowed.2.1 60 = .ok (.getfield 22, 3) := by decide +kernel
theorem d_G_isAllowed_63 : decode mi_G_isAllowed.2.1 63 = .ok (.if_icmp .ge 7, 3) := by decide +kernel
theorem d_G_isAllowed_66 : decode mi_G_isAllowed.2.1 66 = .ok (.iconst 1, 1) := by decide +kernel
theorem d_G_isAllowed_67 : decode mi_G_isAllowed.2.1 67 = .ok (.goto 4, 3) := by decide +kernel
theorem d_G_isAllowed_70 : decode mi_G_isAllowed.2.1 70 = .ok (.iconst 0, 1) := by decide +kernel
theorem d_G_isAllowed_71 : decode mi_G_isAllowed.2.1 71 = .ok (.ireturn, 1) := by decide +kernel
theorem d_G_kindOf_0 : decode mi_G_kindOf.2.1 0 = .ok (.iload_n 0, 1) := by decide +kernel
theorem d_G_kindOf_1 : decode mi_G_kindOf.2.1 1 = .ok (.lookupswitch 41 #[(46, 39), (112, 37), (115, 35)], 35) := by decide +kernel
theorem d_G_kindOf_36 : decode mi_G_kindOf.2.1 36 = .ok (.iconst 1, 1) := by decide +kernel
theorem d_G_kindOf_37 : decode mi_G_kindOf.2.1 37 = .ok (.ireturn, 1) := by decide +kernel
theorem d_G_kindOf_38 : decode mi_G_kindOf.2.1 38 = .ok (.iconst 2, 1) := by decide +kernel
theorem d_G_kindOf_39 : decode mi_G_kindOf.2.1 39 = .ok (.ireturn, 1) := by decide +kernel
theorem d_G_kindOf_40 : decode mi_G_kindOf.2.1 40 = .ok (.iconst 0, 1) := by decide +kernel
theorem d_G_kindOf_41 : decode mi_G_kindOf.2.1 41 = .ok (.ireturn, 1) := by decide +kernel
theorem d_G_kindOf_42 : decode mi_G_kindOf.2.1 42 = .ok (.iconst (-1), 1) := by decide +kernel
theorem d_G_kindOf_43 : decode mi_G_kindOf.2.1 43 = .ok (.ireturn, 1) := by decide +kernel
theorem d_H_init_0 : decode mi_H_init.2.1 0 = .ok (.aload_n 0, 1) := by decide +kernel
theorem d_H_init_1 : decode mi_H_init.2.1 1 = .ok (.invokespecial 1, 3) := by decide +kernel
theorem d_H_init_4 : decode mi_H_init.2.1 4 = .ok (.aload_n 0, 1) := by decide +kernel
theorem d_H_init_5 : decode mi_H_init.2.1 5 = .ok (.bipush 8, 2) := by decide +kernel
theorem d_H_init_7 : decode mi_H_init.2.1 7 = .ok (.anewarray 9, 3) := by decide +kernel
theorem d_H_init_10 : decode mi_H_init.2.1 10 = .ok (.putfield 11, 3) := by decide +kernel
theorem d_H_init_13 : decode mi_H_init.2.1 13 = .ok (.iconst 0, 1) := by decide +kernel
theorem d_H_init_14 : decode mi_H_init.2.1 14 = .ok (.istore_n 1, 1) := by decide +kernel
theorem d_H_init_15 : decode mi_H_init.2.1 15 = .ok (.iload_n 1, 1) := by decide +kernel
theorem d_H_init_16 : decode mi_H_init.2.1 16 = .ok (.bipush 8, 2) := by decide +kernel
theorem d_H_init_18 : decode mi_H_init.2.1 18 = .ok (.if_icmp .ge 22, 3) := by decide +kernel
theorem d_H_init_21 : decode mi_H_init.2.1 21 = .ok (.aload_n 0, 1) := by decide +kernel
theorem d_H_init_22 : decode mi_H_init.2.1 22 = .ok (.getfield 11, 3) := by decide +kernel
theorem d_H_init_25 : decode mi_H_init.2.1 25 = .ok (.iload_n 1, 1) := by decide +kernel
theorem d_H_init_26 : decode mi_H_init.2.1 26 = .ok (.new 9, 3) := by decide +kernel
theorem d_H_init_29 : decode mi_H_init.2.1 29 = .ok (.dup, 1) := by decide +kernel
theorem d_H_init_30 : decode mi_H_init.2.1 30 = .ok (.invokespecial 15, 3) := by decide +kernel
theorem d_H_init_33 : decode mi_H_init.2.1 33 = .ok (.aastore, 1) := by decide +kernel
theorem d_H_init_34 : decode mi_H_init.2.1 34 = .ok (.iinc 1 1, 3) := by decide +kernel
theorem d_H_init_37 : decode mi_H_init.2.1 37 = .ok (.goto (-22), 3) := by decide +kernel
theorem d_H_init_40 : decode mi_H_init.2.1 40 = .ok (.aload_n 0, 1) := by decide +kernel
theorem d_H_init_41 : decode mi_H_init.2.1 41 = .ok (.iconst 0, 1) := by decide +kernel
theorem d_H_init_42 : decode mi_H_init.2.1 42 = .ok (.putfield 16, 3) := by decide +kernel
theorem d_H_init_45 : decode mi_H_init.2.1 45 = .ok (.return_, 1) := by decide +kernel
theorem d_H_keep_0 : decode mi_H_keep.2.1 0 = .ok (.aload_n 0, 1) := by decide +kernel
theorem d_H_keep_1 : decode mi_H_keep.2.1 1 = .ok (.getfield 16, 3) := by decide +kernel
theorem d_H_keep_4 : decode mi_H_keep.2.1 4 = .ok (.bipush 8, 2) := by decide +kernel
theorem d_H_keep_6 : decode mi_H_keep.2.1 6 = .ok (.if_icmp .ne 7, 3) := by decide +kernel
theorem d_H_keep_9 : decode mi_H_keep.2.1 9 = .ok (.aload_n 0, 1) := by decide +kernel
theorem d_H_keep_10 : decode mi_H_keep.2.1 10 = .ok (.invokevirtual 20, 3) := by decide +kernel
theorem d_H_keep_13 : decode mi_H_keep.2.1 13 = .ok (.aload_n 0, 1) := by decide +kernel
theorem d_H_keep_14 : decode mi_H_keep.2.1 14 = .ok (.getfield 11, 3) := by decide +kernel
theorem d_H_keep_17 : decode mi_H_keep.2.1 17 = .ok (.aload_n 0, 1) := by decide +kernel
theorem d_H_keep_18 : decode mi_H_keep.2.1 18 = .ok (.getfield 16, 3) := by decide +kernel
theorem d_H_keep_21 : decode mi_H_keep.2.1 21 = .ok (.aaload, 1) := by decide +kernel
theorem d_H_keep_22 : decode mi_H_keep.2.1 22 = .ok (.aload_n 1, 1) := by decide +kernel
theorem d_H_keep_23 : decode mi_H_keep.2.1 23 = .ok (.invokevirtual 23, 3) := by decide +kernel
theorem d_H_keep_26 : decode mi_H_keep.2.1 26 = .ok (.aload_n 0, 1) := by decide +kernel
theorem d_H_keep_27 : decode mi_H_keep.2.1 27 = .ok (.dup, 1) := by decide +kernel
theorem d_H_keep_28 : decode mi_H_keep.2.1 28 = .ok (.getfield 16, 3) := by decide +kernel
theorem d_H_keep_31 : decode mi_H_keep.2.1 31 = .ok (.iconst 1, 1) := by decide +kernel
theorem d_H_keep_32 : decode mi_H_keep.2.1 32 = .ok (.iadd, 1) := by decide +kernel
theorem d_H_keep_33 : decode mi_H_keep.2.1 33 = .ok (.putfield 16, 3) := by decide +kernel
theorem d_H_keep_36 : decode mi_H_keep.2.1 36 = .ok (.return_, 1) := by decide +kernel
theorem d_H_dropOldest_0 : decode mi_H_dropOldest.2.1 0 = .ok (.aload_n 0, 1) := by decide +kernel
theorem d_H_dropOldest_1 : decode mi_H_dropOldest.2.1 1 = .ok (.getfield 11, 3) := by decide +kernel
theorem d_H_dropOldest_4 : decode mi_H_dropOldest.2.1 4 = .ok (.iconst 0, 1) := by decide +kernel
theorem d_H_dropOldest_5 : decode mi_H_dropOldest.2.1 5 = .ok (.aaload, 1) := by decide +kernel
theorem d_H_dropOldest_6 : decode mi_H_dropOldest.2.1 6 = .ok (.astore_n 1, 1) := by decide +kernel
theorem d_H_dropOldest_7 : decode mi_H_dropOldest.2.1 7 = .ok (.iconst 1, 1) := by decide +kernel
theorem d_H_dropOldest_8 : decode mi_H_dropOldest.2.1 8 = .ok (.istore_n 2, 1) := by decide +kernel
theorem d_H_dropOldest_9 : decode mi_H_dropOldest.2.1 9 = .ok (.iload_n 2, 1) := by decide +kernel
theorem d_H_dropOldest_10 : decode mi_H_dropOldest.2.1 10 = .ok (.bipush 8, 2) := by decide +kernel
theorem d_H_dropOldest_12 : decode mi_H_dropOldest.2.1 12 = .ok (.if_icmp .ge 23, 3) := by decide +kernel
theorem d_H_dropOldest_15 : decode mi_H_dropOldest.2.1 15 = .ok (.aload_n 0, 1) := by decide +kernel
theorem d_H_dropOldest_16 : decode mi_H_dropOldest.2.1 16 = .ok (.getfield 11, 3) := by decide +kernel
theorem d_H_dropOldest_19 : decode mi_H_dropOldest.2.1 19 = .ok (.iload_n 2, 1) := by decide +kernel
theorem d_H_dropOldest_20 : decode mi_H_dropOldest.2.1 20 = .ok (.iconst 1, 1) := by decide +kernel
theorem d_H_dropOldest_21 : decode mi_H_dropOldest.2.1 21 = .ok (.isub, 1) := by decide +kernel
theorem d_H_dropOldest_22 : decode mi_H_dropOldest.2.1 22 = .ok (.aload_n 0, 1) := by decide +kernel
theorem d_H_dropOldest_23 : decode mi_H_dropOldest.2.1 23 = .ok (.getfield 11, 3) := by decide +kernel
theorem d_H_dropOldest_26 : decode mi_H_dropOldest.2.1 26 = .ok (.iload_n 2, 1) := by decide +kernel
theorem d_H_dropOldest_27 : decode mi_H_dropOldest.2.1 27 = .ok (.aaload, 1) := by decide +kernel
theorem d_H_dropOldest_28 : decode mi_H_dropOldest.2.1 28 = .ok (.aastore, 1) := by decide +kernel
theorem d_H_dropOldest_29 : decode mi_H_dropOldest.2.1 29 = .ok (.iinc 2 1, 3) := by decide +kernel
theorem d_H_dropOldest_32 : decode mi_H_dropOldest.2.1 32 = .ok (.goto (-23), 3) := by decide +kernel
theorem d_H_dropOldest_35 : decode mi_H_dropOldest.2.1 35 = .ok (.aload_n 0, 1) := by decide +kernel
theorem d_H_dropOldest_36 : decode mi_H_dropOldest.2.1 36 = .ok (.getfield 11, 3) := by decide +kernel
theorem d_H_dropOldest_39 : decode mi_H_dropOldest.2.1 39 = .ok (.bipush 7, 2) := by decide +kernel
theorem d_H_dropOldest_41 : decode mi_H_dropOldest.2.1 41 = .ok (.aload_n 1, 1) := by decide +kernel
theorem d_H_dropOldest_42 : decode mi_H_dropOldest.2.1 42 = .ok (.aastore, 1) := by decide +kernel
theorem d_H_dropOldest_43 : decode mi_H_dropOldest.2.1 43 = .ok (.aload_n 0, 1) := by decide +kernel
theorem d_H_dropOldest_44 : decode mi_H_dropOldest.2.1 44 = .ok (.bipush 7, 2) := by decide +kernel
theorem d_H_dropOldest_46 : decode mi_H_dropOldest.2.1 46 = .ok (.putfield 16, 3) := by decide +kernel
theorem d_H_dropOldest_49 : decode mi_H_dropOldest.2.1 49 = .ok (.return_, 1) := by decide +kernel
theorem d_H_giveBack_0 : decode mi_H_giveBack.2.1 0 = .ok (.aload_n 0, 1) := by decide +kernel
theorem d_H_giveBack_1 : decode mi_H_giveBack.2.1 1 = .ok (.getfield 16, 3) := by decide +kernel
theorem d_H_giveBack_4 : decode mi_H_giveBack.2.1 4 = .ok (.ifCond .le 26, 3) := by decide +kernel
theorem d_H_giveBack_7 : decode mi_H_giveBack.2.1 7 = .ok (.aload_n 0, 1) := by decide +kernel
theorem d_H_giveBack_8 : decode mi_H_giveBack.2.1 8 = .ok (.dup, 1) := by decide +kernel
theorem d_H_giveBack_9 : decode mi_H_giveBack.2.1 9 = .ok (.getfield 16, 3) := by decide +kernel
theorem d_H_giveBack_12 : decode mi_H_giveBack.2.1 12 = .ok (.iconst 1, 1) := by decide +kernel
theorem d_H_giveBack_13 : decode mi_H_giveBack.2.1 13 = .ok (.isub, 1) := by decide +kernel
theorem d_H_giveBack_14 : decode mi_H_giveBack.2.1 14 = .ok (.putfield 16, 3) := by decide +kernel
theorem d_H_giveBack_17 : decode mi_H_giveBack.2.1 17 = .ok (.aload_n 1, 1) := by decide +kernel
theorem d_H_giveBack_18 : decode mi_H_giveBack.2.1 18 = .ok (.aload_n 0, 1) := by decide +kernel
theorem d_H_giveBack_19 : decode mi_H_giveBack.2.1 19 = .ok (.getfield 11, 3) := by decide +kernel
theorem d_H_giveBack_22 : decode mi_H_giveBack.2.1 22 = .ok (.aload_n 0, 1) := by decide +kernel
theorem d_H_giveBack_23 : decode mi_H_giveBack.2.1 23 = .ok (.getfield 16, 3) := by decide +kernel
theorem d_H_giveBack_26 : decode mi_H_giveBack.2.1 26 = .ok (.aaload, 1) := by decide +kernel
theorem d_H_giveBack_27 : decode mi_H_giveBack.2.1 27 = .ok (.invokevirtual 23, 3) := by decide +kernel
theorem d_H_giveBack_30 : decode mi_H_giveBack.2.1 30 = .ok (.return_, 1) := by decide +kernel
