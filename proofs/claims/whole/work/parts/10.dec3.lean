/-! decode rows: printed by wip/whole/gen07.py -/
theorem d_M_init_0 : decode mi_M_init.2.1 0 = .ok (.aload_n 0, 1) := by decide +kernel
theorem d_M_init_1 : decode mi_M_init.2.1 1 = .ok (.invokespecial 1, 3) := by decide +kernel
theorem d_M_init_4 : decode mi_M_init.2.1 4 = .ok (.aload_n 0, 1) := by decide +kernel
theorem d_M_init_5 : decode mi_M_init.2.1 5 = .ok (.bipush 112, 2) := by decide +kernel
theorem d_M_init_7 : decode mi_M_init.2.1 7 = .ok (.newarray .int, 2) := by decide +kernel
theorem d_M_init_9 : decode mi_M_init.2.1 9 = .ok (.putfield 7, 3) := by decide +kernel
theorem d_M_init_12 : decode mi_M_init.2.1 12 = .ok (.aload_n 0, 1) := by decide +kernel
theorem d_M_init_13 : decode mi_M_init.2.1 13 = .ok (.sipush 896, 3) := by decide +kernel
theorem d_M_init_16 : decode mi_M_init.2.1 16 = .ok (.newarray .int, 2) := by decide +kernel
theorem d_M_init_18 : decode mi_M_init.2.1 18 = .ok (.putfield 13, 3) := by decide +kernel
theorem d_M_init_21 : decode mi_M_init.2.1 21 = .ok (.aload_n 0, 1) := by decide +kernel
theorem d_M_init_22 : decode mi_M_init.2.1 22 = .ok (.bipush 60, 2) := by decide +kernel
theorem d_M_init_24 : decode mi_M_init.2.1 24 = .ok (.newarray .byte, 2) := by decide +kernel
theorem d_M_init_26 : decode mi_M_init.2.1 26 = .ok (.putfield 16, 3) := by decide +kernel
theorem d_M_init_29 : decode mi_M_init.2.1 29 = .ok (.aload_n 0, 1) := by decide +kernel
theorem d_M_init_30 : decode mi_M_init.2.1 30 = .ok (.bipush 36, 2) := by decide +kernel
theorem d_M_init_32 : decode mi_M_init.2.1 32 = .ok (.newarray .int, 2) := by decide +kernel
theorem d_M_init_34 : decode mi_M_init.2.1 34 = .ok (.putfield 20, 3) := by decide +kernel
theorem d_M_init_37 : decode mi_M_init.2.1 37 = .ok (.aload_n 0, 1) := by decide +kernel
theorem d_M_init_38 : decode mi_M_init.2.1 38 = .ok (.sipush 760, 3) := by decide +kernel
theorem d_M_init_41 : decode mi_M_init.2.1 41 = .ok (.newarray .int, 2) := by decide +kernel
theorem d_M_init_43 : decode mi_M_init.2.1 43 = .ok (.putfield 23, 3) := by decide +kernel
theorem d_M_init_46 : decode mi_M_init.2.1 46 = .ok (.aload_n 0, 1) := by decide +kernel
theorem d_M_init_47 : decode mi_M_init.2.1 47 = .ok (.sipush 760, 3) := by decide +kernel
theorem d_M_init_50 : decode mi_M_init.2.1 50 = .ok (.newarray .int, 2) := by decide +kernel
theorem d_M_init_52 : decode mi_M_init.2.1 52 = .ok (.putfield 26, 3) := by decide +kernel
theorem d_M_init_55 : decode mi_M_init.2.1 55 = .ok (.aload_n 0, 1) := by decide +kernel
theorem d_M_init_56 : decode mi_M_init.2.1 56 = .ok (.sipush 760, 3) := by decide +kernel
theorem d_M_init_59 : decode mi_M_init.2.1 59 = .ok (.newarray .int, 2) := by decide +kernel
theorem d_M_init_61 : decode mi_M_init.2.1 61 = .ok (.putfield 29, 3) := by decide +kernel
theorem d_M_init_64 : decode mi_M_init.2.1 64 = .ok (.aload_n 0, 1) := by decide +kernel
theorem d_M_init_65 : decode mi_M_init.2.1 65 = .ok (.sipush 136, 3) := by decide +kernel
theorem d_M_init_68 : decode mi_M_init.2.1 68 = .ok (.newarray .int, 2) := by decide +kernel
theorem d_M_init_70 : decode mi_M_init.2.1 70 = .ok (.putfield 32, 3) := by decide +kernel
theorem d_M_init_73 : decode mi_M_init.2.1 73 = .ok (.aload_n 0, 1) := by decide +kernel
theorem d_M_init_74 : decode mi_M_init.2.1 74 = .ok (.sipush 760, 3) := by decide +kernel
theorem d_M_init_77 : decode mi_M_init.2.1 77 = .ok (.newarray .int, 2) := by decide +kernel
theorem d_M_init_79 : decode mi_M_init.2.1 79 = .ok (.putfield 35, 3) := by decide +kernel
theorem d_M_init_82 : decode mi_M_init.2.1 82 = .ok (.aload_n 0, 1) := by decide +kernel
theorem d_M_init_83 : decode mi_M_init.2.1 83 = .ok (.bipush 36, 2) := by decide +kernel
theorem d_M_init_85 : decode mi_M_init.2.1 85 = .ok (.newarray .boolean, 2) := by decide +kernel
theorem d_M_init_87 : decode mi_M_init.2.1 87 = .ok (.putfield 38, 3) := by decide +kernel
theorem d_M_init_90 : decode mi_M_init.2.1 90 = .ok (.aload_n 0, 1) := by decide +kernel
theorem d_M_init_91 : decode mi_M_init.2.1 91 = .ok (.sipush 136, 3) := by decide +kernel
theorem d_M_init_94 : decode mi_M_init.2.1 94 = .ok (.newarray .int, 2) := by decide +kernel
theorem d_M_init_96 : decode mi_M_init.2.1 96 = .ok (.putfield 42, 3) := by decide +kernel
theorem d_M_init_99 : decode mi_M_init.2.1 99 = .ok (.aload_n 0, 1) := by decide +kernel
theorem d_M_init_100 : decode mi_M_init.2.1 100 = .ok (.sipush 136, 3) := by decide +kernel
theorem d_M_init_103 : decode mi_M_init.2.1 103 = .ok (.newarray .int, 2) := by decide +kernel
theorem d_M_init_105 : decode mi_M_init.2.1 105 = .ok (.putfield 45, 3) := by decide +kernel
theorem d_M_init_108 : decode mi_M_init.2.1 108 = .ok (.aload_n 0, 1) := by decide +kernel
theorem d_M_init_109 : decode mi_M_init.2.1 109 = .ok (.sipush 136, 3) := by decide +kernel
theorem d_M_init_112 : decode mi_M_init.2.1 112 = .ok (.newarray .boolean, 2) := by decide +kernel
theorem d_M_init_114 : decode mi_M_init.2.1 114 = .ok (.putfield 48, 3) := by decide +kernel
theorem d_M_init_117 : decode mi_M_init.2.1 117 = .ok (.aload_n 0, 1) := by decide +kernel
theorem d_M_init_118 : decode mi_M_init.2.1 118 = .ok (.bipush 36, 2) := by decide +kernel
theorem d_M_init_120 : decode mi_M_init.2.1 120 = .ok (.newarray .int, 2) := by decide +kernel
theorem d_M_init_122 : decode mi_M_init.2.1 122 = .ok (.putfield 51, 3) := by decide +kernel
theorem d_M_init_125 : decode mi_M_init.2.1 125 = .ok (.aload_n 0, 1) := by decide +kernel
theorem d_M_init_126 : decode mi_M_init.2.1 126 = .ok (.bipush 36, 2) := by decide +kernel
theorem d_M_init_128 : decode mi_M_init.2.1 128 = .ok (.newarray .int, 2) := by decide +kernel
theorem d_M_init_130 : decode mi_M_init.2.1 130 = .ok (.putfield 54, 3) := by decide +kernel
theorem d_M_init_133 : decode mi_M_init.2.1 133 = .ok (.aload_n 0, 1) := by decide +kernel
theorem d_M_init_134 : decode mi_M_init.2.1 134 = .ok (.sipush 760, 3) := by decide +kernel
theorem d_M_init_137 : decode mi_M_init.2.1 137 = .ok (.newarray .int, 2) := by decide +kernel
theorem d_M_init_139 : decode mi_M_init.2.1 139 = .ok (.putfield 57, 3) := by decide +kernel
theorem d_M_init_142 : decode mi_M_init.2.1 142 = .ok (.aload_n 0, 1) := by decide +kernel
theorem d_M_init_143 : decode mi_M_init.2.1 143 = .ok (.getfield 7, 3) := by decide +kernel
theorem d_M_init_146 : decode mi_M_init.2.1 146 = .ok (.iconst 0, 1) := by decide +kernel
theorem d_M_init_147 : decode mi_M_init.2.1 147 = .ok (.iconst 3, 1) := by decide +kernel
theorem d_M_init_148 : decode mi_M_init.2.1 148 = .ok (.iastore, 1) := by decide +kernel
theorem d_M_init_149 : decode mi_M_init.2.1 149 = .ok (.aload_n 0, 1) := by decide +kernel
theorem d_M_init_150 : decode mi_M_init.2.1 150 = .ok (.getfield 7, 3) := by decide +kernel
theorem d_M_init_153 : decode mi_M_init.2.1 153 = .ok (.iconst 1, 1) := by decide +kernel
theorem d_M_init_154 : decode mi_M_init.2.1 154 = .ok (.iconst 3, 1) := by decide +kernel
theorem d_M_init_155 : decode mi_M_init.2.1 155 = .ok (.iastore, 1) := by decide +kernel
theorem d_M_init_156 : decode mi_M_init.2.1 156 = .ok (.aload_n 0, 1) := by decide +kernel
theorem d_M_init_157 : decode mi_M_init.2.1 157 = .ok (.getfield 7, 3) := by decide +kernel
theorem d_M_init_160 : decode mi_M_init.2.1 160 = .ok (.iconst 2, 1) := by decide +kernel
theorem d_M_init_161 : decode mi_M_init.2.1 161 = .ok (.iconst 1, 1) := by decide +kernel
theorem d_M_init_162 : decode mi_M_init.2.1 162 = .ok (.iastore, 1) := by decide +kernel
theorem d_M_init_163 : decode mi_M_init.2.1 163 = .ok (.aload_n 0, 1) := by decide +kernel
theorem d_M_init_164 : decode mi_M_init.2.1 164 = .ok (.getfield 7, 3) := by decide +kernel
theorem d_M_init_167 : decode mi_M_init.2.1 167 = .ok (.iconst 3, 1) := by decide +kernel
theorem d_M_init_168 : decode mi_M_init.2.1 168 = .ok (.iconst 2, 1) := by decide +kernel
theorem d_M_init_169 : decode mi_M_init.2.1 169 = .ok (.iastore, 1) := by decide +kernel
theorem d_M_init_170 : decode mi_M_init.2.1 170 = .ok (.iconst 0, 1) := by decide +kernel
theorem d_M_init_171 : decode mi_M_init.2.1 171 = .ok (.istore_n 1, 1) := by decide +kernel
theorem d_M_init_172 : decode mi_M_init.2.1 172 = .ok (.iload_n 1, 1) := by decide +kernel
theorem d_M_init_173 : decode mi_M_init.2.1 173 = .ok (.bipush 36, 2) := by decide +kernel
theorem d_M_init_175 : decode mi_M_init.2.1 175 = .ok (.if_icmp .ge 38, 3) := by decide +kernel
theorem d_M_init_178 : decode mi_M_init.2.1 178 = .ok (.aload_n 0, 1) := by decide +kernel
theorem d_M_init_179 : decode mi_M_init.2.1 179 = .ok (.getfield 7, 3) := by decide +kernel
theorem d_M_init_182 : decode mi_M_init.2.1 182 = .ok (.iconst 4, 1) := by decide +kernel
theorem d_M_init_183 : decode mi_M_init.2.1 183 = .ok (.iload_n 1, 1) := by decide +kernel
theorem d_M_init_184 : decode mi_M_init.2.1 184 = .ok (.iadd, 1) := by decide +kernel
theorem d_M_init_185 : decode mi_M_init.2.1 185 = .ok (.iload_n 1, 1) := by decide +kernel
theorem d_M_init_186 : decode mi_M_init.2.1 186 = .ok (.bipush 6, 2) := by decide +kernel
theorem d_M_init_188 : decode mi_M_init.2.1 188 = .ok (.idiv, 1) := by decide +kernel
theorem d_M_init_189 : decode mi_M_init.2.1 189 = .ok (.iconst 3, 1) := by decide +kernel
theorem d_M_init_190 : decode mi_M_init.2.1 190 = .ok (.if_icmp .ge 15, 3) := by decide +kernel
theorem d_M_init_193 : decode mi_M_init.2.1 193 = .ok (.iload_n 1, 1) := by decide +kernel
theorem d_M_init_194 : decode mi_M_init.2.1 194 = .ok (.bipush 6, 2) := by decide +kernel
theorem d_M_init_196 : decode mi_M_init.2.1 196 = .ok (.irem, 1) := by decide +kernel
theorem d_M_init_197 : decode mi_M_init.2.1 197 = .ok (.iconst 3, 1) := by decide +kernel
theorem d_M_init_198 : decode mi_M_init.2.1 198 = .ok (.if_icmp .ge 7, 3) := by decide +kernel
theorem d_M_init_201 : decode mi_M_init.2.1 201 = .ok (.iconst 1, 1) := by decide +kernel
theorem d_M_init_202 : decode mi_M_init.2.1 202 = .ok (.goto 4, 3) := by decide +kernel
theorem d_M_init_205 : decode mi_M_init.2.1 205 = .ok (.iconst 0, 1) := by decide +kernel
theorem d_M_init_206 : decode mi_M_init.2.1 206 = .ok (.iastore, 1) := by decide +kernel
theorem d_M_init_207 : decode mi_M_init.2.1 207 = .ok (.iinc 1 1, 3) := by decide +kernel
theorem d_M_init_210 : decode mi_M_init.2.1 210 = .ok (.goto (-38), 3) := by decide +kernel
theorem d_M_init_213 : decode mi_M_init.2.1 213 = .ok (.return_, 1) := by decide +kernel
theorem d_M_in_0 : decode mi_M_in.2.1 0 = .ok (.iload_n 0, 1) := by decide +kernel
theorem d_M_in_1 : decode mi_M_in.2.1 1 = .ok (.iload_n 1, 1) := by decide +kernel
theorem d_M_in_2 : decode mi_M_in.2.1 2 = .ok (.if_icmp .lt 12, 3) := by decide +kernel
theorem d_M_in_5 : decode mi_M_in.2.1 5 = .ok (.iload_n 0, 1) := by decide +kernel
theorem d_M_in_6 : decode mi_M_in.2.1 6 = .ok (.iload_n 2, 1) := by decide +kernel
theorem d_M_in_7 : decode mi_M_in.2.1 7 = .ok (.if_icmp .gt 7, 3) := by decide +kernel
theorem d_M_in_10 : decode mi_M_in.2.1 10 = .ok (.iconst 1, 1) := by decide +kernel
theorem d_M_in_11 : decode mi_M_in.2.1 11 = .ok (.goto 4, 3) := by decide +kernel
theorem d_M_in_14 : decode mi_M_in.2.1 14 = .ok (.iconst 0, 1) := by decide +kernel
theorem d_M_in_15 : decode mi_M_in.2.1 15 = .ok (.ireturn, 1) := by decide +kernel
theorem d_M_edit_0 : decode mi_M_edit.2.1 0 = .ok (.aload_n 0, 1) := by decide +kernel
theorem d_M_edit_1 : decode mi_M_edit.2.1 1 = .ok (.getfield 60, 3) := by decide +kernel
theorem d_M_edit_4 : decode mi_M_edit.2.1 4 = .ok (.bipush 8, 2) := by decide +kernel
theorem d_M_edit_6 : decode mi_M_edit.2.1 6 = .ok (.if_icmp .ne 43, 3) := by decide +kernel
theorem d_M_edit_9 : decode mi_M_edit.2.1 9 = .ok (.iconst 0, 1) := by decide +kernel
theorem d_M_edit_10 : decode mi_M_edit.2.1 10 = .ok (.istore_n 1, 1) := by decide +kernel
theorem d_M_edit_11 : decode mi_M_edit.2.1 11 = .ok (.iload_n 1, 1) := by decide +kernel
theorem d_M_edit_12 : decode mi_M_edit.2.1 12 = .ok (.sipush 784, 3) := by decide +kernel
theorem d_M_edit_15 : decode mi_M_edit.2.1 15 = .ok (.if_icmp .ge 24, 3) := by decide +kernel
theorem d_M_edit_18 : decode mi_M_edit.2.1 18 = .ok (.aload_n 0, 1) := by decide +kernel
theorem d_M_edit_19 : decode mi_M_edit.2.1 19 = .ok (.getfield 13, 3) := by decide +kernel
theorem d_M_edit_22 : decode mi_M_edit.2.1 22 = .ok (.iload_n 1, 1) := by decide +kernel
theorem d_M_edit_23 : decode mi_M_edit.2.1 23 = .ok (.aload_n 0, 1) := by decide +kernel
theorem d_M_edit_24 : decode mi_M_edit.2.1 24 = .ok (.getfield 13, 3) := by decide +kernel
theorem d_M_edit_27 : decode mi_M_edit.2.1 27 = .ok (.iload_n 1, 1) := by decide +kernel
theorem d_M_edit_28 : decode mi_M_edit.2.1 28 = .ok (.bipush 112, 2) := by decide +kernel
theorem d_M_edit_30 : decode mi_M_edit.2.1 30 = .ok (.iadd, 1) := by decide +kernel
theorem d_M_edit_31 : decode mi_M_edit.2.1 31 = .ok (.iaload, 1) := by decide +kernel
theorem d_M_edit_32 : decode mi_M_edit.2.1 32 = .ok (.iastore, 1) := by decide +kernel
theorem d_M_edit_33 : decode mi_M_edit.2.1 33 = .ok (.iinc 1 1, 3) := by decide +kernel
theorem d_M_edit_36 : decode mi_M_edit.2.1 36 = .ok (.goto (-25), 3) := by decide +kernel
theorem d_M_edit_39 : decode mi_M_edit.2.1 39 = .ok (.aload_n 0, 1) := by decide +kernel
theorem d_M_edit_40 : decode mi_M_edit.2.1 40 = .ok (.dup, 1) := by decide +kernel
theorem d_M_edit_41 : decode mi_M_edit.2.1 41 = .ok (.getfield 60, 3) := by decide +kernel
theorem d_M_edit_44 : decode mi_M_edit.2.1 44 = .ok (.iconst 1, 1) := by decide +kernel
theorem d_M_edit_45 : decode mi_M_edit.2.1 45 = .ok (.isub, 1) := by decide +kernel
theorem d_M_edit_46 : decode mi_M_edit.2.1 46 = .ok (.putfield 60, 3) := by decide +kernel
theorem d_M_edit_49 : decode mi_M_edit.2.1 49 = .ok (.iconst 0, 1) := by decide +kernel
theorem d_M_edit_50 : decode mi_M_edit.2.1 50 = .ok (.istore_n 1, 1) := by decide +kernel
theorem d_M_edit_51 : decode mi_M_edit.2.1 51 = .ok (.iload_n 1, 1) := by decide +kernel
theorem d_M_edit_52 : decode mi_M_edit.2.1 52 = .ok (.bipush 112, 2) := by decide +kernel
theorem d_M_edit_54 : decode mi_M_edit.2.1 54 = .ok (.if_icmp .ge 29, 3) := by decide +kernel
theorem d_M_edit_57 : decode mi_M_edit.2.1 57 = .ok (.aload_n 0, 1) := by decide +kernel
theorem d_M_edit_58 : decode mi_M_edit.2.1 58 = .ok (.getfield 13, 3) := by decide +kernel
theorem d_M_edit_61 : decode mi_M_edit.2.1 61 = .ok (.bipush 112, 2) := by decide +kernel
theorem d_M_edit_63 : decode mi_M_edit.2.1 63 = .ok (.aload_n 0, 1) := by decide +kernel
theorem d_M_edit_64 : decode mi_M_edit.2.1 64 = .ok (.getfield 60, 3) := by decide +kernel
theorem d_M_edit_67 : decode mi_M_edit.2.1 67 = .ok (.imul, 1) := by decide +kernel
theorem d_M_edit_68 : decode mi_M_edit.2.1 68 = .ok (.iload_n 1, 1) := by decide +kernel
theorem d_M_edit_69 : decode mi_M_edit.2.1 69 = .ok (.iadd, 1) := by decide +kernel
theorem d_M_edit_70 : decode mi_M_edit.2.1 70 = .ok (.aload_n 0, 1) := by decide +kernel
theorem d_M_edit_71 : decode mi_M_edit.2.1 71 = .ok (.getfield 7, 3) := by decide +kernel
theorem d_M_edit_74 : decode mi_M_edit.2.1 74 = .ok (.iload_n 1, 1) := by decide +kernel
theorem d_M_edit_75 : decode mi_M_edit.2.1 75 = .ok (.iaload, 1) := by decide +kernel
theorem d_M_edit_76 : decode mi_M_edit.2.1 76 = .ok (.iastore, 1) := by decide +kernel
theorem d_M_edit_77 : decode mi_M_edit.2.1 77 = .ok (.iinc 1 1, 3) := by decide +kernel
theorem d_M_edit_80 : decode mi_M_edit.2.1 80 = .ok (.goto (-29), 3) := by decide +kernel
theorem d_M_edit_83 : decode mi_M_edit.2.1 83 = .ok (.aload_n 0, 1) := by decide +kernel
theorem d_M_edit_84 : decode mi_M_edit.2.1 84 = .ok (.dup, 1) := by decide +kernel
theorem d_M_edit_85 : decode mi_M_edit.2.1 85 = .ok (.getfield 60, 3) := by decide +kernel
theorem d_M_edit_88 : decode mi_M_edit.2.1 88 = .ok (.iconst 1, 1) := by decide +kernel
theorem d_M_edit_89 : decode mi_M_edit.2.1 89 = .ok (.iadd, 1) := by decide +kernel
theorem d_M_edit_90 : decode mi_M_edit.2.1 90 = .ok (.putfield 60, 3) := by decide +kernel
theorem d_M_edit_93 : decode mi_M_edit.2.1 93 = .ok (.return_, 1) := by decide +kernel
theorem d_M_undo_0 : decode mi_M_undo.2.1 0 = .ok (.aload_n 0, 1) := by decide +kernel
theorem d_M_undo_1 : decode mi_M_undo.2.1 1 = .ok (.getfield 60, 3) := by decide +kernel
theorem d_M_undo_4 : decode mi_M_undo.2.1 4 = .ok (.ifCond .ne 6, 3) := by decide +kernel
theorem d_M_undo_7 : decode mi_M_undo.2.1 7 = .ok (.bipush (-2), 2) := by decide +kernel
theorem d_M_undo_9 : decode mi_M_undo.2.1 9 = .ok (.ireturn, 1) := by decide +kernel
theorem d_M_undo_10 : decode mi_M_undo.2.1 10 = .ok (.aload_n 0, 1) := by decide +kernel
theorem d_M_undo_11 : decode mi_M_undo.2.1 11 = .ok (.dup, 1) := by decide +kernel
theorem d_M_undo_12 : decode mi_M_undo.2.1 12 = .ok (.getfield 60, 3) := by decide +kernel
theorem d_M_undo_15 : decode mi_M_undo.2.1 15 = .ok (.iconst 1, 1) := by decide +kernel
theorem d_M_undo_16 : decode mi_M_undo.2.1 16 = .ok (.isub, 1) := by decide +kernel
theorem d_M_undo_17 : decode mi_M_undo.2.1 17 = .ok (.putfield 60, 3) := by decide +kernel
theorem d_M_undo_20 : decode mi_M_undo.2.1 20 = .ok (.iconst 0, 1) := by decide +kernel
theorem d_M_undo_21 : decode mi_M_undo.2.1 21 = .ok (.istore_n 1, 1) := by decide +kernel
theorem d_M_undo_22 : decode mi_M_undo.2.1 22 = .ok (.iload_n 1, 1) := by decide +kernel
theorem d_M_undo_23 : decode mi_M_undo.2.1 23 = .ok (.bipush 112, 2) := by decide +kernel
theorem d_M_undo_25 : decode mi_M_undo.2.1 25 = .ok (.if_icmp .ge 29, 3) := by decide +kernel
theorem d_M_undo_28 : decode mi_M_undo.2.1 28 = .ok (.aload_n 0, 1) := by decide +kernel
theorem d_M_undo_29 : decode mi_M_undo.2.1 29 = .ok (.getfield 7, 3) := by decide +kernel
theorem d_M_undo_32 : decode mi_M_undo.2.1 32 = .ok (.iload_n 1, 1) := by decide +kernel
theorem d_M_undo_33 : decode mi_M_undo.2.1 33 = .ok (.aload_n 0, 1) := by decide +kernel
theorem d_M_undo_34 : decode mi_M_undo.2.1 34 = .ok (.getfield 13, 3) := by decide +kernel
theorem d_M_undo_37 : decode mi_M_undo.2.1 37 = .ok (.bipush 112, 2) := by decide +kernel
theorem d_M_undo_39 : decode mi_M_undo.2.1 39 = .ok (.aload_n 0, 1) := by decide +kernel
theorem d_M_undo_40 : decode mi_M_undo.2.1 40 = .ok (.getfield 60, 3) := by decide +kernel
theorem d_M_undo_43 : decode mi_M_undo.2.1 43 = .ok (.imul, 1) := by decide +kernel
theorem d_M_undo_44 : decode mi_M_undo.2.1 44 = .ok (.iload_n 1, 1) := by decide +kernel
theorem d_M_undo_45 : decode mi_M_undo.2.1 45 = .ok (.iadd, 1) := by decide +kernel
theorem d_M_undo_46 : decode mi_M_undo.2.1 46 = .ok (.iaload, 1) := by decide +kernel
theorem d_M_undo_47 : decode mi_M_undo.2.1 47 = .ok (.iastore, 1) := by decide +kernel
theorem d_M_undo_48 : decode mi_M_undo.2.1 48 = .ok (.iinc 1 1, 3) := by decide +kernel
theorem d_M_undo_51 : decode mi_M_undo.2.1 51 = .ok (.goto (-29), 3) := by decide +kernel
theorem d_M_undo_54 : decode mi_M_undo.2.1 54 = .ok (.aload_n 0, 1) := by decide +kernel
theorem d_M_undo_55 : decode mi_M_undo.2.1 55 = .ok (.getfield 60, 3) := by decide +kernel
theorem d_M_undo_58 : decode mi_M_undo.2.1 58 = .ok (.ireturn, 1) := by decide +kernel
theorem d_M_appendCharacter_0 : decode mi_M_appendCharacter.2.1 0 = .ok (.iload_n 1, 1) := by decide +kernel
theorem d_M_appendCharacter_1 : decode mi_M_appendCharacter.2.1 1 = .ok (.iconst 0, 1) := by decide +kernel
theorem d_M_appendCharacter_2 : decode mi_M_appendCharacter.2.1 2 = .ok (.sipush 255, 3) := by decide +kernel
theorem d_M_appendCharacter_5 : decode mi_M_appendCharacter.2.1 5 = .ok (.invokestatic 64, 3) := by decide +kernel
theorem d_M_appendCharacter_8 : decode mi_M_appendCharacter.2.1 8 = .ok (.ifCond .ne 5, 3) := by decide +kernel
theorem d_M_appendCharacter_11 : decode mi_M_appendCharacter.2.1 11 = .ok (.iconst (-1), 1) := by decide +kernel
theorem d_M_appendCharacter_12 : decode mi_M_appendCharacter.2.1 12 = .ok (.ireturn, 1) := by decide +kernel
theorem d_M_appendCharacter_13 : decode mi_M_appendCharacter.2.1 13 = .ok (.aload_n 0, 1) := by decide +kernel
theorem d_M_appendCharacter_14 : decode mi_M_appendCharacter.2.1 14 = .ok (.getfield 68, 3) := by decide +kernel
theorem d_M_appendCharacter_17 : decode mi_M_appendCharacter.2.1 17 = .ok (.bipush 60, 2) := by decide +kernel
theorem d_M_appendCharacter_19 : decode mi_M_appendCharacter.2.1 19 = .ok (.if_icmp .ne 6, 3) := by decide +kernel
theorem d_M_appendCharacter_22 : decode mi_M_appendCharacter.2.1 22 = .ok (.bipush (-3), 2) := by decide +kernel
theorem d_M_appendCharacter_24 : decode mi_M_appendCharacter.2.1 24 = .ok (.ireturn, 1) := by decide +kernel
theorem d_M_appendCharacter_25 : decode mi_M_appendCharacter.2.1 25 = .ok (.aload_n 0, 1) := by decide +kernel
theorem d_M_appendCharacter_26 : decode mi_M_appendCharacter.2.1 26 = .ok (.getfield 16, 3) := by decide +kernel
theorem d_M_appendCharacter_29 : decode mi_M_appendCharacter.2.1 29 = .ok (.aload_n 0, 1) := by decide +kernel
theorem d_M_appendCharacter_30 : decode mi_M_appendCharacter.2.1 30 = .ok (.getfield 68, 3) := by decide +kernel
theorem d_M_appendCharacter_33 : decode mi_M_appendCharacter.2.1 33 = .ok (.iload_n 1, 1) := by decide +kernel
theorem d_M_appendCharacter_34 : decode mi_M_appendCharacter.2.1 34 = .ok (.i2b, 1) := by decide +kernel
theorem d_M_appendCharacter_35 : decode mi_M_appendCharacter.2.1 35 = .ok (.bastore, 1) := by decide +kernel
theorem d_M_appendCharacter_36 : decode mi_M_appendCharacter.2.1 36 = .ok (.aload_n 0, 1) := by decide +kernel
theorem d_M_appendCharacter_37 : decode mi_M_appendCharacter.2.1 37 = .ok (.dup, 1) := by decide +kernel
theorem d_M_appendCharacter_38 : decode mi_M_appendCharacter.2.1 38 = .ok (.getfield 68, 3) := by decide +kernel
theorem d_M_appendCharacter_41 : decode mi_M_appendCharacter.2.1 41 = .ok (.iconst 1, 1) := by decide +kernel
theorem d_M_appendCharacter_42 : decode mi_M_appendCharacter.2.1 42 = .ok (.iadd, 1) := by decide +kernel
theorem d_M_appendCharacter_43 : decode mi_M_appendCharacter.2.1 43 = .ok (.putfield 68, 3) := by decide +kernel
theorem d_M_appendCharacter_46 : decode mi_M_appendCharacter.2.1 46 = .ok (.aload_n 0, 1) := by decide +kernel
theorem d_M_appendCharacter_47 : decode mi_M_appendCharacter.2.1 47 = .ok (.getfield 68, 3) := by decide +kernel
theorem d_M_appendCharacter_50 : decode mi_M_appendCharacter.2.1 50 = .ok (.ireturn, 1) := by decide +kernel
theorem d_M_clearText_0 : decode mi_M_clearText.2.1 0 = .ok (.aload_n 0, 1) := by decide +kernel
theorem d_M_clearText_1 : decode mi_M_clearText.2.1 1 = .ok (.getfield 68, 3) := by decide +kernel
theorem d_M_clearText_4 : decode mi_M_clearText.2.1 4 = .ok (.istore_n 1, 1) := by decide +kernel
theorem d_M_clearText_5 : decode mi_M_clearText.2.1 5 = .ok (.aload_n 0, 1) := by decide +kernel
theorem d_M_clearText_6 : decode mi_M_clearText.2.1 6 = .ok (.iconst 0, 1) := by decide +kernel
theorem d_M_clearText_7 : decode mi_M_clearText.2.1 7 = .ok (.putfield 68, 3) := by decide +kernel
theorem d_M_clearText_10 : decode mi_M_clearText.2.1 10 = .ok (.iload_n 1, 1) := by decide +kernel
theorem d_M_clearText_11 : decode mi_M_clearText.2.1 11 = .ok (.ireturn, 1) := by decide +kernel
theorem d_M_readGrid_0 : decode mi_M_readGrid.2.1 0 = .ok (.iconst 0, 1) := by decide +kernel
theorem d_M_readGrid_1 : decode mi_M_readGrid.2.1 1 = .ok (.istore_n 1, 1) := by decide +kernel
theorem d_M_readGrid_2 : decode mi_M_readGrid.2.1 2 = .ok (.iload_n 1, 1) := by decide +kernel
theorem d_M_readGrid_3 : decode mi_M_readGrid.2.1 3 = .ok (.bipush 36, 2) := by decide +kernel
theorem d_M_readGrid_5 : decode mi_M_readGrid.2.1 5 = .ok (.if_icmp .ge 16, 3) := by decide +kernel
theorem d_M_readGrid_8 : decode mi_M_readGrid.2.1 8 = .ok (.aload_n 0, 1) := by decide +kernel
theorem d_M_readGrid_9 : decode mi_M_readGrid.2.1 9 = .ok (.getfield 20, 3) := by decide +kernel
theorem d_M_readGrid_12 : decode mi_M_readGrid.2.1 12 = .ok (.iload_n 1, 1) := by decide +kernel
theorem d_M_readGrid_13 : decode mi_M_readGrid.2.1 13 = .ok (.iconst 0, 1) := by decide +kernel
theorem d_M_readGrid_14 : decode mi_M_readGrid.2.1 14 = .ok (.iastore, 1) := by decide +kernel
theorem d_M_readGrid_15 : decode mi_M_readGrid.2.1 15 = .ok (.iinc 1 1, 3) := by decide +kernel
theorem d_M_readGrid_18 : decode mi_M_readGrid.2.1 18 = .ok (.goto (-16), 3) := by decide +kernel
theorem d_M_readGrid_21 : decode mi_M_readGrid.2.1 21 = .ok (.aload_n 0, 1) := by decide +kernel
theorem d_M_readGrid_22 : decode mi_M_readGrid.2.1 22 = .ok (.iconst 0, 1) := by decide +kernel
theorem d_M_readGrid_23 : decode mi_M_readGrid.2.1 23 = .ok (.putfield 71, 3) := by decide +kernel
theorem d_M_readGrid_26 : decode mi_M_readGrid.2.1 26 = .ok (.aload_n 0, 1) := by decide +kernel
theorem d_M_readGrid_27 : decode mi_M_readGrid.2.1 27 = .ok (.iconst 0, 1) := by decide +kernel
theorem d_M_readGrid_28 : decode mi_M_readGrid.2.1 28 = .ok (.putfield 74, 3) := by decide +kernel
theorem d_M_readGrid_31 : decode mi_M_readGrid.2.1 31 = .ok (.iconst 0, 1) := by decide +kernel
theorem d_M_readGrid_32 : decode mi_M_readGrid.2.1 32 = .ok (.istore_n 1, 1) := by decide +kernel
theorem d_M_readGrid_33 : decode mi_M_readGrid.2.1 33 = .ok (.iconst 0, 1) := by decide +kernel
theorem d_M_readGrid_34 : decode mi_M_readGrid.2.1 34 = .ok (.istore_n 2, 1) := by decide +kernel
theorem d_M_readGrid_35 : decode mi_M_readGrid.2.1 35 = .ok (.iload_n 2, 1) := by decide +kernel
theorem d_M_readGrid_36 : decode mi_M_readGrid.2.1 36 = .ok (.aload_n 0, 1) := by decide +kernel
theorem d_M_readGrid_37 : decode mi_M_readGrid.2.1 37 = .ok (.getfield 68, 3) := by decide +kernel
theorem d_M_readGrid_40 : decode mi_M_readGrid.2.1 40 = .ok (.if_icmp .ge 192, 3) := by decide +kernel
theorem d_M_readGrid_43 : decode mi_M_readGrid.2.1 43 = .ok (.aload_n 0, 1) := by decide +kernel
theorem d_M_readGrid_44 : decode mi_M_readGrid.2.1 44 = .ok (.getfield 16, 3) := by decide +kernel
theorem d_M_readGrid_47 : decode mi_M_readGrid.2.1 47 = .ok (.iload_n 2, 1) := by decide +kernel
theorem d_M_readGrid_48 : decode mi_M_readGrid.2.1 48 = .ok (.baload, 1) := by decide +kernel
theorem d_M_readGrid_49 : decode mi_M_readGrid.2.1 49 = .ok (.istore_n 3, 1) := by decide +kernel
theorem d_M_readGrid_50 : decode mi_M_readGrid.2.1 50 = .ok (.aload_n 0, 1) := by decide +kernel
theorem d_M_readGrid_51 : decode mi_M_readGrid.2.1 51 = .ok (.getfield 71, 3) := by decide +kernel
theorem d_M_readGrid_54 : decode mi_M_readGrid.2.1 54 = .ok (.ifCond .ne 8, 3) := by decide +kernel
theorem d_M_readGrid_57 : decode mi_M_readGrid.2.1 57 = .ok (.bipush 6, 2) := by decide +kernel
theorem d_M_readGrid_59 : decode mi_M_readGrid.2.1 59 = .ok (.goto 7, 3) := by decide +kernel
theorem d_M_readGrid_62 : decode mi_M_readGrid.2.1 62 = .ok (.aload_n 0, 1) := by decide +kernel
theorem d_M_readGrid_63 : decode mi_M_readGrid.2.1 63 = .ok (.getfield 74, 3) := by decide +kernel
theorem d_M_readGrid_66 : decode mi_M_readGrid.2.1 66 = .ok (.istore 4, 2) := by decide +kernel
theorem d_M_readGrid_68 : decode mi_M_readGrid.2.1 68 = .ok (.iload_n 3, 1) := by decide +kernel
theorem d_M_readGrid_69 : decode mi_M_readGrid.2.1 69 = .ok (.bipush 115, 2) := by decide +kernel
theorem d_M_readGrid_71 : decode mi_M_readGrid.2.1 71 = .ok (.if_icmp .eq 15, 3) := by decide +kernel
theorem d_M_readGrid_74 : decode mi_M_readGrid.2.1 74 = .ok (.iload_n 3, 1) := by decide +kernel
theorem d_M_readGrid_75 : decode mi_M_readGrid.2.1 75 = .ok (.bipush 112, 2) := by decide +kernel
theorem d_M_readGrid_77 : decode mi_M_readGrid.2.1 77 = .ok (.if_icmp .eq 9, 3) := by decide +kernel
theorem d_M_readGrid_80 : decode mi_M_readGrid.2.1 80 = .ok (.iload_n 3, 1) := by decide +kernel
theorem d_M_readGrid_81 : decode mi_M_readGrid.2.1 81 = .ok (.bipush 46, 2) := by decide +kernel
theorem d_M_readGrid_83 : decode mi_M_readGrid.2.1 83 = .ok (.if_icmp .ne 7, 3) := by decide +kernel
theorem d_M_readGrid_86 : decode mi_M_readGrid.2.1 86 = .ok (.iconst 1, 1) := by decide +kernel
theorem d_M_readGrid_87 : decode mi_M_readGrid.2.1 87 = .ok (.goto 4, 3) := by decide +kernel
theorem d_M_readGrid_90 : decode mi_M_readGrid.2.1 90 = .ok (.iconst 0, 1) := by decide +kernel
theorem d_M_readGrid_91 : decode mi_M_readGrid.2.1 91 = .ok (.istore 5, 2) := by decide +kernel
theorem d_M_readGrid_93 : decode mi_M_readGrid.2.1 93 = .ok (.iload_n 3, 1) := by decide +kernel
theorem d_M_readGrid_94 : decode mi_M_readGrid.2.1 94 = .ok (.bipush 59, 2) := by decide +kernel
theorem d_M_readGrid_96 : decode mi_M_readGrid.2.1 96 = .ok (.if_icmp .ne 22, 3) := by decide +kernel
theorem d_M_readGrid_99 : decode mi_M_readGrid.2.1 99 = .ok (.iload_n 1, 1) := by decide +kernel
theorem d_M_readGrid_100 : decode mi_M_readGrid.2.1 100 = .ok (.ifCond .eq 55, 3) := by decide +kernel
theorem d_M_readGrid_103 : decode mi_M_readGrid.2.1 103 = .ok (.aload_n 0, 1) := by decide +kernel
theorem d_M_readGrid_104 : decode mi_M_readGrid.2.1 104 = .ok (.getfield 71, 3) := by decide +kernel
theorem d_M_readGrid_107 : decode mi_M_readGrid.2.1 107 = .ok (.ifCond .le 11, 3) := by decide +kernel
theorem d_M_readGrid_110 : decode mi_M_readGrid.2.1 110 = .ok (.iload_n 1, 1) := by decide +kernel
theorem d_M_readGrid_111 : decode mi_M_readGrid.2.1 111 = .ok (.aload_n 0, 1) := by decide +kernel
theorem d_M_readGrid_112 : decode mi_M_readGrid.2.1 112 = .ok (.getfield 74, 3) := by decide +kernel
theorem d_M_readGrid_115 : decode mi_M_readGrid.2.1 115 = .ok (.if_icmp .lt 40, 3) := by decide +kernel
theorem d_M_readGrid_118 : decode mi_M_readGrid.2.1 118 = .ok (.iload 5, 2) := by decide +kernel
theorem d_M_readGrid_120 : decode mi_M_readGrid.2.1 120 = .ok (.ifCond .eq 18, 3) := by decide +kernel
theorem d_M_readGrid_123 : decode mi_M_readGrid.2.1 123 = .ok (.aload_n 0, 1) := by decide +kernel
theorem d_M_readGrid_124 : decode mi_M_readGrid.2.1 124 = .ok (.getfield 71, 3) := by decide +kernel
theorem d_M_readGrid_127 : decode mi_M_readGrid.2.1 127 = .ok (.bipush 6, 2) := by decide +kernel
theorem d_M_readGrid_129 : decode mi_M_readGrid.2.1 129 = .ok (.if_icmp .eq 26, 3) := by decide +kernel
theorem d_M_readGrid_132 : decode mi_M_readGrid.2.1 132 = .ok (.iload_n 1, 1) := by decide +kernel
theorem d_M_readGrid_133 : decode mi_M_readGrid.2.1 133 = .ok (.iload 4, 2) := by decide +kernel
theorem d_M_readGrid_135 : decode mi_M_readGrid.2.1 135 = .ok (.if_icmp .eq 20, 3) := by decide +kernel
theorem d_M_readGrid_138 : decode mi_M_readGrid.2.1 138 = .ok (.iload 5, 2) := by decide +kernel
theorem d_M_readGrid_140 : decode mi_M_readGrid.2.1 140 = .ok (.ifCond .ne 17, 3) := by decide +kernel
theorem d_M_readGrid_143 : decode mi_M_readGrid.2.1 143 = .ok (.iload_n 3, 1) := by decide +kernel
theorem d_M_readGrid_144 : decode mi_M_readGrid.2.1 144 = .ok (.bipush 59, 2) := by decide +kernel
theorem d_M_readGrid_146 : decode mi_M_readGrid.2.1 146 = .ok (.if_icmp .eq 11, 3) := by decide +kernel
theorem d_M_readGrid_149 : decode mi_M_readGrid.2.1 149 = .ok (.iload_n 3, 1) := by decide +kernel
theorem d_M_readGrid_150 : decode mi_M_readGrid.2.1 150 = .ok (.bipush 32, 2) := by decide +kernel
theorem d_M_readGrid_152 : decode mi_M_readGrid.2.1 152 = .ok (.if_icmp .eq 5, 3) := by decide +kernel
theorem d_M_readGrid_155 : decode mi_M_readGrid.2.1 155 = .ok (.iload_n 2, 1) := by decide +kernel
theorem d_M_readGrid_156 : decode mi_M_readGrid.2.1 156 = .ok (.ireturn, 1) := by decide +kernel
theorem d_M_readGrid_157 : decode mi_M_readGrid.2.1 157 = .ok (.iload 5, 2) := by decide +kernel
theorem d_M_readGrid_159 : decode mi_M_readGrid.2.1 159 = .ok (.ifCond .eq 44, 3) := by decide +kernel
theorem d_M_readGrid_162 : decode mi_M_readGrid.2.1 162 = .ok (.aload_n 0, 1) := by decide +kernel
theorem d_M_readGrid_163 : decode mi_M_readGrid.2.1 163 = .ok (.getfield 20, 3) := by decide +kernel
theorem d_M_readGrid_166 : decode mi_M_readGrid.2.1 166 = .ok (.bipush 6, 2) := by decide +kernel
theorem d_M_readGrid_168 : decode mi_M_readGrid.2.1 168 = .ok (.aload_n 0, 1) := by decide +kernel
theorem d_M_readGrid_169 : decode mi_M_readGrid.2.1 169 = .ok (.getfield 71, 3) := by decide +kernel
theorem d_M_readGrid_172 : decode mi_M_readGrid.2.1 172 = .ok (.imul, 1) := by decide +kernel
theorem d_M_readGrid_173 : decode mi_M_readGrid.2.1 173 = .ok (.iload_n 1, 1) := by decide +kernel
theorem d_M_readGrid_174 : decode mi_M_readGrid.2.1 174 = .ok (.iadd, 1) := by decide +kernel
theorem d_M_readGrid_175 : decode mi_M_readGrid.2.1 175 = .ok (.iload_n 3, 1) := by decide +kernel
theorem d_M_readGrid_176 : decode mi_M_readGrid.2.1 176 = .ok (.bipush 115, 2) := by decide +kernel
theorem d_M_readGrid_178 : decode mi_M_readGrid.2.1 178 = .ok (.if_icmp .ne 7, 3) := by decide +kernel
theorem d_M_readGrid_181 : decode mi_M_readGrid.2.1 181 = .ok (.iconst 1, 1) := by decide +kernel
theorem d_M_readGrid_182 : decode mi_M_readGrid.2.1 182 = .ok (.goto 14, 3) := by decide +kernel
theorem d_M_readGrid_185 : decode mi_M_readGrid.2.1 185 = .ok (.iload_n 3, 1) := by decide +kernel
theorem d_M_readGrid_186 : decode mi_M_readGrid.2.1 186 = .ok (.bipush 112, 2) := by decide +kernel
theorem d_M_readGrid_188 : decode mi_M_readGrid.2.1 188 = .ok (.if_icmp .ne 7, 3) := by decide +kernel
theorem d_M_readGrid_191 : decode mi_M_readGrid.2.1 191 = .ok (.iconst 2, 1) := by decide +kernel
theorem d_M_readGrid_192 : decode mi_M_readGrid.2.1 192 = .ok (.goto 4, 3) := by decide +kernel
theorem d_M_readGrid_195 : decode mi_M_readGrid.2.1 195 = .ok (.iconst 0, 1) := by decide +kernel
theorem d_M_readGrid_196 : decode mi_M_readGrid.2.1 196 = .ok (.iastore, 1) := by decide +kernel
theorem d_M_readGrid_197 : decode mi_M_readGrid.2.1 197 = .ok (.iinc 1 1, 3) := by decide +kernel
theorem d_M_readGrid_200 : decode mi_M_readGrid.2.1 200 = .ok (.goto 26, 3) := by decide +kernel
theorem d_M_readGrid_203 : decode mi_M_readGrid.2.1 203 = .ok (.iload_n 3, 1) := by decide +kernel
theorem d_M_readGrid_204 : decode mi_M_readGrid.2.1 204 = .ok (.bipush 59, 2) := by decide +kernel
theorem d_M_readGrid_206 : decode mi_M_readGrid.2.1 206 = .ok (.if_icmp .ne 20, 3) := by decide +kernel
theorem d_M_readGrid_209 : decode mi_M_readGrid.2.1 209 = .ok (.aload_n 0, 1) := by decide +kernel
theorem d_M_readGrid_210 : decode mi_M_readGrid.2.1 210 = .ok (.iload_n 1, 1) := by decide +kernel
theorem d_M_readGrid_211 : decode mi_M_readGrid.2.1 211 = .ok (.putfield 74, 3) := by decide +kernel
theorem d_M_readGrid_214 : decode mi_M_readGrid.2.1 214 = .ok (.aload_n 0, 1) := by decide +kernel
theorem d_M_readGrid_215 : decode mi_M_readGrid.2.1 215 = .ok (.dup, 1) := by decide +kernel
theorem d_M_readGrid_216 : decode mi_M_readGrid.2.1 216 = .ok (.getfield 71, 3) := by decide +kernel
theorem d_M_readGrid_219 : decode mi_M_readGrid.2.1 219 = .ok (.iconst 1, 1) := by decide +kernel
theorem d_M_readGrid_220 : decode mi_M_readGrid.2.1 220 = .ok (.iadd, 1) := by decide +kernel
theorem d_M_readGrid_221 : decode mi_M_readGrid.2.1 221 = .ok (.putfield 71, 3) := by decide +kernel
theorem d_M_readGrid_224 : decode mi_M_readGrid.2.1 224 = .ok (.iconst 0, 1) := by decide +kernel
theorem d_M_readGrid_225 : decode mi_M_readGrid.2.1 225 = .ok (.istore_n 1, 1) := by decide +kernel
theorem d_M_readGrid_226 : decode mi_M_readGrid.2.1 226 = .ok (.iinc 2 1, 3) := by decide +kernel
theorem d_M_readGrid_229 : decode mi_M_readGrid.2.1 229 = .ok (.goto (-194), 3) := by decide +kernel
theorem d_M_readGrid_232 : decode mi_M_readGrid.2.1 232 = .ok (.iload_n 1, 1) := by decide +kernel
theorem d_M_readGrid_233 : decode mi_M_readGrid.2.1 233 = .ok (.ifCond .gt 10, 3) := by decide +kernel
theorem d_M_readGrid_236 : decode mi_M_readGrid.2.1 236 = .ok (.aload_n 0, 1) := by decide +kernel
theorem d_M_readGrid_237 : decode mi_M_readGrid.2.1 237 = .ok (.getfield 71, 3) := by decide +kernel
theorem d_M_readGrid_240 : decode mi_M_readGrid.2.1 240 = .ok (.ifCond .ne 10, 3) := by decide +kernel
theorem d_M_readGrid_243 : decode mi_M_readGrid.2.1 243 = .ok (.aload_n 0, 1) := by decide +kernel
theorem d_M_readGrid_244 : decode mi_M_readGrid.2.1 244 = .ok (.getfield 68, 3) := by decide +kernel
theorem d_M_readGrid_247 : decode mi_M_readGrid.2.1 247 = .ok (.goto 5, 3) := by decide +kernel
theorem d_M_readGrid_250 : decode mi_M_readGrid.2.1 250 = .ok (.bipush (-9), 2) := by decide +kernel
theorem d_M_readGrid_252 : decode mi_M_readGrid.2.1 252 = .ok (.ireturn, 1) := by decide +kernel
theorem d_M_loadGrid_0 : decode mi_M_loadGrid.2.1 0 = .ok (.aload_n 0, 1) := by decide +kernel
theorem d_M_loadGrid_1 : decode mi_M_loadGrid.2.1 1 = .ok (.invokevirtual 77, 3) := by decide +kernel
theorem d_M_loadGrid_4 : decode mi_M_loadGrid.2.1 4 = .ok (.istore_n 1, 1) := by decide +kernel
theorem d_M_loadGrid_5 : decode mi_M_loadGrid.2.1 5 = .ok (.iload_n 1, 1) := by decide +kernel
theorem d_M_loadGrid_6 : decode mi_M_loadGrid.2.1 6 = .ok (.bipush (-9), 2) := by decide +kernel
theorem d_M_loadGrid_8 : decode mi_M_loadGrid.2.1 8 = .ok (.if_icmp .eq 8, 3) := by decide +kernel
theorem d_M_loadGrid_11 : decode mi_M_loadGrid.2.1 11 = .ok (.bipush (-10), 2) := by decide +kernel
theorem d_M_loadGrid_13 : decode mi_M_loadGrid.2.1 13 = .ok (.iload_n 1, 1) := by decide +kernel
theorem d_M_loadGrid_14 : decode mi_M_loadGrid.2.1 14 = .ok (.isub, 1) := by decide +kernel
theorem d_M_loadGrid_15 : decode mi_M_loadGrid.2.1 15 = .ok (.ireturn, 1) := by decide +kernel
theorem d_M_loadGrid_16 : decode mi_M_loadGrid.2.1 16 = .ok (.aload_n 0, 1) := by decide +kernel
theorem d_M_loadGrid_17 : decode mi_M_loadGrid.2.1 17 = .ok (.invokevirtual 81, 3) := by decide +kernel
theorem d_M_loadGrid_20 : decode mi_M_loadGrid.2.1 20 = .ok (.aload_n 0, 1) := by decide +kernel
theorem d_M_loadGrid_21 : decode mi_M_loadGrid.2.1 21 = .ok (.getfield 7, 3) := by decide +kernel
theorem d_M_loadGrid_24 : decode mi_M_loadGrid.2.1 24 = .ok (.iconst 0, 1) := by decide +kernel
theorem d_M_loadGrid_25 : decode mi_M_loadGrid.2.1 25 = .ok (.aload_n 0, 1) := by decide +kernel
theorem d_M_loadGrid_26 : decode mi_M_loadGrid.2.1 26 = .ok (.getfield 71, 3) := by decide +kernel
theorem d_M_loadGrid_29 : decode mi_M_loadGrid.2.1 29 = .ok (.iastore, 1) := by decide +kernel
theorem d_M_loadGrid_30 : decode mi_M_loadGrid.2.1 30 = .ok (.aload_n 0, 1) := by decide +kernel
theorem d_M_loadGrid_31 : decode mi_M_loadGrid.2.1 31 = .ok (.getfield 7, 3) := by decide +kernel
theorem d_M_loadGrid_34 : decode mi_M_loadGrid.2.1 34 = .ok (.iconst 1, 1) := by decide +kernel
theorem d_M_loadGrid_35 : decode mi_M_loadGrid.2.1 35 = .ok (.aload_n 0, 1) := by decide +kernel
theorem d_M_loadGrid_36 : decode mi_M_loadGrid.2.1 36 = .ok (.getfield 74, 3) := by decide +kernel
theorem d_M_loadGrid_39 : decode mi_M_loadGrid.2.1 39 = .ok (.iastore, 1) := by decide +kernel
theorem d_M_loadGrid_40 : decode mi_M_loadGrid.2.1 40 = .ok (.iconst 0, 1) := by decide +kernel
theorem d_M_loadGrid_41 : decode mi_M_loadGrid.2.1 41 = .ok (.istore_n 2, 1) := by decide +kernel
theorem d_M_loadGrid_42 : decode mi_M_loadGrid.2.1 42 = .ok (.iload_n 2, 1) := by decide +kernel
theorem d_M_loadGrid_43 : decode mi_M_loadGrid.2.1 43 = .ok (.bipush 36, 2) := by decide +kernel
theorem d_M_loadGrid_45 : decode mi_M_loadGrid.2.1 45 = .ok (.if_icmp .ge 43, 3) := by decide +kernel
theorem d_M_loadGrid_48 : decode mi_M_loadGrid.2.1 48 = .ok (.aload_n 0, 1) := by decide +kernel
theorem d_M_loadGrid_49 : decode mi_M_loadGrid.2.1 49 = .ok (.getfield 7, 3) := by decide +kernel
theorem d_M_loadGrid_52 : decode mi_M_loadGrid.2.1 52 = .ok (.iconst 4, 1) := by decide +kernel
theorem d_M_loadGrid_53 : decode mi_M_loadGrid.2.1 53 = .ok (.iload_n 2, 1) := by decide +kernel
theorem d_M_loadGrid_54 : decode mi_M_loadGrid.2.1 54 = .ok (.iadd, 1) := by decide +kernel
theorem d_M_loadGrid_55 : decode mi_M_loadGrid.2.1 55 = .ok (.aload_n 0, 1) := by decide +kernel
theorem d_M_loadGrid_56 : decode mi_M_loadGrid.2.1 56 = .ok (.getfield 20, 3) := by decide +kernel
theorem d_M_loadGrid_59 : decode mi_M_loadGrid.2.1 59 = .ok (.iload_n 2, 1) := by decide +kernel
theorem d_M_loadGrid_60 : decode mi_M_loadGrid.2.1 60 = .ok (.iaload, 1) := by decide +kernel
theorem d_M_loadGrid_61 : decode mi_M_loadGrid.2.1 61 = .ok (.iastore, 1) := by decide +kernel
theorem d_M_loadGrid_62 : decode mi_M_loadGrid.2.1 62 = .ok (.aload_n 0, 1) := by decide +kernel
theorem d_M_loadGrid_63 : decode mi_M_loadGrid.2.1 63 = .ok (.getfield 7, 3) := by decide +kernel
theorem d_M_loadGrid_66 : decode mi_M_loadGrid.2.1 66 = .ok (.bipush 40, 2) := by decide +kernel
theorem d_M_loadGrid_68 : decode mi_M_loadGrid.2.1 68 = .ok (.iload_n 2, 1) := by decide +kernel
theorem d_M_loadGrid_69 : decode mi_M_loadGrid.2.1 69 = .ok (.iadd, 1) := by decide +kernel
theorem d_M_loadGrid_70 : decode mi_M_loadGrid.2.1 70 = .ok (.iconst 0, 1) := by decide +kernel
theorem d_M_loadGrid_71 : decode mi_M_loadGrid.2.1 71 = .ok (.iastore, 1) := by decide +kernel
theorem d_M_loadGrid_72 : decode mi_M_loadGrid.2.1 72 = .ok (.aload_n 0, 1) := by decide +kernel
theorem d_M_loadGrid_73 : decode mi_M_loadGrid.2.1 73 = .ok (.getfield 7, 3) := by decide +kernel
theorem d_M_loadGrid_76 : decode mi_M_loadGrid.2.1 76 = .ok (.bipush 76, 2) := by decide +kernel
theorem d_M_loadGrid_78 : decode mi_M_loadGrid.2.1 78 = .ok (.iload_n 2, 1) := by decide +kernel
theorem d_M_loadGrid_79 : decode mi_M_loadGrid.2.1 79 = .ok (.iadd, 1) := by decide +kernel
theorem d_M_loadGrid_80 : decode mi_M_loadGrid.2.1 80 = .ok (.iconst 0, 1) := by decide +kernel
theorem d_M_loadGrid_81 : decode mi_M_loadGrid.2.1 81 = .ok (.iastore, 1) := by decide +kernel
theorem d_M_loadGrid_82 : decode mi_M_loadGrid.2.1 82 = .ok (.iinc 2 1, 3) := by decide +kernel
theorem d_M_loadGrid_85 : decode mi_M_loadGrid.2.1 85 = .ok (.goto (-43), 3) := by decide +kernel
theorem d_M_loadGrid_88 : decode mi_M_loadGrid.2.1 88 = .ok (.aload_n 0, 1) := by decide +kernel
theorem d_M_loadGrid_89 : decode mi_M_loadGrid.2.1 89 = .ok (.iconst 0, 1) := by decide +kernel
theorem d_M_loadGrid_90 : decode mi_M_loadGrid.2.1 90 = .ok (.putfield 68, 3) := by decide +kernel
theorem d_M_loadGrid_93 : decode mi_M_loadGrid.2.1 93 = .ok (.aload_n 0, 1) := by decide +kernel
theorem d_M_loadGrid_94 : decode mi_M_loadGrid.2.1 94 = .ok (.invokevirtual 84, 3) := by decide +kernel
theorem d_M_loadGrid_97 : decode mi_M_loadGrid.2.1 97 = .ok (.ireturn, 1) := by decide +kernel
theorem d_M_isPosition_0 : decode mi_M_isPosition.2.1 0 = .ok (.iload_n 1, 1) := by decide +kernel
theorem d_M_isPosition_1 : decode mi_M_isPosition.2.1 1 = .ok (.iconst 0, 1) := by decide +kernel
theorem d_M_isPosition_2 : decode mi_M_isPosition.2.1 2 = .ok (.aload_n 0, 1) := by decide +kernel
theorem d_M_isPosition_3 : decode mi_M_isPosition.2.1 3 = .ok (.getfield 7, 3) := by decide +kernel
theorem d_M_isPosition_6 : decode mi_M_isPosition.2.1 6 = .ok (.iconst 0, 1) := by decide +kernel
theorem d_M_isPosition_7 : decode mi_M_isPosition.2.1 7 = .ok (.iaload, 1) := by decide +kernel
theorem d_M_isPosition_8 : decode mi_M_isPosition.2.1 8 = .ok (.iconst 1, 1) := by decide +kernel
theorem d_M_isPosition_9 : decode mi_M_isPosition.2.1 9 = .ok (.isub, 1) := by decide +kernel
theorem d_M_isPosition_10 : decode mi_M_isPosition.2.1 10 = .ok (.invokestatic 64, 3) := by decide +kernel
theorem d_M_isPosition_13 : decode mi_M_isPosition.2.1 13 = .ok (.ifCond .eq 23, 3) := by decide +kernel
theorem d_M_isPosition_16 : decode mi_M_isPosition.2.1 16 = .ok (.iload_n 2, 1) := by decide +kernel
theorem d_M_isPosition_17 : decode mi_M_isPosition.2.1 17 = .ok (.iconst 0, 1) := by decide +kernel
theorem d_M_isPosition_18 : decode mi_M_isPosition.2.1 18 = .ok (.aload_n 0, 1) := by decide +kernel
theorem d_M_isPosition_19 : decode mi_M_isPosition.2.1 19 = .ok (.getfield 7, 3) := by decide +kernel
theorem d_M_isPosition_22 : decode mi_M_isPosition.2.1 22 = .ok (.iconst 1, 1) := by decide +kernel
theorem d_M_isPosition_23 : decode mi_M_isPosition.2.1 23 = .ok (.iaload, 1) := by decide +kernel
theorem d_M_isPosition_24 : decode mi_M_isPosition.2.1 24 = .ok (.iconst 1, 1) := by decide +kernel
theorem d_M_isPosition_25 : decode mi_M_isPosition.2.1 25 = .ok (.isub, 1) := by decide +kernel
theorem d_M_isPosition_26 : decode mi_M_isPosition.2.1 26 = .ok (.invokestatic 64, 3) := by decide +kernel
theorem d_M_isPosition_29 : decode mi_M_isPosition.2.1 29 = .ok (.ifCond .eq 7, 3) := by decide +kernel
theorem d_M_isPosition_32 : decode mi_M_isPosition.2.1 32 = .ok (.iconst 1, 1) := by decide +kernel
theorem d_M_isPosition_33 : decode mi_M_isPosition.2.1 33 = .ok (.goto 4, 3) := by decide +kernel
theorem d_M_isPosition_36 : decode mi_M_isPosition.2.1 36 = .ok (.iconst 0, 1) := by decide +kernel
theorem d_M_isPosition_37 : decode mi_M_isPosition.2.1 37 = .ok (.ireturn, 1) := by decide +kernel
theorem d_M_signals_0 : decode mi_M_signals.2.1 0 = .ok (.iconst 0, 1) := by decide +kernel
theorem d_M_signals_1 : decode mi_M_signals.2.1 1 = .ok (.istore_n 1, 1) := by decide +kernel
theorem d_M_signals_2 : decode mi_M_signals.2.1 2 = .ok (.iconst 0, 1) := by decide +kernel
theorem d_M_signals_3 : decode mi_M_signals.2.1 3 = .ok (.istore_n 2, 1) := by decide +kernel
theorem d_M_signals_4 : decode mi_M_signals.2.1 4 = .ok (.iload_n 2, 1) := by decide +kernel
theorem d_M_signals_5 : decode mi_M_signals.2.1 5 = .ok (.bipush 36, 2) := by decide +kernel
theorem d_M_signals_7 : decode mi_M_signals.2.1 7 = .ok (.if_icmp .ge 29, 3) := by decide +kernel
theorem d_M_signals_10 : decode mi_M_signals.2.1 10 = .ok (.iload_n 1, 1) := by decide +kernel
theorem d_M_signals_11 : decode mi_M_signals.2.1 11 = .ok (.aload_n 0, 1) := by decide +kernel
theorem d_M_signals_12 : decode mi_M_signals.2.1 12 = .ok (.getfield 7, 3) := by decide +kernel
theorem d_M_signals_15 : decode mi_M_signals.2.1 15 = .ok (.iconst 4, 1) := by decide +kernel
theorem d_M_signals_16 : decode mi_M_signals.2.1 16 = .ok (.iload_n 2, 1) := by decide +kernel
theorem d_M_signals_17 : decode mi_M_signals.2.1 17 = .ok (.iadd, 1) := by decide +kernel
theorem d_M_signals_18 : decode mi_M_signals.2.1 18 = .ok (.iaload, 1) := by decide +kernel
theorem d_M_signals_19 : decode mi_M_signals.2.1 19 = .ok (.iconst 1, 1) := by decide +kernel
theorem d_M_signals_20 : decode mi_M_signals.2.1 20 = .ok (.if_icmp .ne 7, 3) := by decide +kernel
theorem d_M_signals_23 : decode mi_M_signals.2.1 23 = .ok (.iconst 1, 1) := by decide +kernel
theorem d_M_signals_24 : decode mi_M_signals.2.1 24 = .ok (.goto 4, 3) := by decide +kernel
theorem d_M_signals_27 : decode mi_M_signals.2.1 27 = .ok (.iconst 0, 1) := by decide +kernel
theorem d_M_signals_28 : decode mi_M_signals.2.1 28 = .ok (.iadd, 1) := by decide +kernel
theorem d_M_signals_29 : decode mi_M_signals.2.1 29 = .ok (.istore_n 1, 1) := by decide +kernel
theorem d_M_signals_30 : decode mi_M_signals.2.1 30 = .ok (.iinc 2 1, 3) := by decide +kernel
theorem d_M_signals_33 : decode mi_M_signals.2.1 33 = .ok (.goto (-29), 3) := by decide +kernel
theorem d_M_signals_36 : decode mi_M_signals.2.1 36 = .ok (.iload_n 1, 1) := by decide +kernel
theorem d_M_signals_37 : decode mi_M_signals.2.1 37 = .ok (.ireturn, 1) := by decide +kernel
theorem d_M_unpair_0 : decode mi_M_unpair.2.1 0 = .ok (.aload_n 0, 1) := by decide +kernel
theorem d_M_unpair_1 : decode mi_M_unpair.2.1 1 = .ok (.getfield 7, 3) := by decide +kernel
theorem d_M_unpair_4 : decode mi_M_unpair.2.1 4 = .ok (.bipush 40, 2) := by decide +kernel
theorem d_M_unpair_6 : decode mi_M_unpair.2.1 6 = .ok (.iload_n 1, 1) := by decide +kernel
theorem d_M_unpair_7 : decode mi_M_unpair.2.1 7 = .ok (.iadd, 1) := by decide +kernel
theorem d_M_unpair_8 : decode mi_M_unpair.2.1 8 = .ok (.iaload, 1) := by decide +kernel
theorem d_M_unpair_9 : decode mi_M_unpair.2.1 9 = .ok (.ifCond .le 33, 3) := by decide +kernel
theorem d_M_unpair_12 : decode mi_M_unpair.2.1 12 = .ok (.aload_n 0, 1) := by decide +kernel
theorem d_M_unpair_13 : decode mi_M_unpair.2.1 13 = .ok (.getfield 7, 3) := by decide +kernel
theorem d_M_unpair_16 : decode mi_M_unpair.2.1 16 = .ok (.bipush 40, 2) := by decide +kernel
theorem d_M_unpair_18 : decode mi_M_unpair.2.1 18 = .ok (.aload_n 0, 1) := by decide +kernel
theorem d_M_unpair_19 : decode mi_M_unpair.2.1 19 = .ok (.getfield 7, 3) := by decide +kernel
theorem d_M_unpair_22 : decode mi_M_unpair.2.1 22 = .ok (.bipush 40, 2) := by decide +kernel
theorem d_M_unpair_24 : decode mi_M_unpair.2.1 24 = .ok (.iload_n 1, 1) := by decide +kernel
theorem d_M_unpair_25 : decode mi_M_unpair.2.1 25 = .ok (.iadd, 1) := by decide +kernel
theorem d_M_unpair_26 : decode mi_M_unpair.2.1 26 = .ok (.iaload, 1) := by decide +kernel
theorem d_M_unpair_27 : decode mi_M_unpair.2.1 27 = .ok (.iadd, 1) := by decide +kernel
theorem d_M_unpair_28 : decode mi_M_unpair.2.1 28 = .ok (.iconst 1, 1) := by decide +kernel
theorem d_M_unpair_29 : decode mi_M_unpair.2.1 29 = .ok (.isub, 1) := by decide +kernel
theorem d_M_unpair_30 : decode mi_M_unpair.2.1 30 = .ok (.iconst 0, 1) := by decide +kernel
theorem d_M_unpair_31 : decode mi_M_unpair.2.1 31 = .ok (.iastore, 1) := by decide +kernel
theorem d_M_unpair_32 : decode mi_M_unpair.2.1 32 = .ok (.aload_n 0, 1) := by decide +kernel
theorem d_M_unpair_33 : decode mi_M_unpair.2.1 33 = .ok (.getfield 7, 3) := by decide +kernel
theorem d_M_unpair_36 : decode mi_M_unpair.2.1 36 = .ok (.bipush 40, 2) := by decide +kernel
theorem d_M_unpair_38 : decode mi_M_unpair.2.1 38 = .ok (.iload_n 1, 1) := by decide +kernel
theorem d_M_unpair_39 : decode mi_M_unpair.2.1 39 = .ok (.iadd, 1) := by decide +kernel
theorem d_M_unpair_40 : decode mi_M_unpair.2.1 40 = .ok (.iconst 0, 1) := by decide +kernel
theorem d_M_unpair_41 : decode mi_M_unpair.2.1 41 = .ok (.iastore, 1) := by decide +kernel
theorem d_M_unpair_42 : decode mi_M_unpair.2.1 42 = .ok (.return_, 1) := by decide +kernel
theorem d_M_setKind_0 : decode mi_M_setKind.2.1 0 = .ok (.aload_n 0, 1) := by decide +kernel
theorem d_M_setKind_1 : decode mi_M_setKind.2.1 1 = .ok (.iload_n 1, 1) := by decide +kernel
theorem d_M_setKind_2 : decode mi_M_setKind.2.1 2 = .ok (.iload_n 2, 1) := by decide +kernel
theorem d_M_setKind_3 : decode mi_M_setKind.2.1 3 = .ok (.invokevirtual 87, 3) := by decide +kernel
theorem d_M_setKind_6 : decode mi_M_setKind.2.1 6 = .ok (.ifCond .eq 12, 3) := by decide +kernel
theorem d_M_setKind_9 : decode mi_M_setKind.2.1 9 = .ok (.iload_n 3, 1) := by decide +kernel
theorem d_M_setKind_10 : decode mi_M_setKind.2.1 10 = .ok (.iconst 0, 1) := by decide +kernel
theorem d_M_setKind_11 : decode mi_M_setKind.2.1 11 = .ok (.iconst 2, 1) := by decide +kernel
theorem d_M_setKind_12 : decode mi_M_setKind.2.1 12 = .ok (.invokestatic 64, 3) := by decide +kernel
theorem d_M_setKind_15 : decode mi_M_setKind.2.1 15 = .ok (.ifCond .ne 5, 3) := by decide +kernel
theorem d_M_setKind_18 : decode mi_M_setKind.2.1 18 = .ok (.iconst (-1), 1) := by decide +kernel
theorem d_M_setKind_19 : decode mi_M_setKind.2.1 19 = .ok (.ireturn, 1) := by decide +kernel
theorem d_M_setKind_20 : decode mi_M_setKind.2.1 20 = .ok (.bipush 6, 2) := by decide +kernel
theorem d_M_setKind_22 : decode mi_M_setKind.2.1 22 = .ok (.iload_n 1, 1) := by decide +kernel
theorem d_M_setKind_23 : decode mi_M_setKind.2.1 23 = .ok (.imul, 1) := by decide +kernel
theorem d_M_setKind_24 : decode mi_M_setKind.2.1 24 = .ok (.iload_n 2, 1) := by decide +kernel
theorem d_M_setKind_25 : decode mi_M_setKind.2.1 25 = .ok (.iadd, 1) := by decide +kernel
theorem d_M_setKind_26 : decode mi_M_setKind.2.1 26 = .ok (.istore 4, 2) := by decide +kernel
theorem d_M_setKind_28 : decode mi_M_setKind.2.1 28 = .ok (.aload_n 0, 1) := by decide +kernel
theorem d_M_setKind_29 : decode mi_M_setKind.2.1 29 = .ok (.getfield 7, 3) := by decide +kernel
theorem d_M_setKind_32 : decode mi_M_setKind.2.1 32 = .ok (.iconst 4, 1) := by decide +kernel
theorem d_M_setKind_33 : decode mi_M_setKind.2.1 33 = .ok (.iload 4, 2) := by decide +kernel
theorem d_M_setKind_35 : decode mi_M_setKind.2.1 35 = .ok (.iadd, 1) := by decide +kernel
theorem d_M_setKind_36 : decode mi_M_setKind.2.1 36 = .ok (.iaload, 1) := by decide +kernel
theorem d_M_setKind_37 : decode mi_M_setKind.2.1 37 = .ok (.istore 5, 2) := by decide +kernel
theorem d_M_setKind_39 : decode mi_M_setKind.2.1 39 = .ok (.iload 5, 2) := by decide +kernel
theorem d_M_setKind_41 : decode mi_M_setKind.2.1 41 = .ok (.iload_n 3, 1) := by decide +kernel
theorem d_M_setKind_42 : decode mi_M_setKind.2.1 42 = .ok (.if_icmp .ne 6, 3) := by decide +kernel
theorem d_M_setKind_45 : decode mi_M_setKind.2.1 45 = .ok (.bipush (-2), 2) := by decide +kernel
theorem d_M_setKind_47 : decode mi_M_setKind.2.1 47 = .ok (.ireturn, 1) := by decide +kernel
theorem d_M_setKind_48 : decode mi_M_setKind.2.1 48 = .ok (.aload_n 0, 1) := by decide +kernel
theorem d_M_setKind_49 : decode mi_M_setKind.2.1 49 = .ok (.invokevirtual 81, 3) := by decide +kernel
theorem d_M_setKind_52 : decode mi_M_setKind.2.1 52 = .ok (.aload_n 0, 1) := by decide +kernel
theorem d_M_setKind_53 : decode mi_M_setKind.2.1 53 = .ok (.getfield 7, 3) := by decide +kernel
theorem d_M_setKind_56 : decode mi_M_setKind.2.1 56 = .ok (.iconst 4, 1) := by decide +kernel
theorem d_M_setKind_57 : decode mi_M_setKind.2.1 57 = .ok (.iload 4, 2) := by decide +kernel
theorem d_M_setKind_59 : decode mi_M_setKind.2.1 59 = .ok (.iadd, 1) := by decide +kernel
theorem d_M_setKind_60 : decode mi_M_setKind.2.1 60 = .ok (.iload_n 3, 1) := by decide +kernel
theorem d_M_setKind_61 : decode mi_M_setKind.2.1 61 = .ok (.iastore, 1) := by decide +kernel
theorem d_M_setKind_62 : decode mi_M_setKind.2.1 62 = .ok (.aload_n 0, 1) := by decide +kernel
theorem d_M_setKind_63 : decode mi_M_setKind.2.1 63 = .ok (.iload 4, 2) := by decide +kernel
theorem d_M_setKind_65 : decode mi_M_setKind.2.1 65 = .ok (.invokevirtual 91, 3) := by decide +kernel
theorem d_M_setKind_68 : decode mi_M_setKind.2.1 68 = .ok (.aload_n 0, 1) := by decide +kernel
theorem d_M_setKind_69 : decode mi_M_setKind.2.1 69 = .ok (.getfield 7, 3) := by decide +kernel
theorem d_M_setKind_72 : decode mi_M_setKind.2.1 72 = .ok (.bipush 76, 2) := by decide +kernel
theorem d_M_setKind_74 : decode mi_M_setKind.2.1 74 = .ok (.iload 4, 2) := by decide +kernel
theorem d_M_setKind_76 : decode mi_M_setKind.2.1 76 = .ok (.iadd, 1) := by decide +kernel
theorem d_M_setKind_77 : decode mi_M_setKind.2.1 77 = .ok (.iconst 0, 1) := by decide +kernel
theorem d_M_setKind_78 : decode mi_M_setKind.2.1 78 = .ok (.iastore, 1) := by decide +kernel
theorem d_M_setKind_79 : decode mi_M_setKind.2.1 79 = .ok (.iload 5, 2) := by decide +kernel
theorem d_M_setKind_81 : decode mi_M_setKind.2.1 81 = .ok (.ireturn, 1) := by decide +kernel
theorem d_M_setChannelCapacity_0 : decode mi_M_setChannelCapacity.2.1 0 = .ok (.iload_n 1, 1) := by decide +kernel
theorem d_M_setChannelCapacity_1 : decode mi_M_setChannelCapacity.2.1 1 = .ok (.iconst 0, 1) := by decide +kernel
theorem d_M_setChannelCapacity_2 : decode mi_M_setChannelCapacity.2.1 2 = .ok (.iconst 5, 1) := by decide +kernel
theorem d_M_setChannelCapacity_3 : decode mi_M_setChannelCapacity.2.1 3 = .ok (.invokestatic 64, 3) := by decide +kernel
theorem d_M_setChannelCapacity_6 : decode mi_M_setChannelCapacity.2.1 6 = .ok (.ifCond .ne 5, 3) := by decide +kernel
theorem d_M_setChannelCapacity_9 : decode mi_M_setChannelCapacity.2.1 9 = .ok (.iconst (-1), 1) := by decide +kernel
theorem d_M_setChannelCapacity_10 : decode mi_M_setChannelCapacity.2.1 10 = .ok (.ireturn, 1) := by decide +kernel
theorem d_M_setChannelCapacity_11 : decode mi_M_setChannelCapacity.2.1 11 = .ok (.aload_n 0, 1) := by decide +kernel
theorem d_M_setChannelCapacity_12 : decode mi_M_setChannelCapacity.2.1 12 = .ok (.invokevirtual 81, 3) := by decide +kernel
theorem d_M_setChannelCapacity_15 : decode mi_M_setChannelCapacity.2.1 15 = .ok (.aload_n 0, 1) := by decide +kernel
theorem d_M_setChannelCapacity_16 : decode mi_M_setChannelCapacity.2.1 16 = .ok (.getfield 7, 3) := by decide +kernel
theorem d_M_setChannelCapacity_19 : decode mi_M_setChannelCapacity.2.1 19 = .ok (.iconst 2, 1) := by decide +kernel
theorem d_M_setChannelCapacity_20 : decode mi_M_setChannelCapacity.2.1 20 = .ok (.iaload, 1) := by decide +kernel
theorem d_M_setChannelCapacity_21 : decode mi_M_setChannelCapacity.2.1 21 = .ok (.istore_n 2, 1) := by decide +kernel
theorem d_M_setChannelCapacity_22 : decode mi_M_setChannelCapacity.2.1 22 = .ok (.aload_n 0, 1) := by decide +kernel
theorem d_M_setChannelCapacity_23 : decode mi_M_setChannelCapacity.2.1 23 = .ok (.getfield 7, 3) := by decide +kernel
theorem d_M_setChannelCapacity_26 : decode mi_M_setChannelCapacity.2.1 26 = .ok (.iconst 2, 1) := by decide +kernel
theorem d_M_setChannelCapacity_27 : decode mi_M_setChannelCapacity.2.1 27 = .ok (.iload_n 1, 1) := by decide +kernel
theorem d_M_setChannelCapacity_28 : decode mi_M_setChannelCapacity.2.1 28 = .ok (.iastore, 1) := by decide +kernel
theorem d_M_setChannelCapacity_29 : decode mi_M_setChannelCapacity.2.1 29 = .ok (.iload_n 2, 1) := by decide +kernel
theorem d_M_setChannelCapacity_30 : decode mi_M_setChannelCapacity.2.1 30 = .ok (.ireturn, 1) := by decide +kernel
theorem d_M_setTileCapacity_0 : decode mi_M_setTileCapacity.2.1 0 = .ok (.iload_n 1, 1) := by decide +kernel
theorem d_M_setTileCapacity_1 : decode mi_M_setTileCapacity.2.1 1 = .ok (.iconst 0, 1) := by decide +kernel
theorem d_M_setTileCapacity_2 : decode mi_M_setTileCapacity.2.1 2 = .ok (.bipush 9, 2) := by decide +kernel
theorem d_M_setTileCapacity_4 : decode mi_M_setTileCapacity.2.1 4 = .ok (.invokestatic 64, 3) := by decide +kernel
theorem d_M_setTileCapacity_7 : decode mi_M_setTileCapacity.2.1 7 = .ok (.ifCond .ne 5, 3) := by decide +kernel
theorem d_M_setTileCapacity_10 : decode mi_M_setTileCapacity.2.1 10 = .ok (.iconst (-1), 1) := by decide +kernel
theorem d_M_setTileCapacity_11 : decode mi_M_setTileCapacity.2.1 11 = .ok (.ireturn, 1) := by decide +kernel
theorem d_M_setTileCapacity_12 : decode mi_M_setTileCapacity.2.1 12 = .ok (.aload_n 0, 1) := by decide +kernel
theorem d_M_setTileCapacity_13 : decode mi_M_setTileCapacity.2.1 13 = .ok (.invokevirtual 81, 3) := by decide +kernel
theorem d_M_setTileCapacity_16 : decode mi_M_setTileCapacity.2.1 16 = .ok (.aload_n 0, 1) := by decide +kernel
theorem d_M_setTileCapacity_17 : decode mi_M_setTileCapacity.2.1 17 = .ok (.getfield 7, 3) := by decide +kernel
theorem d_M_setTileCapacity_20 : decode mi_M_setTileCapacity.2.1 20 = .ok (.iconst 3, 1) := by decide +kernel
theorem d_M_setTileCapacity_21 : decode mi_M_setTileCapacity.2.1 21 = .ok (.iaload, 1) := by decide +kernel
theorem d_M_setTileCapacity_22 : decode mi_M_setTileCapacity.2.1 22 = .ok (.istore_n 2, 1) := by decide +kernel
theorem d_M_setTileCapacity_23 : decode mi_M_setTileCapacity.2.1 23 = .ok (.aload_n 0, 1) := by decide +kernel
theorem d_M_setTileCapacity_24 : decode mi_M_setTileCapacity.2.1 24 = .ok (.getfield 7, 3) := by decide +kernel
theorem d_M_setTileCapacity_27 : decode mi_M_setTileCapacity.2.1 27 = .ok (.iconst 3, 1) := by decide +kernel
theorem d_M_setTileCapacity_28 : decode mi_M_setTileCapacity.2.1 28 = .ok (.iload_n 1, 1) := by decide +kernel
theorem d_M_setTileCapacity_29 : decode mi_M_setTileCapacity.2.1 29 = .ok (.iastore, 1) := by decide +kernel
theorem d_M_setTileCapacity_30 : decode mi_M_setTileCapacity.2.1 30 = .ok (.iload_n 2, 1) := by decide +kernel
theorem d_M_setTileCapacity_31 : decode mi_M_setTileCapacity.2.1 31 = .ok (.ireturn, 1) := by decide +kernel
theorem d_M_rows_0 : decode mi_M_rows.2.1 0 = .ok (.aload_n 0, 1) := by decide +kernel
theorem d_M_rows_1 : decode mi_M_rows.2.1 1 = .ok (.getfield 7, 3) := by decide +kernel
theorem d_M_rows_4 : decode mi_M_rows.2.1 4 = .ok (.iconst 0, 1) := by decide +kernel
theorem d_M_rows_5 : decode mi_M_rows.2.1 5 = .ok (.iaload, 1) := by decide +kernel
theorem d_M_rows_6 : decode mi_M_rows.2.1 6 = .ok (.ireturn, 1) := by decide +kernel
theorem d_M_columns_0 : decode mi_M_columns.2.1 0 = .ok (.aload_n 0, 1) := by decide +kernel
theorem d_M_columns_1 : decode mi_M_columns.2.1 1 = .ok (.getfield 7, 3) := by decide +kernel
theorem d_M_columns_4 : decode mi_M_columns.2.1 4 = .ok (.iconst 1, 1) := by decide +kernel
theorem d_M_columns_5 : decode mi_M_columns.2.1 5 = .ok (.iaload, 1) := by decide +kernel
theorem d_M_columns_6 : decode mi_M_columns.2.1 6 = .ok (.ireturn, 1) := by decide +kernel
theorem d_M_kindAt_0 : decode mi_M_kindAt.2.1 0 = .ok (.aload_n 0, 1) := by decide +kernel
theorem d_M_kindAt_1 : decode mi_M_kindAt.2.1 1 = .ok (.iload_n 1, 1) := by decide +kernel
theorem d_M_kindAt_2 : decode mi_M_kindAt.2.1 2 = .ok (.iload_n 2, 1) := by decide +kernel
theorem d_M_kindAt_3 : decode mi_M_kindAt.2.1 3 = .ok (.invokevirtual 87, 3) := by decide +kernel
theorem d_M_kindAt_6 : decode mi_M_kindAt.2.1 6 = .ok (.ifCond .eq 19, 3) := by decide +kernel
theorem d_M_kindAt_9 : decode mi_M_kindAt.2.1 9 = .ok (.aload_n 0, 1) := by decide +kernel
theorem d_M_kindAt_10 : decode mi_M_kindAt.2.1 10 = .ok (.getfield 7, 3) := by decide +kernel
theorem d_M_kindAt_13 : decode mi_M_kindAt.2.1 13 = .ok (.iconst 4, 1) := by decide +kernel
theorem d_M_kindAt_14 : decode mi_M_kindAt.2.1 14 = .ok (.bipush 6, 2) := by decide +kernel
theorem d_M_kindAt_16 : decode mi_M_kindAt.2.1 16 = .ok (.iload_n 1, 1) := by decide +kernel
theorem d_M_kindAt_17 : decode mi_M_kindAt.2.1 17 = .ok (.imul, 1) := by decide +kernel
theorem d_M_kindAt_18 : decode mi_M_kindAt.2.1 18 = .ok (.iadd, 1) := by decide +kernel
theorem d_M_kindAt_19 : decode mi_M_kindAt.2.1 19 = .ok (.iload_n 2, 1) := by decide +kernel
theorem d_M_kindAt_20 : decode mi_M_kindAt.2.1 20 = .ok (.iadd, 1) := by decide +kernel
theorem d_M_kindAt_21 : decode mi_M_kindAt.2.1 21 = .ok (.iaload, 1) := by decide +kernel
theorem d_M_kindAt_22 : decode mi_M_kindAt.2.1 22 = .ok (.goto 4, 3) := by decide +kernel
theorem d_M_kindAt_25 : decode mi_M_kindAt.2.1 25 = .ok (.iconst (-1), 1) := by decide +kernel
theorem d_M_kindAt_26 : decode mi_M_kindAt.2.1 26 = .ok (.ireturn, 1) := by decide +kernel
theorem d_M_signalCount_0 : decode mi_M_signalCount.2.1 0 = .ok (.aload_n 0, 1) := by decide +kernel
theorem d_M_signalCount_1 : decode mi_M_signalCount.2.1 1 = .ok (.invokevirtual 84, 3) := by decide +kernel
theorem d_M_signalCount_4 : decode mi_M_signalCount.2.1 4 = .ok (.ireturn, 1) := by decide +kernel
theorem d_M_pairs_0 : decode mi_M_pairs.2.1 0 = .ok (.iconst 0, 1) := by decide +kernel
theorem d_M_pairs_1 : decode mi_M_pairs.2.1 1 = .ok (.istore_n 1, 1) := by decide +kernel
theorem d_M_pairs_2 : decode mi_M_pairs.2.1 2 = .ok (.iconst 0, 1) := by decide +kernel
theorem d_M_pairs_3 : decode mi_M_pairs.2.1 3 = .ok (.istore_n 2, 1) := by decide +kernel
theorem d_M_pairs_4 : decode mi_M_pairs.2.1 4 = .ok (.iload_n 2, 1) := by decide +kernel
theorem d_M_pairs_5 : decode mi_M_pairs.2.1 5 = .ok (.bipush 36, 2) := by decide +kernel
theorem d_M_pairs_7 : decode mi_M_pairs.2.1 7 = .ok (.if_icmp .ge 29, 3) := by decide +kernel
theorem d_M_pairs_10 : decode mi_M_pairs.2.1 10 = .ok (.iload_n 1, 1) := by decide +kernel
theorem d_M_pairs_11 : decode mi_M_pairs.2.1 11 = .ok (.aload_n 0, 1) := by decide +kernel
theorem d_M_pairs_12 : decode mi_M_pairs.2.1 12 = .ok (.getfield 7, 3) := by decide +kernel
theorem d_M_pairs_15 : decode mi_M_pairs.2.1 15 = .ok (.bipush 40, 2) := by decide +kernel
theorem d_M_pairs_17 : decode mi_M_pairs.2.1 17 = .ok (.iload_n 2, 1) := by decide +kernel
theorem d_M_pairs_18 : decode mi_M_pairs.2.1 18 = .ok (.iadd, 1) := by decide +kernel
theorem d_M_pairs_19 : decode mi_M_pairs.2.1 19 = .ok (.iaload, 1) := by decide +kernel
theorem d_M_pairs_20 : decode mi_M_pairs.2.1 20 = .ok (.ifCond .le 7, 3) := by decide +kernel
theorem d_M_pairs_23 : decode mi_M_pairs.2.1 23 = .ok (.iconst 1, 1) := by decide +kernel
theorem d_M_pairs_24 : decode mi_M_pairs.2.1 24 = .ok (.goto 4, 3) := by decide +kernel
theorem d_M_pairs_27 : decode mi_M_pairs.2.1 27 = .ok (.iconst 0, 1) := by decide +kernel
theorem d_M_pairs_28 : decode mi_M_pairs.2.1 28 = .ok (.iadd, 1) := by decide +kernel
theorem d_M_pairs_29 : decode mi_M_pairs.2.1 29 = .ok (.istore_n 1, 1) := by decide +kernel
theorem d_M_pairs_30 : decode mi_M_pairs.2.1 30 = .ok (.iinc 2 1, 3) := by decide +kernel
theorem d_M_pairs_33 : decode mi_M_pairs.2.1 33 = .ok (.goto (-29), 3) := by decide +kernel
theorem d_M_pairs_36 : decode mi_M_pairs.2.1 36 = .ok (.iload_n 1, 1) := by decide +kernel
theorem d_M_pairs_37 : decode mi_M_pairs.2.1 37 = .ok (.iconst 2, 1) := by decide +kernel
theorem d_M_pairs_38 : decode mi_M_pairs.2.1 38 = .ok (.idiv, 1) := by decide +kernel
theorem d_M_pairs_39 : decode mi_M_pairs.2.1 39 = .ok (.ireturn, 1) := by decide +kernel
theorem d_M_isFree_0 : decode mi_M_isFree.2.1 0 = .ok (.aload_n 0, 1) := by decide +kernel
theorem d_M_isFree_1 : decode mi_M_isFree.2.1 1 = .ok (.getfield 7, 3) := by decide +kernel
theorem d_M_isFree_4 : decode mi_M_isFree.2.1 4 = .ok (.iconst 4, 1) := by decide +kernel
theorem d_M_isFree_5 : decode mi_M_isFree.2.1 5 = .ok (.iload_n 1, 1) := by decide +kernel
theorem d_M_isFree_6 : decode mi_M_isFree.2.1 6 = .ok (.iadd, 1) := by decide +kernel
theorem d_M_isFree_7 : decode mi_M_isFree.2.1 7 = .ok (.iaload, 1) := by decide +kernel
theorem d_M_isFree_8 : decode mi_M_isFree.2.1 8 = .ok (.iconst 1, 1) := by decide +kernel
theorem d_M_isFree_9 : decode mi_M_isFree.2.1 9 = .ok (.if_icmp .ne 19, 3) := by decide +kernel
theorem d_M_isFree_12 : decode mi_M_isFree.2.1 12 = .ok (.aload_n 0, 1) := by decide +kernel
theorem d_M_isFree_13 : decode mi_M_isFree.2.1 13 = .ok (.getfield 7, 3) := by decide +kernel
theorem d_M_isFree_16 : decode mi_M_isFree.2.1 16 = .ok (.bipush 40, 2) := by decide +kernel
theorem d_M_isFree_18 : decode mi_M_isFree.2.1 18 = .ok (.iload_n 1, 1) := by decide +kernel
theorem d_M_isFree_19 : decode mi_M_isFree.2.1 19 = .ok (.iadd, 1) := by decide +kernel
theorem d_M_isFree_20 : decode mi_M_isFree.2.1 20 = .ok (.iaload, 1) := by decide +kernel
theorem d_M_isFree_21 : decode mi_M_isFree.2.1 21 = .ok (.ifCond .ne 7, 3) := by decide +kernel
theorem d_M_isFree_24 : decode mi_M_isFree.2.1 24 = .ok (.iconst 1, 1) := by decide +kernel
theorem d_M_isFree_25 : decode mi_M_isFree.2.1 25 = .ok (.goto 4, 3) := by decide +kernel
theorem d_M_isFree_28 : decode mi_M_isFree.2.1 28 = .ok (.iconst 0, 1) := by decide +kernel
theorem d_M_isFree_29 : decode mi_M_isFree.2.1 29 = .ok (.ireturn, 1) := by decide +kernel
theorem d_M_makePair_0 : decode mi_M_makePair.2.1 0 = .ok (.aload_n 0, 1) := by decide +kernel
theorem d_M_makePair_1 : decode mi_M_makePair.2.1 1 = .ok (.iload_n 1, 1) := by decide +kernel
theorem d_M_makePair_2 : decode mi_M_makePair.2.1 2 = .ok (.iload_n 2, 1) := by decide +kernel
theorem d_M_makePair_3 : decode mi_M_makePair.2.1 3 = .ok (.invokevirtual 87, 3) := by decide +kernel
theorem d_M_makePair_6 : decode mi_M_makePair.2.1 6 = .ok (.ifCond .eq 13, 3) := by decide +kernel
theorem d_M_makePair_9 : decode mi_M_makePair.2.1 9 = .ok (.aload_n 0, 1) := by decide +kernel
theorem d_M_makePair_10 : decode mi_M_makePair.2.1 10 = .ok (.iload_n 3, 1) := by decide +kernel
theorem d_M_makePair_11 : decode mi_M_makePair.2.1 11 = .ok (.iload 4, 2) := by decide +kernel
theorem d_M_makePair_13 : decode mi_M_makePair.2.1 13 = .ok (.invokevirtual 87, 3) := by decide +kernel
theorem d_M_makePair_16 : decode mi_M_makePair.2.1 16 = .ok (.ifCond .ne 5, 3) := by decide +kernel
theorem d_M_makePair_19 : decode mi_M_makePair.2.1 19 = .ok (.iconst (-1), 1) := by decide +kernel
theorem d_M_makePair_20 : decode mi_M_makePair.2.1 20 = .ok (.ireturn, 1) := by decide +kernel
theorem d_M_makePair_21 : decode mi_M_makePair.2.1 21 = .ok (.iload_n 1, 1) := by decide +kernel
theorem d_M_makePair_22 : decode mi_M_makePair.2.1 22 = .ok (.iload_n 3, 1) := by decide +kernel
theorem d_M_makePair_23 : decode mi_M_makePair.2.1 23 = .ok (.isub, 1) := by decide +kernel
theorem d_M_makePair_24 : decode mi_M_makePair.2.1 24 = .ok (.istore 5, 2) := by decide +kernel
theorem d_M_makePair_26 : decode mi_M_makePair.2.1 26 = .ok (.iload_n 2, 1) := by decide +kernel
theorem d_M_makePair_27 : decode mi_M_makePair.2.1 27 = .ok (.iload 4, 2) := by decide +kernel
theorem d_M_makePair_29 : decode mi_M_makePair.2.1 29 = .ok (.isub, 1) := by decide +kernel
theorem d_M_makePair_30 : decode mi_M_makePair.2.1 30 = .ok (.istore 6, 2) := by decide +kernel
theorem d_M_makePair_32 : decode mi_M_makePair.2.1 32 = .ok (.iload 5, 2) := by decide +kernel
theorem d_M_makePair_34 : decode mi_M_makePair.2.1 34 = .ok (.iload 5, 2) := by decide +kernel
theorem d_M_makePair_36 : decode mi_M_makePair.2.1 36 = .ok (.imul, 1) := by decide +kernel
theorem d_M_makePair_37 : decode mi_M_makePair.2.1 37 = .ok (.iload 6, 2) := by decide +kernel
theorem d_M_makePair_39 : decode mi_M_makePair.2.1 39 = .ok (.iload 6, 2) := by decide +kernel
theorem d_M_makePair_41 : decode mi_M_makePair.2.1 41 = .ok (.imul, 1) := by decide +kernel
theorem d_M_makePair_42 : decode mi_M_makePair.2.1 42 = .ok (.iadd, 1) := by decide +kernel
theorem d_M_makePair_43 : decode mi_M_makePair.2.1 43 = .ok (.iconst 1, 1) := by decide +kernel
theorem d_M_makePair_44 : decode mi_M_makePair.2.1 44 = .ok (.if_icmp .eq 5, 3) := by decide +kernel
theorem d_M_makePair_47 : decode mi_M_makePair.2.1 47 = .ok (.iconst (-1), 1) := by decide +kernel
theorem d_M_makePair_48 : decode mi_M_makePair.2.1 48 = .ok (.ireturn, 1) := by decide +kernel
theorem d_M_makePair_49 : decode mi_M_makePair.2.1 49 = .ok (.bipush 6, 2) := by decide +kernel
theorem d_M_makePair_51 : decode mi_M_makePair.2.1 51 = .ok (.iload_n 1, 1) := by decide +kernel
theorem d_M_makePair_52 : decode mi_M_makePair.2.1 52 = .ok (.imul, 1) := by decide +kernel
theorem d_M_makePair_53 : decode mi_M_makePair.2.1 53 = .ok (.iload_n 2, 1) := by decide +kernel
theorem d_M_makePair_54 : decode mi_M_makePair.2.1 54 = .ok (.iadd, 1) := by decide +kernel
theorem d_M_makePair_55 : decode mi_M_makePair.2.1 55 = .ok (.istore 7, 2) := by decide +kernel
theorem d_M_makePair_57 : decode mi_M_makePair.2.1 57 = .ok (.bipush 6, 2) := by decide +kernel
theorem d_M_makePair_59 : decode mi_M_makePair.2.1 59 = .ok (.iload_n 3, 1) := by decide +kernel
theorem d_M_makePair_60 : decode mi_M_makePair.2.1 60 = .ok (.imul, 1) := by decide +kernel
theorem d_M_makePair_61 : decode mi_M_makePair.2.1 61 = .ok (.iload 4, 2) := by decide +kernel
theorem d_M_makePair_63 : decode mi_M_makePair.2.1 63 = .ok (.iadd, 1) := by decide +kernel
theorem d_M_makePair_64 : decode mi_M_makePair.2.1 64 = .ok (.istore 8, 2) := by decide +kernel
theorem d_M_makePair_66 : decode mi_M_makePair.2.1 66 = .ok (.aload_n 0, 1) := by decide +kernel
theorem d_M_makePair_67 : decode mi_M_makePair.2.1 67 = .ok (.iload 7, 2) := by decide +kernel
theorem d_M_makePair_69 : decode mi_M_makePair.2.1 69 = .ok (.invokevirtual 95, 3) := by decide +kernel
theorem d_M_makePair_72 : decode mi_M_makePair.2.1 72 = .ok (.ifCond .eq 12, 3) := by decide +kernel
theorem d_M_makePair_75 : decode mi_M_makePair.2.1 75 = .ok (.aload_n 0, 1) := by decide +kernel
theorem d_M_makePair_76 : decode mi_M_makePair.2.1 76 = .ok (.iload 8, 2) := by decide +kernel
theorem d_M_makePair_78 : decode mi_M_makePair.2.1 78 = .ok (.invokevirtual 95, 3) := by decide +kernel
theorem d_M_makePair_81 : decode mi_M_makePair.2.1 81 = .ok (.ifCond .ne 6, 3) := by decide +kernel
theorem d_M_makePair_84 : decode mi_M_makePair.2.1 84 = .ok (.bipush (-2), 2) := by decide +kernel
theorem d_M_makePair_86 : decode mi_M_makePair.2.1 86 = .ok (.ireturn, 1) := by decide +kernel
theorem d_M_makePair_87 : decode mi_M_makePair.2.1 87 = .ok (.aload_n 0, 1) := by decide +kernel
theorem d_M_makePair_88 : decode mi_M_makePair.2.1 88 = .ok (.invokevirtual 81, 3) := by decide +kernel
theorem d_M_makePair_91 : decode mi_M_makePair.2.1 91 = .ok (.aload_n 0, 1) := by decide +kernel
theorem d_M_makePair_92 : decode mi_M_makePair.2.1 92 = .ok (.getfield 7, 3) := by decide +kernel
theorem d_M_makePair_95 : decode mi_M_makePair.2.1 95 = .ok (.bipush 40, 2) := by decide +kernel
theorem d_M_makePair_97 : decode mi_M_makePair.2.1 97 = .ok (.iload 7, 2) := by decide +kernel
theorem d_M_makePair_99 : decode mi_M_makePair.2.1 99 = .ok (.iadd, 1) := by decide +kernel
theorem d_M_makePair_100 : decode mi_M_makePair.2.1 100 = .ok (.iload 8, 2) := by decide +kernel
theorem d_M_makePair_102 : decode mi_M_makePair.2.1 102 = .ok (.iconst 1, 1) := by decide +kernel
theorem d_M_makePair_103 : decode mi_M_makePair.2.1 103 = .ok (.iadd, 1) := by decide +kernel
theorem d_M_makePair_104 : decode mi_M_makePair.2.1 104 = .ok (.iastore, 1) := by decide +kernel
theorem d_M_makePair_105 : decode mi_M_makePair.2.1 105 = .ok (.aload_n 0, 1) := by decide +kernel
theorem d_M_makePair_106 : decode mi_M_makePair.2.1 106 = .ok (.getfield 7, 3) := by decide +kernel
theorem d_M_makePair_109 : decode mi_M_makePair.2.1 109 = .ok (.bipush 40, 2) := by decide +kernel
theorem d_M_makePair_111 : decode mi_M_makePair.2.1 111 = .ok (.iload 8, 2) := by decide +kernel
theorem d_M_makePair_113 : decode mi_M_makePair.2.1 113 = .ok (.iadd, 1) := by decide +kernel
theorem d_M_makePair_114 : decode mi_M_makePair.2.1 114 = .ok (.iload 7, 2) := by decide +kernel
theorem d_M_makePair_116 : decode mi_M_makePair.2.1 116 = .ok (.iconst 1, 1) := by decide +kernel
theorem d_M_makePair_117 : decode mi_M_makePair.2.1 117 = .ok (.iadd, 1) := by decide +kernel
theorem d_M_makePair_118 : decode mi_M_makePair.2.1 118 = .ok (.iastore, 1) := by decide +kernel
theorem d_M_makePair_119 : decode mi_M_makePair.2.1 119 = .ok (.aload_n 0, 1) := by decide +kernel
theorem d_M_makePair_120 : decode mi_M_makePair.2.1 120 = .ok (.invokevirtual 99, 3) := by decide +kernel
theorem d_M_makePair_123 : decode mi_M_makePair.2.1 123 = .ok (.ireturn, 1) := by decide +kernel
theorem d_M_breakPair_0 : decode mi_M_breakPair.2.1 0 = .ok (.aload_n 0, 1) := by decide +kernel
theorem d_M_breakPair_1 : decode mi_M_breakPair.2.1 1 = .ok (.iload_n 1, 1) := by decide +kernel
theorem d_M_breakPair_2 : decode mi_M_breakPair.2.1 2 = .ok (.iload_n 2, 1) := by decide +kernel
theorem d_M_breakPair_3 : decode mi_M_breakPair.2.1 3 = .ok (.invokevirtual 87, 3) := by decide +kernel
theorem d_M_breakPair_6 : decode mi_M_breakPair.2.1 6 = .ok (.ifCond .ne 5, 3) := by decide +kernel
theorem d_M_breakPair_9 : decode mi_M_breakPair.2.1 9 = .ok (.iconst (-1), 1) := by decide +kernel
theorem d_M_breakPair_10 : decode mi_M_breakPair.2.1 10 = .ok (.ireturn, 1) := by decide +kernel
theorem d_M_breakPair_11 : decode mi_M_breakPair.2.1 11 = .ok (.aload_n 0, 1) := by decide +kernel
theorem d_M_breakPair_12 : decode mi_M_breakPair.2.1 12 = .ok (.getfield 7, 3) := by decide +kernel
theorem d_M_breakPair_15 : decode mi_M_breakPair.2.1 15 = .ok (.bipush 40, 2) := by decide +kernel
theorem d_M_breakPair_17 : decode mi_M_breakPair.2.1 17 = .ok (.bipush 6, 2) := by decide +kernel
theorem d_M_breakPair_19 : decode mi_M_breakPair.2.1 19 = .ok (.iload_n 1, 1) := by decide +kernel
theorem d_M_breakPair_20 : decode mi_M_breakPair.2.1 20 = .ok (.imul, 1) := by decide +kernel
theorem d_M_breakPair_21 : decode mi_M_breakPair.2.1 21 = .ok (.iadd, 1) := by decide +kernel
theorem d_M_breakPair_22 : decode mi_M_breakPair.2.1 22 = .ok (.iload_n 2, 1) := by decide +kernel
theorem d_M_breakPair_23 : decode mi_M_breakPair.2.1 23 = .ok (.iadd, 1) := by decide +kernel
theorem d_M_breakPair_24 : decode mi_M_breakPair.2.1 24 = .ok (.iaload, 1) := by decide +kernel
theorem d_M_breakPair_25 : decode mi_M_breakPair.2.1 25 = .ok (.ifCond .ne 6, 3) := by decide +kernel
theorem d_M_breakPair_28 : decode mi_M_breakPair.2.1 28 = .ok (.bipush (-2), 2) := by decide +kernel
theorem d_M_breakPair_30 : decode mi_M_breakPair.2.1 30 = .ok (.ireturn, 1) := by decide +kernel
theorem d_M_breakPair_31 : decode mi_M_breakPair.2.1 31 = .ok (.aload_n 0, 1) := by decide +kernel
theorem d_M_breakPair_32 : decode mi_M_breakPair.2.1 32 = .ok (.invokevirtual 81, 3) := by decide +kernel
theorem d_M_breakPair_35 : decode mi_M_breakPair.2.1 35 = .ok (.aload_n 0, 1) := by decide +kernel
theorem d_M_breakPair_36 : decode mi_M_breakPair.2.1 36 = .ok (.bipush 6, 2) := by decide +kernel
theorem d_M_breakPair_38 : decode mi_M_breakPair.2.1 38 = .ok (.iload_n 1, 1) := by decide +kernel
theorem d_M_breakPair_39 : decode mi_M_breakPair.2.1 39 = .ok (.imul, 1) := by decide +kernel
theorem d_M_breakPair_40 : decode mi_M_breakPair.2.1 40 = .ok (.iload_n 2, 1) := by decide +kernel
theorem d_M_breakPair_41 : decode mi_M_breakPair.2.1 41 = .ok (.iadd, 1) := by decide +kernel
theorem d_M_breakPair_42 : decode mi_M_breakPair.2.1 42 = .ok (.invokevirtual 91, 3) := by decide +kernel
theorem d_M_breakPair_45 : decode mi_M_breakPair.2.1 45 = .ok (.aload_n 0, 1) := by decide +kernel
theorem d_M_breakPair_46 : decode mi_M_breakPair.2.1 46 = .ok (.invokevirtual 99, 3) := by decide +kernel
theorem d_M_breakPair_49 : decode mi_M_breakPair.2.1 49 = .ok (.ireturn, 1) := by decide +kernel
theorem d_M_partnerOf_0 : decode mi_M_partnerOf.2.1 0 = .ok (.aload_n 0, 1) := by decide +kernel
theorem d_M_partnerOf_1 : decode mi_M_partnerOf.2.1 1 = .ok (.iload_n 1, 1) := by decide +kernel
theorem d_M_partnerOf_2 : decode mi_M_partnerOf.2.1 2 = .ok (.iload_n 2, 1) := by decide +kernel
theorem d_M_partnerOf_3 : decode mi_M_partnerOf.2.1 3 = .ok (.invokevirtual 87, 3) := by decide +kernel
theorem d_M_partnerOf_6 : decode mi_M_partnerOf.2.1 6 = .ok (.ifCond .ne 5, 3) := by decide +kernel
theorem d_M_partnerOf_9 : decode mi_M_partnerOf.2.1 9 = .ok (.iconst (-1), 1) := by decide +kernel
theorem d_M_partnerOf_10 : decode mi_M_partnerOf.2.1 10 = .ok (.ireturn, 1) := by decide +kernel
theorem d_M_partnerOf_11 : decode mi_M_partnerOf.2.1 11 = .ok (.aload_n 0, 1) := by decide +kernel
theorem d_M_partnerOf_12 : decode mi_M_partnerOf.2.1 12 = .ok (.getfield 7, 3) := by decide +kernel
theorem d_M_partnerOf_15 : decode mi_M_partnerOf.2.1 15 = .ok (.bipush 40, 2) := by decide +kernel
theorem d_M_partnerOf_17 : decode mi_M_partnerOf.2.1 17 = .ok (.bipush 6, 2) := by decide +kernel
theorem d_M_partnerOf_19 : decode mi_M_partnerOf.2.1 19 = .ok (.iload_n 1, 1) := by decide +kernel
theorem d_M_partnerOf_20 : decode mi_M_partnerOf.2.1 20 = .ok (.imul, 1) := by decide +kernel
theorem d_M_partnerOf_21 : decode mi_M_partnerOf.2.1 21 = .ok (.iadd, 1) := by decide +kernel
theorem d_M_partnerOf_22 : decode mi_M_partnerOf.2.1 22 = .ok (.iload_n 2, 1) := by decide +kernel
theorem d_M_partnerOf_23 : decode mi_M_partnerOf.2.1 23 = .ok (.iadd, 1) := by decide +kernel
theorem d_M_partnerOf_24 : decode mi_M_partnerOf.2.1 24 = .ok (.iaload, 1) := by decide +kernel
theorem d_M_partnerOf_25 : decode mi_M_partnerOf.2.1 25 = .ok (.iconst 1, 1) := by decide +kernel
theorem d_M_partnerOf_26 : decode mi_M_partnerOf.2.1 26 = .ok (.isub, 1) := by decide +kernel
theorem d_M_partnerOf_27 : decode mi_M_partnerOf.2.1 27 = .ok (.istore_n 3, 1) := by decide +kernel
theorem d_M_partnerOf_28 : decode mi_M_partnerOf.2.1 28 = .ok (.iload_n 3, 1) := by decide +kernel
theorem d_M_partnerOf_29 : decode mi_M_partnerOf.2.1 29 = .ok (.ifCond .ge 8, 3) := by decide +kernel
theorem d_M_partnerOf_32 : decode mi_M_partnerOf.2.1 32 = .ok (.bipush (-9), 2) := by decide +kernel
theorem d_M_partnerOf_34 : decode mi_M_partnerOf.2.1 34 = .ok (.goto 15, 3) := by decide +kernel
theorem d_M_partnerOf_37 : decode mi_M_partnerOf.2.1 37 = .ok (.bipush 10, 2) := by decide +kernel
theorem d_M_partnerOf_39 : decode mi_M_partnerOf.2.1 39 = .ok (.iload_n 3, 1) := by decide +kernel
theorem d_M_partnerOf_40 : decode mi_M_partnerOf.2.1 40 = .ok (.bipush 6, 2) := by decide +kernel
theorem d_M_partnerOf_42 : decode mi_M_partnerOf.2.1 42 = .ok (.idiv, 1) := by decide +kernel
theorem d_M_partnerOf_43 : decode mi_M_partnerOf.2.1 43 = .ok (.imul, 1) := by decide +kernel
theorem d_M_partnerOf_44 : decode mi_M_partnerOf.2.1 44 = .ok (.iload_n 3, 1) := by decide +kernel
theorem d_M_partnerOf_45 : decode mi_M_partnerOf.2.1 45 = .ok (.bipush 6, 2) := by decide +kernel
theorem d_M_partnerOf_47 : decode mi_M_partnerOf.2.1 47 = .ok (.irem, 1) := by decide +kernel
theorem d_M_partnerOf_48 : decode mi_M_partnerOf.2.1 48 = .ok (.iadd, 1) := by decide +kernel
theorem d_M_partnerOf_49 : decode mi_M_partnerOf.2.1 49 = .ok (.ireturn, 1) := by decide +kernel
theorem d_M_selected_0 : decode mi_M_selected.2.1 0 = .ok (.iconst 0, 1) := by decide +kernel
theorem d_M_selected_1 : decode mi_M_selected.2.1 1 = .ok (.istore_n 1, 1) := by decide +kernel
theorem d_M_selected_2 : decode mi_M_selected.2.1 2 = .ok (.iconst 0, 1) := by decide +kernel
theorem d_M_selected_3 : decode mi_M_selected.2.1 3 = .ok (.istore_n 2, 1) := by decide +kernel
theorem d_M_selected_4 : decode mi_M_selected.2.1 4 = .ok (.iload_n 2, 1) := by decide +kernel
theorem d_M_selected_5 : decode mi_M_selected.2.1 5 = .ok (.bipush 36, 2) := by decide +kernel
theorem d_M_selected_7 : decode mi_M_selected.2.1 7 = .ok (.if_icmp .ge 21, 3) := by decide +kernel
theorem d_M_selected_10 : decode mi_M_selected.2.1 10 = .ok (.iload_n 1, 1) := by decide +kernel
theorem d_M_selected_11 : decode mi_M_selected.2.1 11 = .ok (.aload_n 0, 1) := by decide +kernel
theorem d_M_selected_12 : decode mi_M_selected.2.1 12 = .ok (.getfield 7, 3) := by decide +kernel
theorem d_M_selected_15 : decode mi_M_selected.2.1 15 = .ok (.bipush 76, 2) := by decide +kernel
theorem d_M_selected_17 : decode mi_M_selected.2.1 17 = .ok (.iload_n 2, 1) := by decide +kernel
theorem d_M_selected_18 : decode mi_M_selected.2.1 18 = .ok (.iadd, 1) := by decide +kernel
theorem d_M_selected_19 : decode mi_M_selected.2.1 19 = .ok (.iaload, 1) := by decide +kernel
theorem d_M_selected_20 : decode mi_M_selected.2.1 20 = .ok (.iadd, 1) := by decide +kernel
theorem d_M_selected_21 : decode mi_M_selected.2.1 21 = .ok (.istore_n 1, 1) := by decide +kernel
theorem d_M_selected_22 : decode mi_M_selected.2.1 22 = .ok (.iinc 2 1, 3) := by decide +kernel
theorem d_M_selected_25 : decode mi_M_selected.2.1 25 = .ok (.goto (-21), 3) := by decide +kernel
theorem d_M_selected_28 : decode mi_M_selected.2.1 28 = .ok (.iload_n 1, 1) := by decide +kernel
theorem d_M_selected_29 : decode mi_M_selected.2.1 29 = .ok (.ireturn, 1) := by decide +kernel
theorem d_M_select_0 : decode mi_M_select.2.1 0 = .ok (.aload_n 0, 1) := by decide +kernel
theorem d_M_select_1 : decode mi_M_select.2.1 1 = .ok (.iload_n 1, 1) := by decide +kernel
theorem d_M_select_2 : decode mi_M_select.2.1 2 = .ok (.iload_n 2, 1) := by decide +kernel
theorem d_M_select_3 : decode mi_M_select.2.1 3 = .ok (.invokevirtual 87, 3) := by decide +kernel
theorem d_M_select_6 : decode mi_M_select.2.1 6 = .ok (.ifCond .ne 5, 3) := by decide +kernel
theorem d_M_select_9 : decode mi_M_select.2.1 9 = .ok (.iconst (-1), 1) := by decide +kernel
theorem d_M_select_10 : decode mi_M_select.2.1 10 = .ok (.ireturn, 1) := by decide +kernel
theorem d_M_select_11 : decode mi_M_select.2.1 11 = .ok (.bipush 6, 2) := by decide +kernel
theorem d_M_select_13 : decode mi_M_select.2.1 13 = .ok (.iload_n 1, 1) := by decide +kernel
theorem d_M_select_14 : decode mi_M_select.2.1 14 = .ok (.imul, 1) := by decide +kernel
theorem d_M_select_15 : decode mi_M_select.2.1 15 = .ok (.iload_n 2, 1) := by decide +kernel
theorem d_M_select_16 : decode mi_M_select.2.1 16 = .ok (.iadd, 1) := by decide +kernel
theorem d_M_select_17 : decode mi_M_select.2.1 17 = .ok (.istore_n 3, 1) := by decide +kernel
theorem d_M_select_18 : decode mi_M_select.2.1 18 = .ok (.aload_n 0, 1) := by decide +kernel
theorem d_M_select_19 : decode mi_M_select.2.1 19 = .ok (.getfield 7, 3) := by decide +kernel
theorem d_M_select_22 : decode mi_M_select.2.1 22 = .ok (.iconst 4, 1) := by decide +kernel
theorem d_M_select_23 : decode mi_M_select.2.1 23 = .ok (.iload_n 3, 1) := by decide +kernel
theorem d_M_select_24 : decode mi_M_select.2.1 24 = .ok (.iadd, 1) := by decide +kernel
theorem d_M_select_25 : decode mi_M_select.2.1 25 = .ok (.iaload, 1) := by decide +kernel
theorem d_M_select_26 : decode mi_M_select.2.1 26 = .ok (.iconst 1, 1) := by decide +kernel
theorem d_M_select_27 : decode mi_M_select.2.1 27 = .ok (.if_icmp .ne 16, 3) := by decide +kernel
theorem d_M_select_30 : decode mi_M_select.2.1 30 = .ok (.aload_n 0, 1) := by decide +kernel
theorem d_M_select_31 : decode mi_M_select.2.1 31 = .ok (.getfield 7, 3) := by decide +kernel
theorem d_M_select_34 : decode mi_M_select.2.1 34 = .ok (.bipush 76, 2) := by decide +kernel
theorem d_M_select_36 : decode mi_M_select.2.1 36 = .ok (.iload_n 3, 1) := by decide +kernel
theorem d_M_select_37 : decode mi_M_select.2.1 37 = .ok (.iadd, 1) := by decide +kernel
theorem d_M_select_38 : decode mi_M_select.2.1 38 = .ok (.iaload, 1) := by decide +kernel
theorem d_M_select_39 : decode mi_M_select.2.1 39 = .ok (.iconst 1, 1) := by decide +kernel
theorem d_M_select_40 : decode mi_M_select.2.1 40 = .ok (.if_icmp .ne 6, 3) := by decide +kernel
theorem d_M_select_43 : decode mi_M_select.2.1 43 = .ok (.bipush (-2), 2) := by decide +kernel
theorem d_M_select_45 : decode mi_M_select.2.1 45 = .ok (.ireturn, 1) := by decide +kernel
theorem d_M_select_46 : decode mi_M_select.2.1 46 = .ok (.aload_n 0, 1) := by decide +kernel
theorem d_M_select_47 : decode mi_M_select.2.1 47 = .ok (.invokevirtual 81, 3) := by decide +kernel
theorem d_M_select_50 : decode mi_M_select.2.1 50 = .ok (.aload_n 0, 1) := by decide +kernel
theorem d_M_select_51 : decode mi_M_select.2.1 51 = .ok (.getfield 7, 3) := by decide +kernel
theorem d_M_select_54 : decode mi_M_select.2.1 54 = .ok (.bipush 76, 2) := by decide +kernel
theorem d_M_select_56 : decode mi_M_select.2.1 56 = .ok (.iload_n 3, 1) := by decide +kernel
theorem d_M_select_57 : decode mi_M_select.2.1 57 = .ok (.iadd, 1) := by decide +kernel
theorem d_M_select_58 : decode mi_M_select.2.1 58 = .ok (.iconst 1, 1) := by decide +kernel
theorem d_M_select_59 : decode mi_M_select.2.1 59 = .ok (.iastore, 1) := by decide +kernel
theorem d_M_select_60 : decode mi_M_select.2.1 60 = .ok (.aload_n 0, 1) := by decide +kernel
theorem d_M_select_61 : decode mi_M_select.2.1 61 = .ok (.invokevirtual 102, 3) := by decide +kernel
theorem d_M_select_64 : decode mi_M_select.2.1 64 = .ok (.ireturn, 1) := by decide +kernel
theorem d_M_deselect_0 : decode mi_M_deselect.2.1 0 = .ok (.aload_n 0, 1) := by decide +kernel
theorem d_M_deselect_1 : decode mi_M_deselect.2.1 1 = .ok (.iload_n 1, 1) := by decide +kernel
theorem d_M_deselect_2 : decode mi_M_deselect.2.1 2 = .ok (.iload_n 2, 1) := by decide +kernel
theorem d_M_deselect_3 : decode mi_M_deselect.2.1 3 = .ok (.invokevirtual 87, 3) := by decide +kernel
theorem d_M_deselect_6 : decode mi_M_deselect.2.1 6 = .ok (.ifCond .ne 5, 3) := by decide +kernel
theorem d_M_deselect_9 : decode mi_M_deselect.2.1 9 = .ok (.iconst (-1), 1) := by decide +kernel
theorem d_M_deselect_10 : decode mi_M_deselect.2.1 10 = .ok (.ireturn, 1) := by decide +kernel
theorem d_M_deselect_11 : decode mi_M_deselect.2.1 11 = .ok (.bipush 6, 2) := by decide +kernel
theorem d_M_deselect_13 : decode mi_M_deselect.2.1 13 = .ok (.iload_n 1, 1) := by decide +kernel
theorem d_M_deselect_14 : decode mi_M_deselect.2.1 14 = .ok (.imul, 1) := by decide +kernel
theorem d_M_deselect_15 : decode mi_M_deselect.2.1 15 = .ok (.iload_n 2, 1) := by decide +kernel
theorem d_M_deselect_16 : decode mi_M_deselect.2.1 16 = .ok (.iadd, 1) := by decide +kernel
theorem d_M_deselect_17 : decode mi_M_deselect.2.1 17 = .ok (.istore_n 3, 1) := by decide +kernel
theorem d_M_deselect_18 : decode mi_M_deselect.2.1 18 = .ok (.aload_n 0, 1) := by decide +kernel
theorem d_M_deselect_19 : decode mi_M_deselect.2.1 19 = .ok (.getfield 7, 3) := by decide +kernel
theorem d_M_deselect_22 : decode mi_M_deselect.2.1 22 = .ok (.bipush 76, 2) := by decide +kernel
theorem d_M_deselect_24 : decode mi_M_deselect.2.1 24 = .ok (.iload_n 3, 1) := by decide +kernel
theorem d_M_deselect_25 : decode mi_M_deselect.2.1 25 = .ok (.iadd, 1) := by decide +kernel
theorem d_M_deselect_26 : decode mi_M_deselect.2.1 26 = .ok (.iaload, 1) := by decide +kernel
theorem d_M_deselect_27 : decode mi_M_deselect.2.1 27 = .ok (.ifCond .ne 6, 3) := by decide +kernel
theorem d_M_deselect_30 : decode mi_M_deselect.2.1 30 = .ok (.bipush (-2), 2) := by decide +kernel
theorem d_M_deselect_32 : decode mi_M_deselect.2.1 32 = .ok (.ireturn, 1) := by decide +kernel
theorem d_M_deselect_33 : decode mi_M_deselect.2.1 33 = .ok (.aload_n 0, 1) := by decide +kernel
theorem d_M_deselect_34 : decode mi_M_deselect.2.1 34 = .ok (.invokevirtual 81, 3) := by decide +kernel
theorem d_M_deselect_37 : decode mi_M_deselect.2.1 37 = .ok (.aload_n 0, 1) := by decide +kernel
theorem d_M_deselect_38 : decode mi_M_deselect.2.1 38 = .ok (.getfield 7, 3) := by decide +kernel
theorem d_M_deselect_41 : decode mi_M_deselect.2.1 41 = .ok (.bipush 76, 2) := by decide +kernel
theorem d_M_deselect_43 : decode mi_M_deselect.2.1 43 = .ok (.iload_n 3, 1) := by decide +kernel
theorem d_M_deselect_44 : decode mi_M_deselect.2.1 44 = .ok (.iadd, 1) := by decide +kernel
theorem d_M_deselect_45 : decode mi_M_deselect.2.1 45 = .ok (.iconst 0, 1) := by decide +kernel
theorem d_M_deselect_46 : decode mi_M_deselect.2.1 46 = .ok (.iastore, 1) := by decide +kernel
theorem d_M_deselect_47 : decode mi_M_deselect.2.1 47 = .ok (.aload_n 0, 1) := by decide +kernel
theorem d_M_deselect_48 : decode mi_M_deselect.2.1 48 = .ok (.invokevirtual 102, 3) := by decide +kernel
theorem d_M_deselect_51 : decode mi_M_deselect.2.1 51 = .ok (.ireturn, 1) := by decide +kernel
theorem d_M_clearSelection_0 : decode mi_M_clearSelection.2.1 0 = .ok (.aload_n 0, 1) := by decide +kernel
theorem d_M_clearSelection_1 : decode mi_M_clearSelection.2.1 1 = .ok (.invokevirtual 102, 3) := by decide +kernel
theorem d_M_clearSelection_4 : decode mi_M_clearSelection.2.1 4 = .ok (.istore_n 1, 1) := by decide +kernel
theorem d_M_clearSelection_5 : decode mi_M_clearSelection.2.1 5 = .ok (.iload_n 1, 1) := by decide +kernel
theorem d_M_clearSelection_6 : decode mi_M_clearSelection.2.1 6 = .ok (.ifCond .ne 6, 3) := by decide +kernel
theorem d_M_clearSelection_9 : decode mi_M_clearSelection.2.1 9 = .ok (.bipush (-2), 2) := by decide +kernel
theorem d_M_clearSelection_11 : decode mi_M_clearSelection.2.1 11 = .ok (.ireturn, 1) := by decide +kernel
theorem d_M_clearSelection_12 : decode mi_M_clearSelection.2.1 12 = .ok (.aload_n 0, 1) := by decide +kernel
theorem d_M_clearSelection_13 : decode mi_M_clearSelection.2.1 13 = .ok (.invokevirtual 81, 3) := by decide +kernel
theorem d_M_clearSelection_16 : decode mi_M_clearSelection.2.1 16 = .ok (.iconst 0, 1) := by decide +kernel
theorem d_M_clearSelection_17 : decode mi_M_clearSelection.2.1 17 = .ok (.istore_n 2, 1) := by decide +kernel
theorem d_M_clearSelection_18 : decode mi_M_clearSelection.2.1 18 = .ok (.iload_n 2, 1) := by decide +kernel
theorem d_M_clearSelection_19 : decode mi_M_clearSelection.2.1 19 = .ok (.bipush 36, 2) := by decide +kernel
theorem d_M_clearSelection_21 : decode mi_M_clearSelection.2.1 21 = .ok (.if_icmp .ge 19, 3) := by decide +kernel
theorem d_M_clearSelection_24 : decode mi_M_clearSelection.2.1 24 = .ok (.aload_n 0, 1) := by decide +kernel
theorem d_M_clearSelection_25 : decode mi_M_clearSelection.2.1 25 = .ok (.getfield 7, 3) := by decide +kernel
theorem d_M_clearSelection_28 : decode mi_M_clearSelection.2.1 28 = .ok (.bipush 76, 2) := by decide +kernel
theorem d_M_clearSelection_30 : decode mi_M_clearSelection.2.1 30 = .ok (.iload_n 2, 1) := by decide +kernel
theorem d_M_clearSelection_31 : decode mi_M_clearSelection.2.1 31 = .ok (.iadd, 1) := by decide +kernel
theorem d_M_clearSelection_32 : decode mi_M_clearSelection.2.1 32 = .ok (.iconst 0, 1) := by decide +kernel
theorem d_M_clearSelection_33 : decode mi_M_clearSelection.2.1 33 = .ok (.iastore, 1) := by decide +kernel
theorem d_M_clearSelection_34 : decode mi_M_clearSelection.2.1 34 = .ok (.iinc 2 1, 3) := by decide +kernel
theorem d_M_clearSelection_37 : decode mi_M_clearSelection.2.1 37 = .ok (.goto (-19), 3) := by decide +kernel
theorem d_M_clearSelection_40 : decode mi_M_clearSelection.2.1 40 = .ok (.iload_n 1, 1) := by decide +kernel
theorem d_M_clearSelection_41 : decode mi_M_clearSelection.2.1 41 = .ok (.ireturn, 1) := by decide +kernel
theorem d_M_lead_0 : decode mi_M_lead.2.1 0 = .ok (.aload_n 0, 1) := by decide +kernel
theorem d_M_lead_1 : decode mi_M_lead.2.1 1 = .ok (.getfield 23, 3) := by decide +kernel
theorem d_M_lead_4 : decode mi_M_lead.2.1 4 = .ok (.aload_n 0, 1) := by decide +kernel
theorem d_M_lead_5 : decode mi_M_lead.2.1 5 = .ok (.getfield 105, 3) := by decide +kernel
theorem d_M_lead_8 : decode mi_M_lead.2.1 8 = .ok (.iload_n 1, 1) := by decide +kernel
theorem d_M_lead_9 : decode mi_M_lead.2.1 9 = .ok (.iastore, 1) := by decide +kernel
theorem d_M_lead_10 : decode mi_M_lead.2.1 10 = .ok (.aload_n 0, 1) := by decide +kernel
theorem d_M_lead_11 : decode mi_M_lead.2.1 11 = .ok (.getfield 26, 3) := by decide +kernel
theorem d_M_lead_14 : decode mi_M_lead.2.1 14 = .ok (.aload_n 0, 1) := by decide +kernel
theorem d_M_lead_15 : decode mi_M_lead.2.1 15 = .ok (.getfield 105, 3) := by decide +kernel
theorem d_M_lead_18 : decode mi_M_lead.2.1 18 = .ok (.iload_n 2, 1) := by decide +kernel
theorem d_M_lead_19 : decode mi_M_lead.2.1 19 = .ok (.iastore, 1) := by decide +kernel
theorem d_M_lead_20 : decode mi_M_lead.2.1 20 = .ok (.aload_n 0, 1) := by decide +kernel
theorem d_M_lead_21 : decode mi_M_lead.2.1 21 = .ok (.getfield 29, 3) := by decide +kernel
theorem d_M_lead_24 : decode mi_M_lead.2.1 24 = .ok (.aload_n 0, 1) := by decide +kernel
theorem d_M_lead_25 : decode mi_M_lead.2.1 25 = .ok (.getfield 105, 3) := by decide +kernel
theorem d_M_lead_28 : decode mi_M_lead.2.1 28 = .ok (.iload_n 3, 1) := by decide +kernel
theorem d_M_lead_29 : decode mi_M_lead.2.1 29 = .ok (.iastore, 1) := by decide +kernel
theorem d_M_lead_30 : decode mi_M_lead.2.1 30 = .ok (.aload_n 0, 1) := by decide +kernel
theorem d_M_lead_31 : decode mi_M_lead.2.1 31 = .ok (.getfield 35, 3) := by decide +kernel
theorem d_M_lead_34 : decode mi_M_lead.2.1 34 = .ok (.aload_n 0, 1) := by decide +kernel
theorem d_M_lead_35 : decode mi_M_lead.2.1 35 = .ok (.getfield 105, 3) := by decide +kernel
theorem d_M_lead_38 : decode mi_M_lead.2.1 38 = .ok (.aload_n 0, 1) := by decide +kernel
theorem d_M_lead_39 : decode mi_M_lead.2.1 39 = .ok (.getfield 32, 3) := by decide +kernel
theorem d_M_lead_42 : decode mi_M_lead.2.1 42 = .ok (.iload_n 1, 1) := by decide +kernel
theorem d_M_lead_43 : decode mi_M_lead.2.1 43 = .ok (.iaload, 1) := by decide +kernel
theorem d_M_lead_44 : decode mi_M_lead.2.1 44 = .ok (.iastore, 1) := by decide +kernel
theorem d_M_lead_45 : decode mi_M_lead.2.1 45 = .ok (.aload_n 0, 1) := by decide +kernel
theorem d_M_lead_46 : decode mi_M_lead.2.1 46 = .ok (.getfield 32, 3) := by decide +kernel
theorem d_M_lead_49 : decode mi_M_lead.2.1 49 = .ok (.iload_n 1, 1) := by decide +kernel
theorem d_M_lead_50 : decode mi_M_lead.2.1 50 = .ok (.aload_n 0, 1) := by decide +kernel
theorem d_M_lead_51 : decode mi_M_lead.2.1 51 = .ok (.getfield 105, 3) := by decide +kernel
theorem d_M_lead_54 : decode mi_M_lead.2.1 54 = .ok (.iastore, 1) := by decide +kernel
theorem d_M_lead_55 : decode mi_M_lead.2.1 55 = .ok (.aload_n 0, 1) := by decide +kernel
theorem d_M_lead_56 : decode mi_M_lead.2.1 56 = .ok (.dup, 1) := by decide +kernel
theorem d_M_lead_57 : decode mi_M_lead.2.1 57 = .ok (.getfield 105, 3) := by decide +kernel
theorem d_M_lead_60 : decode mi_M_lead.2.1 60 = .ok (.iconst 1, 1) := by decide +kernel
theorem d_M_lead_61 : decode mi_M_lead.2.1 61 = .ok (.iadd, 1) := by decide +kernel
theorem d_M_lead_62 : decode mi_M_lead.2.1 62 = .ok (.putfield 105, 3) := by decide +kernel
theorem d_M_lead_65 : decode mi_M_lead.2.1 65 = .ok (.return_, 1) := by decide +kernel
theorem d_M_join_0 : decode mi_M_join.2.1 0 = .ok (.aload_n 0, 1) := by decide +kernel
theorem d_M_join_1 : decode mi_M_join.2.1 1 = .ok (.iload_n 1, 1) := by decide +kernel
theorem d_M_join_2 : decode mi_M_join.2.1 2 = .ok (.iload_n 2, 1) := by decide +kernel
theorem d_M_join_3 : decode mi_M_join.2.1 3 = .ok (.iload_n 3, 1) := by decide +kernel
theorem d_M_join_4 : decode mi_M_join.2.1 4 = .ok (.invokevirtual 108, 3) := by decide +kernel
theorem d_M_join_7 : decode mi_M_join.2.1 7 = .ok (.aload_n 0, 1) := by decide +kernel
theorem d_M_join_8 : decode mi_M_join.2.1 8 = .ok (.iload_n 2, 1) := by decide +kernel
theorem d_M_join_9 : decode mi_M_join.2.1 9 = .ok (.iload_n 1, 1) := by decide +kernel
theorem d_M_join_10 : decode mi_M_join.2.1 10 = .ok (.iconst 0, 1) := by decide +kernel
theorem d_M_join_11 : decode mi_M_join.2.1 11 = .ok (.invokevirtual 108, 3) := by decide +kernel
theorem d_M_join_14 : decode mi_M_join.2.1 14 = .ok (.return_, 1) := by decide +kernel
theorem d_M_cutBack_0 : decode mi_M_cutBack.2.1 0 = .ok (.aload_n 0, 1) := by decide +kernel
theorem d_M_cutBack_1 : decode mi_M_cutBack.2.1 1 = .ok (.getfield 105, 3) := by decide +kernel
theorem d_M_cutBack_4 : decode mi_M_cutBack.2.1 4 = .ok (.iload_n 1, 1) := by decide +kernel
theorem d_M_cutBack_5 : decode mi_M_cutBack.2.1 5 = .ok (.if_icmp .le 39, 3) := by decide +kernel
theorem d_M_cutBack_8 : decode mi_M_cutBack.2.1 8 = .ok (.aload_n 0, 1) := by decide +kernel
theorem d_M_cutBack_9 : decode mi_M_cutBack.2.1 9 = .ok (.dup, 1) := by decide +kernel
theorem d_M_cutBack_10 : decode mi_M_cutBack.2.1 10 = .ok (.getfield 105, 3) := by decide +kernel
theorem d_M_cutBack_13 : decode mi_M_cutBack.2.1 13 = .ok (.iconst 1, 1) := by decide +kernel
theorem d_M_cutBack_14 : decode mi_M_cutBack.2.1 14 = .ok (.isub, 1) := by decide +kernel
theorem d_M_cutBack_15 : decode mi_M_cutBack.2.1 15 = .ok (.putfield 105, 3) := by decide +kernel
theorem d_M_cutBack_18 : decode mi_M_cutBack.2.1 18 = .ok (.aload_n 0, 1) := by decide +kernel
theorem d_M_cutBack_19 : decode mi_M_cutBack.2.1 19 = .ok (.getfield 32, 3) := by decide +kernel
theorem d_M_cutBack_22 : decode mi_M_cutBack.2.1 22 = .ok (.aload_n 0, 1) := by decide +kernel
theorem d_M_cutBack_23 : decode mi_M_cutBack.2.1 23 = .ok (.getfield 23, 3) := by decide +kernel
theorem d_M_cutBack_26 : decode mi_M_cutBack.2.1 26 = .ok (.aload_n 0, 1) := by decide +kernel
theorem d_M_cutBack_27 : decode mi_M_cutBack.2.1 27 = .ok (.getfield 105, 3) := by decide +kernel
theorem d_M_cutBack_30 : decode mi_M_cutBack.2.1 30 = .ok (.iaload, 1) := by decide +kernel
theorem d_M_cutBack_31 : decode mi_M_cutBack.2.1 31 = .ok (.aload_n 0, 1) := by decide +kernel
theorem d_M_cutBack_32 : decode mi_M_cutBack.2.1 32 = .ok (.getfield 35, 3) := by decide +kernel
theorem d_M_cutBack_35 : decode mi_M_cutBack.2.1 35 = .ok (.aload_n 0, 1) := by decide +kernel
theorem d_M_cutBack_36 : decode mi_M_cutBack.2.1 36 = .ok (.getfield 105, 3) := by decide +kernel
theorem d_M_cutBack_39 : decode mi_M_cutBack.2.1 39 = .ok (.iaload, 1) := by decide +kernel
theorem d_M_cutBack_40 : decode mi_M_cutBack.2.1 40 = .ok (.iastore, 1) := by decide +kernel
theorem d_M_cutBack_41 : decode mi_M_cutBack.2.1 41 = .ok (.goto (-41), 3) := by decide +kernel
theorem d_M_cutBack_44 : decode mi_M_cutBack.2.1 44 = .ok (.return_, 1) := by decide +kernel
theorem d_M_tile_0 : decode mi_M_tile.2.1 0 = .ok (.bipush 7, 2) := by decide +kernel
theorem d_M_tile_2 : decode mi_M_tile.2.1 2 = .ok (.iload_n 0, 1) := by decide +kernel
theorem d_M_tile_3 : decode mi_M_tile.2.1 3 = .ok (.imul, 1) := by decide +kernel
theorem d_M_tile_4 : decode mi_M_tile.2.1 4 = .ok (.iload_n 1, 1) := by decide +kernel
theorem d_M_tile_5 : decode mi_M_tile.2.1 5 = .ok (.iadd, 1) := by decide +kernel
theorem d_M_tile_6 : decode mi_M_tile.2.1 6 = .ok (.ireturn, 1) := by decide +kernel
theorem d_M_joinTiles_0 : decode mi_M_joinTiles.2.1 0 = .ok (.aload_n 0, 1) := by decide +kernel
theorem d_M_joinTiles_1 : decode mi_M_joinTiles.2.1 1 = .ok (.getfield 7, 3) := by decide +kernel
theorem d_M_joinTiles_4 : decode mi_M_joinTiles.2.1 4 = .ok (.iconst 2, 1) := by decide +kernel
theorem d_M_joinTiles_5 : decode mi_M_joinTiles.2.1 5 = .ok (.iaload, 1) := by decide +kernel
theorem d_M_joinTiles_6 : decode mi_M_joinTiles.2.1 6 = .ok (.aload_n 0, 1) := by decide +kernel
theorem d_M_joinTiles_7 : decode mi_M_joinTiles.2.1 7 = .ok (.getfield 38, 3) := by decide +kernel
theorem d_M_joinTiles_10 : decode mi_M_joinTiles.2.1 10 = .ok (.iload_n 1, 1) := by decide +kernel
theorem d_M_joinTiles_11 : decode mi_M_joinTiles.2.1 11 = .ok (.baload, 1) := by decide +kernel
theorem d_M_joinTiles_12 : decode mi_M_joinTiles.2.1 12 = .ok (.ifCond .eq 7, 3) := by decide +kernel
theorem d_M_joinTiles_15 : decode mi_M_joinTiles.2.1 15 = .ok (.iconst 1, 1) := by decide +kernel
theorem d_M_joinTiles_16 : decode mi_M_joinTiles.2.1 16 = .ok (.goto 4, 3) := by decide +kernel
theorem d_M_joinTiles_19 : decode mi_M_joinTiles.2.1 19 = .ok (.iconst 0, 1) := by decide +kernel
theorem d_M_joinTiles_20 : decode mi_M_joinTiles.2.1 20 = .ok (.iadd, 1) := by decide +kernel
theorem d_M_joinTiles_21 : decode mi_M_joinTiles.2.1 21 = .ok (.aload_n 0, 1) := by decide +kernel
theorem d_M_joinTiles_22 : decode mi_M_joinTiles.2.1 22 = .ok (.getfield 38, 3) := by decide +kernel
theorem d_M_joinTiles_25 : decode mi_M_joinTiles.2.1 25 = .ok (.iload_n 2, 1) := by decide +kernel
theorem d_M_joinTiles_26 : decode mi_M_joinTiles.2.1 26 = .ok (.baload, 1) := by decide +kernel
theorem d_M_joinTiles_27 : decode mi_M_joinTiles.2.1 27 = .ok (.ifCond .eq 7, 3) := by decide +kernel
theorem d_M_joinTiles_30 : decode mi_M_joinTiles.2.1 30 = .ok (.iconst 1, 1) := by decide +kernel
theorem d_M_joinTiles_31 : decode mi_M_joinTiles.2.1 31 = .ok (.goto 4, 3) := by decide +kernel
theorem d_M_joinTiles_34 : decode mi_M_joinTiles.2.1 34 = .ok (.iconst 0, 1) := by decide +kernel
theorem d_M_joinTiles_35 : decode mi_M_joinTiles.2.1 35 = .ok (.iadd, 1) := by decide +kernel
theorem d_M_joinTiles_36 : decode mi_M_joinTiles.2.1 36 = .ok (.istore 5, 2) := by decide +kernel
theorem d_M_joinTiles_38 : decode mi_M_joinTiles.2.1 38 = .ok (.aload_n 0, 1) := by decide +kernel
theorem d_M_joinTiles_39 : decode mi_M_joinTiles.2.1 39 = .ok (.bipush 87, 2) := by decide +kernel
theorem d_M_joinTiles_41 : decode mi_M_joinTiles.2.1 41 = .ok (.iload_n 3, 1) := by decide +kernel
theorem d_M_joinTiles_42 : decode mi_M_joinTiles.2.1 42 = .ok (.iadd, 1) := by decide +kernel
theorem d_M_joinTiles_43 : decode mi_M_joinTiles.2.1 43 = .ok (.bipush 38, 2) := by decide +kernel
theorem d_M_joinTiles_45 : decode mi_M_joinTiles.2.1 45 = .ok (.iload 4, 2) := by decide +kernel
theorem d_M_joinTiles_47 : decode mi_M_joinTiles.2.1 47 = .ok (.iadd, 1) := by decide +kernel
theorem d_M_joinTiles_48 : decode mi_M_joinTiles.2.1 48 = .ok (.iload 5, 2) := by decide +kernel
theorem d_M_joinTiles_50 : decode mi_M_joinTiles.2.1 50 = .ok (.invokevirtual 112, 3) := by decide +kernel
theorem d_M_joinTiles_53 : decode mi_M_joinTiles.2.1 53 = .ok (.aload_n 0, 1) := by decide +kernel
theorem d_M_joinTiles_54 : decode mi_M_joinTiles.2.1 54 = .ok (.bipush 87, 2) := by decide +kernel
theorem d_M_joinTiles_56 : decode mi_M_joinTiles.2.1 56 = .ok (.iload 4, 2) := by decide +kernel
theorem d_M_joinTiles_58 : decode mi_M_joinTiles.2.1 58 = .ok (.iadd, 1) := by decide +kernel
theorem d_M_joinTiles_59 : decode mi_M_joinTiles.2.1 59 = .ok (.bipush 38, 2) := by decide +kernel
theorem d_M_joinTiles_61 : decode mi_M_joinTiles.2.1 61 = .ok (.iload_n 3, 1) := by decide +kernel
theorem d_M_joinTiles_62 : decode mi_M_joinTiles.2.1 62 = .ok (.iadd, 1) := by decide +kernel
theorem d_M_joinTiles_63 : decode mi_M_joinTiles.2.1 63 = .ok (.iload 5, 2) := by decide +kernel
theorem d_M_joinTiles_65 : decode mi_M_joinTiles.2.1 65 = .ok (.invokevirtual 112, 3) := by decide +kernel
theorem d_M_joinTiles_68 : decode mi_M_joinTiles.2.1 68 = .ok (.return_, 1) := by decide +kernel
theorem d_M_isRim_0 : decode mi_M_isRim.2.1 0 = .ok (.iload_n 1, 1) := by decide +kernel
theorem d_M_isRim_1 : decode mi_M_isRim.2.1 1 = .ok (.ifCond .eq 27, 3) := by decide +kernel
theorem d_M_isRim_4 : decode mi_M_isRim.2.1 4 = .ok (.iload_n 1, 1) := by decide +kernel
theorem d_M_isRim_5 : decode mi_M_isRim.2.1 5 = .ok (.aload_n 0, 1) := by decide +kernel
theorem d_M_isRim_6 : decode mi_M_isRim.2.1 6 = .ok (.getfield 7, 3) := by decide +kernel
theorem d_M_isRim_9 : decode mi_M_isRim.2.1 9 = .ok (.iconst 0, 1) := by decide +kernel
theorem d_M_isRim_10 : decode mi_M_isRim.2.1 10 = .ok (.iaload, 1) := by decide +kernel
theorem d_M_isRim_11 : decode mi_M_isRim.2.1 11 = .ok (.if_icmp .eq 17, 3) := by decide +kernel
theorem d_M_isRim_14 : decode mi_M_isRim.2.1 14 = .ok (.iload_n 2, 1) := by decide +kernel
theorem d_M_isRim_15 : decode mi_M_isRim.2.1 15 = .ok (.ifCond .eq 13, 3) := by decide +kernel
theorem d_M_isRim_18 : decode mi_M_isRim.2.1 18 = .ok (.iload_n 2, 1) := by decide +kernel
theorem d_M_isRim_19 : decode mi_M_isRim.2.1 19 = .ok (.aload_n 0, 1) := by decide +kernel
theorem d_M_isRim_20 : decode mi_M_isRim.2.1 20 = .ok (.getfield 7, 3) := by decide +kernel
theorem d_M_isRim_23 : decode mi_M_isRim.2.1 23 = .ok (.iconst 1, 1) := by decide +kernel
theorem d_M_isRim_24 : decode mi_M_isRim.2.1 24 = .ok (.iaload, 1) := by decide +kernel
theorem d_M_isRim_25 : decode mi_M_isRim.2.1 25 = .ok (.if_icmp .ne 7, 3) := by decide +kernel
theorem d_M_isRim_28 : decode mi_M_isRim.2.1 28 = .ok (.iconst 1, 1) := by decide +kernel
theorem d_M_isRim_29 : decode mi_M_isRim.2.1 29 = .ok (.goto 4, 3) := by decide +kernel
theorem d_M_isRim_32 : decode mi_M_isRim.2.1 32 = .ok (.iconst 0, 1) := by decide +kernel
theorem d_M_isRim_33 : decode mi_M_isRim.2.1 33 = .ok (.ireturn, 1) := by decide +kernel
theorem d_M_lay_0 : decode mi_M_lay.2.1 0 = .ok (.aload_n 0, 1) := by decide +kernel
theorem d_M_lay_1 : decode mi_M_lay.2.1 1 = .ok (.iconst 0, 1) := by decide +kernel
theorem d_M_lay_2 : decode mi_M_lay.2.1 2 = .ok (.putfield 105, 3) := by decide +kernel
theorem d_M_lay_5 : decode mi_M_lay.2.1 5 = .ok (.iconst 0, 1) := by decide +kernel
theorem d_M_lay_6 : decode mi_M_lay.2.1 6 = .ok (.istore_n 1, 1) := by decide +kernel
theorem d_M_lay_7 : decode mi_M_lay.2.1 7 = .ok (.iload_n 1, 1) := by decide +kernel
theorem d_M_lay_8 : decode mi_M_lay.2.1 8 = .ok (.sipush 136, 3) := by decide +kernel
theorem d_M_lay_11 : decode mi_M_lay.2.1 11 = .ok (.if_icmp .ge 17, 3) := by decide +kernel
theorem d_M_lay_14 : decode mi_M_lay.2.1 14 = .ok (.aload_n 0, 1) := by decide +kernel
theorem d_M_lay_15 : decode mi_M_lay.2.1 15 = .ok (.getfield 32, 3) := by decide +kernel
theorem d_M_lay_18 : decode mi_M_lay.2.1 18 = .ok (.iload_n 1, 1) := by decide +kernel
theorem d_M_lay_19 : decode mi_M_lay.2.1 19 = .ok (.bipush (-9), 2) := by decide +kernel
theorem d_M_lay_21 : decode mi_M_lay.2.1 21 = .ok (.iastore, 1) := by decide +kernel
theorem d_M_lay_22 : decode mi_M_lay.2.1 22 = .ok (.iinc 1 1, 3) := by decide +kernel
theorem d_M_lay_25 : decode mi_M_lay.2.1 25 = .ok (.goto (-18), 3) := by decide +kernel
theorem d_M_lay_28 : decode mi_M_lay.2.1 28 = .ok (.iconst 0, 1) := by decide +kernel
theorem d_M_lay_29 : decode mi_M_lay.2.1 29 = .ok (.istore_n 1, 1) := by decide +kernel
theorem d_M_lay_30 : decode mi_M_lay.2.1 30 = .ok (.iload_n 1, 1) := by decide +kernel
theorem d_M_lay_31 : decode mi_M_lay.2.1 31 = .ok (.aload_n 0, 1) := by decide +kernel
theorem d_M_lay_32 : decode mi_M_lay.2.1 32 = .ok (.getfield 7, 3) := by decide +kernel
theorem d_M_lay_35 : decode mi_M_lay.2.1 35 = .ok (.iconst 0, 1) := by decide +kernel
theorem d_M_lay_36 : decode mi_M_lay.2.1 36 = .ok (.iaload, 1) := by decide +kernel
theorem d_M_lay_37 : decode mi_M_lay.2.1 37 = .ok (.if_icmp .gt 77, 3) := by decide +kernel
theorem d_M_lay_40 : decode mi_M_lay.2.1 40 = .ok (.iconst 0, 1) := by decide +kernel
theorem d_M_lay_41 : decode mi_M_lay.2.1 41 = .ok (.istore_n 2, 1) := by decide +kernel
theorem d_M_lay_42 : decode mi_M_lay.2.1 42 = .ok (.iload_n 2, 1) := by decide +kernel
theorem d_M_lay_43 : decode mi_M_lay.2.1 43 = .ok (.aload_n 0, 1) := by decide +kernel
theorem d_M_lay_44 : decode mi_M_lay.2.1 44 = .ok (.getfield 7, 3) := by decide +kernel
theorem d_M_lay_47 : decode mi_M_lay.2.1 47 = .ok (.iconst 1, 1) := by decide +kernel
theorem d_M_lay_48 : decode mi_M_lay.2.1 48 = .ok (.iaload, 1) := by decide +kernel
theorem d_M_lay_49 : decode mi_M_lay.2.1 49 = .ok (.if_icmp .gt 59, 3) := by decide +kernel
theorem d_M_lay_52 : decode mi_M_lay.2.1 52 = .ok (.aload_n 0, 1) := by decide +kernel
theorem d_M_lay_53 : decode mi_M_lay.2.1 53 = .ok (.bipush 38, 2) := by decide +kernel
theorem d_M_lay_55 : decode mi_M_lay.2.1 55 = .ok (.iload_n 1, 1) := by decide +kernel
theorem d_M_lay_56 : decode mi_M_lay.2.1 56 = .ok (.iload_n 2, 1) := by decide +kernel
theorem d_M_lay_57 : decode mi_M_lay.2.1 57 = .ok (.invokestatic 115, 3) := by decide +kernel
theorem d_M_lay_60 : decode mi_M_lay.2.1 60 = .ok (.iadd, 1) := by decide +kernel
theorem d_M_lay_61 : decode mi_M_lay.2.1 61 = .ok (.bipush 87, 2) := by decide +kernel
theorem d_M_lay_63 : decode mi_M_lay.2.1 63 = .ok (.iload_n 1, 1) := by decide +kernel
theorem d_M_lay_64 : decode mi_M_lay.2.1 64 = .ok (.iload_n 2, 1) := by decide +kernel
theorem d_M_lay_65 : decode mi_M_lay.2.1 65 = .ok (.invokestatic 115, 3) := by decide +kernel
theorem d_M_lay_68 : decode mi_M_lay.2.1 68 = .ok (.iadd, 1) := by decide +kernel
theorem d_M_lay_69 : decode mi_M_lay.2.1 69 = .ok (.aload_n 0, 1) := by decide +kernel
theorem d_M_lay_70 : decode mi_M_lay.2.1 70 = .ok (.getfield 7, 3) := by decide +kernel
theorem d_M_lay_73 : decode mi_M_lay.2.1 73 = .ok (.iconst 3, 1) := by decide +kernel
theorem d_M_lay_74 : decode mi_M_lay.2.1 74 = .ok (.iaload, 1) := by decide +kernel
theorem d_M_lay_75 : decode mi_M_lay.2.1 75 = .ok (.invokevirtual 112, 3) := by decide +kernel
theorem d_M_lay_78 : decode mi_M_lay.2.1 78 = .ok (.aload_n 0, 1) := by decide +kernel
theorem d_M_lay_79 : decode mi_M_lay.2.1 79 = .ok (.iload_n 1, 1) := by decide +kernel
theorem d_M_lay_80 : decode mi_M_lay.2.1 80 = .ok (.iload_n 2, 1) := by decide +kernel
theorem d_M_lay_81 : decode mi_M_lay.2.1 81 = .ok (.invokevirtual 119, 3) := by decide +kernel
theorem d_M_lay_84 : decode mi_M_lay.2.1 84 = .ok (.ifCond .eq 18, 3) := by decide +kernel
theorem d_M_lay_87 : decode mi_M_lay.2.1 87 = .ok (.aload_n 0, 1) := by decide +kernel
theorem d_M_lay_88 : decode mi_M_lay.2.1 88 = .ok (.bipush 87, 2) := by decide +kernel
theorem d_M_lay_90 : decode mi_M_lay.2.1 90 = .ok (.iload_n 1, 1) := by decide +kernel
theorem d_M_lay_91 : decode mi_M_lay.2.1 91 = .ok (.iload_n 2, 1) := by decide +kernel
theorem d_M_lay_92 : decode mi_M_lay.2.1 92 = .ok (.invokestatic 115, 3) := by decide +kernel
theorem d_M_lay_95 : decode mi_M_lay.2.1 95 = .ok (.iadd, 1) := by decide +kernel
theorem d_M_lay_96 : decode mi_M_lay.2.1 96 = .ok (.iconst 1, 1) := by decide +kernel
theorem d_M_lay_97 : decode mi_M_lay.2.1 97 = .ok (.ldc 122, 2) := by decide +kernel
theorem d_M_lay_99 : decode mi_M_lay.2.1 99 = .ok (.invokevirtual 112, 3) := by decide +kernel
theorem d_M_lay_102 : decode mi_M_lay.2.1 102 = .ok (.iinc 2 1, 3) := by decide +kernel
theorem d_M_lay_105 : decode mi_M_lay.2.1 105 = .ok (.goto (-63), 3) := by decide +kernel
theorem d_M_lay_108 : decode mi_M_lay.2.1 108 = .ok (.iinc 1 1, 3) := by decide +kernel
theorem d_M_lay_111 : decode mi_M_lay.2.1 111 = .ok (.goto (-81), 3) := by decide +kernel
theorem d_M_lay_114 : decode mi_M_lay.2.1 114 = .ok (.iconst 0, 1) := by decide +kernel
theorem d_M_lay_115 : decode mi_M_lay.2.1 115 = .ok (.istore_n 1, 1) := by decide +kernel
theorem d_M_lay_116 : decode mi_M_lay.2.1 116 = .ok (.iload_n 1, 1) := by decide +kernel
theorem d_M_lay_117 : decode mi_M_lay.2.1 117 = .ok (.aload_n 0, 1) := by decide +kernel
theorem d_M_lay_118 : decode mi_M_lay.2.1 118 = .ok (.getfield 7, 3) := by decide +kernel
theorem d_M_lay_121 : decode mi_M_lay.2.1 121 = .ok (.iconst 0, 1) := by decide +kernel
theorem d_M_lay_122 : decode mi_M_lay.2.1 122 = .ok (.iaload, 1) := by decide +kernel
theorem d_M_lay_123 : decode mi_M_lay.2.1 123 = .ok (.if_icmp .ge 107, 3) := by decide +kernel
theorem d_M_lay_126 : decode mi_M_lay.2.1 126 = .ok (.iconst 0, 1) := by decide +kernel
theorem d_M_lay_127 : decode mi_M_lay.2.1 127 = .ok (.istore_n 2, 1) := by decide +kernel
theorem d_M_lay_128 : decode mi_M_lay.2.1 128 = .ok (.iload_n 2, 1) := by decide +kernel
theorem d_M_lay_129 : decode mi_M_lay.2.1 129 = .ok (.aload_n 0, 1) := by decide +kernel
theorem d_M_lay_130 : decode mi_M_lay.2.1 130 = .ok (.getfield 7, 3) := by decide +kernel
theorem d_M_lay_133 : decode mi_M_lay.2.1 133 = .ok (.iconst 1, 1) := by decide +kernel
theorem d_M_lay_134 : decode mi_M_lay.2.1 134 = .ok (.iaload, 1) := by decide +kernel
theorem d_M_lay_135 : decode mi_M_lay.2.1 135 = .ok (.if_icmp .ge 89, 3) := by decide +kernel
theorem d_M_lay_138 : decode mi_M_lay.2.1 138 = .ok (.bipush 6, 2) := by decide +kernel
theorem d_M_lay_140 : decode mi_M_lay.2.1 140 = .ok (.iload_n 1, 1) := by decide +kernel
theorem d_M_lay_141 : decode mi_M_lay.2.1 141 = .ok (.imul, 1) := by decide +kernel
theorem d_M_lay_142 : decode mi_M_lay.2.1 142 = .ok (.iload_n 2, 1) := by decide +kernel
theorem d_M_lay_143 : decode mi_M_lay.2.1 143 = .ok (.iadd, 1) := by decide +kernel
theorem d_M_lay_144 : decode mi_M_lay.2.1 144 = .ok (.istore_n 3, 1) := by decide +kernel
theorem d_M_lay_145 : decode mi_M_lay.2.1 145 = .ok (.iload_n 2, 1) := by decide +kernel
theorem d_M_lay_146 : decode mi_M_lay.2.1 146 = .ok (.iconst 1, 1) := by decide +kernel
theorem d_M_lay_147 : decode mi_M_lay.2.1 147 = .ok (.iadd, 1) := by decide +kernel
theorem d_M_lay_148 : decode mi_M_lay.2.1 148 = .ok (.aload_n 0, 1) := by decide +kernel
theorem d_M_lay_149 : decode mi_M_lay.2.1 149 = .ok (.getfield 7, 3) := by decide +kernel
theorem d_M_lay_152 : decode mi_M_lay.2.1 152 = .ok (.iconst 1, 1) := by decide +kernel
theorem d_M_lay_153 : decode mi_M_lay.2.1 153 = .ok (.iaload, 1) := by decide +kernel
theorem d_M_lay_154 : decode mi_M_lay.2.1 154 = .ok (.if_icmp .ge 27, 3) := by decide +kernel
theorem d_M_lay_157 : decode mi_M_lay.2.1 157 = .ok (.aload_n 0, 1) := by decide +kernel
theorem d_M_lay_158 : decode mi_M_lay.2.1 158 = .ok (.iload_n 3, 1) := by decide +kernel
theorem d_M_lay_159 : decode mi_M_lay.2.1 159 = .ok (.iload_n 3, 1) := by decide +kernel
theorem d_M_lay_160 : decode mi_M_lay.2.1 160 = .ok (.iconst 1, 1) := by decide +kernel
theorem d_M_lay_161 : decode mi_M_lay.2.1 161 = .ok (.iadd, 1) := by decide +kernel
theorem d_M_lay_162 : decode mi_M_lay.2.1 162 = .ok (.iload_n 1, 1) := by decide +kernel
theorem d_M_lay_163 : decode mi_M_lay.2.1 163 = .ok (.iload_n 2, 1) := by decide +kernel
theorem d_M_lay_164 : decode mi_M_lay.2.1 164 = .ok (.iconst 1, 1) := by decide +kernel
theorem d_M_lay_165 : decode mi_M_lay.2.1 165 = .ok (.iadd, 1) := by decide +kernel
theorem d_M_lay_166 : decode mi_M_lay.2.1 166 = .ok (.invokestatic 115, 3) := by decide +kernel
theorem d_M_lay_169 : decode mi_M_lay.2.1 169 = .ok (.iload_n 1, 1) := by decide +kernel
theorem d_M_lay_170 : decode mi_M_lay.2.1 170 = .ok (.iconst 1, 1) := by decide +kernel
theorem d_M_lay_171 : decode mi_M_lay.2.1 171 = .ok (.iadd, 1) := by decide +kernel
theorem d_M_lay_172 : decode mi_M_lay.2.1 172 = .ok (.iload_n 2, 1) := by decide +kernel
theorem d_M_lay_173 : decode mi_M_lay.2.1 173 = .ok (.iconst 1, 1) := by decide +kernel
theorem d_M_lay_174 : decode mi_M_lay.2.1 174 = .ok (.iadd, 1) := by decide +kernel
theorem d_M_lay_175 : decode mi_M_lay.2.1 175 = .ok (.invokestatic 115, 3) := by decide +kernel
theorem d_M_lay_178 : decode mi_M_lay.2.1 178 = .ok (.invokevirtual 123, 3) := by decide +kernel
theorem d_M_lay_181 : decode mi_M_lay.2.1 181 = .ok (.iload_n 1, 1) := by decide +kernel
theorem d_M_lay_182 : decode mi_M_lay.2.1 182 = .ok (.iconst 1, 1) := by decide +kernel
theorem d_M_lay_183 : decode mi_M_lay.2.1 183 = .ok (.iadd, 1) := by decide +kernel
theorem d_M_lay_184 : decode mi_M_lay.2.1 184 = .ok (.aload_n 0, 1) := by decide +kernel
theorem d_M_lay_185 : decode mi_M_lay.2.1 185 = .ok (.getfield 7, 3) := by decide +kernel
theorem d_M_lay_188 : decode mi_M_lay.2.1 188 = .ok (.iconst 0, 1) := by decide +kernel
theorem d_M_lay_189 : decode mi_M_lay.2.1 189 = .ok (.iaload, 1) := by decide +kernel
theorem d_M_lay_190 : decode mi_M_lay.2.1 190 = .ok (.if_icmp .ge 28, 3) := by decide +kernel
theorem d_M_lay_193 : decode mi_M_lay.2.1 193 = .ok (.aload_n 0, 1) := by decide +kernel
theorem d_M_lay_194 : decode mi_M_lay.2.1 194 = .ok (.iload_n 3, 1) := by decide +kernel
theorem d_M_lay_195 : decode mi_M_lay.2.1 195 = .ok (.iload_n 3, 1) := by decide +kernel
theorem d_M_lay_196 : decode mi_M_lay.2.1 196 = .ok (.bipush 6, 2) := by decide +kernel
theorem d_M_lay_198 : decode mi_M_lay.2.1 198 = .ok (.iadd, 1) := by decide +kernel
theorem d_M_lay_199 : decode mi_M_lay.2.1 199 = .ok (.iload_n 1, 1) := by decide +kernel
theorem d_M_lay_200 : decode mi_M_lay.2.1 200 = .ok (.iconst 1, 1) := by decide +kernel
theorem d_M_lay_201 : decode mi_M_lay.2.1 201 = .ok (.iadd, 1) := by decide +kernel
theorem d_M_lay_202 : decode mi_M_lay.2.1 202 = .ok (.iload_n 2, 1) := by decide +kernel
theorem d_M_lay_203 : decode mi_M_lay.2.1 203 = .ok (.invokestatic 115, 3) := by decide +kernel
theorem d_M_lay_206 : decode mi_M_lay.2.1 206 = .ok (.iload_n 1, 1) := by decide +kernel
theorem d_M_lay_207 : decode mi_M_lay.2.1 207 = .ok (.iconst 1, 1) := by decide +kernel
theorem d_M_lay_208 : decode mi_M_lay.2.1 208 = .ok (.iadd, 1) := by decide +kernel
theorem d_M_lay_209 : decode mi_M_lay.2.1 209 = .ok (.iload_n 2, 1) := by decide +kernel
theorem d_M_lay_210 : decode mi_M_lay.2.1 210 = .ok (.iconst 1, 1) := by decide +kernel
theorem d_M_lay_211 : decode mi_M_lay.2.1 211 = .ok (.iadd, 1) := by decide +kernel
theorem d_M_lay_212 : decode mi_M_lay.2.1 212 = .ok (.invokestatic 115, 3) := by decide +kernel
theorem d_M_lay_215 : decode mi_M_lay.2.1 215 = .ok (.invokevirtual 123, 3) := by decide +kernel
theorem d_M_lay_218 : decode mi_M_lay.2.1 218 = .ok (.iinc 2 1, 3) := by decide +kernel
theorem d_M_lay_221 : decode mi_M_lay.2.1 221 = .ok (.goto (-93), 3) := by decide +kernel
theorem d_M_lay_224 : decode mi_M_lay.2.1 224 = .ok (.iinc 1 1, 3) := by decide +kernel
theorem d_M_lay_227 : decode mi_M_lay.2.1 227 = .ok (.goto (-111), 3) := by decide +kernel
theorem d_M_lay_230 : decode mi_M_lay.2.1 230 = .ok (.return_, 1) := by decide +kernel
theorem d_M_layPin_0 : decode mi_M_layPin.2.1 0 = .ok (.aload_n 0, 1) := by decide +kernel
theorem d_M_layPin_1 : decode mi_M_layPin.2.1 1 = .ok (.iconst 0, 1) := by decide +kernel
theorem d_M_layPin_2 : decode mi_M_layPin.2.1 2 = .ok (.iconst 2, 1) := by decide +kernel
theorem d_M_layPin_3 : decode mi_M_layPin.2.1 3 = .ok (.iload_n 1, 1) := by decide +kernel
theorem d_M_layPin_4 : decode mi_M_layPin.2.1 4 = .ok (.iadd, 1) := by decide +kernel
theorem d_M_layPin_5 : decode mi_M_layPin.2.1 5 = .ok (.iload_n 2, 1) := by decide +kernel
theorem d_M_layPin_6 : decode mi_M_layPin.2.1 6 = .ok (.invokevirtual 112, 3) := by decide +kernel
theorem d_M_layPin_9 : decode mi_M_layPin.2.1 9 = .ok (.iconst 0, 1) := by decide +kernel
theorem d_M_layPin_10 : decode mi_M_layPin.2.1 10 = .ok (.istore_n 3, 1) := by decide +kernel
theorem d_M_layPin_11 : decode mi_M_layPin.2.1 11 = .ok (.iload_n 3, 1) := by decide +kernel
theorem d_M_layPin_12 : decode mi_M_layPin.2.1 12 = .ok (.iconst 4, 1) := by decide +kernel
theorem d_M_layPin_13 : decode mi_M_layPin.2.1 13 = .ok (.if_icmp .ge 39, 3) := by decide +kernel
theorem d_M_layPin_16 : decode mi_M_layPin.2.1 16 = .ok (.aload_n 0, 1) := by decide +kernel
theorem d_M_layPin_17 : decode mi_M_layPin.2.1 17 = .ok (.iconst 2, 1) := by decide +kernel
theorem d_M_layPin_18 : decode mi_M_layPin.2.1 18 = .ok (.iload_n 1, 1) := by decide +kernel
theorem d_M_layPin_19 : decode mi_M_layPin.2.1 19 = .ok (.iadd, 1) := by decide +kernel
theorem d_M_layPin_20 : decode mi_M_layPin.2.1 20 = .ok (.bipush 38, 2) := by decide +kernel
theorem d_M_layPin_22 : decode mi_M_layPin.2.1 22 = .ok (.iload_n 1, 1) := by decide +kernel
theorem d_M_layPin_23 : decode mi_M_layPin.2.1 23 = .ok (.bipush 6, 2) := by decide +kernel
theorem d_M_layPin_25 : decode mi_M_layPin.2.1 25 = .ok (.idiv, 1) := by decide +kernel
theorem d_M_layPin_26 : decode mi_M_layPin.2.1 26 = .ok (.iload_n 3, 1) := by decide +kernel
theorem d_M_layPin_27 : decode mi_M_layPin.2.1 27 = .ok (.iconst 2, 1) := by decide +kernel
theorem d_M_layPin_28 : decode mi_M_layPin.2.1 28 = .ok (.idiv, 1) := by decide +kernel
theorem d_M_layPin_29 : decode mi_M_layPin.2.1 29 = .ok (.iadd, 1) := by decide +kernel
theorem d_M_layPin_30 : decode mi_M_layPin.2.1 30 = .ok (.iload_n 1, 1) := by decide +kernel
theorem d_M_layPin_31 : decode mi_M_layPin.2.1 31 = .ok (.bipush 6, 2) := by decide +kernel
theorem d_M_layPin_33 : decode mi_M_layPin.2.1 33 = .ok (.irem, 1) := by decide +kernel
theorem d_M_layPin_34 : decode mi_M_layPin.2.1 34 = .ok (.iload_n 3, 1) := by decide +kernel
theorem d_M_layPin_35 : decode mi_M_layPin.2.1 35 = .ok (.iconst 2, 1) := by decide +kernel
theorem d_M_layPin_36 : decode mi_M_layPin.2.1 36 = .ok (.irem, 1) := by decide +kernel
theorem d_M_layPin_37 : decode mi_M_layPin.2.1 37 = .ok (.iadd, 1) := by decide +kernel
theorem d_M_layPin_38 : decode mi_M_layPin.2.1 38 = .ok (.invokestatic 115, 3) := by decide +kernel
theorem d_M_layPin_41 : decode mi_M_layPin.2.1 41 = .ok (.iadd, 1) := by decide +kernel
theorem d_M_layPin_42 : decode mi_M_layPin.2.1 42 = .ok (.iload_n 2, 1) := by decide +kernel
theorem d_M_layPin_43 : decode mi_M_layPin.2.1 43 = .ok (.invokevirtual 112, 3) := by decide +kernel
theorem d_M_layPin_46 : decode mi_M_layPin.2.1 46 = .ok (.iinc 3 1, 3) := by decide +kernel
theorem d_M_layPin_49 : decode mi_M_layPin.2.1 49 = .ok (.goto (-38), 3) := by decide +kernel
theorem d_M_layPin_52 : decode mi_M_layPin.2.1 52 = .ok (.return_, 1) := by decide +kernel
theorem d_M_reach_0 : decode mi_M_reach.2.1 0 = .ok (.iconst 0, 1) := by decide +kernel
theorem d_M_reach_1 : decode mi_M_reach.2.1 1 = .ok (.istore_n 1, 1) := by decide +kernel
theorem d_M_reach_2 : decode mi_M_reach.2.1 2 = .ok (.iload_n 1, 1) := by decide +kernel
theorem d_M_reach_3 : decode mi_M_reach.2.1 3 = .ok (.sipush 136, 3) := by decide +kernel
theorem d_M_reach_6 : decode mi_M_reach.2.1 6 = .ok (.if_icmp .ge 16, 3) := by decide +kernel
theorem d_M_reach_9 : decode mi_M_reach.2.1 9 = .ok (.aload_n 0, 1) := by decide +kernel
theorem d_M_reach_10 : decode mi_M_reach.2.1 10 = .ok (.getfield 48, 3) := by decide +kernel
theorem d_M_reach_13 : decode mi_M_reach.2.1 13 = .ok (.iload_n 1, 1) := by decide +kernel
theorem d_M_reach_14 : decode mi_M_reach.2.1 14 = .ok (.iconst 0, 1) := by decide +kernel
theorem d_M_reach_15 : decode mi_M_reach.2.1 15 = .ok (.bastore, 1) := by decide +kernel
theorem d_M_reach_16 : decode mi_M_reach.2.1 16 = .ok (.iinc 1 1, 3) := by decide +kernel
theorem d_M_reach_19 : decode mi_M_reach.2.1 19 = .ok (.goto (-17), 3) := by decide +kernel
theorem d_M_reach_22 : decode mi_M_reach.2.1 22 = .ok (.aload_n 0, 1) := by decide +kernel
theorem d_M_reach_23 : decode mi_M_reach.2.1 23 = .ok (.getfield 48, 3) := by decide +kernel
theorem d_M_reach_26 : decode mi_M_reach.2.1 26 = .ok (.iconst 0, 1) := by decide +kernel
theorem d_M_reach_27 : decode mi_M_reach.2.1 27 = .ok (.iconst 1, 1) := by decide +kernel
theorem d_M_reach_28 : decode mi_M_reach.2.1 28 = .ok (.bastore, 1) := by decide +kernel
theorem d_M_reach_29 : decode mi_M_reach.2.1 29 = .ok (.aload_n 0, 1) := by decide +kernel
theorem d_M_reach_30 : decode mi_M_reach.2.1 30 = .ok (.getfield 42, 3) := by decide +kernel
theorem d_M_reach_33 : decode mi_M_reach.2.1 33 = .ok (.iconst 0, 1) := by decide +kernel
theorem d_M_reach_34 : decode mi_M_reach.2.1 34 = .ok (.iconst 0, 1) := by decide +kernel
theorem d_M_reach_35 : decode mi_M_reach.2.1 35 = .ok (.iastore, 1) := by decide +kernel
theorem d_M_reach_36 : decode mi_M_reach.2.1 36 = .ok (.iconst 1, 1) := by decide +kernel
theorem d_M_reach_37 : decode mi_M_reach.2.1 37 = .ok (.istore_n 1, 1) := by decide +kernel
theorem d_M_reach_38 : decode mi_M_reach.2.1 38 = .ok (.iconst 0, 1) := by decide +kernel
theorem d_M_reach_39 : decode mi_M_reach.2.1 39 = .ok (.istore_n 2, 1) := by decide +kernel
theorem d_M_reach_40 : decode mi_M_reach.2.1 40 = .ok (.iload_n 2, 1) := by decide +kernel
theorem d_M_reach_41 : decode mi_M_reach.2.1 41 = .ok (.iload_n 1, 1) := by decide +kernel
theorem d_M_reach_42 : decode mi_M_reach.2.1 42 = .ok (.if_icmp .ge 99, 3) := by decide +kernel
theorem d_M_reach_45 : decode mi_M_reach.2.1 45 = .ok (.aload_n 0, 1) := by decide +kernel
theorem d_M_reach_46 : decode mi_M_reach.2.1 46 = .ok (.getfield 32, 3) := by decide +kernel
theorem d_M_reach_49 : decode mi_M_reach.2.1 49 = .ok (.aload_n 0, 1) := by decide +kernel
theorem d_M_reach_50 : decode mi_M_reach.2.1 50 = .ok (.getfield 42, 3) := by decide +kernel
theorem d_M_reach_53 : decode mi_M_reach.2.1 53 = .ok (.iload_n 2, 1) := by decide +kernel
theorem d_M_reach_54 : decode mi_M_reach.2.1 54 = .ok (.iaload, 1) := by decide +kernel
theorem d_M_reach_55 : decode mi_M_reach.2.1 55 = .ok (.iaload, 1) := by decide +kernel
theorem d_M_reach_56 : decode mi_M_reach.2.1 56 = .ok (.istore_n 3, 1) := by decide +kernel
theorem d_M_reach_57 : decode mi_M_reach.2.1 57 = .ok (.iload_n 3, 1) := by decide +kernel
theorem d_M_reach_58 : decode mi_M_reach.2.1 58 = .ok (.bipush (-9), 2) := by decide +kernel
theorem d_M_reach_60 : decode mi_M_reach.2.1 60 = .ok (.if_icmp .eq 75, 3) := by decide +kernel
theorem d_M_reach_63 : decode mi_M_reach.2.1 63 = .ok (.aload_n 0, 1) := by decide +kernel
theorem d_M_reach_64 : decode mi_M_reach.2.1 64 = .ok (.getfield 29, 3) := by decide +kernel
theorem d_M_reach_67 : decode mi_M_reach.2.1 67 = .ok (.iload_n 3, 1) := by decide +kernel
theorem d_M_reach_68 : decode mi_M_reach.2.1 68 = .ok (.iaload, 1) := by decide +kernel
theorem d_M_reach_69 : decode mi_M_reach.2.1 69 = .ok (.ifCond .le 56, 3) := by decide +kernel
theorem d_M_reach_72 : decode mi_M_reach.2.1 72 = .ok (.aload_n 0, 1) := by decide +kernel
theorem d_M_reach_73 : decode mi_M_reach.2.1 73 = .ok (.getfield 48, 3) := by decide +kernel
theorem d_M_reach_76 : decode mi_M_reach.2.1 76 = .ok (.aload_n 0, 1) := by decide +kernel
theorem d_M_reach_77 : decode mi_M_reach.2.1 77 = .ok (.getfield 26, 3) := by decide +kernel
theorem d_M_reach_80 : decode mi_M_reach.2.1 80 = .ok (.iload_n 3, 1) := by decide +kernel
theorem d_M_reach_81 : decode mi_M_reach.2.1 81 = .ok (.iaload, 1) := by decide +kernel
theorem d_M_reach_82 : decode mi_M_reach.2.1 82 = .ok (.baload, 1) := by decide +kernel
theorem d_M_reach_83 : decode mi_M_reach.2.1 83 = .ok (.ifCond .ne 42, 3) := by decide +kernel
theorem d_M_reach_86 : decode mi_M_reach.2.1 86 = .ok (.aload_n 0, 1) := by decide +kernel
theorem d_M_reach_87 : decode mi_M_reach.2.1 87 = .ok (.getfield 48, 3) := by decide +kernel
theorem d_M_reach_90 : decode mi_M_reach.2.1 90 = .ok (.aload_n 0, 1) := by decide +kernel
theorem d_M_reach_91 : decode mi_M_reach.2.1 91 = .ok (.getfield 26, 3) := by decide +kernel
theorem d_M_reach_94 : decode mi_M_reach.2.1 94 = .ok (.iload_n 3, 1) := by decide +kernel
theorem d_M_reach_95 : decode mi_M_reach.2.1 95 = .ok (.iaload, 1) := by decide +kernel
theorem d_M_reach_96 : decode mi_M_reach.2.1 96 = .ok (.iconst 1, 1) := by decide +kernel
theorem d_M_reach_97 : decode mi_M_reach.2.1 97 = .ok (.bastore, 1) := by decide +kernel
theorem d_M_reach_98 : decode mi_M_reach.2.1 98 = .ok (.aload_n 0, 1) := by decide +kernel
theorem d_M_reach_99 : decode mi_M_reach.2.1 99 = .ok (.getfield 45, 3) := by decide +kernel
theorem d_M_reach_102 : decode mi_M_reach.2.1 102 = .ok (.aload_n 0, 1) := by decide +kernel
theorem d_M_reach_103 : decode mi_M_reach.2.1 103 = .ok (.getfield 26, 3) := by decide +kernel
theorem d_M_reach_106 : decode mi_M_reach.2.1 106 = .ok (.iload_n 3, 1) := by decide +kernel
theorem d_M_reach_107 : decode mi_M_reach.2.1 107 = .ok (.iaload, 1) := by decide +kernel
theorem d_M_reach_108 : decode mi_M_reach.2.1 108 = .ok (.iload_n 3, 1) := by decide +kernel
theorem d_M_reach_109 : decode mi_M_reach.2.1 109 = .ok (.iastore, 1) := by decide +kernel
theorem d_M_reach_110 : decode mi_M_reach.2.1 110 = .ok (.aload_n 0, 1) := by decide +kernel
theorem d_M_reach_111 : decode mi_M_reach.2.1 111 = .ok (.getfield 42, 3) := by decide +kernel
theorem d_M_reach_114 : decode mi_M_reach.2.1 114 = .ok (.iload_n 1, 1) := by decide +kernel
theorem d_M_reach_115 : decode mi_M_reach.2.1 115 = .ok (.aload_n 0, 1) := by decide +kernel
theorem d_M_reach_116 : decode mi_M_reach.2.1 116 = .ok (.getfield 26, 3) := by decide +kernel
theorem d_M_reach_119 : decode mi_M_reach.2.1 119 = .ok (.iload_n 3, 1) := by decide +kernel
theorem d_M_reach_120 : decode mi_M_reach.2.1 120 = .ok (.iaload, 1) := by decide +kernel
theorem d_M_reach_121 : decode mi_M_reach.2.1 121 = .ok (.iastore, 1) := by decide +kernel
theorem d_M_reach_122 : decode mi_M_reach.2.1 122 = .ok (.iinc 1 1, 3) := by decide +kernel
theorem d_M_reach_125 : decode mi_M_reach.2.1 125 = .ok (.aload_n 0, 1) := by decide +kernel
theorem d_M_reach_126 : decode mi_M_reach.2.1 126 = .ok (.getfield 35, 3) := by decide +kernel
theorem d_M_reach_129 : decode mi_M_reach.2.1 129 = .ok (.iload_n 3, 1) := by decide +kernel
theorem d_M_reach_130 : decode mi_M_reach.2.1 130 = .ok (.iaload, 1) := by decide +kernel
theorem d_M_reach_131 : decode mi_M_reach.2.1 131 = .ok (.istore_n 3, 1) := by decide +kernel
theorem d_M_reach_132 : decode mi_M_reach.2.1 132 = .ok (.goto (-75), 3) := by decide +kernel
theorem d_M_reach_135 : decode mi_M_reach.2.1 135 = .ok (.iinc 2 1, 3) := by decide +kernel
theorem d_M_reach_138 : decode mi_M_reach.2.1 138 = .ok (.goto (-98), 3) := by decide +kernel
theorem d_M_reach_141 : decode mi_M_reach.2.1 141 = .ok (.return_, 1) := by decide +kernel
theorem d_M_augment_0 : decode mi_M_augment.2.1 0 = .ok (.aload_n 0, 1) := by decide +kernel
theorem d_M_augment_1 : decode mi_M_augment.2.1 1 = .ok (.invokevirtual 127, 3) := by decide +kernel
theorem d_M_augment_4 : decode mi_M_augment.2.1 4 = .ok (.aload_n 0, 1) := by decide +kernel
theorem d_M_augment_5 : decode mi_M_augment.2.1 5 = .ok (.getfield 48, 3) := by decide +kernel
theorem d_M_augment_8 : decode mi_M_augment.2.1 8 = .ok (.iconst 1, 1) := by decide +kernel
theorem d_M_augment_9 : decode mi_M_augment.2.1 9 = .ok (.baload, 1) := by decide +kernel
theorem d_M_augment_10 : decode mi_M_augment.2.1 10 = .ok (.ifCond .ne 5, 3) := by decide +kernel
theorem d_M_augment_13 : decode mi_M_augment.2.1 13 = .ok (.iconst 0, 1) := by decide +kernel
theorem d_M_augment_14 : decode mi_M_augment.2.1 14 = .ok (.ireturn, 1) := by decide +kernel
theorem d_M_augment_15 : decode mi_M_augment.2.1 15 = .ok (.ldc 122, 2) := by decide +kernel
theorem d_M_augment_17 : decode mi_M_augment.2.1 17 = .ok (.istore_n 1, 1) := by decide +kernel
theorem d_M_augment_18 : decode mi_M_augment.2.1 18 = .ok (.iconst 1, 1) := by decide +kernel
theorem d_M_augment_19 : decode mi_M_augment.2.1 19 = .ok (.istore_n 2, 1) := by decide +kernel
theorem d_M_augment_20 : decode mi_M_augment.2.1 20 = .ok (.iload_n 2, 1) := by decide +kernel
theorem d_M_augment_21 : decode mi_M_augment.2.1 21 = .ok (.ifCond .eq 49, 3) := by decide +kernel
theorem d_M_augment_24 : decode mi_M_augment.2.1 24 = .ok (.aload_n 0, 1) := by decide +kernel
theorem d_M_augment_25 : decode mi_M_augment.2.1 25 = .ok (.getfield 29, 3) := by decide +kernel
theorem d_M_augment_28 : decode mi_M_augment.2.1 28 = .ok (.aload_n 0, 1) := by decide +kernel
theorem d_M_augment_29 : decode mi_M_augment.2.1 29 = .ok (.getfield 45, 3) := by decide +kernel
theorem d_M_augment_32 : decode mi_M_augment.2.1 32 = .ok (.iload_n 2, 1) := by decide +kernel
theorem d_M_augment_33 : decode mi_M_augment.2.1 33 = .ok (.iaload, 1) := by decide +kernel
theorem d_M_augment_34 : decode mi_M_augment.2.1 34 = .ok (.iaload, 1) := by decide +kernel
theorem d_M_augment_35 : decode mi_M_augment.2.1 35 = .ok (.iload_n 1, 1) := by decide +kernel
theorem d_M_augment_36 : decode mi_M_augment.2.1 36 = .ok (.if_icmp .ge 17, 3) := by decide +kernel
theorem d_M_augment_39 : decode mi_M_augment.2.1 39 = .ok (.aload_n 0, 1) := by decide +kernel
theorem d_M_augment_40 : decode mi_M_augment.2.1 40 = .ok (.getfield 29, 3) := by decide +kernel
theorem d_M_augment_43 : decode mi_M_augment.2.1 43 = .ok (.aload_n 0, 1) := by decide +kernel
theorem d_M_augment_44 : decode mi_M_augment.2.1 44 = .ok (.getfield 45, 3) := by decide +kernel
theorem d_M_augment_47 : decode mi_M_augment.2.1 47 = .ok (.iload_n 2, 1) := by decide +kernel
theorem d_M_augment_48 : decode mi_M_augment.2.1 48 = .ok (.iaload, 1) := by decide +kernel
theorem d_M_augment_49 : decode mi_M_augment.2.1 49 = .ok (.iaload, 1) := by decide +kernel
theorem d_M_augment_50 : decode mi_M_augment.2.1 50 = .ok (.goto 4, 3) := by decide +kernel
theorem d_M_augment_53 : decode mi_M_augment.2.1 53 = .ok (.iload_n 1, 1) := by decide +kernel
theorem d_M_augment_54 : decode mi_M_augment.2.1 54 = .ok (.istore_n 1, 1) := by decide +kernel
theorem d_M_augment_55 : decode mi_M_augment.2.1 55 = .ok (.aload_n 0, 1) := by decide +kernel
theorem d_M_augment_56 : decode mi_M_augment.2.1 56 = .ok (.getfield 23, 3) := by decide +kernel
theorem d_M_augment_59 : decode mi_M_augment.2.1 59 = .ok (.aload_n 0, 1) := by decide +kernel
theorem d_M_augment_60 : decode mi_M_augment.2.1 60 = .ok (.getfield 45, 3) := by decide +kernel
theorem d_M_augment_63 : decode mi_M_augment.2.1 63 = .ok (.iload_n 2, 1) := by decide +kernel
theorem d_M_augment_64 : decode mi_M_augment.2.1 64 = .ok (.iaload, 1) := by decide +kernel
theorem d_M_augment_65 : decode mi_M_augment.2.1 65 = .ok (.iaload, 1) := by decide +kernel
theorem d_M_augment_66 : decode mi_M_augment.2.1 66 = .ok (.istore_n 2, 1) := by decide +kernel
theorem d_M_augment_67 : decode mi_M_augment.2.1 67 = .ok (.goto (-47), 3) := by decide +kernel
theorem d_M_augment_70 : decode mi_M_augment.2.1 70 = .ok (.iconst 1, 1) := by decide +kernel
theorem d_M_augment_71 : decode mi_M_augment.2.1 71 = .ok (.istore_n 2, 1) := by decide +kernel
theorem d_M_augment_72 : decode mi_M_augment.2.1 72 = .ok (.iload_n 2, 1) := by decide +kernel
theorem d_M_augment_73 : decode mi_M_augment.2.1 73 = .ok (.ifCond .eq 74, 3) := by decide +kernel
theorem d_M_augment_76 : decode mi_M_augment.2.1 76 = .ok (.aload_n 0, 1) := by decide +kernel
theorem d_M_augment_77 : decode mi_M_augment.2.1 77 = .ok (.getfield 29, 3) := by decide +kernel
theorem d_M_augment_80 : decode mi_M_augment.2.1 80 = .ok (.aload_n 0, 1) := by decide +kernel
theorem d_M_augment_81 : decode mi_M_augment.2.1 81 = .ok (.getfield 45, 3) := by decide +kernel
theorem d_M_augment_84 : decode mi_M_augment.2.1 84 = .ok (.iload_n 2, 1) := by decide +kernel
theorem d_M_augment_85 : decode mi_M_augment.2.1 85 = .ok (.iaload, 1) := by decide +kernel
theorem d_M_augment_86 : decode mi_M_augment.2.1 86 = .ok (.dup2, 1) := by decide +kernel
theorem d_M_augment_87 : decode mi_M_augment.2.1 87 = .ok (.iaload, 1) := by decide +kernel
theorem d_M_augment_88 : decode mi_M_augment.2.1 88 = .ok (.iload_n 1, 1) := by decide +kernel
theorem d_M_augment_89 : decode mi_M_augment.2.1 89 = .ok (.isub, 1) := by decide +kernel
theorem d_M_augment_90 : decode mi_M_augment.2.1 90 = .ok (.iastore, 1) := by decide +kernel
theorem d_M_augment_91 : decode mi_M_augment.2.1 91 = .ok (.aload_n 0, 1) := by decide +kernel
theorem d_M_augment_92 : decode mi_M_augment.2.1 92 = .ok (.getfield 45, 3) := by decide +kernel
theorem d_M_augment_95 : decode mi_M_augment.2.1 95 = .ok (.iload_n 2, 1) := by decide +kernel
theorem d_M_augment_96 : decode mi_M_augment.2.1 96 = .ok (.iaload, 1) := by decide +kernel
theorem d_M_augment_97 : decode mi_M_augment.2.1 97 = .ok (.iconst 2, 1) := by decide +kernel
theorem d_M_augment_98 : decode mi_M_augment.2.1 98 = .ok (.irem, 1) := by decide +kernel
theorem d_M_augment_99 : decode mi_M_augment.2.1 99 = .ok (.ifCond .ne 14, 3) := by decide +kernel
theorem d_M_augment_102 : decode mi_M_augment.2.1 102 = .ok (.aload_n 0, 1) := by decide +kernel
theorem d_M_augment_103 : decode mi_M_augment.2.1 103 = .ok (.getfield 45, 3) := by decide +kernel
theorem d_M_augment_106 : decode mi_M_augment.2.1 106 = .ok (.iload_n 2, 1) := by decide +kernel
theorem d_M_augment_107 : decode mi_M_augment.2.1 107 = .ok (.iaload, 1) := by decide +kernel
theorem d_M_augment_108 : decode mi_M_augment.2.1 108 = .ok (.iconst 1, 1) := by decide +kernel
theorem d_M_augment_109 : decode mi_M_augment.2.1 109 = .ok (.iadd, 1) := by decide +kernel
theorem d_M_augment_110 : decode mi_M_augment.2.1 110 = .ok (.goto 11, 3) := by decide +kernel
theorem d_M_augment_113 : decode mi_M_augment.2.1 113 = .ok (.aload_n 0, 1) := by decide +kernel
theorem d_M_augment_114 : decode mi_M_augment.2.1 114 = .ok (.getfield 45, 3) := by decide +kernel
theorem d_M_augment_117 : decode mi_M_augment.2.1 117 = .ok (.iload_n 2, 1) := by decide +kernel
theorem d_M_augment_118 : decode mi_M_augment.2.1 118 = .ok (.iaload, 1) := by decide +kernel
theorem d_M_augment_119 : decode mi_M_augment.2.1 119 = .ok (.iconst 1, 1) := by decide +kernel
theorem d_M_augment_120 : decode mi_M_augment.2.1 120 = .ok (.isub, 1) := by decide +kernel
theorem d_M_augment_121 : decode mi_M_augment.2.1 121 = .ok (.istore_n 3, 1) := by decide +kernel
theorem d_M_augment_122 : decode mi_M_augment.2.1 122 = .ok (.aload_n 0, 1) := by decide +kernel
theorem d_M_augment_123 : decode mi_M_augment.2.1 123 = .ok (.getfield 29, 3) := by decide +kernel
theorem d_M_augment_126 : decode mi_M_augment.2.1 126 = .ok (.iload_n 3, 1) := by decide +kernel
theorem d_M_augment_127 : decode mi_M_augment.2.1 127 = .ok (.dup2, 1) := by decide +kernel
theorem d_M_augment_128 : decode mi_M_augment.2.1 128 = .ok (.iaload, 1) := by decide +kernel
theorem d_M_augment_129 : decode mi_M_augment.2.1 129 = .ok (.iload_n 1, 1) := by decide +kernel
theorem d_M_augment_130 : decode mi_M_augment.2.1 130 = .ok (.iadd, 1) := by decide +kernel
theorem d_M_augment_131 : decode mi_M_augment.2.1 131 = .ok (.iastore, 1) := by decide +kernel
theorem d_M_augment_132 : decode mi_M_augment.2.1 132 = .ok (.aload_n 0, 1) := by decide +kernel
theorem d_M_augment_133 : decode mi_M_augment.2.1 133 = .ok (.getfield 23, 3) := by decide +kernel
theorem d_M_augment_136 : decode mi_M_augment.2.1 136 = .ok (.aload_n 0, 1) := by decide +kernel
theorem d_M_augment_137 : decode mi_M_augment.2.1 137 = .ok (.getfield 45, 3) := by decide +kernel
theorem d_M_augment_140 : decode mi_M_augment.2.1 140 = .ok (.iload_n 2, 1) := by decide +kernel
theorem d_M_augment_141 : decode mi_M_augment.2.1 141 = .ok (.iaload, 1) := by decide +kernel
theorem d_M_augment_142 : decode mi_M_augment.2.1 142 = .ok (.iaload, 1) := by decide +kernel
theorem d_M_augment_143 : decode mi_M_augment.2.1 143 = .ok (.istore_n 2, 1) := by decide +kernel
theorem d_M_augment_144 : decode mi_M_augment.2.1 144 = .ok (.goto (-72), 3) := by decide +kernel
theorem d_M_augment_147 : decode mi_M_augment.2.1 147 = .ok (.iload_n 1, 1) := by decide +kernel
theorem d_M_augment_148 : decode mi_M_augment.2.1 148 = .ok (.ireturn, 1) := by decide +kernel
theorem d_M_augmentAll_0 : decode mi_M_augmentAll.2.1 0 = .ok (.iconst 0, 1) := by decide +kernel
theorem d_M_augmentAll_1 : decode mi_M_augmentAll.2.1 1 = .ok (.istore_n 1, 1) := by decide +kernel
theorem d_M_augmentAll_2 : decode mi_M_augmentAll.2.1 2 = .ok (.aload_n 0, 1) := by decide +kernel
theorem d_M_augmentAll_3 : decode mi_M_augmentAll.2.1 3 = .ok (.invokevirtual 130, 3) := by decide +kernel
theorem d_M_augmentAll_6 : decode mi_M_augmentAll.2.1 6 = .ok (.istore_n 2, 1) := by decide +kernel
theorem d_M_augmentAll_7 : decode mi_M_augmentAll.2.1 7 = .ok (.iload_n 2, 1) := by decide +kernel
theorem d_M_augmentAll_8 : decode mi_M_augmentAll.2.1 8 = .ok (.ifCond .le 15, 3) := by decide +kernel
theorem d_M_augmentAll_11 : decode mi_M_augmentAll.2.1 11 = .ok (.iload_n 1, 1) := by decide +kernel
theorem d_M_augmentAll_12 : decode mi_M_augmentAll.2.1 12 = .ok (.iload_n 2, 1) := by decide +kernel
theorem d_M_augmentAll_13 : decode mi_M_augmentAll.2.1 13 = .ok (.iadd, 1) := by decide +kernel
theorem d_M_augmentAll_14 : decode mi_M_augmentAll.2.1 14 = .ok (.istore_n 1, 1) := by decide +kernel
theorem d_M_augmentAll_15 : decode mi_M_augmentAll.2.1 15 = .ok (.aload_n 0, 1) := by decide +kernel
theorem d_M_augmentAll_16 : decode mi_M_augmentAll.2.1 16 = .ok (.invokevirtual 130, 3) := by decide +kernel
theorem d_M_augmentAll_19 : decode mi_M_augmentAll.2.1 19 = .ok (.istore_n 2, 1) := by decide +kernel
theorem d_M_augmentAll_20 : decode mi_M_augmentAll.2.1 20 = .ok (.goto (-13), 3) := by decide +kernel
theorem d_M_augmentAll_23 : decode mi_M_augmentAll.2.1 23 = .ok (.iload_n 1, 1) := by decide +kernel
theorem d_M_augmentAll_24 : decode mi_M_augmentAll.2.1 24 = .ok (.ireturn, 1) := by decide +kernel
theorem d_M_openNone_0 : decode mi_M_openNone.2.1 0 = .ok (.iconst 0, 1) := by decide +kernel
theorem d_M_openNone_1 : decode mi_M_openNone.2.1 1 = .ok (.istore_n 1, 1) := by decide +kernel
theorem d_M_openNone_2 : decode mi_M_openNone.2.1 2 = .ok (.iload_n 1, 1) := by decide +kernel
theorem d_M_openNone_3 : decode mi_M_openNone.2.1 3 = .ok (.bipush 36, 2) := by decide +kernel
theorem d_M_openNone_5 : decode mi_M_openNone.2.1 5 = .ok (.if_icmp .ge 31, 3) := by decide +kernel
theorem d_M_openNone_8 : decode mi_M_openNone.2.1 8 = .ok (.aload_n 0, 1) := by decide +kernel
theorem d_M_openNone_9 : decode mi_M_openNone.2.1 9 = .ok (.getfield 38, 3) := by decide +kernel
theorem d_M_openNone_12 : decode mi_M_openNone.2.1 12 = .ok (.iload_n 1, 1) := by decide +kernel
theorem d_M_openNone_13 : decode mi_M_openNone.2.1 13 = .ok (.aload_n 0, 1) := by decide +kernel
theorem d_M_openNone_14 : decode mi_M_openNone.2.1 14 = .ok (.getfield 7, 3) := by decide +kernel
theorem d_M_openNone_17 : decode mi_M_openNone.2.1 17 = .ok (.iconst 4, 1) := by decide +kernel
theorem d_M_openNone_18 : decode mi_M_openNone.2.1 18 = .ok (.iload_n 1, 1) := by decide +kernel
theorem d_M_openNone_19 : decode mi_M_openNone.2.1 19 = .ok (.iadd, 1) := by decide +kernel
theorem d_M_openNone_20 : decode mi_M_openNone.2.1 20 = .ok (.iaload, 1) := by decide +kernel
theorem d_M_openNone_21 : decode mi_M_openNone.2.1 21 = .ok (.ifCond .ne 7, 3) := by decide +kernel
theorem d_M_openNone_24 : decode mi_M_openNone.2.1 24 = .ok (.iconst 1, 1) := by decide +kernel
theorem d_M_openNone_25 : decode mi_M_openNone.2.1 25 = .ok (.goto 4, 3) := by decide +kernel
theorem d_M_openNone_28 : decode mi_M_openNone.2.1 28 = .ok (.iconst 0, 1) := by decide +kernel
theorem d_M_openNone_29 : decode mi_M_openNone.2.1 29 = .ok (.bastore, 1) := by decide +kernel
theorem d_M_openNone_30 : decode mi_M_openNone.2.1 30 = .ok (.iinc 1 1, 3) := by decide +kernel
theorem d_M_openNone_33 : decode mi_M_openNone.2.1 33 = .ok (.goto (-31), 3) := by decide +kernel
theorem d_M_openNone_36 : decode mi_M_openNone.2.1 36 = .ok (.return_, 1) := by decide +kernel
theorem d_M_escape_0 : decode mi_M_escape.2.1 0 = .ok (.aload_n 0, 1) := by decide +kernel
theorem d_M_escape_1 : decode mi_M_escape.2.1 1 = .ok (.invokevirtual 133, 3) := by decide +kernel
theorem d_M_escape_4 : decode mi_M_escape.2.1 4 = .ok (.aload_n 0, 1) := by decide +kernel
theorem d_M_escape_5 : decode mi_M_escape.2.1 5 = .ok (.invokevirtual 136, 3) := by decide +kernel
theorem d_M_escape_8 : decode mi_M_escape.2.1 8 = .ok (.iconst 0, 1) := by decide +kernel
theorem d_M_escape_9 : decode mi_M_escape.2.1 9 = .ok (.istore_n 1, 1) := by decide +kernel
theorem d_M_escape_10 : decode mi_M_escape.2.1 10 = .ok (.iload_n 1, 1) := by decide +kernel
theorem d_M_escape_11 : decode mi_M_escape.2.1 11 = .ok (.bipush 36, 2) := by decide +kernel
theorem d_M_escape_13 : decode mi_M_escape.2.1 13 = .ok (.if_icmp .ge 28, 3) := by decide +kernel
theorem d_M_escape_16 : decode mi_M_escape.2.1 16 = .ok (.aload_n 0, 1) := by decide +kernel
theorem d_M_escape_17 : decode mi_M_escape.2.1 17 = .ok (.getfield 7, 3) := by decide +kernel
theorem d_M_escape_20 : decode mi_M_escape.2.1 20 = .ok (.bipush 76, 2) := by decide +kernel
theorem d_M_escape_22 : decode mi_M_escape.2.1 22 = .ok (.iload_n 1, 1) := by decide +kernel
theorem d_M_escape_23 : decode mi_M_escape.2.1 23 = .ok (.iadd, 1) := by decide +kernel
theorem d_M_escape_24 : decode mi_M_escape.2.1 24 = .ok (.iaload, 1) := by decide +kernel
theorem d_M_escape_25 : decode mi_M_escape.2.1 25 = .ok (.iconst 1, 1) := by decide +kernel
theorem d_M_escape_26 : decode mi_M_escape.2.1 26 = .ok (.if_icmp .ne 9, 3) := by decide +kernel
theorem d_M_escape_29 : decode mi_M_escape.2.1 29 = .ok (.aload_n 0, 1) := by decide +kernel
theorem d_M_escape_30 : decode mi_M_escape.2.1 30 = .ok (.iload_n 1, 1) := by decide +kernel
theorem d_M_escape_31 : decode mi_M_escape.2.1 31 = .ok (.iconst 1, 1) := by decide +kernel
theorem d_M_escape_32 : decode mi_M_escape.2.1 32 = .ok (.invokevirtual 139, 3) := by decide +kernel
theorem d_M_escape_35 : decode mi_M_escape.2.1 35 = .ok (.iinc 1 1, 3) := by decide +kernel
theorem d_M_escape_38 : decode mi_M_escape.2.1 38 = .ok (.goto (-28), 3) := by decide +kernel
theorem d_M_escape_41 : decode mi_M_escape.2.1 41 = .ok (.aload_n 0, 1) := by decide +kernel
theorem d_M_escape_42 : decode mi_M_escape.2.1 42 = .ok (.invokevirtual 143, 3) := by decide +kernel
theorem d_M_escape_45 : decode mi_M_escape.2.1 45 = .ok (.ireturn, 1) := by decide +kernel
theorem d_M_escapeCount_0 : decode mi_M_escapeCount.2.1 0 = .ok (.aload_n 0, 1) := by decide +kernel
theorem d_M_escapeCount_1 : decode mi_M_escapeCount.2.1 1 = .ok (.invokevirtual 146, 3) := by decide +kernel
theorem d_M_escapeCount_4 : decode mi_M_escapeCount.2.1 4 = .ok (.ireturn, 1) := by decide +kernel
theorem d_M_tileSide_0 : decode mi_M_tileSide.2.1 0 = .ok (.iload_n 1, 1) := by decide +kernel
theorem d_M_tileSide_1 : decode mi_M_tileSide.2.1 1 = .ok (.iconst 0, 1) := by decide +kernel
theorem d_M_tileSide_2 : decode mi_M_tileSide.2.1 2 = .ok (.aload_n 0, 1) := by decide +kernel
theorem d_M_tileSide_3 : decode mi_M_tileSide.2.1 3 = .ok (.getfield 7, 3) := by decide +kernel
theorem d_M_tileSide_6 : decode mi_M_tileSide.2.1 6 = .ok (.iconst 0, 1) := by decide +kernel
theorem d_M_tileSide_7 : decode mi_M_tileSide.2.1 7 = .ok (.iaload, 1) := by decide +kernel
theorem d_M_tileSide_8 : decode mi_M_tileSide.2.1 8 = .ok (.invokestatic 64, 3) := by decide +kernel
theorem d_M_tileSide_11 : decode mi_M_tileSide.2.1 11 = .ok (.ifCond .eq 17, 3) := by decide +kernel
theorem d_M_tileSide_14 : decode mi_M_tileSide.2.1 14 = .ok (.iload_n 2, 1) := by decide +kernel
theorem d_M_tileSide_15 : decode mi_M_tileSide.2.1 15 = .ok (.iconst 0, 1) := by decide +kernel
theorem d_M_tileSide_16 : decode mi_M_tileSide.2.1 16 = .ok (.aload_n 0, 1) := by decide +kernel
theorem d_M_tileSide_17 : decode mi_M_tileSide.2.1 17 = .ok (.getfield 7, 3) := by decide +kernel
theorem d_M_tileSide_20 : decode mi_M_tileSide.2.1 20 = .ok (.iconst 1, 1) := by decide +kernel
theorem d_M_tileSide_21 : decode mi_M_tileSide.2.1 21 = .ok (.iaload, 1) := by decide +kernel
theorem d_M_tileSide_22 : decode mi_M_tileSide.2.1 22 = .ok (.invokestatic 64, 3) := by decide +kernel
theorem d_M_tileSide_25 : decode mi_M_tileSide.2.1 25 = .ok (.ifCond .ne 5, 3) := by decide +kernel
theorem d_M_tileSide_28 : decode mi_M_tileSide.2.1 28 = .ok (.iconst (-1), 1) := by decide +kernel
theorem d_M_tileSide_29 : decode mi_M_tileSide.2.1 29 = .ok (.ireturn, 1) := by decide +kernel
theorem d_M_tileSide_30 : decode mi_M_tileSide.2.1 30 = .ok (.aload_n 0, 1) := by decide +kernel
theorem d_M_tileSide_31 : decode mi_M_tileSide.2.1 31 = .ok (.invokevirtual 146, 3) := by decide +kernel
theorem d_M_tileSide_34 : decode mi_M_tileSide.2.1 34 = .ok (.pop, 1) := by decide +kernel
theorem d_M_tileSide_35 : decode mi_M_tileSide.2.1 35 = .ok (.iload_n 1, 1) := by decide +kernel
theorem d_M_tileSide_36 : decode mi_M_tileSide.2.1 36 = .ok (.iload_n 2, 1) := by decide +kernel
theorem d_M_tileSide_37 : decode mi_M_tileSide.2.1 37 = .ok (.invokestatic 115, 3) := by decide +kernel
theorem d_M_tileSide_40 : decode mi_M_tileSide.2.1 40 = .ok (.istore_n 3, 1) := by decide +kernel
theorem d_M_tileSide_41 : decode mi_M_tileSide.2.1 41 = .ok (.aload_n 0, 1) := by decide +kernel
theorem d_M_tileSide_42 : decode mi_M_tileSide.2.1 42 = .ok (.getfield 48, 3) := by decide +kernel
theorem d_M_tileSide_45 : decode mi_M_tileSide.2.1 45 = .ok (.bipush 38, 2) := by decide +kernel
theorem d_M_tileSide_47 : decode mi_M_tileSide.2.1 47 = .ok (.iload_n 3, 1) := by decide +kernel
theorem d_M_tileSide_48 : decode mi_M_tileSide.2.1 48 = .ok (.iadd, 1) := by decide +kernel
theorem d_M_tileSide_49 : decode mi_M_tileSide.2.1 49 = .ok (.baload, 1) := by decide +kernel
theorem d_M_tileSide_50 : decode mi_M_tileSide.2.1 50 = .ok (.ifCond .ne 7, 3) := by decide +kernel
theorem d_M_tileSide_53 : decode mi_M_tileSide.2.1 53 = .ok (.iconst 2, 1) := by decide +kernel
theorem d_M_tileSide_54 : decode mi_M_tileSide.2.1 54 = .ok (.goto 20, 3) := by decide +kernel
theorem d_M_tileSide_57 : decode mi_M_tileSide.2.1 57 = .ok (.aload_n 0, 1) := by decide +kernel
theorem d_M_tileSide_58 : decode mi_M_tileSide.2.1 58 = .ok (.getfield 48, 3) := by decide +kernel
theorem d_M_tileSide_61 : decode mi_M_tileSide.2.1 61 = .ok (.bipush 87, 2) := by decide +kernel
theorem d_M_tileSide_63 : decode mi_M_tileSide.2.1 63 = .ok (.iload_n 3, 1) := by decide +kernel
theorem d_M_tileSide_64 : decode mi_M_tileSide.2.1 64 = .ok (.iadd, 1) := by decide +kernel
theorem d_M_tileSide_65 : decode mi_M_tileSide.2.1 65 = .ok (.baload, 1) := by decide +kernel
theorem d_M_tileSide_66 : decode mi_M_tileSide.2.1 66 = .ok (.ifCond .eq 7, 3) := by decide +kernel
theorem d_M_tileSide_69 : decode mi_M_tileSide.2.1 69 = .ok (.iconst 0, 1) := by decide +kernel
theorem d_M_tileSide_70 : decode mi_M_tileSide.2.1 70 = .ok (.goto 4, 3) := by decide +kernel
theorem d_M_tileSide_73 : decode mi_M_tileSide.2.1 73 = .ok (.iconst 1, 1) := by decide +kernel
theorem d_M_tileSide_74 : decode mi_M_tileSide.2.1 74 = .ok (.ireturn, 1) := by decide +kernel
theorem d_M_isCut_0 : decode mi_M_isCut.2.1 0 = .ok (.aload_n 0, 1) := by decide +kernel
theorem d_M_isCut_1 : decode mi_M_isCut.2.1 1 = .ok (.getfield 48, 3) := by decide +kernel
theorem d_M_isCut_4 : decode mi_M_isCut.2.1 4 = .ok (.bipush 87, 2) := by decide +kernel
theorem d_M_isCut_6 : decode mi_M_isCut.2.1 6 = .ok (.iload_n 1, 1) := by decide +kernel
theorem d_M_isCut_7 : decode mi_M_isCut.2.1 7 = .ok (.iadd, 1) := by decide +kernel
theorem d_M_isCut_8 : decode mi_M_isCut.2.1 8 = .ok (.baload, 1) := by decide +kernel
theorem d_M_isCut_9 : decode mi_M_isCut.2.1 9 = .ok (.ifCond .eq 15, 3) := by decide +kernel
theorem d_M_isCut_12 : decode mi_M_isCut.2.1 12 = .ok (.aload_n 0, 1) := by decide +kernel
theorem d_M_isCut_13 : decode mi_M_isCut.2.1 13 = .ok (.getfield 48, 3) := by decide +kernel
theorem d_M_isCut_16 : decode mi_M_isCut.2.1 16 = .ok (.bipush 38, 2) := by decide +kernel
theorem d_M_isCut_18 : decode mi_M_isCut.2.1 18 = .ok (.iload_n 2, 1) := by decide +kernel
theorem d_M_isCut_19 : decode mi_M_isCut.2.1 19 = .ok (.iadd, 1) := by decide +kernel
theorem d_M_isCut_20 : decode mi_M_isCut.2.1 20 = .ok (.baload, 1) := by decide +kernel
theorem d_M_isCut_21 : decode mi_M_isCut.2.1 21 = .ok (.ifCond .eq 27, 3) := by decide +kernel
theorem d_M_isCut_24 : decode mi_M_isCut.2.1 24 = .ok (.aload_n 0, 1) := by decide +kernel
theorem d_M_isCut_25 : decode mi_M_isCut.2.1 25 = .ok (.getfield 48, 3) := by decide +kernel
theorem d_M_isCut_28 : decode mi_M_isCut.2.1 28 = .ok (.bipush 87, 2) := by decide +kernel
theorem d_M_isCut_30 : decode mi_M_isCut.2.1 30 = .ok (.iload_n 2, 1) := by decide +kernel
theorem d_M_isCut_31 : decode mi_M_isCut.2.1 31 = .ok (.iadd, 1) := by decide +kernel
theorem d_M_isCut_32 : decode mi_M_isCut.2.1 32 = .ok (.baload, 1) := by decide +kernel
theorem d_M_isCut_33 : decode mi_M_isCut.2.1 33 = .ok (.ifCond .eq 19, 3) := by decide +kernel
theorem d_M_isCut_36 : decode mi_M_isCut.2.1 36 = .ok (.aload_n 0, 1) := by decide +kernel
theorem d_M_isCut_37 : decode mi_M_isCut.2.1 37 = .ok (.getfield 48, 3) := by decide +kernel
theorem d_M_isCut_40 : decode mi_M_isCut.2.1 40 = .ok (.bipush 38, 2) := by decide +kernel
theorem d_M_isCut_42 : decode mi_M_isCut.2.1 42 = .ok (.iload_n 1, 1) := by decide +kernel
theorem d_M_isCut_43 : decode mi_M_isCut.2.1 43 = .ok (.iadd, 1) := by decide +kernel
theorem d_M_isCut_44 : decode mi_M_isCut.2.1 44 = .ok (.baload, 1) := by decide +kernel
theorem d_M_isCut_45 : decode mi_M_isCut.2.1 45 = .ok (.ifCond .ne 7, 3) := by decide +kernel
theorem d_M_isCut_48 : decode mi_M_isCut.2.1 48 = .ok (.iconst 1, 1) := by decide +kernel
theorem d_M_isCut_49 : decode mi_M_isCut.2.1 49 = .ok (.goto 4, 3) := by decide +kernel
theorem d_M_isCut_52 : decode mi_M_isCut.2.1 52 = .ok (.iconst 0, 1) := by decide +kernel
theorem d_M_isCut_53 : decode mi_M_isCut.2.1 53 = .ok (.ireturn, 1) := by decide +kernel
theorem d_M_cutChannels_0 : decode mi_M_cutChannels.2.1 0 = .ok (.aload_n 0, 1) := by decide +kernel
theorem d_M_cutChannels_1 : decode mi_M_cutChannels.2.1 1 = .ok (.invokevirtual 146, 3) := by decide +kernel
theorem d_M_cutChannels_4 : decode mi_M_cutChannels.2.1 4 = .ok (.pop, 1) := by decide +kernel
theorem d_M_cutChannels_5 : decode mi_M_cutChannels.2.1 5 = .ok (.iconst 0, 1) := by decide +kernel
theorem d_M_cutChannels_6 : decode mi_M_cutChannels.2.1 6 = .ok (.istore_n 1, 1) := by decide +kernel
theorem d_M_cutChannels_7 : decode mi_M_cutChannels.2.1 7 = .ok (.iconst 0, 1) := by decide +kernel
theorem d_M_cutChannels_8 : decode mi_M_cutChannels.2.1 8 = .ok (.istore_n 2, 1) := by decide +kernel
theorem d_M_cutChannels_9 : decode mi_M_cutChannels.2.1 9 = .ok (.iload_n 2, 1) := by decide +kernel
theorem d_M_cutChannels_10 : decode mi_M_cutChannels.2.1 10 = .ok (.aload_n 0, 1) := by decide +kernel
theorem d_M_cutChannels_11 : decode mi_M_cutChannels.2.1 11 = .ok (.getfield 7, 3) := by decide +kernel
theorem d_M_cutChannels_14 : decode mi_M_cutChannels.2.1 14 = .ok (.iconst 0, 1) := by decide +kernel
theorem d_M_cutChannels_15 : decode mi_M_cutChannels.2.1 15 = .ok (.iaload, 1) := by decide +kernel
theorem d_M_cutChannels_16 : decode mi_M_cutChannels.2.1 16 = .ok (.if_icmp .ge 105, 3) := by decide +kernel
theorem d_M_cutChannels_19 : decode mi_M_cutChannels.2.1 19 = .ok (.iconst 0, 1) := by decide +kernel
theorem d_M_cutChannels_20 : decode mi_M_cutChannels.2.1 20 = .ok (.istore_n 3, 1) := by decide +kernel
theorem d_M_cutChannels_21 : decode mi_M_cutChannels.2.1 21 = .ok (.iload_n 3, 1) := by decide +kernel
theorem d_M_cutChannels_22 : decode mi_M_cutChannels.2.1 22 = .ok (.aload_n 0, 1) := by decide +kernel
theorem d_M_cutChannels_23 : decode mi_M_cutChannels.2.1 23 = .ok (.getfield 7, 3) := by decide +kernel
theorem d_M_cutChannels_26 : decode mi_M_cutChannels.2.1 26 = .ok (.iconst 1, 1) := by decide +kernel
theorem d_M_cutChannels_27 : decode mi_M_cutChannels.2.1 27 = .ok (.iaload, 1) := by decide +kernel
theorem d_M_cutChannels_28 : decode mi_M_cutChannels.2.1 28 = .ok (.if_icmp .ge 87, 3) := by decide +kernel
theorem d_M_cutChannels_31 : decode mi_M_cutChannels.2.1 31 = .ok (.iload_n 1, 1) := by decide +kernel
theorem d_M_cutChannels_32 : decode mi_M_cutChannels.2.1 32 = .ok (.iload_n 3, 1) := by decide +kernel
theorem d_M_cutChannels_33 : decode mi_M_cutChannels.2.1 33 = .ok (.iconst 1, 1) := by decide +kernel
theorem d_M_cutChannels_34 : decode mi_M_cutChannels.2.1 34 = .ok (.iadd, 1) := by decide +kernel
theorem d_M_cutChannels_35 : decode mi_M_cutChannels.2.1 35 = .ok (.aload_n 0, 1) := by decide +kernel
theorem d_M_cutChannels_36 : decode mi_M_cutChannels.2.1 36 = .ok (.getfield 7, 3) := by decide +kernel
theorem d_M_cutChannels_39 : decode mi_M_cutChannels.2.1 39 = .ok (.iconst 1, 1) := by decide +kernel
theorem d_M_cutChannels_40 : decode mi_M_cutChannels.2.1 40 = .ok (.iaload, 1) := by decide +kernel
theorem d_M_cutChannels_41 : decode mi_M_cutChannels.2.1 41 = .ok (.if_icmp .ge 26, 3) := by decide +kernel
theorem d_M_cutChannels_44 : decode mi_M_cutChannels.2.1 44 = .ok (.aload_n 0, 1) := by decide +kernel
theorem d_M_cutChannels_45 : decode mi_M_cutChannels.2.1 45 = .ok (.iload_n 2, 1) := by decide +kernel
theorem d_M_cutChannels_46 : decode mi_M_cutChannels.2.1 46 = .ok (.iload_n 3, 1) := by decide +kernel
theorem d_M_cutChannels_47 : decode mi_M_cutChannels.2.1 47 = .ok (.iconst 1, 1) := by decide +kernel
theorem d_M_cutChannels_48 : decode mi_M_cutChannels.2.1 48 = .ok (.iadd, 1) := by decide +kernel
theorem d_M_cutChannels_49 : decode mi_M_cutChannels.2.1 49 = .ok (.invokestatic 115, 3) := by decide +kernel
theorem d_M_cutChannels_52 : decode mi_M_cutChannels.2.1 52 = .ok (.iload_n 2, 1) := by decide +kernel
theorem d_M_cutChannels_53 : decode mi_M_cutChannels.2.1 53 = .ok (.iconst 1, 1) := by decide +kernel
theorem d_M_cutChannels_54 : decode mi_M_cutChannels.2.1 54 = .ok (.iadd, 1) := by decide +kernel
theorem d_M_cutChannels_55 : decode mi_M_cutChannels.2.1 55 = .ok (.iload_n 3, 1) := by decide +kernel
theorem d_M_cutChannels_56 : decode mi_M_cutChannels.2.1 56 = .ok (.iconst 1, 1) := by decide +kernel
theorem d_M_cutChannels_57 : decode mi_M_cutChannels.2.1 57 = .ok (.iadd, 1) := by decide +kernel
theorem d_M_cutChannels_58 : decode mi_M_cutChannels.2.1 58 = .ok (.invokestatic 115, 3) := by decide +kernel
theorem d_M_cutChannels_61 : decode mi_M_cutChannels.2.1 61 = .ok (.invokevirtual 149, 3) := by decide +kernel
theorem d_M_cutChannels_64 : decode mi_M_cutChannels.2.1 64 = .ok (.goto 4, 3) := by decide +kernel
theorem d_M_cutChannels_67 : decode mi_M_cutChannels.2.1 67 = .ok (.iconst 0, 1) := by decide +kernel
theorem d_M_cutChannels_68 : decode mi_M_cutChannels.2.1 68 = .ok (.iadd, 1) := by decide +kernel
theorem d_M_cutChannels_69 : decode mi_M_cutChannels.2.1 69 = .ok (.istore_n 1, 1) := by decide +kernel
theorem d_M_cutChannels_70 : decode mi_M_cutChannels.2.1 70 = .ok (.iload_n 1, 1) := by decide +kernel
theorem d_M_cutChannels_71 : decode mi_M_cutChannels.2.1 71 = .ok (.iload_n 2, 1) := by decide +kernel
theorem d_M_cutChannels_72 : decode mi_M_cutChannels.2.1 72 = .ok (.iconst 1, 1) := by decide +kernel
theorem d_M_cutChannels_73 : decode mi_M_cutChannels.2.1 73 = .ok (.iadd, 1) := by decide +kernel
theorem d_M_cutChannels_74 : decode mi_M_cutChannels.2.1 74 = .ok (.aload_n 0, 1) := by decide +kernel
theorem d_M_cutChannels_75 : decode mi_M_cutChannels.2.1 75 = .ok (.getfield 7, 3) := by decide +kernel
theorem d_M_cutChannels_78 : decode mi_M_cutChannels.2.1 78 = .ok (.iconst 0, 1) := by decide +kernel
theorem d_M_cutChannels_79 : decode mi_M_cutChannels.2.1 79 = .ok (.iaload, 1) := by decide +kernel
theorem d_M_cutChannels_80 : decode mi_M_cutChannels.2.1 80 = .ok (.if_icmp .ge 26, 3) := by decide +kernel
theorem d_M_cutChannels_83 : decode mi_M_cutChannels.2.1 83 = .ok (.aload_n 0, 1) := by decide +kernel
theorem d_M_cutChannels_84 : decode mi_M_cutChannels.2.1 84 = .ok (.iload_n 2, 1) := by decide +kernel
theorem d_M_cutChannels_85 : decode mi_M_cutChannels.2.1 85 = .ok (.iconst 1, 1) := by decide +kernel
theorem d_M_cutChannels_86 : decode mi_M_cutChannels.2.1 86 = .ok (.iadd, 1) := by decide +kernel
theorem d_M_cutChannels_87 : decode mi_M_cutChannels.2.1 87 = .ok (.iload_n 3, 1) := by decide +kernel
theorem d_M_cutChannels_88 : decode mi_M_cutChannels.2.1 88 = .ok (.invokestatic 115, 3) := by decide +kernel
theorem d_M_cutChannels_91 : decode mi_M_cutChannels.2.1 91 = .ok (.iload_n 2, 1) := by decide +kernel
theorem d_M_cutChannels_92 : decode mi_M_cutChannels.2.1 92 = .ok (.iconst 1, 1) := by decide +kernel
theorem d_M_cutChannels_93 : decode mi_M_cutChannels.2.1 93 = .ok (.iadd, 1) := by decide +kernel
theorem d_M_cutChannels_94 : decode mi_M_cutChannels.2.1 94 = .ok (.iload_n 3, 1) := by decide +kernel
theorem d_M_cutChannels_95 : decode mi_M_cutChannels.2.1 95 = .ok (.iconst 1, 1) := by decide +kernel
theorem d_M_cutChannels_96 : decode mi_M_cutChannels.2.1 96 = .ok (.iadd, 1) := by decide +kernel
theorem d_M_cutChannels_97 : decode mi_M_cutChannels.2.1 97 = .ok (.invokestatic 115, 3) := by decide +kernel
theorem d_M_cutChannels_100 : decode mi_M_cutChannels.2.1 100 = .ok (.invokevirtual 149, 3) := by decide +kernel
theorem d_M_cutChannels_103 : decode mi_M_cutChannels.2.1 103 = .ok (.goto 4, 3) := by decide +kernel
theorem d_M_cutChannels_106 : decode mi_M_cutChannels.2.1 106 = .ok (.iconst 0, 1) := by decide +kernel
theorem d_M_cutChannels_107 : decode mi_M_cutChannels.2.1 107 = .ok (.iadd, 1) := by decide +kernel
theorem d_M_cutChannels_108 : decode mi_M_cutChannels.2.1 108 = .ok (.istore_n 1, 1) := by decide +kernel
theorem d_M_cutChannels_109 : decode mi_M_cutChannels.2.1 109 = .ok (.iinc 3 1, 3) := by decide +kernel
theorem d_M_cutChannels_112 : decode mi_M_cutChannels.2.1 112 = .ok (.goto (-91), 3) := by decide +kernel
theorem d_M_cutChannels_115 : decode mi_M_cutChannels.2.1 115 = .ok (.iinc 2 1, 3) := by decide +kernel
theorem d_M_cutChannels_118 : decode mi_M_cutChannels.2.1 118 = .ok (.goto (-109), 3) := by decide +kernel
theorem d_M_cutChannels_121 : decode mi_M_cutChannels.2.1 121 = .ok (.iload_n 1, 1) := by decide +kernel
theorem d_M_cutChannels_122 : decode mi_M_cutChannels.2.1 122 = .ok (.ireturn, 1) := by decide +kernel
theorem d_M_ring_0 : decode mi_M_ring.2.1 0 = .ok (.iload_n 1, 1) := by decide +kernel
theorem d_M_ring_1 : decode mi_M_ring.2.1 1 = .ok (.bipush 6, 2) := by decide +kernel
theorem d_M_ring_3 : decode mi_M_ring.2.1 3 = .ok (.idiv, 1) := by decide +kernel
theorem d_M_ring_4 : decode mi_M_ring.2.1 4 = .ok (.istore_n 2, 1) := by decide +kernel
theorem d_M_ring_5 : decode mi_M_ring.2.1 5 = .ok (.iload_n 1, 1) := by decide +kernel
theorem d_M_ring_6 : decode mi_M_ring.2.1 6 = .ok (.bipush 6, 2) := by decide +kernel
theorem d_M_ring_8 : decode mi_M_ring.2.1 8 = .ok (.irem, 1) := by decide +kernel
theorem d_M_ring_9 : decode mi_M_ring.2.1 9 = .ok (.istore_n 3, 1) := by decide +kernel
theorem d_M_ring_10 : decode mi_M_ring.2.1 10 = .ok (.iload_n 2, 1) := by decide +kernel
theorem d_M_ring_11 : decode mi_M_ring.2.1 11 = .ok (.iload_n 3, 1) := by decide +kernel
theorem d_M_ring_12 : decode mi_M_ring.2.1 12 = .ok (.if_icmp .ge 7, 3) := by decide +kernel
theorem d_M_ring_15 : decode mi_M_ring.2.1 15 = .ok (.iload_n 2, 1) := by decide +kernel
theorem d_M_ring_16 : decode mi_M_ring.2.1 16 = .ok (.goto 4, 3) := by decide +kernel
theorem d_M_ring_19 : decode mi_M_ring.2.1 19 = .ok (.iload_n 3, 1) := by decide +kernel
theorem d_M_ring_20 : decode mi_M_ring.2.1 20 = .ok (.istore 4, 2) := by decide +kernel
theorem d_M_ring_22 : decode mi_M_ring.2.1 22 = .ok (.aload_n 0, 1) := by decide +kernel
theorem d_M_ring_23 : decode mi_M_ring.2.1 23 = .ok (.getfield 7, 3) := by decide +kernel
theorem d_M_ring_26 : decode mi_M_ring.2.1 26 = .ok (.iconst 0, 1) := by decide +kernel
theorem d_M_ring_27 : decode mi_M_ring.2.1 27 = .ok (.iaload, 1) := by decide +kernel
theorem d_M_ring_28 : decode mi_M_ring.2.1 28 = .ok (.iconst 1, 1) := by decide +kernel
theorem d_M_ring_29 : decode mi_M_ring.2.1 29 = .ok (.isub, 1) := by decide +kernel
theorem d_M_ring_30 : decode mi_M_ring.2.1 30 = .ok (.iload_n 2, 1) := by decide +kernel
theorem d_M_ring_31 : decode mi_M_ring.2.1 31 = .ok (.isub, 1) := by decide +kernel
theorem d_M_ring_32 : decode mi_M_ring.2.1 32 = .ok (.iload 4, 2) := by decide +kernel
theorem d_M_ring_34 : decode mi_M_ring.2.1 34 = .ok (.if_icmp .ge 16, 3) := by decide +kernel
theorem d_M_ring_37 : decode mi_M_ring.2.1 37 = .ok (.aload_n 0, 1) := by decide +kernel
theorem d_M_ring_38 : decode mi_M_ring.2.1 38 = .ok (.getfield 7, 3) := by decide +kernel
theorem d_M_ring_41 : decode mi_M_ring.2.1 41 = .ok (.iconst 0, 1) := by decide +kernel
theorem d_M_ring_42 : decode mi_M_ring.2.1 42 = .ok (.iaload, 1) := by decide +kernel
theorem d_M_ring_43 : decode mi_M_ring.2.1 43 = .ok (.iconst 1, 1) := by decide +kernel
theorem d_M_ring_44 : decode mi_M_ring.2.1 44 = .ok (.isub, 1) := by decide +kernel
theorem d_M_ring_45 : decode mi_M_ring.2.1 45 = .ok (.iload_n 2, 1) := by decide +kernel
theorem d_M_ring_46 : decode mi_M_ring.2.1 46 = .ok (.isub, 1) := by decide +kernel
theorem d_M_ring_47 : decode mi_M_ring.2.1 47 = .ok (.goto 5, 3) := by decide +kernel
theorem d_M_ring_50 : decode mi_M_ring.2.1 50 = .ok (.iload 4, 2) := by decide +kernel
theorem d_M_ring_52 : decode mi_M_ring.2.1 52 = .ok (.istore 4, 2) := by decide +kernel
theorem d_M_ring_54 : decode mi_M_ring.2.1 54 = .ok (.aload_n 0, 1) := by decide +kernel
theorem d_M_ring_55 : decode mi_M_ring.2.1 55 = .ok (.getfield 7, 3) := by decide +kernel
theorem d_M_ring_58 : decode mi_M_ring.2.1 58 = .ok (.iconst 1, 1) := by decide +kernel
theorem d_M_ring_59 : decode mi_M_ring.2.1 59 = .ok (.iaload, 1) := by decide +kernel
theorem d_M_ring_60 : decode mi_M_ring.2.1 60 = .ok (.iconst 1, 1) := by decide +kernel
theorem d_M_ring_61 : decode mi_M_ring.2.1 61 = .ok (.isub, 1) := by decide +kernel
theorem d_M_ring_62 : decode mi_M_ring.2.1 62 = .ok (.iload_n 3, 1) := by decide +kernel
theorem d_M_ring_63 : decode mi_M_ring.2.1 63 = .ok (.isub, 1) := by decide +kernel
theorem d_M_ring_64 : decode mi_M_ring.2.1 64 = .ok (.iload 4, 2) := by decide +kernel
theorem d_M_ring_66 : decode mi_M_ring.2.1 66 = .ok (.if_icmp .ge 16, 3) := by decide +kernel
theorem d_M_ring_69 : decode mi_M_ring.2.1 69 = .ok (.aload_n 0, 1) := by decide +kernel
theorem d_M_ring_70 : decode mi_M_ring.2.1 70 = .ok (.getfield 7, 3) := by decide +kernel
theorem d_M_ring_73 : decode mi_M_ring.2.1 73 = .ok (.iconst 1, 1) := by decide +kernel
theorem d_M_ring_74 : decode mi_M_ring.2.1 74 = .ok (.iaload, 1) := by decide +kernel
theorem d_M_ring_75 : decode mi_M_ring.2.1 75 = .ok (.iconst 1, 1) := by decide +kernel
theorem d_M_ring_76 : decode mi_M_ring.2.1 76 = .ok (.isub, 1) := by decide +kernel
theorem d_M_ring_77 : decode mi_M_ring.2.1 77 = .ok (.iload_n 3, 1) := by decide +kernel
theorem d_M_ring_78 : decode mi_M_ring.2.1 78 = .ok (.isub, 1) := by decide +kernel
theorem d_M_ring_79 : decode mi_M_ring.2.1 79 = .ok (.goto 5, 3) := by decide +kernel
theorem d_M_ring_82 : decode mi_M_ring.2.1 82 = .ok (.iload 4, 2) := by decide +kernel
theorem d_M_ring_84 : decode mi_M_ring.2.1 84 = .ok (.ireturn, 1) := by decide +kernel
theorem d_M_rank_0 : decode mi_M_rank.2.1 0 = .ok (.iload_n 1, 1) := by decide +kernel
theorem d_M_rank_1 : decode mi_M_rank.2.1 1 = .ok (.tableswitch 53 0 2 #[27, 29, 42], 27) := by decide +kernel
theorem d_M_rank_28 : decode mi_M_rank.2.1 28 = .ok (.iload_n 2, 1) := by decide +kernel
theorem d_M_rank_29 : decode mi_M_rank.2.1 29 = .ok (.ireturn, 1) := by decide +kernel
theorem d_M_rank_30 : decode mi_M_rank.2.1 30 = .ok (.bipush 6, 2) := by decide +kernel
theorem d_M_rank_32 : decode mi_M_rank.2.1 32 = .ok (.iload_n 2, 1) := by decide +kernel
theorem d_M_rank_33 : decode mi_M_rank.2.1 33 = .ok (.bipush 6, 2) := by decide +kernel
theorem d_M_rank_35 : decode mi_M_rank.2.1 35 = .ok (.irem, 1) := by decide +kernel
theorem d_M_rank_36 : decode mi_M_rank.2.1 36 = .ok (.imul, 1) := by decide +kernel
theorem d_M_rank_37 : decode mi_M_rank.2.1 37 = .ok (.iload_n 2, 1) := by decide +kernel
theorem d_M_rank_38 : decode mi_M_rank.2.1 38 = .ok (.bipush 6, 2) := by decide +kernel
theorem d_M_rank_40 : decode mi_M_rank.2.1 40 = .ok (.idiv, 1) := by decide +kernel
theorem d_M_rank_41 : decode mi_M_rank.2.1 41 = .ok (.iadd, 1) := by decide +kernel
theorem d_M_rank_42 : decode mi_M_rank.2.1 42 = .ok (.ireturn, 1) := by decide +kernel
theorem d_M_rank_43 : decode mi_M_rank.2.1 43 = .ok (.bipush 36, 2) := by decide +kernel
theorem d_M_rank_45 : decode mi_M_rank.2.1 45 = .ok (.aload_n 0, 1) := by decide +kernel
theorem d_M_rank_46 : decode mi_M_rank.2.1 46 = .ok (.iload_n 2, 1) := by decide +kernel
theorem d_M_rank_47 : decode mi_M_rank.2.1 47 = .ok (.invokevirtual 152, 3) := by decide +kernel
theorem d_M_rank_50 : decode mi_M_rank.2.1 50 = .ok (.imul, 1) := by decide +kernel
theorem d_M_rank_51 : decode mi_M_rank.2.1 51 = .ok (.iload_n 2, 1) := by decide +kernel
theorem d_M_rank_52 : decode mi_M_rank.2.1 52 = .ok (.iadd, 1) := by decide +kernel
theorem d_M_rank_53 : decode mi_M_rank.2.1 53 = .ok (.ireturn, 1) := by decide +kernel
theorem d_M_rank_54 : decode mi_M_rank.2.1 54 = .ok (.bipush 36, 2) := by decide +kernel
theorem d_M_rank_56 : decode mi_M_rank.2.1 56 = .ok (.iconst 5, 1) := by decide +kernel
theorem d_M_rank_57 : decode mi_M_rank.2.1 57 = .ok (.aload_n 0, 1) := by decide +kernel
theorem d_M_rank_58 : decode mi_M_rank.2.1 58 = .ok (.iload_n 2, 1) := by decide +kernel
theorem d_M_rank_59 : decode mi_M_rank.2.1 59 = .ok (.invokevirtual 152, 3) := by decide +kernel
theorem d_M_rank_62 : decode mi_M_rank.2.1 62 = .ok (.isub, 1) := by decide +kernel
theorem d_M_rank_63 : decode mi_M_rank.2.1 63 = .ok (.imul, 1) := by decide +kernel
theorem d_M_rank_64 : decode mi_M_rank.2.1 64 = .ok (.iload_n 2, 1) := by decide +kernel
theorem d_M_rank_65 : decode mi_M_rank.2.1 65 = .ok (.iadd, 1) := by decide +kernel
theorem d_M_rank_66 : decode mi_M_rank.2.1 66 = .ok (.ireturn, 1) := by decide +kernel
theorem d_M_sort_0 : decode mi_M_sort.2.1 0 = .ok (.aload_n 0, 1) := by decide +kernel
theorem d_M_sort_1 : decode mi_M_sort.2.1 1 = .ok (.iconst 0, 1) := by decide +kernel
theorem d_M_sort_2 : decode mi_M_sort.2.1 2 = .ok (.putfield 156, 3) := by decide +kernel
theorem d_M_sort_5 : decode mi_M_sort.2.1 5 = .ok (.iconst 0, 1) := by decide +kernel
theorem d_M_sort_6 : decode mi_M_sort.2.1 6 = .ok (.istore_n 2, 1) := by decide +kernel
theorem d_M_sort_7 : decode mi_M_sort.2.1 7 = .ok (.iload_n 2, 1) := by decide +kernel
theorem d_M_sort_8 : decode mi_M_sort.2.1 8 = .ok (.bipush 36, 2) := by decide +kernel
theorem d_M_sort_10 : decode mi_M_sort.2.1 10 = .ok (.if_icmp .ge 89, 3) := by decide +kernel
theorem d_M_sort_13 : decode mi_M_sort.2.1 13 = .ok (.aload_n 0, 1) := by decide +kernel
theorem d_M_sort_14 : decode mi_M_sort.2.1 14 = .ok (.getfield 7, 3) := by decide +kernel
theorem d_M_sort_17 : decode mi_M_sort.2.1 17 = .ok (.iconst 4, 1) := by decide +kernel
theorem d_M_sort_18 : decode mi_M_sort.2.1 18 = .ok (.iload_n 2, 1) := by decide +kernel
theorem d_M_sort_19 : decode mi_M_sort.2.1 19 = .ok (.iadd, 1) := by decide +kernel
theorem d_M_sort_20 : decode mi_M_sort.2.1 20 = .ok (.iaload, 1) := by decide +kernel
theorem d_M_sort_21 : decode mi_M_sort.2.1 21 = .ok (.iconst 1, 1) := by decide +kernel
theorem d_M_sort_22 : decode mi_M_sort.2.1 22 = .ok (.if_icmp .ne 71, 3) := by decide +kernel
theorem d_M_sort_25 : decode mi_M_sort.2.1 25 = .ok (.aload_n 0, 1) := by decide +kernel
theorem d_M_sort_26 : decode mi_M_sort.2.1 26 = .ok (.getfield 156, 3) := by decide +kernel
theorem d_M_sort_29 : decode mi_M_sort.2.1 29 = .ok (.istore_n 3, 1) := by decide +kernel
theorem d_M_sort_30 : decode mi_M_sort.2.1 30 = .ok (.iload_n 3, 1) := by decide +kernel
theorem d_M_sort_31 : decode mi_M_sort.2.1 31 = .ok (.ifCond .le 45, 3) := by decide +kernel
theorem d_M_sort_34 : decode mi_M_sort.2.1 34 = .ok (.aload_n 0, 1) := by decide +kernel
theorem d_M_sort_35 : decode mi_M_sort.2.1 35 = .ok (.iload_n 1, 1) := by decide +kernel
theorem d_M_sort_36 : decode mi_M_sort.2.1 36 = .ok (.aload_n 0, 1) := by decide +kernel
theorem d_M_sort_37 : decode mi_M_sort.2.1 37 = .ok (.getfield 54, 3) := by decide +kernel
theorem d_M_sort_40 : decode mi_M_sort.2.1 40 = .ok (.iload_n 3, 1) := by decide +kernel
theorem d_M_sort_41 : decode mi_M_sort.2.1 41 = .ok (.iconst 1, 1) := by decide +kernel
theorem d_M_sort_42 : decode mi_M_sort.2.1 42 = .ok (.isub, 1) := by decide +kernel
theorem d_M_sort_43 : decode mi_M_sort.2.1 43 = .ok (.iaload, 1) := by decide +kernel
theorem d_M_sort_44 : decode mi_M_sort.2.1 44 = .ok (.invokevirtual 159, 3) := by decide +kernel
theorem d_M_sort_47 : decode mi_M_sort.2.1 47 = .ok (.aload_n 0, 1) := by decide +kernel
theorem d_M_sort_48 : decode mi_M_sort.2.1 48 = .ok (.iload_n 1, 1) := by decide +kernel
theorem d_M_sort_49 : decode mi_M_sort.2.1 49 = .ok (.iload_n 2, 1) := by decide +kernel
theorem d_M_sort_50 : decode mi_M_sort.2.1 50 = .ok (.invokevirtual 159, 3) := by decide +kernel
theorem d_M_sort_53 : decode mi_M_sort.2.1 53 = .ok (.if_icmp .le 23, 3) := by decide +kernel
theorem d_M_sort_56 : decode mi_M_sort.2.1 56 = .ok (.aload_n 0, 1) := by decide +kernel
theorem d_M_sort_57 : decode mi_M_sort.2.1 57 = .ok (.getfield 54, 3) := by decide +kernel
theorem d_M_sort_60 : decode mi_M_sort.2.1 60 = .ok (.iload_n 3, 1) := by decide +kernel
theorem d_M_sort_61 : decode mi_M_sort.2.1 61 = .ok (.aload_n 0, 1) := by decide +kernel
theorem d_M_sort_62 : decode mi_M_sort.2.1 62 = .ok (.getfield 54, 3) := by decide +kernel
theorem d_M_sort_65 : decode mi_M_sort.2.1 65 = .ok (.iload_n 3, 1) := by decide +kernel
theorem d_M_sort_66 : decode mi_M_sort.2.1 66 = .ok (.iconst 1, 1) := by decide +kernel
theorem d_M_sort_67 : decode mi_M_sort.2.1 67 = .ok (.isub, 1) := by decide +kernel
theorem d_M_sort_68 : decode mi_M_sort.2.1 68 = .ok (.iaload, 1) := by decide +kernel
theorem d_M_sort_69 : decode mi_M_sort.2.1 69 = .ok (.iastore, 1) := by decide +kernel
theorem d_M_sort_70 : decode mi_M_sort.2.1 70 = .ok (.iinc 3 (-1), 3) := by decide +kernel
theorem d_M_sort_73 : decode mi_M_sort.2.1 73 = .ok (.goto (-43), 3) := by decide +kernel
theorem d_M_sort_76 : decode mi_M_sort.2.1 76 = .ok (.aload_n 0, 1) := by decide +kernel
theorem d_M_sort_77 : decode mi_M_sort.2.1 77 = .ok (.getfield 54, 3) := by decide +kernel
theorem d_M_sort_80 : decode mi_M_sort.2.1 80 = .ok (.iload_n 3, 1) := by decide +kernel
theorem d_M_sort_81 : decode mi_M_sort.2.1 81 = .ok (.iload_n 2, 1) := by decide +kernel
theorem d_M_sort_82 : decode mi_M_sort.2.1 82 = .ok (.iastore, 1) := by decide +kernel
theorem d_M_sort_83 : decode mi_M_sort.2.1 83 = .ok (.aload_n 0, 1) := by decide +kernel
theorem d_M_sort_84 : decode mi_M_sort.2.1 84 = .ok (.dup, 1) := by decide +kernel
theorem d_M_sort_85 : decode mi_M_sort.2.1 85 = .ok (.getfield 156, 3) := by decide +kernel
theorem d_M_sort_88 : decode mi_M_sort.2.1 88 = .ok (.iconst 1, 1) := by decide +kernel
theorem d_M_sort_89 : decode mi_M_sort.2.1 89 = .ok (.iadd, 1) := by decide +kernel
theorem d_M_sort_90 : decode mi_M_sort.2.1 90 = .ok (.putfield 156, 3) := by decide +kernel
theorem d_M_sort_93 : decode mi_M_sort.2.1 93 = .ok (.iinc 2 1, 3) := by decide +kernel
theorem d_M_sort_96 : decode mi_M_sort.2.1 96 = .ok (.goto (-89), 3) := by decide +kernel
theorem d_M_sort_99 : decode mi_M_sort.2.1 99 = .ok (.return_, 1) := by decide +kernel
theorem d_M_puts_0 : decode mi_M_puts.2.1 0 = .ok (.aload_n 0, 1) := by decide +kernel
theorem d_M_puts_1 : decode mi_M_puts.2.1 1 = .ok (.getfield 7, 3) := by decide +kernel
theorem d_M_puts_4 : decode mi_M_puts.2.1 4 = .ok (.bipush 40, 2) := by decide +kernel
theorem d_M_puts_6 : decode mi_M_puts.2.1 6 = .ok (.iload_n 1, 1) := by decide +kernel
theorem d_M_puts_7 : decode mi_M_puts.2.1 7 = .ok (.iadd, 1) := by decide +kernel
theorem d_M_puts_8 : decode mi_M_puts.2.1 8 = .ok (.iaload, 1) := by decide +kernel
theorem d_M_puts_9 : decode mi_M_puts.2.1 9 = .ok (.iconst 1, 1) := by decide +kernel
theorem d_M_puts_10 : decode mi_M_puts.2.1 10 = .ok (.isub, 1) := by decide +kernel
theorem d_M_puts_11 : decode mi_M_puts.2.1 11 = .ok (.istore_n 3, 1) := by decide +kernel
theorem d_M_puts_12 : decode mi_M_puts.2.1 12 = .ok (.aload_n 0, 1) := by decide +kernel
theorem d_M_puts_13 : decode mi_M_puts.2.1 13 = .ok (.getfield 105, 3) := by decide +kernel
theorem d_M_puts_16 : decode mi_M_puts.2.1 16 = .ok (.istore 4, 2) := by decide +kernel
theorem d_M_puts_18 : decode mi_M_puts.2.1 18 = .ok (.iconst 0, 1) := by decide +kernel
theorem d_M_puts_19 : decode mi_M_puts.2.1 19 = .ok (.istore 5, 2) := by decide +kernel
theorem d_M_puts_21 : decode mi_M_puts.2.1 21 = .ok (.iload 5, 2) := by decide +kernel
theorem d_M_puts_23 : decode mi_M_puts.2.1 23 = .ok (.aload_n 0, 1) := by decide +kernel
theorem d_M_puts_24 : decode mi_M_puts.2.1 24 = .ok (.getfield 105, 3) := by decide +kernel
theorem d_M_puts_27 : decode mi_M_puts.2.1 27 = .ok (.if_icmp .ge 23, 3) := by decide +kernel
theorem d_M_puts_30 : decode mi_M_puts.2.1 30 = .ok (.aload_n 0, 1) := by decide +kernel
theorem d_M_puts_31 : decode mi_M_puts.2.1 31 = .ok (.getfield 57, 3) := by decide +kernel
theorem d_M_puts_34 : decode mi_M_puts.2.1 34 = .ok (.iload 5, 2) := by decide +kernel
theorem d_M_puts_36 : decode mi_M_puts.2.1 36 = .ok (.aload_n 0, 1) := by decide +kernel
theorem d_M_puts_37 : decode mi_M_puts.2.1 37 = .ok (.getfield 29, 3) := by decide +kernel
theorem d_M_puts_40 : decode mi_M_puts.2.1 40 = .ok (.iload 5, 2) := by decide +kernel
theorem d_M_puts_42 : decode mi_M_puts.2.1 42 = .ok (.iaload, 1) := by decide +kernel
theorem d_M_puts_43 : decode mi_M_puts.2.1 43 = .ok (.iastore, 1) := by decide +kernel
theorem d_M_puts_44 : decode mi_M_puts.2.1 44 = .ok (.iinc 5 1, 3) := by decide +kernel
theorem d_M_puts_47 : decode mi_M_puts.2.1 47 = .ok (.goto (-26), 3) := by decide +kernel
theorem d_M_puts_50 : decode mi_M_puts.2.1 50 = .ok (.aload_n 0, 1) := by decide +kernel
theorem d_M_puts_51 : decode mi_M_puts.2.1 51 = .ok (.iload_n 1, 1) := by decide +kernel
theorem d_M_puts_52 : decode mi_M_puts.2.1 52 = .ok (.iconst 1, 1) := by decide +kernel
theorem d_M_puts_53 : decode mi_M_puts.2.1 53 = .ok (.invokevirtual 139, 3) := by decide +kernel
theorem d_M_puts_56 : decode mi_M_puts.2.1 56 = .ok (.iload_n 3, 1) := by decide +kernel
theorem d_M_puts_57 : decode mi_M_puts.2.1 57 = .ok (.ifCond .lt 9, 3) := by decide +kernel
theorem d_M_puts_60 : decode mi_M_puts.2.1 60 = .ok (.aload_n 0, 1) := by decide +kernel
theorem d_M_puts_61 : decode mi_M_puts.2.1 61 = .ok (.iload_n 3, 1) := by decide +kernel
theorem d_M_puts_62 : decode mi_M_puts.2.1 62 = .ok (.iconst 1, 1) := by decide +kernel
theorem d_M_puts_63 : decode mi_M_puts.2.1 63 = .ok (.invokevirtual 139, 3) := by decide +kernel
theorem d_M_puts_66 : decode mi_M_puts.2.1 66 = .ok (.aload_n 0, 1) := by decide +kernel
theorem d_M_puts_67 : decode mi_M_puts.2.1 67 = .ok (.invokevirtual 143, 3) := by decide +kernel
theorem d_M_puts_70 : decode mi_M_puts.2.1 70 = .ok (.iload_n 3, 1) := by decide +kernel
theorem d_M_puts_71 : decode mi_M_puts.2.1 71 = .ok (.ifCond .lt 7, 3) := by decide +kernel
theorem d_M_puts_74 : decode mi_M_puts.2.1 74 = .ok (.iconst 2, 1) := by decide +kernel
theorem d_M_puts_75 : decode mi_M_puts.2.1 75 = .ok (.goto 4, 3) := by decide +kernel
theorem d_M_puts_78 : decode mi_M_puts.2.1 78 = .ok (.iconst 1, 1) := by decide +kernel
theorem d_M_puts_79 : decode mi_M_puts.2.1 79 = .ok (.if_icmp .ne 23, 3) := by decide +kernel
theorem d_M_puts_82 : decode mi_M_puts.2.1 82 = .ok (.aload_n 0, 1) := by decide +kernel
theorem d_M_puts_83 : decode mi_M_puts.2.1 83 = .ok (.getfield 51, 3) := by decide +kernel
theorem d_M_puts_86 : decode mi_M_puts.2.1 86 = .ok (.iload_n 1, 1) := by decide +kernel
theorem d_M_puts_87 : decode mi_M_puts.2.1 87 = .ok (.iload_n 2, 1) := by decide +kernel
theorem d_M_puts_88 : decode mi_M_puts.2.1 88 = .ok (.iastore, 1) := by decide +kernel
theorem d_M_puts_89 : decode mi_M_puts.2.1 89 = .ok (.iload_n 3, 1) := by decide +kernel
theorem d_M_puts_90 : decode mi_M_puts.2.1 90 = .ok (.ifCond .lt 10, 3) := by decide +kernel
theorem d_M_puts_93 : decode mi_M_puts.2.1 93 = .ok (.aload_n 0, 1) := by decide +kernel
theorem d_M_puts_94 : decode mi_M_puts.2.1 94 = .ok (.getfield 51, 3) := by decide +kernel
theorem d_M_puts_97 : decode mi_M_puts.2.1 97 = .ok (.iload_n 3, 1) := by decide +kernel
theorem d_M_puts_98 : decode mi_M_puts.2.1 98 = .ok (.iload_n 2, 1) := by decide +kernel
theorem d_M_puts_99 : decode mi_M_puts.2.1 99 = .ok (.iastore, 1) := by decide +kernel
theorem d_M_puts_100 : decode mi_M_puts.2.1 100 = .ok (.iconst 1, 1) := by decide +kernel
theorem d_M_puts_101 : decode mi_M_puts.2.1 101 = .ok (.ireturn, 1) := by decide +kernel
theorem d_M_puts_102 : decode mi_M_puts.2.1 102 = .ok (.aload_n 0, 1) := by decide +kernel
theorem d_M_puts_103 : decode mi_M_puts.2.1 103 = .ok (.iload 4, 2) := by decide +kernel
theorem d_M_puts_105 : decode mi_M_puts.2.1 105 = .ok (.invokevirtual 162, 3) := by decide +kernel
theorem d_M_puts_108 : decode mi_M_puts.2.1 108 = .ok (.iconst 0, 1) := by decide +kernel
theorem d_M_puts_109 : decode mi_M_puts.2.1 109 = .ok (.istore 5, 2) := by decide +kernel
theorem d_M_puts_111 : decode mi_M_puts.2.1 111 = .ok (.iload 5, 2) := by decide +kernel
theorem d_M_puts_113 : decode mi_M_puts.2.1 113 = .ok (.aload_n 0, 1) := by decide +kernel
theorem d_M_puts_114 : decode mi_M_puts.2.1 114 = .ok (.getfield 105, 3) := by decide +kernel
theorem d_M_puts_117 : decode mi_M_puts.2.1 117 = .ok (.if_icmp .ge 23, 3) := by decide +kernel
theorem d_M_puts_120 : decode mi_M_puts.2.1 120 = .ok (.aload_n 0, 1) := by decide +kernel
theorem d_M_puts_121 : decode mi_M_puts.2.1 121 = .ok (.getfield 29, 3) := by decide +kernel
theorem d_M_puts_124 : decode mi_M_puts.2.1 124 = .ok (.iload 5, 2) := by decide +kernel
theorem d_M_puts_126 : decode mi_M_puts.2.1 126 = .ok (.aload_n 0, 1) := by decide +kernel
theorem d_M_puts_127 : decode mi_M_puts.2.1 127 = .ok (.getfield 57, 3) := by decide +kernel
theorem d_M_puts_130 : decode mi_M_puts.2.1 130 = .ok (.iload 5, 2) := by decide +kernel
theorem d_M_puts_132 : decode mi_M_puts.2.1 132 = .ok (.iaload, 1) := by decide +kernel
theorem d_M_puts_133 : decode mi_M_puts.2.1 133 = .ok (.iastore, 1) := by decide +kernel
theorem d_M_puts_134 : decode mi_M_puts.2.1 134 = .ok (.iinc 5 1, 3) := by decide +kernel
theorem d_M_puts_137 : decode mi_M_puts.2.1 137 = .ok (.goto (-26), 3) := by decide +kernel
theorem d_M_puts_140 : decode mi_M_puts.2.1 140 = .ok (.iconst 0, 1) := by decide +kernel
theorem d_M_puts_141 : decode mi_M_puts.2.1 141 = .ok (.ireturn, 1) := by decide +kernel
theorem d_M_layering_0 : decode mi_M_layering.2.1 0 = .ok (.aload_n 0, 1) := by decide +kernel
theorem d_M_layering_1 : decode mi_M_layering.2.1 1 = .ok (.iload_n 1, 1) := by decide +kernel
theorem d_M_layering_2 : decode mi_M_layering.2.1 2 = .ok (.invokevirtual 165, 3) := by decide +kernel
theorem d_M_layering_5 : decode mi_M_layering.2.1 5 = .ok (.iconst 0, 1) := by decide +kernel
theorem d_M_layering_6 : decode mi_M_layering.2.1 6 = .ok (.istore_n 2, 1) := by decide +kernel
theorem d_M_layering_7 : decode mi_M_layering.2.1 7 = .ok (.iload_n 2, 1) := by decide +kernel
theorem d_M_layering_8 : decode mi_M_layering.2.1 8 = .ok (.bipush 36, 2) := by decide +kernel
theorem d_M_layering_10 : decode mi_M_layering.2.1 10 = .ok (.if_icmp .ge 17, 3) := by decide +kernel
theorem d_M_layering_13 : decode mi_M_layering.2.1 13 = .ok (.aload_n 0, 1) := by decide +kernel
theorem d_M_layering_14 : decode mi_M_layering.2.1 14 = .ok (.getfield 51, 3) := by decide +kernel
theorem d_M_layering_17 : decode mi_M_layering.2.1 17 = .ok (.iload_n 2, 1) := by decide +kernel
theorem d_M_layering_18 : decode mi_M_layering.2.1 18 = .ok (.bipush (-9), 2) := by decide +kernel
theorem d_M_layering_20 : decode mi_M_layering.2.1 20 = .ok (.iastore, 1) := by decide +kernel
theorem d_M_layering_21 : decode mi_M_layering.2.1 21 = .ok (.iinc 2 1, 3) := by decide +kernel
theorem d_M_layering_24 : decode mi_M_layering.2.1 24 = .ok (.goto (-17), 3) := by decide +kernel
theorem d_M_layering_27 : decode mi_M_layering.2.1 27 = .ok (.aload_n 0, 1) := by decide +kernel
theorem d_M_layering_28 : decode mi_M_layering.2.1 28 = .ok (.getfield 156, 3) := by decide +kernel
theorem d_M_layering_31 : decode mi_M_layering.2.1 31 = .ok (.istore_n 2, 1) := by decide +kernel
theorem d_M_layering_32 : decode mi_M_layering.2.1 32 = .ok (.iconst 0, 1) := by decide +kernel
theorem d_M_layering_33 : decode mi_M_layering.2.1 33 = .ok (.istore_n 3, 1) := by decide +kernel
theorem d_M_layering_34 : decode mi_M_layering.2.1 34 = .ok (.iload_n 2, 1) := by decide +kernel
theorem d_M_layering_35 : decode mi_M_layering.2.1 35 = .ok (.ifCond .le 170, 3) := by decide +kernel
theorem d_M_layering_38 : decode mi_M_layering.2.1 38 = .ok (.iinc 3 1, 3) := by decide +kernel
theorem d_M_layering_41 : decode mi_M_layering.2.1 41 = .ok (.iconst 0, 1) := by decide +kernel
theorem d_M_layering_42 : decode mi_M_layering.2.1 42 = .ok (.istore 4, 2) := by decide +kernel
theorem d_M_layering_44 : decode mi_M_layering.2.1 44 = .ok (.iload 4, 2) := by decide +kernel
theorem d_M_layering_46 : decode mi_M_layering.2.1 46 = .ok (.bipush 36, 2) := by decide +kernel
theorem d_M_layering_48 : decode mi_M_layering.2.1 48 = .ok (.if_icmp .ge 45, 3) := by decide +kernel
theorem d_M_layering_51 : decode mi_M_layering.2.1 51 = .ok (.aload_n 0, 1) := by decide +kernel
theorem d_M_layering_52 : decode mi_M_layering.2.1 52 = .ok (.getfield 38, 3) := by decide +kernel
theorem d_M_layering_55 : decode mi_M_layering.2.1 55 = .ok (.iload 4, 2) := by decide +kernel
theorem d_M_layering_57 : decode mi_M_layering.2.1 57 = .ok (.aload_n 0, 1) := by decide +kernel
theorem d_M_layering_58 : decode mi_M_layering.2.1 58 = .ok (.getfield 7, 3) := by decide +kernel
theorem d_M_layering_61 : decode mi_M_layering.2.1 61 = .ok (.iconst 4, 1) := by decide +kernel
theorem d_M_layering_62 : decode mi_M_layering.2.1 62 = .ok (.iload 4, 2) := by decide +kernel
theorem d_M_layering_64 : decode mi_M_layering.2.1 64 = .ok (.iadd, 1) := by decide +kernel
theorem d_M_layering_65 : decode mi_M_layering.2.1 65 = .ok (.iaload, 1) := by decide +kernel
theorem d_M_layering_66 : decode mi_M_layering.2.1 66 = .ok (.ifCond .eq 15, 3) := by decide +kernel
theorem d_M_layering_69 : decode mi_M_layering.2.1 69 = .ok (.aload_n 0, 1) := by decide +kernel
theorem d_M_layering_70 : decode mi_M_layering.2.1 70 = .ok (.getfield 51, 3) := by decide +kernel
theorem d_M_layering_73 : decode mi_M_layering.2.1 73 = .ok (.iload 4, 2) := by decide +kernel
theorem d_M_layering_75 : decode mi_M_layering.2.1 75 = .ok (.iaload, 1) := by decide +kernel
theorem d_M_layering_76 : decode mi_M_layering.2.1 76 = .ok (.bipush (-9), 2) := by decide +kernel
theorem d_M_layering_78 : decode mi_M_layering.2.1 78 = .ok (.if_icmp .eq 7, 3) := by decide +kernel
theorem d_M_layering_81 : decode mi_M_layering.2.1 81 = .ok (.iconst 1, 1) := by decide +kernel
theorem d_M_layering_82 : decode mi_M_layering.2.1 82 = .ok (.goto 4, 3) := by decide +kernel
theorem d_M_layering_85 : decode mi_M_layering.2.1 85 = .ok (.iconst 0, 1) := by decide +kernel
theorem d_M_layering_86 : decode mi_M_layering.2.1 86 = .ok (.bastore, 1) := by decide +kernel
theorem d_M_layering_87 : decode mi_M_layering.2.1 87 = .ok (.iinc 4 1, 3) := by decide +kernel
theorem d_M_layering_90 : decode mi_M_layering.2.1 90 = .ok (.goto (-46), 3) := by decide +kernel
theorem d_M_layering_93 : decode mi_M_layering.2.1 93 = .ok (.aload_n 0, 1) := by decide +kernel
theorem d_M_layering_94 : decode mi_M_layering.2.1 94 = .ok (.invokevirtual 136, 3) := by decide +kernel
theorem d_M_layering_97 : decode mi_M_layering.2.1 97 = .ok (.iload_n 2, 1) := by decide +kernel
theorem d_M_layering_98 : decode mi_M_layering.2.1 98 = .ok (.istore 4, 2) := by decide +kernel
theorem d_M_layering_100 : decode mi_M_layering.2.1 100 = .ok (.iconst 0, 1) := by decide +kernel
theorem d_M_layering_101 : decode mi_M_layering.2.1 101 = .ok (.istore 5, 2) := by decide +kernel
theorem d_M_layering_103 : decode mi_M_layering.2.1 103 = .ok (.iload 5, 2) := by decide +kernel
theorem d_M_layering_105 : decode mi_M_layering.2.1 105 = .ok (.aload_n 0, 1) := by decide +kernel
theorem d_M_layering_106 : decode mi_M_layering.2.1 106 = .ok (.getfield 156, 3) := by decide +kernel
theorem d_M_layering_109 : decode mi_M_layering.2.1 109 = .ok (.if_icmp .ge 84, 3) := by decide +kernel
theorem d_M_layering_112 : decode mi_M_layering.2.1 112 = .ok (.aload_n 0, 1) := by decide +kernel
theorem d_M_layering_113 : decode mi_M_layering.2.1 113 = .ok (.getfield 54, 3) := by decide +kernel
theorem d_M_layering_116 : decode mi_M_layering.2.1 116 = .ok (.iload 5, 2) := by decide +kernel
theorem d_M_layering_118 : decode mi_M_layering.2.1 118 = .ok (.iaload, 1) := by decide +kernel
theorem d_M_layering_119 : decode mi_M_layering.2.1 119 = .ok (.istore 6, 2) := by decide +kernel
theorem d_M_layering_121 : decode mi_M_layering.2.1 121 = .ok (.aload_n 0, 1) := by decide +kernel
theorem d_M_layering_122 : decode mi_M_layering.2.1 122 = .ok (.getfield 51, 3) := by decide +kernel
theorem d_M_layering_125 : decode mi_M_layering.2.1 125 = .ok (.iload 6, 2) := by decide +kernel
theorem d_M_layering_127 : decode mi_M_layering.2.1 127 = .ok (.iaload, 1) := by decide +kernel
theorem d_M_layering_128 : decode mi_M_layering.2.1 128 = .ok (.bipush (-9), 2) := by decide +kernel
theorem d_M_layering_130 : decode mi_M_layering.2.1 130 = .ok (.if_icmp .ne 18, 3) := by decide +kernel
theorem d_M_layering_133 : decode mi_M_layering.2.1 133 = .ok (.aload_n 0, 1) := by decide +kernel
theorem d_M_layering_134 : decode mi_M_layering.2.1 134 = .ok (.iload 6, 2) := by decide +kernel
theorem d_M_layering_136 : decode mi_M_layering.2.1 136 = .ok (.iload 5, 2) := by decide +kernel
theorem d_M_layering_138 : decode mi_M_layering.2.1 138 = .ok (.invokevirtual 168, 3) := by decide +kernel
theorem d_M_layering_141 : decode mi_M_layering.2.1 141 = .ok (.ifCond .eq 7, 3) := by decide +kernel
theorem d_M_layering_144 : decode mi_M_layering.2.1 144 = .ok (.iconst 1, 1) := by decide +kernel
theorem d_M_layering_145 : decode mi_M_layering.2.1 145 = .ok (.goto 4, 3) := by decide +kernel
theorem d_M_layering_148 : decode mi_M_layering.2.1 148 = .ok (.iconst 0, 1) := by decide +kernel
theorem d_M_layering_149 : decode mi_M_layering.2.1 149 = .ok (.istore 7, 2) := by decide +kernel
theorem d_M_layering_151 : decode mi_M_layering.2.1 151 = .ok (.iload 7, 2) := by decide +kernel
theorem d_M_layering_153 : decode mi_M_layering.2.1 153 = .ok (.ifCond .eq 34, 3) := by decide +kernel
theorem d_M_layering_156 : decode mi_M_layering.2.1 156 = .ok (.aload_n 0, 1) := by decide +kernel
theorem d_M_layering_157 : decode mi_M_layering.2.1 157 = .ok (.iload 6, 2) := by decide +kernel
theorem d_M_layering_159 : decode mi_M_layering.2.1 159 = .ok (.iload_n 3, 1) := by decide +kernel
theorem d_M_layering_160 : decode mi_M_layering.2.1 160 = .ok (.invokevirtual 171, 3) := by decide +kernel
theorem d_M_layering_163 : decode mi_M_layering.2.1 163 = .ok (.ifCond .eq 24, 3) := by decide +kernel
theorem d_M_layering_166 : decode mi_M_layering.2.1 166 = .ok (.iload_n 2, 1) := by decide +kernel
theorem d_M_layering_167 : decode mi_M_layering.2.1 167 = .ok (.aload_n 0, 1) := by decide +kernel
theorem d_M_layering_168 : decode mi_M_layering.2.1 168 = .ok (.getfield 7, 3) := by decide +kernel
theorem d_M_layering_171 : decode mi_M_layering.2.1 171 = .ok (.bipush 40, 2) := by decide +kernel
theorem d_M_layering_173 : decode mi_M_layering.2.1 173 = .ok (.iload 6, 2) := by decide +kernel
theorem d_M_layering_175 : decode mi_M_layering.2.1 175 = .ok (.iadd, 1) := by decide +kernel
theorem d_M_layering_176 : decode mi_M_layering.2.1 176 = .ok (.iaload, 1) := by decide +kernel
theorem d_M_layering_177 : decode mi_M_layering.2.1 177 = .ok (.ifCond .le 7, 3) := by decide +kernel
theorem d_M_layering_180 : decode mi_M_layering.2.1 180 = .ok (.iconst 2, 1) := by decide +kernel
theorem d_M_layering_181 : decode mi_M_layering.2.1 181 = .ok (.goto 4, 3) := by decide +kernel
theorem d_M_layering_184 : decode mi_M_layering.2.1 184 = .ok (.iconst 1, 1) := by decide +kernel
theorem d_M_layering_185 : decode mi_M_layering.2.1 185 = .ok (.isub, 1) := by decide +kernel
theorem d_M_layering_186 : decode mi_M_layering.2.1 186 = .ok (.istore_n 2, 1) := by decide +kernel
theorem d_M_layering_187 : decode mi_M_layering.2.1 187 = .ok (.iinc 5 1, 3) := by decide +kernel
theorem d_M_layering_190 : decode mi_M_layering.2.1 190 = .ok (.goto (-87), 3) := by decide +kernel
theorem d_M_layering_193 : decode mi_M_layering.2.1 193 = .ok (.iload_n 2, 1) := by decide +kernel
theorem d_M_layering_194 : decode mi_M_layering.2.1 194 = .ok (.iload 4, 2) := by decide +kernel
theorem d_M_layering_196 : decode mi_M_layering.2.1 196 = .ok (.if_icmp .ne 6, 3) := by decide +kernel
theorem d_M_layering_199 : decode mi_M_layering.2.1 199 = .ok (.bipush (-9), 2) := by decide +kernel
theorem d_M_layering_201 : decode mi_M_layering.2.1 201 = .ok (.ireturn, 1) := by decide +kernel
theorem d_M_layering_202 : decode mi_M_layering.2.1 202 = .ok (.goto (-168), 3) := by decide +kernel
theorem d_M_layering_205 : decode mi_M_layering.2.1 205 = .ok (.iload_n 3, 1) := by decide +kernel
theorem d_M_layering_206 : decode mi_M_layering.2.1 206 = .ok (.ireturn, 1) := by decide +kernel
theorem d_M_isFirst_0 : decode mi_M_isFirst.2.1 0 = .ok (.iconst 1, 1) := by decide +kernel
theorem d_M_isFirst_1 : decode mi_M_isFirst.2.1 1 = .ok (.istore_n 3, 1) := by decide +kernel
theorem d_M_isFirst_2 : decode mi_M_isFirst.2.1 2 = .ok (.iconst 0, 1) := by decide +kernel
theorem d_M_isFirst_3 : decode mi_M_isFirst.2.1 3 = .ok (.istore 4, 2) := by decide +kernel
theorem d_M_isFirst_5 : decode mi_M_isFirst.2.1 5 = .ok (.iload 4, 2) := by decide +kernel
theorem d_M_isFirst_7 : decode mi_M_isFirst.2.1 7 = .ok (.iload_n 2, 1) := by decide +kernel
theorem d_M_isFirst_8 : decode mi_M_isFirst.2.1 8 = .ok (.if_icmp .ge 40, 3) := by decide +kernel
theorem d_M_isFirst_11 : decode mi_M_isFirst.2.1 11 = .ok (.iload_n 3, 1) := by decide +kernel
theorem d_M_isFirst_12 : decode mi_M_isFirst.2.1 12 = .ok (.ifCond .eq 28, 3) := by decide +kernel
theorem d_M_isFirst_15 : decode mi_M_isFirst.2.1 15 = .ok (.aload_n 0, 1) := by decide +kernel
theorem d_M_isFirst_16 : decode mi_M_isFirst.2.1 16 = .ok (.getfield 54, 3) := by decide +kernel
theorem d_M_isFirst_19 : decode mi_M_isFirst.2.1 19 = .ok (.iload 4, 2) := by decide +kernel
theorem d_M_isFirst_21 : decode mi_M_isFirst.2.1 21 = .ok (.iaload, 1) := by decide +kernel
theorem d_M_isFirst_22 : decode mi_M_isFirst.2.1 22 = .ok (.aload_n 0, 1) := by decide +kernel
theorem d_M_isFirst_23 : decode mi_M_isFirst.2.1 23 = .ok (.getfield 7, 3) := by decide +kernel
theorem d_M_isFirst_26 : decode mi_M_isFirst.2.1 26 = .ok (.bipush 40, 2) := by decide +kernel
theorem d_M_isFirst_28 : decode mi_M_isFirst.2.1 28 = .ok (.iload_n 1, 1) := by decide +kernel
theorem d_M_isFirst_29 : decode mi_M_isFirst.2.1 29 = .ok (.iadd, 1) := by decide +kernel
theorem d_M_isFirst_30 : decode mi_M_isFirst.2.1 30 = .ok (.iaload, 1) := by decide +kernel
theorem d_M_isFirst_31 : decode mi_M_isFirst.2.1 31 = .ok (.iconst 1, 1) := by decide +kernel
theorem d_M_isFirst_32 : decode mi_M_isFirst.2.1 32 = .ok (.isub, 1) := by decide +kernel
theorem d_M_isFirst_33 : decode mi_M_isFirst.2.1 33 = .ok (.if_icmp .eq 7, 3) := by decide +kernel
theorem d_M_isFirst_36 : decode mi_M_isFirst.2.1 36 = .ok (.iconst 1, 1) := by decide +kernel
theorem d_M_isFirst_37 : decode mi_M_isFirst.2.1 37 = .ok (.goto 4, 3) := by decide +kernel
theorem d_M_isFirst_40 : decode mi_M_isFirst.2.1 40 = .ok (.iconst 0, 1) := by decide +kernel
theorem d_M_isFirst_41 : decode mi_M_isFirst.2.1 41 = .ok (.istore_n 3, 1) := by decide +kernel
theorem d_M_isFirst_42 : decode mi_M_isFirst.2.1 42 = .ok (.iinc 4 1, 3) := by decide +kernel
theorem d_M_isFirst_45 : decode mi_M_isFirst.2.1 45 = .ok (.goto (-40), 3) := by decide +kernel
theorem d_M_isFirst_48 : decode mi_M_isFirst.2.1 48 = .ok (.iload_n 3, 1) := by decide +kernel
theorem d_M_isFirst_49 : decode mi_M_isFirst.2.1 49 = .ok (.ireturn, 1) := by decide +kernel
theorem d_M_isStrategy_0 : decode mi_M_isStrategy.2.1 0 = .ok (.iload_n 0, 1) := by decide +kernel
theorem d_M_isStrategy_1 : decode mi_M_isStrategy.2.1 1 = .ok (.iconst 0, 1) := by decide +kernel
theorem d_M_isStrategy_2 : decode mi_M_isStrategy.2.1 2 = .ok (.iconst 3, 1) := by decide +kernel
theorem d_M_isStrategy_3 : decode mi_M_isStrategy.2.1 3 = .ok (.invokestatic 64, 3) := by decide +kernel
theorem d_M_isStrategy_6 : decode mi_M_isStrategy.2.1 6 = .ok (.ireturn, 1) := by decide +kernel
theorem d_M_layerCount_0 : decode mi_M_layerCount.2.1 0 = .ok (.iload_n 1, 1) := by decide +kernel
theorem d_M_layerCount_1 : decode mi_M_layerCount.2.1 1 = .ok (.invokestatic 174, 3) := by decide +kernel
theorem d_M_layerCount_4 : decode mi_M_layerCount.2.1 4 = .ok (.ifCond .eq 11, 3) := by decide +kernel
theorem d_M_layerCount_7 : decode mi_M_layerCount.2.1 7 = .ok (.aload_n 0, 1) := by decide +kernel
theorem d_M_layerCount_8 : decode mi_M_layerCount.2.1 8 = .ok (.iload_n 1, 1) := by decide +kernel
theorem d_M_layerCount_9 : decode mi_M_layerCount.2.1 9 = .ok (.invokevirtual 177, 3) := by decide +kernel
theorem d_M_layerCount_12 : decode mi_M_layerCount.2.1 12 = .ok (.goto 4, 3) := by decide +kernel
theorem d_M_layerCount_15 : decode mi_M_layerCount.2.1 15 = .ok (.iconst (-1), 1) := by decide +kernel
theorem d_M_layerCount_16 : decode mi_M_layerCount.2.1 16 = .ok (.ireturn, 1) := by decide +kernel
theorem d_M_layerOf_0 : decode mi_M_layerOf.2.1 0 = .ok (.iload_n 1, 1) := by decide +kernel
theorem d_M_layerOf_1 : decode mi_M_layerOf.2.1 1 = .ok (.invokestatic 174, 3) := by decide +kernel
theorem d_M_layerOf_4 : decode mi_M_layerOf.2.1 4 = .ok (.ifCond .eq 12, 3) := by decide +kernel
theorem d_M_layerOf_7 : decode mi_M_layerOf.2.1 7 = .ok (.aload_n 0, 1) := by decide +kernel
theorem d_M_layerOf_8 : decode mi_M_layerOf.2.1 8 = .ok (.iload_n 2, 1) := by decide +kernel
theorem d_M_layerOf_9 : decode mi_M_layerOf.2.1 9 = .ok (.iload_n 3, 1) := by decide +kernel
theorem d_M_layerOf_10 : decode mi_M_layerOf.2.1 10 = .ok (.invokevirtual 87, 3) := by decide +kernel
theorem d_M_layerOf_13 : decode mi_M_layerOf.2.1 13 = .ok (.ifCond .ne 5, 3) := by decide +kernel
theorem d_M_layerOf_16 : decode mi_M_layerOf.2.1 16 = .ok (.iconst (-1), 1) := by decide +kernel
theorem d_M_layerOf_17 : decode mi_M_layerOf.2.1 17 = .ok (.ireturn, 1) := by decide +kernel
theorem d_M_layerOf_18 : decode mi_M_layerOf.2.1 18 = .ok (.aload_n 0, 1) := by decide +kernel
theorem d_M_layerOf_19 : decode mi_M_layerOf.2.1 19 = .ok (.iload_n 1, 1) := by decide +kernel
theorem d_M_layerOf_20 : decode mi_M_layerOf.2.1 20 = .ok (.invokevirtual 177, 3) := by decide +kernel
theorem d_M_layerOf_23 : decode mi_M_layerOf.2.1 23 = .ok (.pop, 1) := by decide +kernel
theorem d_M_layerOf_24 : decode mi_M_layerOf.2.1 24 = .ok (.aload_n 0, 1) := by decide +kernel
theorem d_M_layerOf_25 : decode mi_M_layerOf.2.1 25 = .ok (.getfield 51, 3) := by decide +kernel
theorem d_M_layerOf_28 : decode mi_M_layerOf.2.1 28 = .ok (.bipush 6, 2) := by decide +kernel
theorem d_M_layerOf_30 : decode mi_M_layerOf.2.1 30 = .ok (.iload_n 2, 1) := by decide +kernel
theorem d_M_layerOf_31 : decode mi_M_layerOf.2.1 31 = .ok (.imul, 1) := by decide +kernel
theorem d_M_layerOf_32 : decode mi_M_layerOf.2.1 32 = .ok (.iload_n 3, 1) := by decide +kernel
theorem d_M_layerOf_33 : decode mi_M_layerOf.2.1 33 = .ok (.iadd, 1) := by decide +kernel
theorem d_M_layerOf_34 : decode mi_M_layerOf.2.1 34 = .ok (.iaload, 1) := by decide +kernel
theorem d_M_layerOf_35 : decode mi_M_layerOf.2.1 35 = .ok (.ireturn, 1) := by decide +kernel
theorem d_M_layerLoad_0 : decode mi_M_layerLoad.2.1 0 = .ok (.iload_n 1, 1) := by decide +kernel
theorem d_M_layerLoad_1 : decode mi_M_layerLoad.2.1 1 = .ok (.invokestatic 174, 3) := by decide +kernel
theorem d_M_layerLoad_4 : decode mi_M_layerLoad.2.1 4 = .ok (.ifCond .eq 8, 3) := by decide +kernel
theorem d_M_layerLoad_7 : decode mi_M_layerLoad.2.1 7 = .ok (.iload_n 2, 1) := by decide +kernel
theorem d_M_layerLoad_8 : decode mi_M_layerLoad.2.1 8 = .ok (.iconst 1, 1) := by decide +kernel
theorem d_M_layerLoad_9 : decode mi_M_layerLoad.2.1 9 = .ok (.if_icmp .ge 5, 3) := by decide +kernel
theorem d_M_layerLoad_12 : decode mi_M_layerLoad.2.1 12 = .ok (.iconst (-1), 1) := by decide +kernel
theorem d_M_layerLoad_13 : decode mi_M_layerLoad.2.1 13 = .ok (.ireturn, 1) := by decide +kernel
theorem d_M_layerLoad_14 : decode mi_M_layerLoad.2.1 14 = .ok (.aload_n 0, 1) := by decide +kernel
theorem d_M_layerLoad_15 : decode mi_M_layerLoad.2.1 15 = .ok (.iload_n 1, 1) := by decide +kernel
theorem d_M_layerLoad_16 : decode mi_M_layerLoad.2.1 16 = .ok (.invokevirtual 177, 3) := by decide +kernel
theorem d_M_layerLoad_19 : decode mi_M_layerLoad.2.1 19 = .ok (.pop, 1) := by decide +kernel
theorem d_M_layerLoad_20 : decode mi_M_layerLoad.2.1 20 = .ok (.iconst 0, 1) := by decide +kernel
theorem d_M_layerLoad_21 : decode mi_M_layerLoad.2.1 21 = .ok (.istore_n 3, 1) := by decide +kernel
theorem d_M_layerLoad_22 : decode mi_M_layerLoad.2.1 22 = .ok (.iconst 0, 1) := by decide +kernel
theorem d_M_layerLoad_23 : decode mi_M_layerLoad.2.1 23 = .ok (.istore 4, 2) := by decide +kernel
theorem d_M_layerLoad_25 : decode mi_M_layerLoad.2.1 25 = .ok (.iload 4, 2) := by decide +kernel
theorem d_M_layerLoad_27 : decode mi_M_layerLoad.2.1 27 = .ok (.bipush 36, 2) := by decide +kernel
theorem d_M_layerLoad_29 : decode mi_M_layerLoad.2.1 29 = .ok (.if_icmp .ge 28, 3) := by decide +kernel
theorem d_M_layerLoad_32 : decode mi_M_layerLoad.2.1 32 = .ok (.iload_n 3, 1) := by decide +kernel
theorem d_M_layerLoad_33 : decode mi_M_layerLoad.2.1 33 = .ok (.aload_n 0, 1) := by decide +kernel
theorem d_M_layerLoad_34 : decode mi_M_layerLoad.2.1 34 = .ok (.getfield 51, 3) := by decide +kernel
theorem d_M_layerLoad_37 : decode mi_M_layerLoad.2.1 37 = .ok (.iload 4, 2) := by decide +kernel
theorem d_M_layerLoad_39 : decode mi_M_layerLoad.2.1 39 = .ok (.iaload, 1) := by decide +kernel
theorem d_M_layerLoad_40 : decode mi_M_layerLoad.2.1 40 = .ok (.iload_n 2, 1) := by decide +kernel
theorem d_M_layerLoad_41 : decode mi_M_layerLoad.2.1 41 = .ok (.if_icmp .ne 7, 3) := by decide +kernel
theorem d_M_layerLoad_44 : decode mi_M_layerLoad.2.1 44 = .ok (.iconst 1, 1) := by decide +kernel
theorem d_M_layerLoad_45 : decode mi_M_layerLoad.2.1 45 = .ok (.goto 4, 3) := by decide +kernel
theorem d_M_layerLoad_48 : decode mi_M_layerLoad.2.1 48 = .ok (.iconst 0, 1) := by decide +kernel
theorem d_M_layerLoad_49 : decode mi_M_layerLoad.2.1 49 = .ok (.iadd, 1) := by decide +kernel
theorem d_M_layerLoad_50 : decode mi_M_layerLoad.2.1 50 = .ok (.istore_n 3, 1) := by decide +kernel
theorem d_M_layerLoad_51 : decode mi_M_layerLoad.2.1 51 = .ok (.iinc 4 1, 3) := by decide +kernel
theorem d_M_layerLoad_54 : decode mi_M_layerLoad.2.1 54 = .ok (.goto (-29), 3) := by decide +kernel
theorem d_M_layerLoad_57 : decode mi_M_layerLoad.2.1 57 = .ok (.iload_n 3, 1) := by decide +kernel
theorem d_M_layerLoad_58 : decode mi_M_layerLoad.2.1 58 = .ok (.ireturn, 1) := by decide +kernel
theorem d_M_bestStrategy_0 : decode mi_M_bestStrategy.2.1 0 = .ok (.bipush (-9), 2) := by decide +kernel
theorem d_M_bestStrategy_2 : decode mi_M_bestStrategy.2.1 2 = .ok (.istore_n 1, 1) := by decide +kernel
theorem d_M_bestStrategy_3 : decode mi_M_bestStrategy.2.1 3 = .ok (.ldc 122, 2) := by decide +kernel
theorem d_M_bestStrategy_5 : decode mi_M_bestStrategy.2.1 5 = .ok (.istore_n 2, 1) := by decide +kernel
theorem d_M_bestStrategy_6 : decode mi_M_bestStrategy.2.1 6 = .ok (.iconst 0, 1) := by decide +kernel
theorem d_M_bestStrategy_7 : decode mi_M_bestStrategy.2.1 7 = .ok (.istore_n 3, 1) := by decide +kernel
theorem d_M_bestStrategy_8 : decode mi_M_bestStrategy.2.1 8 = .ok (.iload_n 3, 1) := by decide +kernel
theorem d_M_bestStrategy_9 : decode mi_M_bestStrategy.2.1 9 = .ok (.iconst 4, 1) := by decide +kernel
theorem d_M_bestStrategy_10 : decode mi_M_bestStrategy.2.1 10 = .ok (.if_icmp .ge 34, 3) := by decide +kernel
theorem d_M_bestStrategy_13 : decode mi_M_bestStrategy.2.1 13 = .ok (.aload_n 0, 1) := by decide +kernel
theorem d_M_bestStrategy_14 : decode mi_M_bestStrategy.2.1 14 = .ok (.iload_n 3, 1) := by decide +kernel
theorem d_M_bestStrategy_15 : decode mi_M_bestStrategy.2.1 15 = .ok (.invokevirtual 177, 3) := by decide +kernel
theorem d_M_bestStrategy_18 : decode mi_M_bestStrategy.2.1 18 = .ok (.istore 4, 2) := by decide +kernel
theorem d_M_bestStrategy_20 : decode mi_M_bestStrategy.2.1 20 = .ok (.iload 4, 2) := by decide +kernel
theorem d_M_bestStrategy_22 : decode mi_M_bestStrategy.2.1 22 = .ok (.bipush (-9), 2) := by decide +kernel
theorem d_M_bestStrategy_24 : decode mi_M_bestStrategy.2.1 24 = .ok (.if_icmp .eq 14, 3) := by decide +kernel
theorem d_M_bestStrategy_27 : decode mi_M_bestStrategy.2.1 27 = .ok (.iload 4, 2) := by decide +kernel
theorem d_M_bestStrategy_29 : decode mi_M_bestStrategy.2.1 29 = .ok (.iload_n 2, 1) := by decide +kernel
theorem d_M_bestStrategy_30 : decode mi_M_bestStrategy.2.1 30 = .ok (.if_icmp .ge 8, 3) := by decide +kernel
theorem d_M_bestStrategy_33 : decode mi_M_bestStrategy.2.1 33 = .ok (.iload_n 3, 1) := by decide +kernel
theorem d_M_bestStrategy_34 : decode mi_M_bestStrategy.2.1 34 = .ok (.istore_n 1, 1) := by decide +kernel
theorem d_M_bestStrategy_35 : decode mi_M_bestStrategy.2.1 35 = .ok (.iload 4, 2) := by decide +kernel
theorem d_M_bestStrategy_37 : decode mi_M_bestStrategy.2.1 37 = .ok (.istore_n 2, 1) := by decide +kernel
theorem d_M_bestStrategy_38 : decode mi_M_bestStrategy.2.1 38 = .ok (.iinc 3 1, 3) := by decide +kernel
theorem d_M_bestStrategy_41 : decode mi_M_bestStrategy.2.1 41 = .ok (.goto (-33), 3) := by decide +kernel
theorem d_M_bestStrategy_44 : decode mi_M_bestStrategy.2.1 44 = .ok (.iload_n 1, 1) := by decide +kernel
theorem d_M_bestStrategy_45 : decode mi_M_bestStrategy.2.1 45 = .ok (.ireturn, 1) := by decide +kernel
theorem d_M_most_0 : decode mi_M_most.2.1 0 = .ok (.iconst 0, 1) := by decide +kernel
theorem d_M_most_1 : decode mi_M_most.2.1 1 = .ok (.istore_n 1, 1) := by decide +kernel
theorem d_M_most_2 : decode mi_M_most.2.1 2 = .ok (.iload_n 1, 1) := by decide +kernel
theorem d_M_most_3 : decode mi_M_most.2.1 3 = .ok (.bipush 36, 2) := by decide +kernel
theorem d_M_most_5 : decode mi_M_most.2.1 5 = .ok (.if_icmp .ge 32, 3) := by decide +kernel
theorem d_M_most_8 : decode mi_M_most.2.1 8 = .ok (.aload_n 0, 1) := by decide +kernel
theorem d_M_most_9 : decode mi_M_most.2.1 9 = .ok (.getfield 38, 3) := by decide +kernel
theorem d_M_most_12 : decode mi_M_most.2.1 12 = .ok (.iload_n 1, 1) := by decide +kernel
theorem d_M_most_13 : decode mi_M_most.2.1 13 = .ok (.aload_n 0, 1) := by decide +kernel
theorem d_M_most_14 : decode mi_M_most.2.1 14 = .ok (.getfield 7, 3) := by decide +kernel
theorem d_M_most_17 : decode mi_M_most.2.1 17 = .ok (.iconst 4, 1) := by decide +kernel
theorem d_M_most_18 : decode mi_M_most.2.1 18 = .ok (.iload_n 1, 1) := by decide +kernel
theorem d_M_most_19 : decode mi_M_most.2.1 19 = .ok (.iadd, 1) := by decide +kernel
theorem d_M_most_20 : decode mi_M_most.2.1 20 = .ok (.iaload, 1) := by decide +kernel
theorem d_M_most_21 : decode mi_M_most.2.1 21 = .ok (.iconst 2, 1) := by decide +kernel
theorem d_M_most_22 : decode mi_M_most.2.1 22 = .ok (.if_icmp .eq 7, 3) := by decide +kernel
theorem d_M_most_25 : decode mi_M_most.2.1 25 = .ok (.iconst 1, 1) := by decide +kernel
theorem d_M_most_26 : decode mi_M_most.2.1 26 = .ok (.goto 4, 3) := by decide +kernel
theorem d_M_most_29 : decode mi_M_most.2.1 29 = .ok (.iconst 0, 1) := by decide +kernel
theorem d_M_most_30 : decode mi_M_most.2.1 30 = .ok (.bastore, 1) := by decide +kernel
theorem d_M_most_31 : decode mi_M_most.2.1 31 = .ok (.iinc 1 1, 3) := by decide +kernel
theorem d_M_most_34 : decode mi_M_most.2.1 34 = .ok (.goto (-32), 3) := by decide +kernel
theorem d_M_most_37 : decode mi_M_most.2.1 37 = .ok (.aload_n 0, 1) := by decide +kernel
theorem d_M_most_38 : decode mi_M_most.2.1 38 = .ok (.invokevirtual 136, 3) := by decide +kernel
theorem d_M_most_41 : decode mi_M_most.2.1 41 = .ok (.iconst 0, 1) := by decide +kernel
theorem d_M_most_42 : decode mi_M_most.2.1 42 = .ok (.istore_n 1, 1) := by decide +kernel
theorem d_M_most_43 : decode mi_M_most.2.1 43 = .ok (.iload_n 1, 1) := by decide +kernel
theorem d_M_most_44 : decode mi_M_most.2.1 44 = .ok (.bipush 36, 2) := by decide +kernel
theorem d_M_most_46 : decode mi_M_most.2.1 46 = .ok (.if_icmp .ge 28, 3) := by decide +kernel
theorem d_M_most_49 : decode mi_M_most.2.1 49 = .ok (.aload_n 0, 1) := by decide +kernel
theorem d_M_most_50 : decode mi_M_most.2.1 50 = .ok (.getfield 7, 3) := by decide +kernel
theorem d_M_most_53 : decode mi_M_most.2.1 53 = .ok (.iconst 4, 1) := by decide +kernel
theorem d_M_most_54 : decode mi_M_most.2.1 54 = .ok (.iload_n 1, 1) := by decide +kernel
theorem d_M_most_55 : decode mi_M_most.2.1 55 = .ok (.iadd, 1) := by decide +kernel
theorem d_M_most_56 : decode mi_M_most.2.1 56 = .ok (.iaload, 1) := by decide +kernel
theorem d_M_most_57 : decode mi_M_most.2.1 57 = .ok (.iconst 1, 1) := by decide +kernel
theorem d_M_most_58 : decode mi_M_most.2.1 58 = .ok (.if_icmp .ne 10, 3) := by decide +kernel
theorem d_M_most_61 : decode mi_M_most.2.1 61 = .ok (.aload_n 0, 1) := by decide +kernel
theorem d_M_most_62 : decode mi_M_most.2.1 62 = .ok (.iload_n 1, 1) := by decide +kernel
theorem d_M_most_63 : decode mi_M_most.2.1 63 = .ok (.ldc 122, 2) := by decide +kernel
theorem d_M_most_65 : decode mi_M_most.2.1 65 = .ok (.invokevirtual 139, 3) := by decide +kernel
theorem d_M_most_68 : decode mi_M_most.2.1 68 = .ok (.iinc 1 1, 3) := by decide +kernel
theorem d_M_most_71 : decode mi_M_most.2.1 71 = .ok (.goto (-28), 3) := by decide +kernel
theorem d_M_most_74 : decode mi_M_most.2.1 74 = .ok (.aload_n 0, 1) := by decide +kernel
theorem d_M_most_75 : decode mi_M_most.2.1 75 = .ok (.invokevirtual 143, 3) := by decide +kernel
theorem d_M_most_78 : decode mi_M_most.2.1 78 = .ok (.ireturn, 1) := by decide +kernel
theorem d_M_throughput_0 : decode mi_M_throughput.2.1 0 = .ok (.aload_n 0, 1) := by decide +kernel
theorem d_M_throughput_1 : decode mi_M_throughput.2.1 1 = .ok (.invokevirtual 180, 3) := by decide +kernel
theorem d_M_throughput_4 : decode mi_M_throughput.2.1 4 = .ok (.ireturn, 1) := by decide +kernel
theorem d_M_lowerBound_0 : decode mi_M_lowerBound.2.1 0 = .ok (.aload_n 0, 1) := by decide +kernel
theorem d_M_lowerBound_1 : decode mi_M_lowerBound.2.1 1 = .ok (.invokevirtual 84, 3) := by decide +kernel
theorem d_M_lowerBound_4 : decode mi_M_lowerBound.2.1 4 = .ok (.istore_n 1, 1) := by decide +kernel
theorem d_M_lowerBound_5 : decode mi_M_lowerBound.2.1 5 = .ok (.aload_n 0, 1) := by decide +kernel
theorem d_M_lowerBound_6 : decode mi_M_lowerBound.2.1 6 = .ok (.invokevirtual 180, 3) := by decide +kernel
theorem d_M_lowerBound_9 : decode mi_M_lowerBound.2.1 9 = .ok (.istore_n 2, 1) := by decide +kernel
theorem d_M_lowerBound_10 : decode mi_M_lowerBound.2.1 10 = .ok (.iload_n 1, 1) := by decide +kernel
theorem d_M_lowerBound_11 : decode mi_M_lowerBound.2.1 11 = .ok (.ifCond .ne 7, 3) := by decide +kernel
theorem d_M_lowerBound_14 : decode mi_M_lowerBound.2.1 14 = .ok (.iconst 0, 1) := by decide +kernel
theorem d_M_lowerBound_15 : decode mi_M_lowerBound.2.1 15 = .ok (.goto 19, 3) := by decide +kernel
theorem d_M_lowerBound_18 : decode mi_M_lowerBound.2.1 18 = .ok (.iload_n 2, 1) := by decide +kernel
theorem d_M_lowerBound_19 : decode mi_M_lowerBound.2.1 19 = .ok (.ifCond .ne 8, 3) := by decide +kernel
theorem d_M_lowerBound_22 : decode mi_M_lowerBound.2.1 22 = .ok (.bipush (-9), 2) := by decide +kernel
theorem d_M_lowerBound_24 : decode mi_M_lowerBound.2.1 24 = .ok (.goto 10, 3) := by decide +kernel
theorem d_M_lowerBound_27 : decode mi_M_lowerBound.2.1 27 = .ok (.iload_n 1, 1) := by decide +kernel
theorem d_M_lowerBound_28 : decode mi_M_lowerBound.2.1 28 = .ok (.iload_n 2, 1) := by decide +kernel
theorem d_M_lowerBound_29 : decode mi_M_lowerBound.2.1 29 = .ok (.iadd, 1) := by decide +kernel
theorem d_M_lowerBound_30 : decode mi_M_lowerBound.2.1 30 = .ok (.iconst 1, 1) := by decide +kernel
theorem d_M_lowerBound_31 : decode mi_M_lowerBound.2.1 31 = .ok (.isub, 1) := by decide +kernel
theorem d_M_lowerBound_32 : decode mi_M_lowerBound.2.1 32 = .ok (.iload_n 2, 1) := by decide +kernel
theorem d_M_lowerBound_33 : decode mi_M_lowerBound.2.1 33 = .ok (.idiv, 1) := by decide +kernel
theorem d_M_lowerBound_34 : decode mi_M_lowerBound.2.1 34 = .ok (.ireturn, 1) := by decide +kernel
