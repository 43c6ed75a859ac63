theorem dX12_init_0 : decode cX12_init 0 = .ok (.aload_n 0, 1) := by decide +kernel
theorem dX12_init_1 : decode cX12_init 1 = .ok (.invokespecial 1, 3) := by decide +kernel
theorem dX12_init_4 : decode cX12_init 4 = .ok (.aload_n 0, 1) := by decide +kernel
theorem dX12_init_5 : decode cX12_init 5 = .ok (.sipush 128, 3) := by decide +kernel
theorem dX12_init_8 : decode cX12_init 8 = .ok (.newarray .int, 2) := by decide +kernel
theorem dX12_init_10 : decode cX12_init 10 = .ok (.putfield 7, 3) := by decide +kernel
theorem dX12_init_13 : decode cX12_init 13 = .ok (.aload_n 0, 1) := by decide +kernel
theorem dX12_init_14 : decode cX12_init 14 = .ok (.bipush 40, 2) := by decide +kernel
theorem dX12_init_16 : decode cX12_init 16 = .ok (.newarray .int, 2) := by decide +kernel
theorem dX12_init_18 : decode cX12_init 18 = .ok (.putfield 13, 3) := by decide +kernel
theorem dX12_init_21 : decode cX12_init 21 = .ok (.aload_n 0, 1) := by decide +kernel
theorem dX12_init_22 : decode cX12_init 22 = .ok (.bipush 40, 2) := by decide +kernel
theorem dX12_init_24 : decode cX12_init 24 = .ok (.newarray .int, 2) := by decide +kernel
theorem dX12_init_26 : decode cX12_init 26 = .ok (.putfield 16, 3) := by decide +kernel
theorem dX12_init_29 : decode cX12_init 29 = .ok (.aload_n 0, 1) := by decide +kernel
theorem dX12_init_30 : decode cX12_init 30 = .ok (.bipush 40, 2) := by decide +kernel
theorem dX12_init_32 : decode cX12_init 32 = .ok (.newarray .int, 2) := by decide +kernel
theorem dX12_init_34 : decode cX12_init 34 = .ok (.putfield 19, 3) := by decide +kernel
theorem dX12_init_37 : decode cX12_init 37 = .ok (.aload_n 0, 1) := by decide +kernel
theorem dX12_init_38 : decode cX12_init 38 = .ok (.sipush 128, 3) := by decide +kernel
theorem dX12_init_41 : decode cX12_init 41 = .ok (.newarray .int, 2) := by decide +kernel
theorem dX12_init_43 : decode cX12_init 43 = .ok (.putfield 22, 3) := by decide +kernel
theorem dX12_init_46 : decode cX12_init 46 = .ok (.aload_n 0, 1) := by decide +kernel
theorem dX12_init_47 : decode cX12_init 47 = .ok (.bipush 50, 2) := by decide +kernel
theorem dX12_init_49 : decode cX12_init 49 = .ok (.newarray .int, 2) := by decide +kernel
theorem dX12_init_51 : decode cX12_init 51 = .ok (.putfield 25, 3) := by decide +kernel
theorem dX12_init_54 : decode cX12_init 54 = .ok (.aload_n 0, 1) := by decide +kernel
theorem dX12_init_55 : decode cX12_init 55 = .ok (.iconst 2, 1) := by decide +kernel
theorem dX12_init_56 : decode cX12_init 56 = .ok (.newarray .int, 2) := by decide +kernel
theorem dX12_init_58 : decode cX12_init 58 = .ok (.putfield 28, 3) := by decide +kernel
theorem dX12_init_61 : decode cX12_init 61 = .ok (.aload_n 0, 1) := by decide +kernel
theorem dX12_init_62 : decode cX12_init 62 = .ok (.bipush 16, 2) := by decide +kernel
theorem dX12_init_64 : decode cX12_init 64 = .ok (.newarray .int, 2) := by decide +kernel
theorem dX12_init_66 : decode cX12_init 66 = .ok (.putfield 31, 3) := by decide +kernel
theorem dX12_init_69 : decode cX12_init 69 = .ok (.aload_n 0, 1) := by decide +kernel
theorem dX12_init_70 : decode cX12_init 70 = .ok (.bipush 16, 2) := by decide +kernel
theorem dX12_init_72 : decode cX12_init 72 = .ok (.newarray .int, 2) := by decide +kernel
theorem dX12_init_74 : decode cX12_init 74 = .ok (.putfield 34, 3) := by decide +kernel
theorem dX12_init_77 : decode cX12_init 77 = .ok (.aload_n 0, 1) := by decide +kernel
theorem dX12_init_78 : decode cX12_init 78 = .ok (.bipush 16, 2) := by decide +kernel
theorem dX12_init_80 : decode cX12_init 80 = .ok (.newarray .int, 2) := by decide +kernel
theorem dX12_init_82 : decode cX12_init 82 = .ok (.putfield 37, 3) := by decide +kernel
theorem dX12_init_85 : decode cX12_init 85 = .ok (.aload_n 0, 1) := by decide +kernel
theorem dX12_init_86 : decode cX12_init 86 = .ok (.sipush 800, 3) := by decide +kernel
theorem dX12_init_89 : decode cX12_init 89 = .ok (.newarray .int, 2) := by decide +kernel
theorem dX12_init_91 : decode cX12_init 91 = .ok (.putfield 40, 3) := by decide +kernel
theorem dX12_init_94 : decode cX12_init 94 = .ok (.aload_n 0, 1) := by decide +kernel
theorem dX12_init_95 : decode cX12_init 95 = .ok (.sipush 800, 3) := by decide +kernel
theorem dX12_init_98 : decode cX12_init 98 = .ok (.newarray .int, 2) := by decide +kernel
theorem dX12_init_100 : decode cX12_init 100 = .ok (.putfield 43, 3) := by decide +kernel
theorem dX12_init_103 : decode cX12_init 103 = .ok (.aload_n 0, 1) := by decide +kernel
theorem dX12_init_104 : decode cX12_init 104 = .ok (.bipush 50, 2) := by decide +kernel
theorem dX12_init_106 : decode cX12_init 106 = .ok (.newarray .int, 2) := by decide +kernel
theorem dX12_init_108 : decode cX12_init 108 = .ok (.putfield 46, 3) := by decide +kernel
theorem dX12_init_111 : decode cX12_init 111 = .ok (.aload_n 0, 1) := by decide +kernel
theorem dX12_init_112 : decode cX12_init 112 = .ok (.bipush 50, 2) := by decide +kernel
theorem dX12_init_114 : decode cX12_init 114 = .ok (.newarray .int, 2) := by decide +kernel
theorem dX12_init_116 : decode cX12_init 116 = .ok (.putfield 49, 3) := by decide +kernel
theorem dX12_init_119 : decode cX12_init 119 = .ok (.aload_n 0, 1) := by decide +kernel
theorem dX12_init_120 : decode cX12_init 120 = .ok (.bipush 50, 2) := by decide +kernel
theorem dX12_init_122 : decode cX12_init 122 = .ok (.newarray .int, 2) := by decide +kernel
theorem dX12_init_124 : decode cX12_init 124 = .ok (.putfield 52, 3) := by decide +kernel
theorem dX12_init_127 : decode cX12_init 127 = .ok (.aload_n 0, 1) := by decide +kernel
theorem dX12_init_128 : decode cX12_init 128 = .ok (.bipush 51, 2) := by decide +kernel
theorem dX12_init_130 : decode cX12_init 130 = .ok (.newarray .boolean, 2) := by decide +kernel
theorem dX12_init_132 : decode cX12_init 132 = .ok (.putfield 55, 3) := by decide +kernel
theorem dX12_init_135 : decode cX12_init 135 = .ok (.aload_n 0, 1) := by decide +kernel
theorem dX12_init_136 : decode cX12_init 136 = .ok (.bipush 8, 2) := by decide +kernel
theorem dX12_init_138 : decode cX12_init 138 = .ok (.newarray .int, 2) := by decide +kernel
theorem dX12_init_140 : decode cX12_init 140 = .ok (.putfield 59, 3) := by decide +kernel
theorem dX12_init_143 : decode cX12_init 143 = .ok (.aload_n 0, 1) := by decide +kernel
theorem dX12_init_144 : decode cX12_init 144 = .ok (.bipush 8, 2) := by decide +kernel
theorem dX12_init_146 : decode cX12_init 146 = .ok (.newarray .int, 2) := by decide +kernel
theorem dX12_init_148 : decode cX12_init 148 = .ok (.putfield 62, 3) := by decide +kernel
theorem dX12_init_151 : decode cX12_init 151 = .ok (.aload_n 0, 1) := by decide +kernel
theorem dX12_init_152 : decode cX12_init 152 = .ok (.bipush 36, 2) := by decide +kernel
theorem dX12_init_154 : decode cX12_init 154 = .ok (.newarray .int, 2) := by decide +kernel
theorem dX12_init_156 : decode cX12_init 156 = .ok (.putfield 65, 3) := by decide +kernel
theorem dX12_init_159 : decode cX12_init 159 = .ok (.aload_n 0, 1) := by decide +kernel
theorem dX12_init_160 : decode cX12_init 160 = .ok (.bipush 12, 2) := by decide +kernel
theorem dX12_init_162 : decode cX12_init 162 = .ok (.newarray .int, 2) := by decide +kernel
theorem dX12_init_164 : decode cX12_init 164 = .ok (.putfield 68, 3) := by decide +kernel
theorem dX12_init_167 : decode cX12_init 167 = .ok (.aload_n 0, 1) := by decide +kernel
theorem dX12_init_168 : decode cX12_init 168 = .ok (.bipush 12, 2) := by decide +kernel
theorem dX12_init_170 : decode cX12_init 170 = .ok (.newarray .int, 2) := by decide +kernel
theorem dX12_init_172 : decode cX12_init 172 = .ok (.putfield 71, 3) := by decide +kernel
theorem dX12_init_175 : decode cX12_init 175 = .ok (.aload_n 0, 1) := by decide +kernel
theorem dX12_init_176 : decode cX12_init 176 = .ok (.bipush 12, 2) := by decide +kernel
theorem dX12_init_178 : decode cX12_init 178 = .ok (.newarray .int, 2) := by decide +kernel
theorem dX12_init_180 : decode cX12_init 180 = .ok (.putfield 74, 3) := by decide +kernel
theorem dX12_init_183 : decode cX12_init 183 = .ok (.aload_n 0, 1) := by decide +kernel
theorem dX12_init_184 : decode cX12_init 184 = .ok (.bipush 12, 2) := by decide +kernel
theorem dX12_init_186 : decode cX12_init 186 = .ok (.newarray .boolean, 2) := by decide +kernel
theorem dX12_init_188 : decode cX12_init 188 = .ok (.putfield 77, 3) := by decide +kernel
theorem dX12_init_191 : decode cX12_init 191 = .ok (.aload_n 0, 1) := by decide +kernel
theorem dX12_init_192 : decode cX12_init 192 = .ok (.bipush 12, 2) := by decide +kernel
theorem dX12_init_194 : decode cX12_init 194 = .ok (.newarray .int, 2) := by decide +kernel
theorem dX12_init_196 : decode cX12_init 196 = .ok (.putfield 80, 3) := by decide +kernel
theorem dX12_init_199 : decode cX12_init 199 = .ok (.aload_n 0, 1) := by decide +kernel
theorem dX12_init_200 : decode cX12_init 200 = .ok (.sipush 160, 3) := by decide +kernel
theorem dX12_init_203 : decode cX12_init 203 = .ok (.newarray .int, 2) := by decide +kernel
theorem dX12_init_205 : decode cX12_init 205 = .ok (.putfield 83, 3) := by decide +kernel
theorem dX12_init_208 : decode cX12_init 208 = .ok (.iconst 0, 1) := by decide +kernel
theorem dX12_init_209 : decode cX12_init 209 = .ok (.istore_n 1, 1) := by decide +kernel
theorem dX12_init_210 : decode cX12_init 210 = .ok (.iload_n 1, 1) := by decide +kernel
theorem dX12_init_211 : decode cX12_init 211 = .ok (.sipush 128, 3) := by decide +kernel
theorem dX12_init_214 : decode cX12_init 214 = .ok (.if_icmp .ge 16, 3) := by decide +kernel
theorem dX12_init_217 : decode cX12_init 217 = .ok (.aload_n 0, 1) := by decide +kernel
theorem dX12_init_218 : decode cX12_init 218 = .ok (.getfield 7, 3) := by decide +kernel
theorem dX12_init_221 : decode cX12_init 221 = .ok (.iload_n 1, 1) := by decide +kernel
theorem dX12_init_222 : decode cX12_init 222 = .ok (.iconst (-1), 1) := by decide +kernel
theorem dX12_init_223 : decode cX12_init 223 = .ok (.iastore, 1) := by decide +kernel
theorem dX12_init_224 : decode cX12_init 224 = .ok (.iinc 1 1, 3) := by decide +kernel
theorem dX12_init_227 : decode cX12_init 227 = .ok (.goto (-17), 3) := by decide +kernel
theorem dX12_init_230 : decode cX12_init 230 = .ok (.aload_n 0, 1) := by decide +kernel
theorem dX12_init_231 : decode cX12_init 231 = .ok (.iconst 2, 1) := by decide +kernel
theorem dX12_init_232 : decode cX12_init 232 = .ok (.putfield 86, 3) := by decide +kernel
theorem dX12_init_235 : decode cX12_init 235 = .ok (.return_, 1) := by decide +kernel
theorem dX12_in_0 : decode cX12_in 0 = .ok (.lload_n 0, 1) := by decide +kernel
theorem dX12_in_1 : decode cX12_in 1 = .ok (.lload_n 2, 1) := by decide +kernel
theorem dX12_in_2 : decode cX12_in 2 = .ok (.lcmp, 1) := by decide +kernel
theorem dX12_in_3 : decode cX12_in 3 = .ok (.ifCond .lt 14, 3) := by decide +kernel
theorem dX12_in_6 : decode cX12_in 6 = .ok (.lload_n 0, 1) := by decide +kernel
theorem dX12_in_7 : decode cX12_in 7 = .ok (.lload 4, 2) := by decide +kernel
theorem dX12_in_9 : decode cX12_in 9 = .ok (.lcmp, 1) := by decide +kernel
theorem dX12_in_10 : decode cX12_in 10 = .ok (.ifCond .gt 7, 3) := by decide +kernel
theorem dX12_in_13 : decode cX12_in 13 = .ok (.iconst 1, 1) := by decide +kernel
theorem dX12_in_14 : decode cX12_in 14 = .ok (.goto 4, 3) := by decide +kernel
theorem dX12_in_17 : decode cX12_in 17 = .ok (.iconst 0, 1) := by decide +kernel
theorem dX12_in_18 : decode cX12_in 18 = .ok (.ireturn, 1) := by decide +kernel
theorem dX12_off_0 : decode cX12_off 0 = .ok (.iload_n 0, 1) := by decide +kernel
theorem dX12_off_1 : decode cX12_off 1 = .ok (.iload_n 1, 1) := by decide +kernel
theorem dX12_off_2 : decode cX12_off 2 = .ok (.if_icmp .ge 9, 3) := by decide +kernel
theorem dX12_off_5 : decode cX12_off 5 = .ok (.iload_n 1, 1) := by decide +kernel
theorem dX12_off_6 : decode cX12_off 6 = .ok (.iload_n 0, 1) := by decide +kernel
theorem dX12_off_7 : decode cX12_off 7 = .ok (.isub, 1) := by decide +kernel
theorem dX12_off_8 : decode cX12_off 8 = .ok (.goto 6, 3) := by decide +kernel
theorem dX12_off_11 : decode cX12_off 11 = .ok (.iload_n 0, 1) := by decide +kernel
theorem dX12_off_12 : decode cX12_off 12 = .ok (.iload_n 1, 1) := by decide +kernel
theorem dX12_off_13 : decode cX12_off 13 = .ok (.isub, 1) := by decide +kernel
theorem dX12_off_14 : decode cX12_off 14 = .ok (.ireturn, 1) := by decide +kernel
theorem dX12_bitsOf_0 : decode cX12_bitsOf 0 = .ok (.iconst 0, 1) := by decide +kernel
theorem dX12_bitsOf_1 : decode cX12_bitsOf 1 = .ok (.istore_n 1, 1) := by decide +kernel
theorem dX12_bitsOf_2 : decode cX12_bitsOf 2 = .ok (.iconst 0, 1) := by decide +kernel
theorem dX12_bitsOf_3 : decode cX12_bitsOf 3 = .ok (.istore_n 2, 1) := by decide +kernel
theorem dX12_bitsOf_4 : decode cX12_bitsOf 4 = .ok (.iload_n 2, 1) := by decide +kernel
theorem dX12_bitsOf_5 : decode cX12_bitsOf 5 = .ok (.bipush 6, 2) := by decide +kernel
theorem dX12_bitsOf_7 : decode cX12_bitsOf 7 = .ok (.if_icmp .ge 17, 3) := by decide +kernel
theorem dX12_bitsOf_10 : decode cX12_bitsOf 10 = .ok (.iload_n 1, 1) := by decide +kernel
theorem dX12_bitsOf_11 : decode cX12_bitsOf 11 = .ok (.iload_n 0, 1) := by decide +kernel
theorem dX12_bitsOf_12 : decode cX12_bitsOf 12 = .ok (.iload_n 2, 1) := by decide +kernel
theorem dX12_bitsOf_13 : decode cX12_bitsOf 13 = .ok (.ishr, 1) := by decide +kernel
theorem dX12_bitsOf_14 : decode cX12_bitsOf 14 = .ok (.iconst 1, 1) := by decide +kernel
theorem dX12_bitsOf_15 : decode cX12_bitsOf 15 = .ok (.iand, 1) := by decide +kernel
theorem dX12_bitsOf_16 : decode cX12_bitsOf 16 = .ok (.iadd, 1) := by decide +kernel
theorem dX12_bitsOf_17 : decode cX12_bitsOf 17 = .ok (.istore_n 1, 1) := by decide +kernel
theorem dX12_bitsOf_18 : decode cX12_bitsOf 18 = .ok (.iinc 2 1, 3) := by decide +kernel
theorem dX12_bitsOf_21 : decode cX12_bitsOf 21 = .ok (.goto (-17), 3) := by decide +kernel
theorem dX12_bitsOf_24 : decode cX12_bitsOf 24 = .ok (.iload_n 1, 1) := by decide +kernel
theorem dX12_bitsOf_25 : decode cX12_bitsOf 25 = .ok (.ireturn, 1) := by decide +kernel
theorem dX12_isLand_0 : decode cX12_isLand 0 = .ok (.iload_n 0, 1) := by decide +kernel
theorem dX12_isLand_1 : decode cX12_isLand 1 = .ok (.i2l, 1) := by decide +kernel
theorem dX12_isLand_2 : decode cX12_isLand 2 = .ok (.lconst 0, 1) := by decide +kernel
theorem dX12_isLand_3 : decode cX12_isLand 3 = .ok (.ldc2_w 90, 3) := by decide +kernel
theorem dX12_isLand_6 : decode cX12_isLand 6 = .ok (.invokestatic 92, 3) := by decide +kernel
theorem dX12_isLand_9 : decode cX12_isLand 9 = .ok (.ireturn, 1) := by decide +kernel
theorem dX12_isCell_0 : decode cX12_isCell 0 = .ok (.iload_n 0, 1) := by decide +kernel
theorem dX12_isCell_1 : decode cX12_isCell 1 = .ok (.i2l, 1) := by decide +kernel
theorem dX12_isCell_2 : decode cX12_isCell 2 = .ok (.lconst 0, 1) := by decide +kernel
theorem dX12_isCell_3 : decode cX12_isCell 3 = .ok (.ldc2_w 96, 3) := by decide +kernel
theorem dX12_isCell_6 : decode cX12_isCell 6 = .ok (.invokestatic 92, 3) := by decide +kernel
theorem dX12_isCell_9 : decode cX12_isCell 9 = .ok (.ireturn, 1) := by decide +kernel
theorem dX12_marksOn_0 : decode cX12_marksOn 0 = .ok (.iconst 0, 1) := by decide +kernel
theorem dX12_marksOn_1 : decode cX12_marksOn 1 = .ok (.istore_n 2, 1) := by decide +kernel
theorem dX12_marksOn_2 : decode cX12_marksOn 2 = .ok (.iconst 0, 1) := by decide +kernel
theorem dX12_marksOn_3 : decode cX12_marksOn 3 = .ok (.istore_n 3, 1) := by decide +kernel
theorem dX12_marksOn_4 : decode cX12_marksOn 4 = .ok (.iload_n 3, 1) := by decide +kernel
theorem dX12_marksOn_5 : decode cX12_marksOn 5 = .ok (.aload_n 0, 1) := by decide +kernel
theorem dX12_marksOn_6 : decode cX12_marksOn 6 = .ok (.getfield 98, 3) := by decide +kernel
theorem dX12_marksOn_9 : decode cX12_marksOn 9 = .ok (.if_icmp .ge 27, 3) := by decide +kernel
theorem dX12_marksOn_12 : decode cX12_marksOn 12 = .ok (.iload_n 2, 1) := by decide +kernel
theorem dX12_marksOn_13 : decode cX12_marksOn 13 = .ok (.aload_n 0, 1) := by decide +kernel
theorem dX12_marksOn_14 : decode cX12_marksOn 14 = .ok (.getfield 16, 3) := by decide +kernel
theorem dX12_marksOn_17 : decode cX12_marksOn 17 = .ok (.iload_n 3, 1) := by decide +kernel
theorem dX12_marksOn_18 : decode cX12_marksOn 18 = .ok (.iaload, 1) := by decide +kernel
theorem dX12_marksOn_19 : decode cX12_marksOn 19 = .ok (.iload_n 1, 1) := by decide +kernel
theorem dX12_marksOn_20 : decode cX12_marksOn 20 = .ok (.if_icmp .ne 7, 3) := by decide +kernel
theorem dX12_marksOn_23 : decode cX12_marksOn 23 = .ok (.iconst 1, 1) := by decide +kernel
theorem dX12_marksOn_24 : decode cX12_marksOn 24 = .ok (.goto 4, 3) := by decide +kernel
theorem dX12_marksOn_27 : decode cX12_marksOn 27 = .ok (.iconst 0, 1) := by decide +kernel
theorem dX12_marksOn_28 : decode cX12_marksOn 28 = .ok (.iadd, 1) := by decide +kernel
theorem dX12_marksOn_29 : decode cX12_marksOn 29 = .ok (.istore_n 2, 1) := by decide +kernel
theorem dX12_marksOn_30 : decode cX12_marksOn 30 = .ok (.iinc 3 1, 3) := by decide +kernel
theorem dX12_marksOn_33 : decode cX12_marksOn 33 = .ok (.goto (-29), 3) := by decide +kernel
theorem dX12_marksOn_36 : decode cX12_marksOn 36 = .ok (.iload_n 2, 1) := by decide +kernel
theorem dX12_marksOn_37 : decode cX12_marksOn 37 = .ok (.ireturn, 1) := by decide +kernel
theorem dX12_cell_0 : decode cX12_cell 0 = .ok (.iload_n 1, 1) := by decide +kernel
theorem dX12_cell_1 : decode cX12_cell 1 = .ok (.iconst (-1), 1) := by decide +kernel
theorem dX12_cell_2 : decode cX12_cell 2 = .ok (.if_icmp .eq 10, 3) := by decide +kernel
theorem dX12_cell_5 : decode cX12_cell 5 = .ok (.iload_n 1, 1) := by decide +kernel
theorem dX12_cell_6 : decode cX12_cell 6 = .ok (.invokestatic 101, 3) := by decide +kernel
theorem dX12_cell_9 : decode cX12_cell 9 = .ok (.ifCond .eq 10, 3) := by decide +kernel
theorem dX12_cell_12 : decode cX12_cell 12 = .ok (.iload_n 2, 1) := by decide +kernel
theorem dX12_cell_13 : decode cX12_cell 13 = .ok (.invokestatic 105, 3) := by decide +kernel
theorem dX12_cell_16 : decode cX12_cell 16 = .ok (.ifCond .ne 6, 3) := by decide +kernel
theorem dX12_cell_19 : decode cX12_cell 19 = .ok (.bipush (-101), 2) := by decide +kernel
theorem dX12_cell_21 : decode cX12_cell 21 = .ok (.ireturn, 1) := by decide +kernel
theorem dX12_cell_22 : decode cX12_cell 22 = .ok (.aload_n 0, 1) := by decide +kernel
theorem dX12_cell_23 : decode cX12_cell 23 = .ok (.iload_n 2, 1) := by decide +kernel
theorem dX12_cell_24 : decode cX12_cell 24 = .ok (.invokevirtual 108, 3) := by decide +kernel
theorem dX12_cell_27 : decode cX12_cell 27 = .ok (.ifCond .le 6, 3) := by decide +kernel
theorem dX12_cell_30 : decode cX12_cell 30 = .ok (.bipush (-103), 2) := by decide +kernel
theorem dX12_cell_32 : decode cX12_cell 32 = .ok (.ireturn, 1) := by decide +kernel
theorem dX12_cell_33 : decode cX12_cell 33 = .ok (.aload_n 0, 1) := by decide +kernel
theorem dX12_cell_34 : decode cX12_cell 34 = .ok (.getfield 7, 3) := by decide +kernel
theorem dX12_cell_37 : decode cX12_cell 37 = .ok (.iload_n 2, 1) := by decide +kernel
theorem dX12_cell_38 : decode cX12_cell 38 = .ok (.iaload, 1) := by decide +kernel
theorem dX12_cell_39 : decode cX12_cell 39 = .ok (.istore_n 3, 1) := by decide +kernel
theorem dX12_cell_40 : decode cX12_cell 40 = .ok (.aload_n 0, 1) := by decide +kernel
theorem dX12_cell_41 : decode cX12_cell 41 = .ok (.getfield 7, 3) := by decide +kernel
theorem dX12_cell_44 : decode cX12_cell 44 = .ok (.iload_n 2, 1) := by decide +kernel
theorem dX12_cell_45 : decode cX12_cell 45 = .ok (.iload_n 1, 1) := by decide +kernel
theorem dX12_cell_46 : decode cX12_cell 46 = .ok (.iastore, 1) := by decide +kernel
theorem dX12_cell_47 : decode cX12_cell 47 = .ok (.iload_n 3, 1) := by decide +kernel
theorem dX12_cell_48 : decode cX12_cell 48 = .ok (.ireturn, 1) := by decide +kernel
theorem dX12_run_0 : decode cX12_run 0 = .ok (.iload_n 1, 1) := by decide +kernel
theorem dX12_run_1 : decode cX12_run 1 = .ok (.invokestatic 101, 3) := by decide +kernel
theorem dX12_run_4 : decode cX12_run 4 = .ok (.ifCond .eq 27, 3) := by decide +kernel
theorem dX12_run_7 : decode cX12_run 7 = .ok (.iload_n 2, 1) := by decide +kernel
theorem dX12_run_8 : decode cX12_run 8 = .ok (.i2l, 1) := by decide +kernel
theorem dX12_run_9 : decode cX12_run 9 = .ok (.lconst 0, 1) := by decide +kernel
theorem dX12_run_10 : decode cX12_run 10 = .ok (.ldc2_w 112, 3) := by decide +kernel
theorem dX12_run_13 : decode cX12_run 13 = .ok (.invokestatic 92, 3) := by decide +kernel
theorem dX12_run_16 : decode cX12_run 16 = .ok (.ifCond .eq 15, 3) := by decide +kernel
theorem dX12_run_19 : decode cX12_run 19 = .ok (.iload_n 3, 1) := by decide +kernel
theorem dX12_run_20 : decode cX12_run 20 = .ok (.i2l, 1) := by decide +kernel
theorem dX12_run_21 : decode cX12_run 21 = .ok (.lconst 0, 1) := by decide +kernel
theorem dX12_run_22 : decode cX12_run 22 = .ok (.ldc2_w 114, 3) := by decide +kernel
theorem dX12_run_25 : decode cX12_run 25 = .ok (.invokestatic 92, 3) := by decide +kernel
theorem dX12_run_28 : decode cX12_run 28 = .ok (.ifCond .ne 6, 3) := by decide +kernel
theorem dX12_run_31 : decode cX12_run 31 = .ok (.bipush (-101), 2) := by decide +kernel
theorem dX12_run_33 : decode cX12_run 33 = .ok (.ireturn, 1) := by decide +kernel
theorem dX12_run_34 : decode cX12_run 34 = .ok (.iload 4, 2) := by decide +kernel
theorem dX12_run_36 : decode cX12_run 36 = .ok (.i2l, 1) := by decide +kernel
theorem dX12_run_37 : decode cX12_run 37 = .ok (.lconst 1, 1) := by decide +kernel
theorem dX12_run_38 : decode cX12_run 38 = .ok (.ldc2_w 116, 3) := by decide +kernel
theorem dX12_run_41 : decode cX12_run 41 = .ok (.invokestatic 92, 3) := by decide +kernel
theorem dX12_run_44 : decode cX12_run 44 = .ok (.ifCond .ne 6, 3) := by decide +kernel
theorem dX12_run_47 : decode cX12_run 47 = .ok (.bipush (-102), 2) := by decide +kernel
theorem dX12_run_49 : decode cX12_run 49 = .ok (.ireturn, 1) := by decide +kernel
theorem dX12_run_50 : decode cX12_run 50 = .ok (.iconst 0, 1) := by decide +kernel
theorem dX12_run_51 : decode cX12_run 51 = .ok (.istore 5, 2) := by decide +kernel
theorem dX12_run_53 : decode cX12_run 53 = .ok (.iconst 0, 1) := by decide +kernel
theorem dX12_run_54 : decode cX12_run 54 = .ok (.istore 6, 2) := by decide +kernel
theorem dX12_run_56 : decode cX12_run 56 = .ok (.iload 6, 2) := by decide +kernel
theorem dX12_run_58 : decode cX12_run 58 = .ok (.iload 4, 2) := by decide +kernel
theorem dX12_run_60 : decode cX12_run 60 = .ok (.if_icmp .ge 73, 3) := by decide +kernel
theorem dX12_run_63 : decode cX12_run 63 = .ok (.bipush 16, 2) := by decide +kernel
theorem dX12_run_65 : decode cX12_run 65 = .ok (.iload_n 2, 1) := by decide +kernel
theorem dX12_run_66 : decode cX12_run 66 = .ok (.imul, 1) := by decide +kernel
theorem dX12_run_67 : decode cX12_run 67 = .ok (.iload_n 3, 1) := by decide +kernel
theorem dX12_run_68 : decode cX12_run 68 = .ok (.iload 6, 2) := by decide +kernel
theorem dX12_run_70 : decode cX12_run 70 = .ok (.iadd, 1) := by decide +kernel
theorem dX12_run_71 : decode cX12_run 71 = .ok (.bipush 16, 2) := by decide +kernel
theorem dX12_run_73 : decode cX12_run 73 = .ok (.irem, 1) := by decide +kernel
theorem dX12_run_74 : decode cX12_run 74 = .ok (.iadd, 1) := by decide +kernel
theorem dX12_run_75 : decode cX12_run 75 = .ok (.istore 7, 2) := by decide +kernel
theorem dX12_run_77 : decode cX12_run 77 = .ok (.iload 5, 2) := by decide +kernel
theorem dX12_run_79 : decode cX12_run 79 = .ok (.aload_n 0, 1) := by decide +kernel
theorem dX12_run_80 : decode cX12_run 80 = .ok (.getfield 7, 3) := by decide +kernel
theorem dX12_run_83 : decode cX12_run 83 = .ok (.iload 7, 2) := by decide +kernel
theorem dX12_run_85 : decode cX12_run 85 = .ok (.iaload, 1) := by decide +kernel
theorem dX12_run_86 : decode cX12_run 86 = .ok (.iconst (-1), 1) := by decide +kernel
theorem dX12_run_87 : decode cX12_run 87 = .ok (.if_icmp .ne 7, 3) := by decide +kernel
theorem dX12_run_90 : decode cX12_run 90 = .ok (.iconst 1, 1) := by decide +kernel
theorem dX12_run_91 : decode cX12_run 91 = .ok (.goto 4, 3) := by decide +kernel
theorem dX12_run_94 : decode cX12_run 94 = .ok (.iconst 0, 1) := by decide +kernel
theorem dX12_run_95 : decode cX12_run 95 = .ok (.iadd, 1) := by decide +kernel
theorem dX12_run_96 : decode cX12_run 96 = .ok (.istore 5, 2) := by decide +kernel
theorem dX12_run_98 : decode cX12_run 98 = .ok (.aload_n 0, 1) := by decide +kernel
theorem dX12_run_99 : decode cX12_run 99 = .ok (.getfield 7, 3) := by decide +kernel
theorem dX12_run_102 : decode cX12_run 102 = .ok (.iload 7, 2) := by decide +kernel
theorem dX12_run_104 : decode cX12_run 104 = .ok (.aload_n 0, 1) := by decide +kernel
theorem dX12_run_105 : decode cX12_run 105 = .ok (.getfield 7, 3) := by decide +kernel
theorem dX12_run_108 : decode cX12_run 108 = .ok (.iload 7, 2) := by decide +kernel
theorem dX12_run_110 : decode cX12_run 110 = .ok (.iaload, 1) := by decide +kernel
theorem dX12_run_111 : decode cX12_run 111 = .ok (.iconst (-1), 1) := by decide +kernel
theorem dX12_run_112 : decode cX12_run 112 = .ok (.if_icmp .ne 7, 3) := by decide +kernel
theorem dX12_run_115 : decode cX12_run 115 = .ok (.iload_n 1, 1) := by decide +kernel
theorem dX12_run_116 : decode cX12_run 116 = .ok (.goto 10, 3) := by decide +kernel
theorem dX12_run_119 : decode cX12_run 119 = .ok (.aload_n 0, 1) := by decide +kernel
theorem dX12_run_120 : decode cX12_run 120 = .ok (.getfield 7, 3) := by decide +kernel
theorem dX12_run_123 : decode cX12_run 123 = .ok (.iload 7, 2) := by decide +kernel
theorem dX12_run_125 : decode cX12_run 125 = .ok (.iaload, 1) := by decide +kernel
theorem dX12_run_126 : decode cX12_run 126 = .ok (.iastore, 1) := by decide +kernel
theorem dX12_run_127 : decode cX12_run 127 = .ok (.iinc 6 1, 3) := by decide +kernel
theorem dX12_run_130 : decode cX12_run 130 = .ok (.goto (-74), 3) := by decide +kernel
theorem dX12_run_133 : decode cX12_run 133 = .ok (.iload 5, 2) := by decide +kernel
theorem dX12_run_135 : decode cX12_run 135 = .ok (.ireturn, 1) := by decide +kernel
theorem dX12_cellsOf_0 : decode cX12_cellsOf 0 = .ok (.iconst 0, 1) := by decide +kernel
theorem dX12_cellsOf_1 : decode cX12_cellsOf 1 = .ok (.istore_n 2, 1) := by decide +kernel
theorem dX12_cellsOf_2 : decode cX12_cellsOf 2 = .ok (.iconst 0, 1) := by decide +kernel
theorem dX12_cellsOf_3 : decode cX12_cellsOf 3 = .ok (.istore_n 3, 1) := by decide +kernel
theorem dX12_cellsOf_4 : decode cX12_cellsOf 4 = .ok (.iload_n 3, 1) := by decide +kernel
theorem dX12_cellsOf_5 : decode cX12_cellsOf 5 = .ok (.sipush 128, 3) := by decide +kernel
theorem dX12_cellsOf_8 : decode cX12_cellsOf 8 = .ok (.if_icmp .ge 27, 3) := by decide +kernel
theorem dX12_cellsOf_11 : decode cX12_cellsOf 11 = .ok (.iload_n 2, 1) := by decide +kernel
theorem dX12_cellsOf_12 : decode cX12_cellsOf 12 = .ok (.aload_n 0, 1) := by decide +kernel
theorem dX12_cellsOf_13 : decode cX12_cellsOf 13 = .ok (.getfield 7, 3) := by decide +kernel
theorem dX12_cellsOf_16 : decode cX12_cellsOf 16 = .ok (.iload_n 3, 1) := by decide +kernel
theorem dX12_cellsOf_17 : decode cX12_cellsOf 17 = .ok (.iaload, 1) := by decide +kernel
theorem dX12_cellsOf_18 : decode cX12_cellsOf 18 = .ok (.iload_n 1, 1) := by decide +kernel
theorem dX12_cellsOf_19 : decode cX12_cellsOf 19 = .ok (.if_icmp .ne 7, 3) := by decide +kernel
theorem dX12_cellsOf_22 : decode cX12_cellsOf 22 = .ok (.iconst 1, 1) := by decide +kernel
theorem dX12_cellsOf_23 : decode cX12_cellsOf 23 = .ok (.goto 4, 3) := by decide +kernel
theorem dX12_cellsOf_26 : decode cX12_cellsOf 26 = .ok (.iconst 0, 1) := by decide +kernel
theorem dX12_cellsOf_27 : decode cX12_cellsOf 27 = .ok (.iadd, 1) := by decide +kernel
theorem dX12_cellsOf_28 : decode cX12_cellsOf 28 = .ok (.istore_n 2, 1) := by decide +kernel
theorem dX12_cellsOf_29 : decode cX12_cellsOf 29 = .ok (.iinc 3 1, 3) := by decide +kernel
theorem dX12_cellsOf_32 : decode cX12_cellsOf 32 = .ok (.goto (-28), 3) := by decide +kernel
theorem dX12_cellsOf_35 : decode cX12_cellsOf 35 = .ok (.iload_n 2, 1) := by decide +kernel
theorem dX12_cellsOf_36 : decode cX12_cellsOf 36 = .ok (.ireturn, 1) := by decide +kernel
theorem dX12_leastCell_0 : decode cX12_leastCell 0 = .ok (.iconst 0, 1) := by decide +kernel
theorem dX12_leastCell_1 : decode cX12_leastCell 1 = .ok (.istore_n 2, 1) := by decide +kernel
theorem dX12_leastCell_2 : decode cX12_leastCell 2 = .ok (.iload_n 2, 1) := by decide +kernel
theorem dX12_leastCell_3 : decode cX12_leastCell 3 = .ok (.sipush 128, 3) := by decide +kernel
theorem dX12_leastCell_6 : decode cX12_leastCell 6 = .ok (.if_icmp .ge 21, 3) := by decide +kernel
theorem dX12_leastCell_9 : decode cX12_leastCell 9 = .ok (.aload_n 0, 1) := by decide +kernel
theorem dX12_leastCell_10 : decode cX12_leastCell 10 = .ok (.getfield 7, 3) := by decide +kernel
theorem dX12_leastCell_13 : decode cX12_leastCell 13 = .ok (.iload_n 2, 1) := by decide +kernel
theorem dX12_leastCell_14 : decode cX12_leastCell 14 = .ok (.iaload, 1) := by decide +kernel
theorem dX12_leastCell_15 : decode cX12_leastCell 15 = .ok (.iload_n 1, 1) := by decide +kernel
theorem dX12_leastCell_16 : decode cX12_leastCell 16 = .ok (.if_icmp .ne 5, 3) := by decide +kernel
theorem dX12_leastCell_19 : decode cX12_leastCell 19 = .ok (.iload_n 2, 1) := by decide +kernel
theorem dX12_leastCell_20 : decode cX12_leastCell 20 = .ok (.ireturn, 1) := by decide +kernel
theorem dX12_leastCell_21 : decode cX12_leastCell 21 = .ok (.iinc 2 1, 3) := by decide +kernel
theorem dX12_leastCell_24 : decode cX12_leastCell 24 = .ok (.goto (-22), 3) := by decide +kernel
theorem dX12_leastCell_27 : decode cX12_leastCell 27 = .ok (.iconst (-1), 1) := by decide +kernel
theorem dX12_leastCell_28 : decode cX12_leastCell 28 = .ok (.ireturn, 1) := by decide +kernel
theorem dX12_marksOf_0 : decode cX12_marksOf 0 = .ok (.iconst 0, 1) := by decide +kernel
theorem dX12_marksOf_1 : decode cX12_marksOf 1 = .ok (.istore_n 2, 1) := by decide +kernel
theorem dX12_marksOf_2 : decode cX12_marksOf 2 = .ok (.iconst 0, 1) := by decide +kernel
theorem dX12_marksOf_3 : decode cX12_marksOf 3 = .ok (.istore_n 3, 1) := by decide +kernel
theorem dX12_marksOf_4 : decode cX12_marksOf 4 = .ok (.iload_n 3, 1) := by decide +kernel
theorem dX12_marksOf_5 : decode cX12_marksOf 5 = .ok (.aload_n 0, 1) := by decide +kernel
theorem dX12_marksOf_6 : decode cX12_marksOf 6 = .ok (.getfield 98, 3) := by decide +kernel
theorem dX12_marksOf_9 : decode cX12_marksOf 9 = .ok (.if_icmp .ge 32, 3) := by decide +kernel
theorem dX12_marksOf_12 : decode cX12_marksOf 12 = .ok (.iload_n 2, 1) := by decide +kernel
theorem dX12_marksOf_13 : decode cX12_marksOf 13 = .ok (.aload_n 0, 1) := by decide +kernel
theorem dX12_marksOf_14 : decode cX12_marksOf 14 = .ok (.getfield 7, 3) := by decide +kernel
theorem dX12_marksOf_17 : decode cX12_marksOf 17 = .ok (.aload_n 0, 1) := by decide +kernel
theorem dX12_marksOf_18 : decode cX12_marksOf 18 = .ok (.getfield 16, 3) := by decide +kernel
theorem dX12_marksOf_21 : decode cX12_marksOf 21 = .ok (.iload_n 3, 1) := by decide +kernel
theorem dX12_marksOf_22 : decode cX12_marksOf 22 = .ok (.iaload, 1) := by decide +kernel
theorem dX12_marksOf_23 : decode cX12_marksOf 23 = .ok (.iaload, 1) := by decide +kernel
theorem dX12_marksOf_24 : decode cX12_marksOf 24 = .ok (.iload_n 1, 1) := by decide +kernel
theorem dX12_marksOf_25 : decode cX12_marksOf 25 = .ok (.if_icmp .ne 7, 3) := by decide +kernel
theorem dX12_marksOf_28 : decode cX12_marksOf 28 = .ok (.iconst 1, 1) := by decide +kernel
theorem dX12_marksOf_29 : decode cX12_marksOf 29 = .ok (.goto 4, 3) := by decide +kernel
theorem dX12_marksOf_32 : decode cX12_marksOf 32 = .ok (.iconst 0, 1) := by decide +kernel
theorem dX12_marksOf_33 : decode cX12_marksOf 33 = .ok (.iadd, 1) := by decide +kernel
theorem dX12_marksOf_34 : decode cX12_marksOf 34 = .ok (.istore_n 2, 1) := by decide +kernel
theorem dX12_marksOf_35 : decode cX12_marksOf 35 = .ok (.iinc 3 1, 3) := by decide +kernel
theorem dX12_marksOf_38 : decode cX12_marksOf 38 = .ok (.goto (-34), 3) := by decide +kernel
theorem dX12_marksOf_41 : decode cX12_marksOf 41 = .ok (.iload_n 2, 1) := by decide +kernel
theorem dX12_marksOf_42 : decode cX12_marksOf 42 = .ok (.ireturn, 1) := by decide +kernel
theorem dX12_land_0 : decode cX12_land 0 = .ok (.iload_n 1, 1) := by decide +kernel
theorem dX12_land_1 : decode cX12_land 1 = .ok (.invokestatic 101, 3) := by decide +kernel
theorem dX12_land_4 : decode cX12_land 4 = .ok (.ifCond .ne 6, 3) := by decide +kernel
theorem dX12_land_7 : decode cX12_land 7 = .ok (.bipush (-101), 2) := by decide +kernel
theorem dX12_land_9 : decode cX12_land 9 = .ok (.ireturn, 1) := by decide +kernel
theorem dX12_land_10 : decode cX12_land 10 = .ok (.iload_n 2, 1) := by decide +kernel
theorem dX12_land_11 : decode cX12_land 11 = .ok (.i2l, 1) := by decide +kernel
theorem dX12_land_12 : decode cX12_land 12 = .ok (.lconst 0, 1) := by decide +kernel
theorem dX12_land_13 : decode cX12_land 13 = .ok (.ldc2_w 118, 3) := by decide +kernel
theorem dX12_land_16 : decode cX12_land 16 = .ok (.invokestatic 92, 3) := by decide +kernel
theorem dX12_land_19 : decode cX12_land 19 = .ok (.ifCond .ne 6, 3) := by decide +kernel
theorem dX12_land_22 : decode cX12_land 22 = .ok (.bipush (-102), 2) := by decide +kernel
theorem dX12_land_24 : decode cX12_land 24 = .ok (.ireturn, 1) := by decide +kernel
theorem dX12_land_25 : decode cX12_land 25 = .ok (.iload_n 2, 1) := by decide +kernel
theorem dX12_land_26 : decode cX12_land 26 = .ok (.ifCond .ne 11, 3) := by decide +kernel
theorem dX12_land_29 : decode cX12_land 29 = .ok (.aload_n 0, 1) := by decide +kernel
theorem dX12_land_30 : decode cX12_land 30 = .ok (.iload_n 1, 1) := by decide +kernel
theorem dX12_land_31 : decode cX12_land 31 = .ok (.invokevirtual 120, 3) := by decide +kernel
theorem dX12_land_34 : decode cX12_land 34 = .ok (.goto 21, 3) := by decide +kernel
theorem dX12_land_37 : decode cX12_land 37 = .ok (.iload_n 2, 1) := by decide +kernel
theorem dX12_land_38 : decode cX12_land 38 = .ok (.iconst 1, 1) := by decide +kernel
theorem dX12_land_39 : decode cX12_land 39 = .ok (.if_icmp .ne 11, 3) := by decide +kernel
theorem dX12_land_42 : decode cX12_land 42 = .ok (.aload_n 0, 1) := by decide +kernel
theorem dX12_land_43 : decode cX12_land 43 = .ok (.iload_n 1, 1) := by decide +kernel
theorem dX12_land_44 : decode cX12_land 44 = .ok (.invokevirtual 123, 3) := by decide +kernel
theorem dX12_land_47 : decode cX12_land 47 = .ok (.goto 8, 3) := by decide +kernel
theorem dX12_land_50 : decode cX12_land 50 = .ok (.aload_n 0, 1) := by decide +kernel
theorem dX12_land_51 : decode cX12_land 51 = .ok (.iload_n 1, 1) := by decide +kernel
theorem dX12_land_52 : decode cX12_land 52 = .ok (.invokevirtual 126, 3) := by decide +kernel
theorem dX12_land_55 : decode cX12_land 55 = .ok (.ireturn, 1) := by decide +kernel
theorem dX12_mark_0 : decode cX12_mark 0 = .ok (.iload_n 2, 1) := by decide +kernel
theorem dX12_mark_1 : decode cX12_mark 1 = .ok (.invokestatic 105, 3) := by decide +kernel
theorem dX12_mark_4 : decode cX12_mark 4 = .ok (.ifCond .eq 13, 3) := by decide +kernel
theorem dX12_mark_7 : decode cX12_mark 7 = .ok (.aload_n 0, 1) := by decide +kernel
theorem dX12_mark_8 : decode cX12_mark 8 = .ok (.getfield 7, 3) := by decide +kernel
theorem dX12_mark_11 : decode cX12_mark 11 = .ok (.iload_n 2, 1) := by decide +kernel
theorem dX12_mark_12 : decode cX12_mark 12 = .ok (.iaload, 1) := by decide +kernel
theorem dX12_mark_13 : decode cX12_mark 13 = .ok (.iconst (-1), 1) := by decide +kernel
theorem dX12_mark_14 : decode cX12_mark 14 = .ok (.if_icmp .ne 6, 3) := by decide +kernel
theorem dX12_mark_17 : decode cX12_mark 17 = .ok (.bipush (-101), 2) := by decide +kernel
theorem dX12_mark_19 : decode cX12_mark 19 = .ok (.ireturn, 1) := by decide +kernel
theorem dX12_mark_20 : decode cX12_mark 20 = .ok (.iload_n 1, 1) := by decide +kernel
theorem dX12_mark_21 : decode cX12_mark 21 = .ok (.i2l, 1) := by decide +kernel
theorem dX12_mark_22 : decode cX12_mark 22 = .ok (.lconst 0, 1) := by decide +kernel
theorem dX12_mark_23 : decode cX12_mark 23 = .ok (.ldc2_w 90, 3) := by decide +kernel
theorem dX12_mark_26 : decode cX12_mark 26 = .ok (.invokestatic 92, 3) := by decide +kernel
theorem dX12_mark_29 : decode cX12_mark 29 = .ok (.ifCond .eq 15, 3) := by decide +kernel
theorem dX12_mark_32 : decode cX12_mark 32 = .ok (.iload_n 3, 1) := by decide +kernel
theorem dX12_mark_33 : decode cX12_mark 33 = .ok (.i2l, 1) := by decide +kernel
theorem dX12_mark_34 : decode cX12_mark 34 = .ok (.lconst 0, 1) := by decide +kernel
theorem dX12_mark_35 : decode cX12_mark 35 = .ok (.ldc2_w 114, 3) := by decide +kernel
theorem dX12_mark_38 : decode cX12_mark 38 = .ok (.invokestatic 92, 3) := by decide +kernel
theorem dX12_mark_41 : decode cX12_mark 41 = .ok (.ifCond .ne 6, 3) := by decide +kernel
theorem dX12_mark_44 : decode cX12_mark 44 = .ok (.bipush (-102), 2) := by decide +kernel
theorem dX12_mark_46 : decode cX12_mark 46 = .ok (.ireturn, 1) := by decide +kernel
theorem dX12_mark_47 : decode cX12_mark 47 = .ok (.aload_n 0, 1) := by decide +kernel
theorem dX12_mark_48 : decode cX12_mark 48 = .ok (.getfield 98, 3) := by decide +kernel
theorem dX12_mark_51 : decode cX12_mark 51 = .ok (.bipush 40, 2) := by decide +kernel
theorem dX12_mark_53 : decode cX12_mark 53 = .ok (.if_icmp .ne 6, 3) := by decide +kernel
theorem dX12_mark_56 : decode cX12_mark 56 = .ok (.bipush (-104), 2) := by decide +kernel
theorem dX12_mark_58 : decode cX12_mark 58 = .ok (.ireturn, 1) := by decide +kernel
theorem dX12_mark_59 : decode cX12_mark 59 = .ok (.aload_n 0, 1) := by decide +kernel
theorem dX12_mark_60 : decode cX12_mark 60 = .ok (.getfield 13, 3) := by decide +kernel
theorem dX12_mark_63 : decode cX12_mark 63 = .ok (.aload_n 0, 1) := by decide +kernel
theorem dX12_mark_64 : decode cX12_mark 64 = .ok (.getfield 98, 3) := by decide +kernel
theorem dX12_mark_67 : decode cX12_mark 67 = .ok (.iload_n 1, 1) := by decide +kernel
theorem dX12_mark_68 : decode cX12_mark 68 = .ok (.iastore, 1) := by decide +kernel
theorem dX12_mark_69 : decode cX12_mark 69 = .ok (.aload_n 0, 1) := by decide +kernel
theorem dX12_mark_70 : decode cX12_mark 70 = .ok (.getfield 16, 3) := by decide +kernel
theorem dX12_mark_73 : decode cX12_mark 73 = .ok (.aload_n 0, 1) := by decide +kernel
theorem dX12_mark_74 : decode cX12_mark 74 = .ok (.getfield 98, 3) := by decide +kernel
theorem dX12_mark_77 : decode cX12_mark 77 = .ok (.iload_n 2, 1) := by decide +kernel
theorem dX12_mark_78 : decode cX12_mark 78 = .ok (.iastore, 1) := by decide +kernel
theorem dX12_mark_79 : decode cX12_mark 79 = .ok (.aload_n 0, 1) := by decide +kernel
theorem dX12_mark_80 : decode cX12_mark 80 = .ok (.getfield 19, 3) := by decide +kernel
theorem dX12_mark_83 : decode cX12_mark 83 = .ok (.aload_n 0, 1) := by decide +kernel
theorem dX12_mark_84 : decode cX12_mark 84 = .ok (.getfield 98, 3) := by decide +kernel
theorem dX12_mark_87 : decode cX12_mark 87 = .ok (.iload_n 3, 1) := by decide +kernel
theorem dX12_mark_88 : decode cX12_mark 88 = .ok (.iastore, 1) := by decide +kernel
theorem dX12_mark_89 : decode cX12_mark 89 = .ok (.aload_n 0, 1) := by decide +kernel
theorem dX12_mark_90 : decode cX12_mark 90 = .ok (.dup, 1) := by decide +kernel
theorem dX12_mark_91 : decode cX12_mark 91 = .ok (.getfield 98, 3) := by decide +kernel
theorem dX12_mark_94 : decode cX12_mark 94 = .ok (.iconst 1, 1) := by decide +kernel
theorem dX12_mark_95 : decode cX12_mark 95 = .ok (.iadd, 1) := by decide +kernel
theorem dX12_mark_96 : decode cX12_mark 96 = .ok (.putfield 98, 3) := by decide +kernel
theorem dX12_mark_99 : decode cX12_mark 99 = .ok (.aload_n 0, 1) := by decide +kernel
theorem dX12_mark_100 : decode cX12_mark 100 = .ok (.getfield 98, 3) := by decide +kernel
theorem dX12_mark_103 : decode cX12_mark 103 = .ok (.iconst 1, 1) := by decide +kernel
theorem dX12_mark_104 : decode cX12_mark 104 = .ok (.isub, 1) := by decide +kernel
theorem dX12_mark_105 : decode cX12_mark 105 = .ok (.ireturn, 1) := by decide +kernel
theorem dX12_isMark_0 : decode cX12_isMark 0 = .ok (.iload_n 1, 1) := by decide +kernel
theorem dX12_isMark_1 : decode cX12_isMark 1 = .ok (.i2l, 1) := by decide +kernel
theorem dX12_isMark_2 : decode cX12_isMark 2 = .ok (.lconst 0, 1) := by decide +kernel
theorem dX12_isMark_3 : decode cX12_isMark 3 = .ok (.aload_n 0, 1) := by decide +kernel
theorem dX12_isMark_4 : decode cX12_isMark 4 = .ok (.getfield 98, 3) := by decide +kernel
theorem dX12_isMark_7 : decode cX12_isMark 7 = .ok (.iconst 1, 1) := by decide +kernel
theorem dX12_isMark_8 : decode cX12_isMark 8 = .ok (.isub, 1) := by decide +kernel
theorem dX12_isMark_9 : decode cX12_isMark 9 = .ok (.i2l, 1) := by decide +kernel
theorem dX12_isMark_10 : decode cX12_isMark 10 = .ok (.invokestatic 92, 3) := by decide +kernel
theorem dX12_isMark_13 : decode cX12_isMark 13 = .ok (.ireturn, 1) := by decide +kernel
theorem dX12_as_0 : decode cX12_as 0 = .ok (.aload_n 0, 1) := by decide +kernel
theorem dX12_as_1 : decode cX12_as 1 = .ok (.iload_n 1, 1) := by decide +kernel
theorem dX12_as_2 : decode cX12_as 2 = .ok (.invokevirtual 129, 3) := by decide +kernel
theorem dX12_as_5 : decode cX12_as 5 = .ok (.ifCond .ne 6, 3) := by decide +kernel
theorem dX12_as_8 : decode cX12_as 8 = .ok (.bipush (-101), 2) := by decide +kernel
theorem dX12_as_10 : decode cX12_as 10 = .ok (.ireturn, 1) := by decide +kernel
theorem dX12_as_11 : decode cX12_as 11 = .ok (.iload_n 2, 1) := by decide +kernel
theorem dX12_as_12 : decode cX12_as 12 = .ok (.i2l, 1) := by decide +kernel
theorem dX12_as_13 : decode cX12_as 13 = .ok (.lconst 0, 1) := by decide +kernel
theorem dX12_as_14 : decode cX12_as 14 = .ok (.ldc2_w 90, 3) := by decide +kernel
theorem dX12_as_17 : decode cX12_as 17 = .ok (.invokestatic 92, 3) := by decide +kernel
theorem dX12_as_20 : decode cX12_as 20 = .ok (.ifCond .ne 6, 3) := by decide +kernel
theorem dX12_as_23 : decode cX12_as 23 = .ok (.bipush (-102), 2) := by decide +kernel
theorem dX12_as_25 : decode cX12_as 25 = .ok (.ireturn, 1) := by decide +kernel
theorem dX12_as_26 : decode cX12_as 26 = .ok (.iload_n 2, 1) := by decide +kernel
theorem dX12_as_27 : decode cX12_as 27 = .ok (.ifCond .eq 28, 3) := by decide +kernel
theorem dX12_as_30 : decode cX12_as 30 = .ok (.iload_n 2, 1) := by decide +kernel
theorem dX12_as_31 : decode cX12_as 31 = .ok (.aload_n 0, 1) := by decide +kernel
theorem dX12_as_32 : decode cX12_as 32 = .ok (.getfield 13, 3) := by decide +kernel
theorem dX12_as_35 : decode cX12_as 35 = .ok (.iload_n 1, 1) := by decide +kernel
theorem dX12_as_36 : decode cX12_as 36 = .ok (.iaload, 1) := by decide +kernel
theorem dX12_as_37 : decode cX12_as 37 = .ok (.if_icmp .eq 18, 3) := by decide +kernel
theorem dX12_as_40 : decode cX12_as 40 = .ok (.iload_n 2, 1) := by decide +kernel
theorem dX12_as_41 : decode cX12_as 41 = .ok (.iconst 2, 1) := by decide +kernel
theorem dX12_as_42 : decode cX12_as 42 = .ok (.if_icmp .ne 17, 3) := by decide +kernel
theorem dX12_as_45 : decode cX12_as 45 = .ok (.aload_n 0, 1) := by decide +kernel
theorem dX12_as_46 : decode cX12_as 46 = .ok (.getfield 13, 3) := by decide +kernel
theorem dX12_as_49 : decode cX12_as 49 = .ok (.iload_n 1, 1) := by decide +kernel
theorem dX12_as_50 : decode cX12_as 50 = .ok (.iaload, 1) := by decide +kernel
theorem dX12_as_51 : decode cX12_as 51 = .ok (.iconst 5, 1) := by decide +kernel
theorem dX12_as_52 : decode cX12_as 52 = .ok (.if_icmp .ne 7, 3) := by decide +kernel
theorem dX12_as_55 : decode cX12_as 55 = .ok (.iconst 1, 1) := by decide +kernel
theorem dX12_as_56 : decode cX12_as 56 = .ok (.goto 4, 3) := by decide +kernel
theorem dX12_as_59 : decode cX12_as 59 = .ok (.iconst 0, 1) := by decide +kernel
theorem dX12_as_60 : decode cX12_as 60 = .ok (.istore_n 3, 1) := by decide +kernel
theorem dX12_as_61 : decode cX12_as 61 = .ok (.iload_n 3, 1) := by decide +kernel
theorem dX12_as_62 : decode cX12_as 62 = .ok (.ifCond .eq 7, 3) := by decide +kernel
theorem dX12_as_65 : decode cX12_as 65 = .ok (.iload_n 1, 1) := by decide +kernel
theorem dX12_as_66 : decode cX12_as 66 = .ok (.goto 4, 3) := by decide +kernel
theorem dX12_as_69 : decode cX12_as 69 = .ok (.iconst (-1), 1) := by decide +kernel
theorem dX12_as_70 : decode cX12_as 70 = .ok (.ireturn, 1) := by decide +kernel
theorem dX12_weight_0 : decode cX12_weight 0 = .ok (.aload_n 0, 1) := by decide +kernel
theorem dX12_weight_1 : decode cX12_weight 1 = .ok (.getfield 13, 3) := by decide +kernel
theorem dX12_weight_4 : decode cX12_weight 4 = .ok (.iload_n 1, 1) := by decide +kernel
theorem dX12_weight_5 : decode cX12_weight 5 = .ok (.iaload, 1) := by decide +kernel
theorem dX12_weight_6 : decode cX12_weight 6 = .ok (.tableswitch 42 1 5 #[34, 36, 42, 38, 40], 34) := by decide +kernel
theorem dX12_weight_40 : decode cX12_weight 40 = .ok (.iconst 3, 1) := by decide +kernel
theorem dX12_weight_41 : decode cX12_weight 41 = .ok (.ireturn, 1) := by decide +kernel
theorem dX12_weight_42 : decode cX12_weight 42 = .ok (.iconst 4, 1) := by decide +kernel
theorem dX12_weight_43 : decode cX12_weight 43 = .ok (.ireturn, 1) := by decide +kernel
theorem dX12_weight_44 : decode cX12_weight 44 = .ok (.iconst 0, 1) := by decide +kernel
theorem dX12_weight_45 : decode cX12_weight 45 = .ok (.ireturn, 1) := by decide +kernel
theorem dX12_weight_46 : decode cX12_weight 46 = .ok (.iconst 2, 1) := by decide +kernel
theorem dX12_weight_47 : decode cX12_weight 47 = .ok (.ireturn, 1) := by decide +kernel
theorem dX12_weight_48 : decode cX12_weight 48 = .ok (.iconst 1, 1) := by decide +kernel
theorem dX12_weight_49 : decode cX12_weight 49 = .ok (.ireturn, 1) := by decide +kernel
theorem dX12_about_0 : decode cX12_about 0 = .ok (.aload_n 0, 1) := by decide +kernel
theorem dX12_about_1 : decode cX12_about 1 = .ok (.iload_n 1, 1) := by decide +kernel
theorem dX12_about_2 : decode cX12_about 2 = .ok (.invokevirtual 129, 3) := by decide +kernel
theorem dX12_about_5 : decode cX12_about 5 = .ok (.ifCond .ne 6, 3) := by decide +kernel
theorem dX12_about_8 : decode cX12_about 8 = .ok (.bipush (-101), 2) := by decide +kernel
theorem dX12_about_10 : decode cX12_about 10 = .ok (.ireturn, 1) := by decide +kernel
theorem dX12_about_11 : decode cX12_about 11 = .ok (.iload_n 2, 1) := by decide +kernel
theorem dX12_about_12 : decode cX12_about 12 = .ok (.i2l, 1) := by decide +kernel
theorem dX12_about_13 : decode cX12_about 13 = .ok (.lconst 0, 1) := by decide +kernel
theorem dX12_about_14 : decode cX12_about 14 = .ok (.ldc2_w 132, 3) := by decide +kernel
theorem dX12_about_17 : decode cX12_about 17 = .ok (.invokestatic 92, 3) := by decide +kernel
theorem dX12_about_20 : decode cX12_about 20 = .ok (.ifCond .ne 6, 3) := by decide +kernel
theorem dX12_about_23 : decode cX12_about 23 = .ok (.bipush (-102), 2) := by decide +kernel
theorem dX12_about_25 : decode cX12_about 25 = .ok (.ireturn, 1) := by decide +kernel
theorem dX12_about_26 : decode cX12_about 26 = .ok (.iload_n 2, 1) := by decide +kernel
theorem dX12_about_27 : decode cX12_about 27 = .ok (.ifCond .ne 12, 3) := by decide +kernel
theorem dX12_about_30 : decode cX12_about 30 = .ok (.aload_n 0, 1) := by decide +kernel
theorem dX12_about_31 : decode cX12_about 31 = .ok (.getfield 13, 3) := by decide +kernel
theorem dX12_about_34 : decode cX12_about 34 = .ok (.iload_n 1, 1) := by decide +kernel
theorem dX12_about_35 : decode cX12_about 35 = .ok (.iaload, 1) := by decide +kernel
theorem dX12_about_36 : decode cX12_about 36 = .ok (.goto 36, 3) := by decide +kernel
theorem dX12_about_39 : decode cX12_about 39 = .ok (.iload_n 2, 1) := by decide +kernel
theorem dX12_about_40 : decode cX12_about 40 = .ok (.iconst 1, 1) := by decide +kernel
theorem dX12_about_41 : decode cX12_about 41 = .ok (.if_icmp .ne 12, 3) := by decide +kernel
theorem dX12_about_44 : decode cX12_about 44 = .ok (.aload_n 0, 1) := by decide +kernel
theorem dX12_about_45 : decode cX12_about 45 = .ok (.getfield 16, 3) := by decide +kernel
theorem dX12_about_48 : decode cX12_about 48 = .ok (.iload_n 1, 1) := by decide +kernel
theorem dX12_about_49 : decode cX12_about 49 = .ok (.iaload, 1) := by decide +kernel
theorem dX12_about_50 : decode cX12_about 50 = .ok (.goto 22, 3) := by decide +kernel
theorem dX12_about_53 : decode cX12_about 53 = .ok (.iload_n 2, 1) := by decide +kernel
theorem dX12_about_54 : decode cX12_about 54 = .ok (.iconst 2, 1) := by decide +kernel
theorem dX12_about_55 : decode cX12_about 55 = .ok (.if_icmp .ne 12, 3) := by decide +kernel
theorem dX12_about_58 : decode cX12_about 58 = .ok (.aload_n 0, 1) := by decide +kernel
theorem dX12_about_59 : decode cX12_about 59 = .ok (.getfield 19, 3) := by decide +kernel
theorem dX12_about_62 : decode cX12_about 62 = .ok (.iload_n 1, 1) := by decide +kernel
theorem dX12_about_63 : decode cX12_about 63 = .ok (.iaload, 1) := by decide +kernel
theorem dX12_about_64 : decode cX12_about 64 = .ok (.goto 8, 3) := by decide +kernel
theorem dX12_about_67 : decode cX12_about 67 = .ok (.aload_n 0, 1) := by decide +kernel
theorem dX12_about_68 : decode cX12_about 68 = .ok (.iload_n 1, 1) := by decide +kernel
theorem dX12_about_69 : decode cX12_about 69 = .ok (.invokevirtual 134, 3) := by decide +kernel
theorem dX12_about_72 : decode cX12_about 72 = .ok (.ireturn, 1) := by decide +kernel
theorem dX12_goes_0 : decode cX12_goes 0 = .ok (.aload_n 0, 1) := by decide +kernel
theorem dX12_goes_1 : decode cX12_goes 1 = .ok (.getfield 13, 3) := by decide +kernel
theorem dX12_goes_4 : decode cX12_goes 4 = .ok (.iload_n 1, 1) := by decide +kernel
theorem dX12_goes_5 : decode cX12_goes 5 = .ok (.iaload, 1) := by decide +kernel
theorem dX12_goes_6 : decode cX12_goes 6 = .ok (.istore_n 3, 1) := by decide +kernel
theorem dX12_goes_7 : decode cX12_goes 7 = .ok (.iload_n 3, 1) := by decide +kernel
theorem dX12_goes_8 : decode cX12_goes 8 = .ok (.aload_n 0, 1) := by decide +kernel
theorem dX12_goes_9 : decode cX12_goes 9 = .ok (.getfield 13, 3) := by decide +kernel
theorem dX12_goes_12 : decode cX12_goes 12 = .ok (.iload_n 2, 1) := by decide +kernel
theorem dX12_goes_13 : decode cX12_goes 13 = .ok (.iaload, 1) := by decide +kernel
theorem dX12_goes_14 : decode cX12_goes 14 = .ok (.if_icmp .ne 8, 3) := by decide +kernel
theorem dX12_goes_17 : decode cX12_goes 17 = .ok (.iload_n 3, 1) := by decide +kernel
theorem dX12_goes_18 : decode cX12_goes 18 = .ok (.iconst 4, 1) := by decide +kernel
theorem dX12_goes_19 : decode cX12_goes 19 = .ok (.if_icmp .ne 5, 3) := by decide +kernel
theorem dX12_goes_22 : decode cX12_goes 22 = .ok (.iconst 0, 1) := by decide +kernel
theorem dX12_goes_23 : decode cX12_goes 23 = .ok (.ireturn, 1) := by decide +kernel
theorem dX12_goes_24 : decode cX12_goes 24 = .ok (.iload_n 3, 1) := by decide +kernel
theorem dX12_goes_25 : decode cX12_goes 25 = .ok (.iconst 1, 1) := by decide +kernel
theorem dX12_goes_26 : decode cX12_goes 26 = .ok (.if_icmp .ne 30, 3) := by decide +kernel
theorem dX12_goes_29 : decode cX12_goes 29 = .ok (.aload_n 0, 1) := by decide +kernel
theorem dX12_goes_30 : decode cX12_goes 30 = .ok (.getfield 19, 3) := by decide +kernel
theorem dX12_goes_33 : decode cX12_goes 33 = .ok (.iload_n 1, 1) := by decide +kernel
theorem dX12_goes_34 : decode cX12_goes 34 = .ok (.iaload, 1) := by decide +kernel
theorem dX12_goes_35 : decode cX12_goes 35 = .ok (.aload_n 0, 1) := by decide +kernel
theorem dX12_goes_36 : decode cX12_goes 36 = .ok (.getfield 19, 3) := by decide +kernel
theorem dX12_goes_39 : decode cX12_goes 39 = .ok (.iload_n 2, 1) := by decide +kernel
theorem dX12_goes_40 : decode cX12_goes 40 = .ok (.iaload, 1) := by decide +kernel
theorem dX12_goes_41 : decode cX12_goes 41 = .ok (.invokestatic 137, 3) := by decide +kernel
theorem dX12_goes_44 : decode cX12_goes 44 = .ok (.iconst 1, 1) := by decide +kernel
theorem dX12_goes_45 : decode cX12_goes 45 = .ok (.if_icmp .gt 7, 3) := by decide +kernel
theorem dX12_goes_48 : decode cX12_goes 48 = .ok (.iconst 1, 1) := by decide +kernel
theorem dX12_goes_49 : decode cX12_goes 49 = .ok (.goto 59, 3) := by decide +kernel
theorem dX12_goes_52 : decode cX12_goes 52 = .ok (.iconst 0, 1) := by decide +kernel
theorem dX12_goes_53 : decode cX12_goes 53 = .ok (.goto 55, 3) := by decide +kernel
theorem dX12_goes_56 : decode cX12_goes 56 = .ok (.iload_n 3, 1) := by decide +kernel
theorem dX12_goes_57 : decode cX12_goes 57 = .ok (.iconst 3, 1) := by decide +kernel
theorem dX12_goes_58 : decode cX12_goes 58 = .ok (.if_icmp .ne 30, 3) := by decide +kernel
theorem dX12_goes_61 : decode cX12_goes 61 = .ok (.aload_n 0, 1) := by decide +kernel
theorem dX12_goes_62 : decode cX12_goes 62 = .ok (.getfield 19, 3) := by decide +kernel
theorem dX12_goes_65 : decode cX12_goes 65 = .ok (.iload_n 1, 1) := by decide +kernel
theorem dX12_goes_66 : decode cX12_goes 66 = .ok (.iaload, 1) := by decide +kernel
theorem dX12_goes_67 : decode cX12_goes 67 = .ok (.iconst 4, 1) := by decide +kernel
theorem dX12_goes_68 : decode cX12_goes 68 = .ok (.irem, 1) := by decide +kernel
theorem dX12_goes_69 : decode cX12_goes 69 = .ok (.aload_n 0, 1) := by decide +kernel
theorem dX12_goes_70 : decode cX12_goes 70 = .ok (.getfield 19, 3) := by decide +kernel
theorem dX12_goes_73 : decode cX12_goes 73 = .ok (.iload_n 2, 1) := by decide +kernel
theorem dX12_goes_74 : decode cX12_goes 74 = .ok (.iaload, 1) := by decide +kernel
theorem dX12_goes_75 : decode cX12_goes 75 = .ok (.iconst 4, 1) := by decide +kernel
theorem dX12_goes_76 : decode cX12_goes 76 = .ok (.irem, 1) := by decide +kernel
theorem dX12_goes_77 : decode cX12_goes 77 = .ok (.if_icmp .ne 7, 3) := by decide +kernel
theorem dX12_goes_80 : decode cX12_goes 80 = .ok (.iconst 1, 1) := by decide +kernel
theorem dX12_goes_81 : decode cX12_goes 81 = .ok (.goto 27, 3) := by decide +kernel
theorem dX12_goes_84 : decode cX12_goes 84 = .ok (.iconst 0, 1) := by decide +kernel
theorem dX12_goes_85 : decode cX12_goes 85 = .ok (.goto 23, 3) := by decide +kernel
theorem dX12_goes_88 : decode cX12_goes 88 = .ok (.aload_n 0, 1) := by decide +kernel
theorem dX12_goes_89 : decode cX12_goes 89 = .ok (.getfield 19, 3) := by decide +kernel
theorem dX12_goes_92 : decode cX12_goes 92 = .ok (.iload_n 1, 1) := by decide +kernel
theorem dX12_goes_93 : decode cX12_goes 93 = .ok (.iaload, 1) := by decide +kernel
theorem dX12_goes_94 : decode cX12_goes 94 = .ok (.aload_n 0, 1) := by decide +kernel
theorem dX12_goes_95 : decode cX12_goes 95 = .ok (.getfield 19, 3) := by decide +kernel
theorem dX12_goes_98 : decode cX12_goes 98 = .ok (.iload_n 2, 1) := by decide +kernel
theorem dX12_goes_99 : decode cX12_goes 99 = .ok (.iaload, 1) := by decide +kernel
theorem dX12_goes_100 : decode cX12_goes 100 = .ok (.if_icmp .ne 7, 3) := by decide +kernel
theorem dX12_goes_103 : decode cX12_goes 103 = .ok (.iconst 1, 1) := by decide +kernel
theorem dX12_goes_104 : decode cX12_goes 104 = .ok (.goto 4, 3) := by decide +kernel
theorem dX12_goes_107 : decode cX12_goes 107 = .ok (.iconst 0, 1) := by decide +kernel
theorem dX12_goes_108 : decode cX12_goes 108 = .ok (.ireturn, 1) := by decide +kernel
theorem dX12_goesOn_0 : decode cX12_goesOn 0 = .ok (.aload_n 0, 1) := by decide +kernel
theorem dX12_goesOn_1 : decode cX12_goesOn 1 = .ok (.iload_n 1, 1) := by decide +kernel
theorem dX12_goesOn_2 : decode cX12_goesOn 2 = .ok (.invokevirtual 129, 3) := by decide +kernel
theorem dX12_goesOn_5 : decode cX12_goesOn 5 = .ok (.ifCond .eq 11, 3) := by decide +kernel
theorem dX12_goesOn_8 : decode cX12_goesOn 8 = .ok (.aload_n 0, 1) := by decide +kernel
theorem dX12_goesOn_9 : decode cX12_goesOn 9 = .ok (.iload_n 2, 1) := by decide +kernel
theorem dX12_goesOn_10 : decode cX12_goesOn 10 = .ok (.invokevirtual 129, 3) := by decide +kernel
theorem dX12_goesOn_13 : decode cX12_goesOn 13 = .ok (.ifCond .ne 6, 3) := by decide +kernel
theorem dX12_goesOn_16 : decode cX12_goesOn 16 = .ok (.bipush (-101), 2) := by decide +kernel
theorem dX12_goesOn_18 : decode cX12_goesOn 18 = .ok (.ireturn, 1) := by decide +kernel
theorem dX12_goesOn_19 : decode cX12_goesOn 19 = .ok (.aload_n 0, 1) := by decide +kernel
theorem dX12_goesOn_20 : decode cX12_goesOn 20 = .ok (.iload_n 1, 1) := by decide +kernel
theorem dX12_goesOn_21 : decode cX12_goesOn 21 = .ok (.iload_n 2, 1) := by decide +kernel
theorem dX12_goesOn_22 : decode cX12_goesOn 22 = .ok (.invokevirtual 141, 3) := by decide +kernel
theorem dX12_goesOn_25 : decode cX12_goesOn 25 = .ok (.ifCond .eq 7, 3) := by decide +kernel
theorem dX12_goesOn_28 : decode cX12_goesOn 28 = .ok (.iconst 1, 1) := by decide +kernel
theorem dX12_goesOn_29 : decode cX12_goesOn 29 = .ok (.goto 4, 3) := by decide +kernel
theorem dX12_goesOn_32 : decode cX12_goesOn 32 = .ok (.iconst 0, 1) := by decide +kernel
theorem dX12_goesOn_33 : decode cX12_goesOn 33 = .ok (.ireturn, 1) := by decide +kernel
theorem dX12_drop_0 : decode cX12_drop 0 = .ok (.aload_n 0, 1) := by decide +kernel
theorem dX12_drop_1 : decode cX12_drop 1 = .ok (.getfield 98, 3) := by decide +kernel
theorem dX12_drop_4 : decode cX12_drop 4 = .ok (.ifCond .ne 6, 3) := by decide +kernel
theorem dX12_drop_7 : decode cX12_drop 7 = .ok (.bipush (-103), 2) := by decide +kernel
theorem dX12_drop_9 : decode cX12_drop 9 = .ok (.ireturn, 1) := by decide +kernel
theorem dX12_drop_10 : decode cX12_drop 10 = .ok (.aload_n 0, 1) := by decide +kernel
theorem dX12_drop_11 : decode cX12_drop 11 = .ok (.dup, 1) := by decide +kernel
theorem dX12_drop_12 : decode cX12_drop 12 = .ok (.getfield 98, 3) := by decide +kernel
theorem dX12_drop_15 : decode cX12_drop 15 = .ok (.iconst 1, 1) := by decide +kernel
theorem dX12_drop_16 : decode cX12_drop 16 = .ok (.isub, 1) := by decide +kernel
theorem dX12_drop_17 : decode cX12_drop 17 = .ok (.putfield 98, 3) := by decide +kernel
theorem dX12_drop_20 : decode cX12_drop 20 = .ok (.aload_n 0, 1) := by decide +kernel
theorem dX12_drop_21 : decode cX12_drop 21 = .ok (.getfield 98, 3) := by decide +kernel
theorem dX12_drop_24 : decode cX12_drop 24 = .ok (.ireturn, 1) := by decide +kernel
theorem dX12_lay_0 : decode cX12_lay 0 = .ok (.iconst 1, 1) := by decide +kernel
theorem dX12_lay_1 : decode cX12_lay 1 = .ok (.istore 5, 2) := by decide +kernel
theorem dX12_lay_3 : decode cX12_lay 3 = .ok (.iconst 0, 1) := by decide +kernel
theorem dX12_lay_4 : decode cX12_lay 4 = .ok (.istore 6, 2) := by decide +kernel
theorem dX12_lay_6 : decode cX12_lay 6 = .ok (.iload 6, 2) := by decide +kernel
theorem dX12_lay_8 : decode cX12_lay 8 = .ok (.sipush 128, 3) := by decide +kernel
theorem dX12_lay_11 : decode cX12_lay 11 = .ok (.if_icmp .ge 32, 3) := by decide +kernel
theorem dX12_lay_14 : decode cX12_lay 14 = .ok (.aload_n 0, 1) := by decide +kernel
theorem dX12_lay_15 : decode cX12_lay 15 = .ok (.getfield 22, 3) := by decide +kernel
theorem dX12_lay_18 : decode cX12_lay 18 = .ok (.iload 6, 2) := by decide +kernel
theorem dX12_lay_20 : decode cX12_lay 20 = .ok (.aload_n 0, 1) := by decide +kernel
theorem dX12_lay_21 : decode cX12_lay 21 = .ok (.getfield 7, 3) := by decide +kernel
theorem dX12_lay_24 : decode cX12_lay 24 = .ok (.iload 6, 2) := by decide +kernel
theorem dX12_lay_26 : decode cX12_lay 26 = .ok (.iaload, 1) := by decide +kernel
theorem dX12_lay_27 : decode cX12_lay 27 = .ok (.iload_n 1, 1) := by decide +kernel
theorem dX12_lay_28 : decode cX12_lay 28 = .ok (.if_icmp .ne 7, 3) := by decide +kernel
theorem dX12_lay_31 : decode cX12_lay 31 = .ok (.iconst 1, 1) := by decide +kernel
theorem dX12_lay_32 : decode cX12_lay 32 = .ok (.goto 4, 3) := by decide +kernel
theorem dX12_lay_35 : decode cX12_lay 35 = .ok (.iconst 0, 1) := by decide +kernel
theorem dX12_lay_36 : decode cX12_lay 36 = .ok (.iastore, 1) := by decide +kernel
theorem dX12_lay_37 : decode cX12_lay 37 = .ok (.iinc 6 1, 3) := by decide +kernel
theorem dX12_lay_40 : decode cX12_lay 40 = .ok (.goto (-34), 3) := by decide +kernel
theorem dX12_lay_43 : decode cX12_lay 43 = .ok (.iconst 0, 1) := by decide +kernel
theorem dX12_lay_44 : decode cX12_lay 44 = .ok (.istore 6, 2) := by decide +kernel
theorem dX12_lay_46 : decode cX12_lay 46 = .ok (.iload 6, 2) := by decide +kernel
theorem dX12_lay_48 : decode cX12_lay 48 = .ok (.sipush 128, 3) := by decide +kernel
theorem dX12_lay_51 : decode cX12_lay 51 = .ok (.if_icmp .ge 93, 3) := by decide +kernel
theorem dX12_lay_54 : decode cX12_lay 54 = .ok (.aload_n 0, 1) := by decide +kernel
theorem dX12_lay_55 : decode cX12_lay 55 = .ok (.getfield 7, 3) := by decide +kernel
theorem dX12_lay_58 : decode cX12_lay 58 = .ok (.iload 6, 2) := by decide +kernel
theorem dX12_lay_60 : decode cX12_lay 60 = .ok (.iaload, 1) := by decide +kernel
theorem dX12_lay_61 : decode cX12_lay 61 = .ok (.iload_n 2, 1) := by decide +kernel
theorem dX12_lay_62 : decode cX12_lay 62 = .ok (.if_icmp .ne 76, 3) := by decide +kernel
theorem dX12_lay_65 : decode cX12_lay 65 = .ok (.iload 6, 2) := by decide +kernel
theorem dX12_lay_67 : decode cX12_lay 67 = .ok (.bipush 16, 2) := by decide +kernel
theorem dX12_lay_69 : decode cX12_lay 69 = .ok (.idiv, 1) := by decide +kernel
theorem dX12_lay_70 : decode cX12_lay 70 = .ok (.iload_n 3, 1) := by decide +kernel
theorem dX12_lay_71 : decode cX12_lay 71 = .ok (.iadd, 1) := by decide +kernel
theorem dX12_lay_72 : decode cX12_lay 72 = .ok (.istore 7, 2) := by decide +kernel
theorem dX12_lay_74 : decode cX12_lay 74 = .ok (.iload 5, 2) := by decide +kernel
theorem dX12_lay_76 : decode cX12_lay 76 = .ok (.ifCond .eq 20, 3) := by decide +kernel
theorem dX12_lay_79 : decode cX12_lay 79 = .ok (.iload 7, 2) := by decide +kernel
theorem dX12_lay_81 : decode cX12_lay 81 = .ok (.i2l, 1) := by decide +kernel
theorem dX12_lay_82 : decode cX12_lay 82 = .ok (.lconst 0, 1) := by decide +kernel
theorem dX12_lay_83 : decode cX12_lay 83 = .ok (.ldc2_w 112, 3) := by decide +kernel
theorem dX12_lay_86 : decode cX12_lay 86 = .ok (.invokestatic 92, 3) := by decide +kernel
theorem dX12_lay_89 : decode cX12_lay 89 = .ok (.ifCond .eq 7, 3) := by decide +kernel
theorem dX12_lay_92 : decode cX12_lay 92 = .ok (.iconst 1, 1) := by decide +kernel
theorem dX12_lay_93 : decode cX12_lay 93 = .ok (.goto 4, 3) := by decide +kernel
theorem dX12_lay_96 : decode cX12_lay 96 = .ok (.iconst 0, 1) := by decide +kernel
theorem dX12_lay_97 : decode cX12_lay 97 = .ok (.istore 5, 2) := by decide +kernel
theorem dX12_lay_99 : decode cX12_lay 99 = .ok (.iload 7, 2) := by decide +kernel
theorem dX12_lay_101 : decode cX12_lay 101 = .ok (.i2l, 1) := by decide +kernel
theorem dX12_lay_102 : decode cX12_lay 102 = .ok (.lconst 0, 1) := by decide +kernel
theorem dX12_lay_103 : decode cX12_lay 103 = .ok (.ldc2_w 112, 3) := by decide +kernel
theorem dX12_lay_106 : decode cX12_lay 106 = .ok (.invokestatic 92, 3) := by decide +kernel
theorem dX12_lay_109 : decode cX12_lay 109 = .ok (.ifCond .eq 29, 3) := by decide +kernel
theorem dX12_lay_112 : decode cX12_lay 112 = .ok (.aload_n 0, 1) := by decide +kernel
theorem dX12_lay_113 : decode cX12_lay 113 = .ok (.getfield 22, 3) := by decide +kernel
theorem dX12_lay_116 : decode cX12_lay 116 = .ok (.bipush 16, 2) := by decide +kernel
theorem dX12_lay_118 : decode cX12_lay 118 = .ok (.iload 7, 2) := by decide +kernel
theorem dX12_lay_120 : decode cX12_lay 120 = .ok (.imul, 1) := by decide +kernel
theorem dX12_lay_121 : decode cX12_lay 121 = .ok (.iload 6, 2) := by decide +kernel
theorem dX12_lay_123 : decode cX12_lay 123 = .ok (.bipush 16, 2) := by decide +kernel
theorem dX12_lay_125 : decode cX12_lay 125 = .ok (.irem, 1) := by decide +kernel
theorem dX12_lay_126 : decode cX12_lay 126 = .ok (.iload 4, 2) := by decide +kernel
theorem dX12_lay_128 : decode cX12_lay 128 = .ok (.iadd, 1) := by decide +kernel
theorem dX12_lay_129 : decode cX12_lay 129 = .ok (.bipush 16, 2) := by decide +kernel
theorem dX12_lay_131 : decode cX12_lay 131 = .ok (.irem, 1) := by decide +kernel
theorem dX12_lay_132 : decode cX12_lay 132 = .ok (.iadd, 1) := by decide +kernel
theorem dX12_lay_133 : decode cX12_lay 133 = .ok (.dup2, 1) := by decide +kernel
theorem dX12_lay_134 : decode cX12_lay 134 = .ok (.iaload, 1) := by decide +kernel
theorem dX12_lay_135 : decode cX12_lay 135 = .ok (.iconst 2, 1) := by decide +kernel
theorem dX12_lay_136 : decode cX12_lay 136 = .ok (.ior, 1) := by decide +kernel
theorem dX12_lay_137 : decode cX12_lay 137 = .ok (.iastore, 1) := by decide +kernel
theorem dX12_lay_138 : decode cX12_lay 138 = .ok (.iinc 6 1, 3) := by decide +kernel
theorem dX12_lay_141 : decode cX12_lay 141 = .ok (.goto (-95), 3) := by decide +kernel
theorem dX12_lay_144 : decode cX12_lay 144 = .ok (.iload 5, 2) := by decide +kernel
theorem dX12_lay_146 : decode cX12_lay 146 = .ok (.ireturn, 1) := by decide +kernel
theorem dX12_east_0 : decode cX12_east 0 = .ok (.iload_n 0, 1) := by decide +kernel
theorem dX12_east_1 : decode cX12_east 1 = .ok (.bipush 16, 2) := by decide +kernel
theorem dX12_east_3 : decode cX12_east 3 = .ok (.idiv, 1) := by decide +kernel
theorem dX12_east_4 : decode cX12_east 4 = .ok (.bipush 16, 2) := by decide +kernel
theorem dX12_east_6 : decode cX12_east 6 = .ok (.imul, 1) := by decide +kernel
theorem dX12_east_7 : decode cX12_east 7 = .ok (.iload_n 0, 1) := by decide +kernel
theorem dX12_east_8 : decode cX12_east 8 = .ok (.bipush 16, 2) := by decide +kernel
theorem dX12_east_10 : decode cX12_east 10 = .ok (.irem, 1) := by decide +kernel
theorem dX12_east_11 : decode cX12_east 11 = .ok (.iload_n 1, 1) := by decide +kernel
theorem dX12_east_12 : decode cX12_east 12 = .ok (.iadd, 1) := by decide +kernel
theorem dX12_east_13 : decode cX12_east 13 = .ok (.bipush 16, 2) := by decide +kernel
theorem dX12_east_15 : decode cX12_east 15 = .ok (.iadd, 1) := by decide +kernel
theorem dX12_east_16 : decode cX12_east 16 = .ok (.bipush 16, 2) := by decide +kernel
theorem dX12_east_18 : decode cX12_east 18 = .ok (.irem, 1) := by decide +kernel
theorem dX12_east_19 : decode cX12_east 19 = .ok (.iadd, 1) := by decide +kernel
theorem dX12_east_20 : decode cX12_east 20 = .ok (.ireturn, 1) := by decide +kernel
theorem dX12_overlap_0 : decode cX12_overlap 0 = .ok (.iconst 0, 1) := by decide +kernel
theorem dX12_overlap_1 : decode cX12_overlap 1 = .ok (.istore_n 1, 1) := by decide +kernel
theorem dX12_overlap_2 : decode cX12_overlap 2 = .ok (.iconst 0, 1) := by decide +kernel
theorem dX12_overlap_3 : decode cX12_overlap 3 = .ok (.istore_n 2, 1) := by decide +kernel
theorem dX12_overlap_4 : decode cX12_overlap 4 = .ok (.iload_n 2, 1) := by decide +kernel
theorem dX12_overlap_5 : decode cX12_overlap 5 = .ok (.sipush 128, 3) := by decide +kernel
theorem dX12_overlap_8 : decode cX12_overlap 8 = .ok (.if_icmp .ge 27, 3) := by decide +kernel
theorem dX12_overlap_11 : decode cX12_overlap 11 = .ok (.iload_n 1, 1) := by decide +kernel
theorem dX12_overlap_12 : decode cX12_overlap 12 = .ok (.aload_n 0, 1) := by decide +kernel
theorem dX12_overlap_13 : decode cX12_overlap 13 = .ok (.getfield 22, 3) := by decide +kernel
theorem dX12_overlap_16 : decode cX12_overlap 16 = .ok (.iload_n 2, 1) := by decide +kernel
theorem dX12_overlap_17 : decode cX12_overlap 17 = .ok (.iaload, 1) := by decide +kernel
theorem dX12_overlap_18 : decode cX12_overlap 18 = .ok (.iconst 3, 1) := by decide +kernel
theorem dX12_overlap_19 : decode cX12_overlap 19 = .ok (.if_icmp .ne 7, 3) := by decide +kernel
theorem dX12_overlap_22 : decode cX12_overlap 22 = .ok (.iconst 1, 1) := by decide +kernel
theorem dX12_overlap_23 : decode cX12_overlap 23 = .ok (.goto 4, 3) := by decide +kernel
theorem dX12_overlap_26 : decode cX12_overlap 26 = .ok (.iconst 0, 1) := by decide +kernel
theorem dX12_overlap_27 : decode cX12_overlap 27 = .ok (.iadd, 1) := by decide +kernel
theorem dX12_overlap_28 : decode cX12_overlap 28 = .ok (.istore_n 1, 1) := by decide +kernel
theorem dX12_overlap_29 : decode cX12_overlap 29 = .ok (.iinc 2 1, 3) := by decide +kernel
theorem dX12_overlap_32 : decode cX12_overlap 32 = .ok (.goto (-28), 3) := by decide +kernel
theorem dX12_overlap_35 : decode cX12_overlap 35 = .ok (.iload_n 1, 1) := by decide +kernel
theorem dX12_overlap_36 : decode cX12_overlap 36 = .ok (.ireturn, 1) := by decide +kernel
theorem dX12_touch_0 : decode cX12_touch 0 = .ok (.iconst 0, 1) := by decide +kernel
theorem dX12_touch_1 : decode cX12_touch 1 = .ok (.istore_n 1, 1) := by decide +kernel
theorem dX12_touch_2 : decode cX12_touch 2 = .ok (.iconst 0, 1) := by decide +kernel
theorem dX12_touch_3 : decode cX12_touch 3 = .ok (.istore_n 2, 1) := by decide +kernel
theorem dX12_touch_4 : decode cX12_touch 4 = .ok (.iload_n 2, 1) := by decide +kernel
theorem dX12_touch_5 : decode cX12_touch 5 = .ok (.sipush 128, 3) := by decide +kernel
theorem dX12_touch_8 : decode cX12_touch 8 = .ok (.if_icmp .ge 49, 3) := by decide +kernel
theorem dX12_touch_11 : decode cX12_touch 11 = .ok (.aload_n 0, 1) := by decide +kernel
theorem dX12_touch_12 : decode cX12_touch 12 = .ok (.getfield 22, 3) := by decide +kernel
theorem dX12_touch_15 : decode cX12_touch 15 = .ok (.iload_n 2, 1) := by decide +kernel
theorem dX12_touch_16 : decode cX12_touch 16 = .ok (.iaload, 1) := by decide +kernel
theorem dX12_touch_17 : decode cX12_touch 17 = .ok (.iconst 1, 1) := by decide +kernel
theorem dX12_touch_18 : decode cX12_touch 18 = .ok (.iand, 1) := by decide +kernel
theorem dX12_touch_19 : decode cX12_touch 19 = .ok (.iconst 1, 1) := by decide +kernel
theorem dX12_touch_20 : decode cX12_touch 20 = .ok (.if_icmp .ne 31, 3) := by decide +kernel
theorem dX12_touch_23 : decode cX12_touch 23 = .ok (.iload_n 1, 1) := by decide +kernel
theorem dX12_touch_24 : decode cX12_touch 24 = .ok (.aload_n 0, 1) := by decide +kernel
theorem dX12_touch_25 : decode cX12_touch 25 = .ok (.getfield 22, 3) := by decide +kernel
theorem dX12_touch_28 : decode cX12_touch 28 = .ok (.iload_n 2, 1) := by decide +kernel
theorem dX12_touch_29 : decode cX12_touch 29 = .ok (.iconst 1, 1) := by decide +kernel
theorem dX12_touch_30 : decode cX12_touch 30 = .ok (.invokestatic 145, 3) := by decide +kernel
theorem dX12_touch_33 : decode cX12_touch 33 = .ok (.iaload, 1) := by decide +kernel
theorem dX12_touch_34 : decode cX12_touch 34 = .ok (.iconst 1, 1) := by decide +kernel
theorem dX12_touch_35 : decode cX12_touch 35 = .ok (.ishr, 1) := by decide +kernel
theorem dX12_touch_36 : decode cX12_touch 36 = .ok (.aload_n 0, 1) := by decide +kernel
theorem dX12_touch_37 : decode cX12_touch 37 = .ok (.getfield 22, 3) := by decide +kernel
theorem dX12_touch_40 : decode cX12_touch 40 = .ok (.iload_n 2, 1) := by decide +kernel
theorem dX12_touch_41 : decode cX12_touch 41 = .ok (.iconst (-1), 1) := by decide +kernel
theorem dX12_touch_42 : decode cX12_touch 42 = .ok (.invokestatic 145, 3) := by decide +kernel
theorem dX12_touch_45 : decode cX12_touch 45 = .ok (.iaload, 1) := by decide +kernel
theorem dX12_touch_46 : decode cX12_touch 46 = .ok (.iconst 1, 1) := by decide +kernel
theorem dX12_touch_47 : decode cX12_touch 47 = .ok (.ishr, 1) := by decide +kernel
theorem dX12_touch_48 : decode cX12_touch 48 = .ok (.iadd, 1) := by decide +kernel
theorem dX12_touch_49 : decode cX12_touch 49 = .ok (.iadd, 1) := by decide +kernel
theorem dX12_touch_50 : decode cX12_touch 50 = .ok (.istore_n 1, 1) := by decide +kernel
theorem dX12_touch_51 : decode cX12_touch 51 = .ok (.iinc 2 1, 3) := by decide +kernel
theorem dX12_touch_54 : decode cX12_touch 54 = .ok (.goto (-50), 3) := by decide +kernel
theorem dX12_touch_57 : decode cX12_touch 57 = .ok (.iload_n 1, 1) := by decide +kernel
theorem dX12_touch_58 : decode cX12_touch 58 = .ok (.ireturn, 1) := by decide +kernel
theorem dX12_gapBehind_0 : decode cX12_gapBehind 0 = .ok (.iconst 0, 1) := by decide +kernel
theorem dX12_gapBehind_1 : decode cX12_gapBehind 1 = .ok (.istore_n 2, 1) := by decide +kernel
theorem dX12_gapBehind_2 : decode cX12_gapBehind 2 = .ok (.iload_n 2, 1) := by decide +kernel
theorem dX12_gapBehind_3 : decode cX12_gapBehind 3 = .ok (.iconst 4, 1) := by decide +kernel
theorem dX12_gapBehind_4 : decode cX12_gapBehind 4 = .ok (.if_icmp .ge 24, 3) := by decide +kernel
theorem dX12_gapBehind_7 : decode cX12_gapBehind 7 = .ok (.aload_n 0, 1) := by decide +kernel
theorem dX12_gapBehind_8 : decode cX12_gapBehind 8 = .ok (.getfield 22, 3) := by decide +kernel
theorem dX12_gapBehind_11 : decode cX12_gapBehind 11 = .ok (.iload_n 1, 1) := by decide +kernel
theorem dX12_gapBehind_12 : decode cX12_gapBehind 12 = .ok (.iload_n 2, 1) := by decide +kernel
theorem dX12_gapBehind_13 : decode cX12_gapBehind 13 = .ok (.iconst 1, 1) := by decide +kernel
theorem dX12_gapBehind_14 : decode cX12_gapBehind 14 = .ok (.iadd, 1) := by decide +kernel
theorem dX12_gapBehind_15 : decode cX12_gapBehind 15 = .ok (.invokestatic 145, 3) := by decide +kernel
theorem dX12_gapBehind_18 : decode cX12_gapBehind 18 = .ok (.iaload, 1) := by decide +kernel
theorem dX12_gapBehind_19 : decode cX12_gapBehind 19 = .ok (.ifCond .ne 9, 3) := by decide +kernel
theorem dX12_gapBehind_22 : decode cX12_gapBehind 22 = .ok (.iinc 2 1, 3) := by decide +kernel
theorem dX12_gapBehind_25 : decode cX12_gapBehind 25 = .ok (.goto (-23), 3) := by decide +kernel
theorem dX12_gapBehind_28 : decode cX12_gapBehind 28 = .ok (.iload_n 2, 1) := by decide +kernel
theorem dX12_gapBehind_29 : decode cX12_gapBehind 29 = .ok (.iconst 4, 1) := by decide +kernel
theorem dX12_gapBehind_30 : decode cX12_gapBehind 30 = .ok (.if_icmp .ge 18, 3) := by decide +kernel
theorem dX12_gapBehind_33 : decode cX12_gapBehind 33 = .ok (.aload_n 0, 1) := by decide +kernel
theorem dX12_gapBehind_34 : decode cX12_gapBehind 34 = .ok (.getfield 22, 3) := by decide +kernel
theorem dX12_gapBehind_37 : decode cX12_gapBehind 37 = .ok (.iload_n 1, 1) := by decide +kernel
theorem dX12_gapBehind_38 : decode cX12_gapBehind 38 = .ok (.iload_n 2, 1) := by decide +kernel
theorem dX12_gapBehind_39 : decode cX12_gapBehind 39 = .ok (.iconst 1, 1) := by decide +kernel
theorem dX12_gapBehind_40 : decode cX12_gapBehind 40 = .ok (.iadd, 1) := by decide +kernel
theorem dX12_gapBehind_41 : decode cX12_gapBehind 41 = .ok (.invokestatic 145, 3) := by decide +kernel
theorem dX12_gapBehind_44 : decode cX12_gapBehind 44 = .ok (.iaload, 1) := by decide +kernel
theorem dX12_gapBehind_45 : decode cX12_gapBehind 45 = .ok (.goto 4, 3) := by decide +kernel
theorem dX12_gapBehind_48 : decode cX12_gapBehind 48 = .ok (.iconst 0, 1) := by decide +kernel
theorem dX12_gapBehind_49 : decode cX12_gapBehind 49 = .ok (.istore_n 3, 1) := by decide +kernel
theorem dX12_gapBehind_50 : decode cX12_gapBehind 50 = .ok (.aload_n 0, 1) := by decide +kernel
theorem dX12_gapBehind_51 : decode cX12_gapBehind 51 = .ok (.getfield 22, 3) := by decide +kernel
theorem dX12_gapBehind_54 : decode cX12_gapBehind 54 = .ok (.iload_n 1, 1) := by decide +kernel
theorem dX12_gapBehind_55 : decode cX12_gapBehind 55 = .ok (.iaload, 1) := by decide +kernel
theorem dX12_gapBehind_56 : decode cX12_gapBehind 56 = .ok (.iconst 1, 1) := by decide +kernel
theorem dX12_gapBehind_57 : decode cX12_gapBehind 57 = .ok (.iand, 1) := by decide +kernel
theorem dX12_gapBehind_58 : decode cX12_gapBehind 58 = .ok (.iconst 1, 1) := by decide +kernel
theorem dX12_gapBehind_59 : decode cX12_gapBehind 59 = .ok (.if_icmp .ne 8, 3) := by decide +kernel
theorem dX12_gapBehind_62 : decode cX12_gapBehind 62 = .ok (.iload_n 3, 1) := by decide +kernel
theorem dX12_gapBehind_63 : decode cX12_gapBehind 63 = .ok (.iconst 1, 1) := by decide +kernel
theorem dX12_gapBehind_64 : decode cX12_gapBehind 64 = .ok (.if_icmp .gt 20, 3) := by decide +kernel
theorem dX12_gapBehind_67 : decode cX12_gapBehind 67 = .ok (.aload_n 0, 1) := by decide +kernel
theorem dX12_gapBehind_68 : decode cX12_gapBehind 68 = .ok (.getfield 22, 3) := by decide +kernel
theorem dX12_gapBehind_71 : decode cX12_gapBehind 71 = .ok (.iload_n 1, 1) := by decide +kernel
theorem dX12_gapBehind_72 : decode cX12_gapBehind 72 = .ok (.iaload, 1) := by decide +kernel
theorem dX12_gapBehind_73 : decode cX12_gapBehind 73 = .ok (.iconst 1, 1) := by decide +kernel
theorem dX12_gapBehind_74 : decode cX12_gapBehind 74 = .ok (.if_icmp .le 14, 3) := by decide +kernel
theorem dX12_gapBehind_77 : decode cX12_gapBehind 77 = .ok (.iload_n 3, 1) := by decide +kernel
theorem dX12_gapBehind_78 : decode cX12_gapBehind 78 = .ok (.iconst 1, 1) := by decide +kernel
theorem dX12_gapBehind_79 : decode cX12_gapBehind 79 = .ok (.iand, 1) := by decide +kernel
theorem dX12_gapBehind_80 : decode cX12_gapBehind 80 = .ok (.iconst 1, 1) := by decide +kernel
theorem dX12_gapBehind_81 : decode cX12_gapBehind 81 = .ok (.if_icmp .ne 7, 3) := by decide +kernel
theorem dX12_gapBehind_84 : decode cX12_gapBehind 84 = .ok (.iconst 1, 1) := by decide +kernel
theorem dX12_gapBehind_85 : decode cX12_gapBehind 85 = .ok (.goto 4, 3) := by decide +kernel
theorem dX12_gapBehind_88 : decode cX12_gapBehind 88 = .ok (.iconst 0, 1) := by decide +kernel
theorem dX12_gapBehind_89 : decode cX12_gapBehind 89 = .ok (.istore 4, 2) := by decide +kernel
theorem dX12_gapBehind_91 : decode cX12_gapBehind 91 = .ok (.iload 4, 2) := by decide +kernel
theorem dX12_gapBehind_93 : decode cX12_gapBehind 93 = .ok (.ifCond .eq 16, 3) := by decide +kernel
theorem dX12_gapBehind_96 : decode cX12_gapBehind 96 = .ok (.iload_n 2, 1) := by decide +kernel
theorem dX12_gapBehind_97 : decode cX12_gapBehind 97 = .ok (.ifCond .le 12, 3) := by decide +kernel
theorem dX12_gapBehind_100 : decode cX12_gapBehind 100 = .ok (.iload_n 2, 1) := by decide +kernel
theorem dX12_gapBehind_101 : decode cX12_gapBehind 101 = .ok (.iconst 4, 1) := by decide +kernel
theorem dX12_gapBehind_102 : decode cX12_gapBehind 102 = .ok (.if_icmp .ge 7, 3) := by decide +kernel
theorem dX12_gapBehind_105 : decode cX12_gapBehind 105 = .ok (.iload_n 2, 1) := by decide +kernel
theorem dX12_gapBehind_106 : decode cX12_gapBehind 106 = .ok (.goto 4, 3) := by decide +kernel
theorem dX12_gapBehind_109 : decode cX12_gapBehind 109 = .ok (.iconst 0, 1) := by decide +kernel
theorem dX12_gapBehind_110 : decode cX12_gapBehind 110 = .ok (.ireturn, 1) := by decide +kernel
theorem dX12_gap_0 : decode cX12_gap 0 = .ok (.iconst 0, 1) := by decide +kernel
theorem dX12_gap_1 : decode cX12_gap 1 = .ok (.istore_n 1, 1) := by decide +kernel
theorem dX12_gap_2 : decode cX12_gap 2 = .ok (.iconst 0, 1) := by decide +kernel
theorem dX12_gap_3 : decode cX12_gap 3 = .ok (.istore_n 2, 1) := by decide +kernel
theorem dX12_gap_4 : decode cX12_gap 4 = .ok (.iload_n 2, 1) := by decide +kernel
theorem dX12_gap_5 : decode cX12_gap 5 = .ok (.sipush 128, 3) := by decide +kernel
theorem dX12_gap_8 : decode cX12_gap 8 = .ok (.if_icmp .ge 30, 3) := by decide +kernel
theorem dX12_gap_11 : decode cX12_gap 11 = .ok (.iload_n 1, 1) := by decide +kernel
theorem dX12_gap_12 : decode cX12_gap 12 = .ok (.aload_n 0, 1) := by decide +kernel
theorem dX12_gap_13 : decode cX12_gap 13 = .ok (.getfield 22, 3) := by decide +kernel
theorem dX12_gap_16 : decode cX12_gap 16 = .ok (.iload_n 2, 1) := by decide +kernel
theorem dX12_gap_17 : decode cX12_gap 17 = .ok (.iaload, 1) := by decide +kernel
theorem dX12_gap_18 : decode cX12_gap 18 = .ok (.ifCond .ne 7, 3) := by decide +kernel
theorem dX12_gap_21 : decode cX12_gap 21 = .ok (.iconst 0, 1) := by decide +kernel
theorem dX12_gap_22 : decode cX12_gap 22 = .ok (.goto 8, 3) := by decide +kernel
theorem dX12_gap_25 : decode cX12_gap 25 = .ok (.aload_n 0, 1) := by decide +kernel
theorem dX12_gap_26 : decode cX12_gap 26 = .ok (.iload_n 2, 1) := by decide +kernel
theorem dX12_gap_27 : decode cX12_gap 27 = .ok (.invokevirtual 148, 3) := by decide +kernel
theorem dX12_gap_30 : decode cX12_gap 30 = .ok (.iadd, 1) := by decide +kernel
theorem dX12_gap_31 : decode cX12_gap 31 = .ok (.istore_n 1, 1) := by decide +kernel
theorem dX12_gap_32 : decode cX12_gap 32 = .ok (.iinc 2 1, 3) := by decide +kernel
theorem dX12_gap_35 : decode cX12_gap 35 = .ok (.goto (-31), 3) := by decide +kernel
theorem dX12_gap_38 : decode cX12_gap 38 = .ok (.iload_n 1, 1) := by decide +kernel
theorem dX12_gap_39 : decode cX12_gap 39 = .ok (.ireturn, 1) := by decide +kernel
theorem dX12_cost_0 : decode cX12_cost 0 = .ok (.iconst 3, 1) := by decide +kernel
theorem dX12_cost_1 : decode cX12_cost 1 = .ok (.aload_n 0, 1) := by decide +kernel
theorem dX12_cost_2 : decode cX12_cost 2 = .ok (.invokevirtual 151, 3) := by decide +kernel
theorem dX12_cost_5 : decode cX12_cost 5 = .ok (.imul, 1) := by decide +kernel
theorem dX12_cost_6 : decode cX12_cost 6 = .ok (.aload_n 0, 1) := by decide +kernel
theorem dX12_cost_7 : decode cX12_cost 7 = .ok (.invokevirtual 155, 3) := by decide +kernel
theorem dX12_cost_10 : decode cX12_cost 10 = .ok (.iadd, 1) := by decide +kernel
theorem dX12_cost_11 : decode cX12_cost 11 = .ok (.aload_n 0, 1) := by decide +kernel
theorem dX12_cost_12 : decode cX12_cost 12 = .ok (.invokevirtual 158, 3) := by decide +kernel
theorem dX12_cost_15 : decode cX12_cost 15 = .ok (.isub, 1) := by decide +kernel
theorem dX12_cost_16 : decode cX12_cost 16 = .ok (.ireturn, 1) := by decide +kernel
theorem dX12_isCounted_0 : decode cX12_isCounted 0 = .ok (.aload_n 0, 1) := by decide +kernel
theorem dX12_isCounted_1 : decode cX12_isCounted 1 = .ok (.iload_n 1, 1) := by decide +kernel
theorem dX12_isCounted_2 : decode cX12_isCounted 2 = .ok (.iload_n 2, 1) := by decide +kernel
theorem dX12_isCounted_3 : decode cX12_isCounted 3 = .ok (.iload_n 3, 1) := by decide +kernel
theorem dX12_isCounted_4 : decode cX12_isCounted 4 = .ok (.iload 4, 2) := by decide +kernel
theorem dX12_isCounted_6 : decode cX12_isCounted 6 = .ok (.invokevirtual 161, 3) := by decide +kernel
theorem dX12_isCounted_9 : decode cX12_isCounted 9 = .ok (.ifCond .eq 19, 3) := by decide +kernel
theorem dX12_isCounted_12 : decode cX12_isCounted 12 = .ok (.aload_n 0, 1) := by decide +kernel
theorem dX12_isCounted_13 : decode cX12_isCounted 13 = .ok (.invokevirtual 158, 3) := by decide +kernel
theorem dX12_isCounted_16 : decode cX12_isCounted 16 = .ok (.aload_n 0, 1) := by decide +kernel
theorem dX12_isCounted_17 : decode cX12_isCounted 17 = .ok (.invokevirtual 151, 3) := by decide +kernel
theorem dX12_isCounted_20 : decode cX12_isCounted 20 = .ok (.iadd, 1) := by decide +kernel
theorem dX12_isCounted_21 : decode cX12_isCounted 21 = .ok (.ifCond .le 7, 3) := by decide +kernel
theorem dX12_isCounted_24 : decode cX12_isCounted 24 = .ok (.iconst 1, 1) := by decide +kernel
theorem dX12_isCounted_25 : decode cX12_isCounted 25 = .ok (.goto 4, 3) := by decide +kernel
theorem dX12_isCounted_28 : decode cX12_isCounted 28 = .ok (.iconst 0, 1) := by decide +kernel
theorem dX12_isCounted_29 : decode cX12_isCounted 29 = .ok (.ireturn, 1) := by decide +kernel
theorem dX12_onOf_0 : decode cX12_onOf 0 = .ok (.iconst 0, 1) := by decide +kernel
theorem dX12_onOf_1 : decode cX12_onOf 1 = .ok (.istore 5, 2) := by decide +kernel
theorem dX12_onOf_3 : decode cX12_onOf 3 = .ok (.iconst 0, 1) := by decide +kernel
theorem dX12_onOf_4 : decode cX12_onOf 4 = .ok (.istore 6, 2) := by decide +kernel
theorem dX12_onOf_6 : decode cX12_onOf 6 = .ok (.iload 6, 2) := by decide +kernel
theorem dX12_onOf_8 : decode cX12_onOf 8 = .ok (.aload_n 0, 1) := by decide +kernel
theorem dX12_onOf_9 : decode cX12_onOf 9 = .ok (.getfield 98, 3) := by decide +kernel
theorem dX12_onOf_12 : decode cX12_onOf 12 = .ok (.if_icmp .ge 201, 3) := by decide +kernel
theorem dX12_onOf_15 : decode cX12_onOf 15 = .ok (.iconst 0, 1) := by decide +kernel
theorem dX12_onOf_16 : decode cX12_onOf 16 = .ok (.istore 7, 2) := by decide +kernel
theorem dX12_onOf_18 : decode cX12_onOf 18 = .ok (.iload 7, 2) := by decide +kernel
theorem dX12_onOf_20 : decode cX12_onOf 20 = .ok (.aload_n 0, 1) := by decide +kernel
theorem dX12_onOf_21 : decode cX12_onOf 21 = .ok (.getfield 98, 3) := by decide +kernel
theorem dX12_onOf_24 : decode cX12_onOf 24 = .ok (.if_icmp .ge 183, 3) := by decide +kernel
theorem dX12_onOf_27 : decode cX12_onOf 27 = .ok (.aload_n 0, 1) := by decide +kernel
theorem dX12_onOf_28 : decode cX12_onOf 28 = .ok (.getfield 7, 3) := by decide +kernel
theorem dX12_onOf_31 : decode cX12_onOf 31 = .ok (.aload_n 0, 1) := by decide +kernel
theorem dX12_onOf_32 : decode cX12_onOf 32 = .ok (.getfield 16, 3) := by decide +kernel
theorem dX12_onOf_35 : decode cX12_onOf 35 = .ok (.iload 6, 2) := by decide +kernel
theorem dX12_onOf_37 : decode cX12_onOf 37 = .ok (.iaload, 1) := by decide +kernel
theorem dX12_onOf_38 : decode cX12_onOf 38 = .ok (.iaload, 1) := by decide +kernel
theorem dX12_onOf_39 : decode cX12_onOf 39 = .ok (.iload_n 1, 1) := by decide +kernel
theorem dX12_onOf_40 : decode cX12_onOf 40 = .ok (.if_icmp .ne 40, 3) := by decide +kernel
theorem dX12_onOf_43 : decode cX12_onOf 43 = .ok (.aload_n 0, 1) := by decide +kernel
theorem dX12_onOf_44 : decode cX12_onOf 44 = .ok (.getfield 7, 3) := by decide +kernel
theorem dX12_onOf_47 : decode cX12_onOf 47 = .ok (.aload_n 0, 1) := by decide +kernel
theorem dX12_onOf_48 : decode cX12_onOf 48 = .ok (.getfield 16, 3) := by decide +kernel
theorem dX12_onOf_51 : decode cX12_onOf 51 = .ok (.iload 7, 2) := by decide +kernel
theorem dX12_onOf_53 : decode cX12_onOf 53 = .ok (.iaload, 1) := by decide +kernel
theorem dX12_onOf_54 : decode cX12_onOf 54 = .ok (.iaload, 1) := by decide +kernel
theorem dX12_onOf_55 : decode cX12_onOf 55 = .ok (.iload_n 2, 1) := by decide +kernel
theorem dX12_onOf_56 : decode cX12_onOf 56 = .ok (.if_icmp .ne 24, 3) := by decide +kernel
theorem dX12_onOf_59 : decode cX12_onOf 59 = .ok (.aload_n 0, 1) := by decide +kernel
theorem dX12_onOf_60 : decode cX12_onOf 60 = .ok (.getfield 13, 3) := by decide +kernel
theorem dX12_onOf_63 : decode cX12_onOf 63 = .ok (.iload 6, 2) := by decide +kernel
theorem dX12_onOf_65 : decode cX12_onOf 65 = .ok (.iaload, 1) := by decide +kernel
theorem dX12_onOf_66 : decode cX12_onOf 66 = .ok (.aload_n 0, 1) := by decide +kernel
theorem dX12_onOf_67 : decode cX12_onOf 67 = .ok (.getfield 13, 3) := by decide +kernel
theorem dX12_onOf_70 : decode cX12_onOf 70 = .ok (.iload 7, 2) := by decide +kernel
theorem dX12_onOf_72 : decode cX12_onOf 72 = .ok (.iaload, 1) := by decide +kernel
theorem dX12_onOf_73 : decode cX12_onOf 73 = .ok (.if_icmp .ne 7, 3) := by decide +kernel
theorem dX12_onOf_76 : decode cX12_onOf 76 = .ok (.iconst 1, 1) := by decide +kernel
theorem dX12_onOf_77 : decode cX12_onOf 77 = .ok (.goto 4, 3) := by decide +kernel
theorem dX12_onOf_80 : decode cX12_onOf 80 = .ok (.iconst 0, 1) := by decide +kernel
theorem dX12_onOf_81 : decode cX12_onOf 81 = .ok (.istore 8, 2) := by decide +kernel
theorem dX12_onOf_83 : decode cX12_onOf 83 = .ok (.iload 8, 2) := by decide +kernel
theorem dX12_onOf_85 : decode cX12_onOf 85 = .ok (.ifCond .eq 116, 3) := by decide +kernel
theorem dX12_onOf_88 : decode cX12_onOf 88 = .ok (.aload_n 0, 1) := by decide +kernel
theorem dX12_onOf_89 : decode cX12_onOf 89 = .ok (.getfield 16, 3) := by decide +kernel
theorem dX12_onOf_92 : decode cX12_onOf 92 = .ok (.iload 7, 2) := by decide +kernel
theorem dX12_onOf_94 : decode cX12_onOf 94 = .ok (.iaload, 1) := by decide +kernel
theorem dX12_onOf_95 : decode cX12_onOf 95 = .ok (.istore 9, 2) := by decide +kernel
theorem dX12_onOf_97 : decode cX12_onOf 97 = .ok (.bipush 16, 2) := by decide +kernel
theorem dX12_onOf_99 : decode cX12_onOf 99 = .ok (.iload 9, 2) := by decide +kernel
theorem dX12_onOf_101 : decode cX12_onOf 101 = .ok (.bipush 16, 2) := by decide +kernel
theorem dX12_onOf_103 : decode cX12_onOf 103 = .ok (.idiv, 1) := by decide +kernel
theorem dX12_onOf_104 : decode cX12_onOf 104 = .ok (.iload_n 3, 1) := by decide +kernel
theorem dX12_onOf_105 : decode cX12_onOf 105 = .ok (.iadd, 1) := by decide +kernel
theorem dX12_onOf_106 : decode cX12_onOf 106 = .ok (.imul, 1) := by decide +kernel
theorem dX12_onOf_107 : decode cX12_onOf 107 = .ok (.iload 9, 2) := by decide +kernel
theorem dX12_onOf_109 : decode cX12_onOf 109 = .ok (.bipush 16, 2) := by decide +kernel
theorem dX12_onOf_111 : decode cX12_onOf 111 = .ok (.irem, 1) := by decide +kernel
theorem dX12_onOf_112 : decode cX12_onOf 112 = .ok (.iload 4, 2) := by decide +kernel
theorem dX12_onOf_114 : decode cX12_onOf 114 = .ok (.iadd, 1) := by decide +kernel
theorem dX12_onOf_115 : decode cX12_onOf 115 = .ok (.bipush 16, 2) := by decide +kernel
theorem dX12_onOf_117 : decode cX12_onOf 117 = .ok (.irem, 1) := by decide +kernel
theorem dX12_onOf_118 : decode cX12_onOf 118 = .ok (.iadd, 1) := by decide +kernel
theorem dX12_onOf_119 : decode cX12_onOf 119 = .ok (.istore 10, 2) := by decide +kernel
theorem dX12_onOf_121 : decode cX12_onOf 121 = .ok (.iload 10, 2) := by decide +kernel
theorem dX12_onOf_123 : decode cX12_onOf 123 = .ok (.aload_n 0, 1) := by decide +kernel
theorem dX12_onOf_124 : decode cX12_onOf 124 = .ok (.getfield 16, 3) := by decide +kernel
theorem dX12_onOf_127 : decode cX12_onOf 127 = .ok (.iload 6, 2) := by decide +kernel
theorem dX12_onOf_129 : decode cX12_onOf 129 = .ok (.iaload, 1) := by decide +kernel
theorem dX12_onOf_130 : decode cX12_onOf 130 = .ok (.iconst 1, 1) := by decide +kernel
theorem dX12_onOf_131 : decode cX12_onOf 131 = .ok (.invokestatic 145, 3) := by decide +kernel
theorem dX12_onOf_134 : decode cX12_onOf 134 = .ok (.if_icmp .eq 19, 3) := by decide +kernel
theorem dX12_onOf_137 : decode cX12_onOf 137 = .ok (.iload 10, 2) := by decide +kernel
theorem dX12_onOf_139 : decode cX12_onOf 139 = .ok (.aload_n 0, 1) := by decide +kernel
theorem dX12_onOf_140 : decode cX12_onOf 140 = .ok (.getfield 16, 3) := by decide +kernel
theorem dX12_onOf_143 : decode cX12_onOf 143 = .ok (.iload 6, 2) := by decide +kernel
theorem dX12_onOf_145 : decode cX12_onOf 145 = .ok (.iaload, 1) := by decide +kernel
theorem dX12_onOf_146 : decode cX12_onOf 146 = .ok (.iconst (-1), 1) := by decide +kernel
theorem dX12_onOf_147 : decode cX12_onOf 147 = .ok (.invokestatic 145, 3) := by decide +kernel
theorem dX12_onOf_150 : decode cX12_onOf 150 = .ok (.if_icmp .ne 7, 3) := by decide +kernel
theorem dX12_onOf_153 : decode cX12_onOf 153 = .ok (.iconst 1, 1) := by decide +kernel
theorem dX12_onOf_154 : decode cX12_onOf 154 = .ok (.goto 4, 3) := by decide +kernel
theorem dX12_onOf_157 : decode cX12_onOf 157 = .ok (.iconst 0, 1) := by decide +kernel
theorem dX12_onOf_158 : decode cX12_onOf 158 = .ok (.istore 11, 2) := by decide +kernel
theorem dX12_onOf_160 : decode cX12_onOf 160 = .ok (.iload 5, 2) := by decide +kernel
theorem dX12_onOf_162 : decode cX12_onOf 162 = .ok (.iload 11, 2) := by decide +kernel
theorem dX12_onOf_164 : decode cX12_onOf 164 = .ok (.ifCond .ne 7, 3) := by decide +kernel
theorem dX12_onOf_167 : decode cX12_onOf 167 = .ok (.iconst 0, 1) := by decide +kernel
theorem dX12_onOf_168 : decode cX12_onOf 168 = .ok (.goto 30, 3) := by decide +kernel
theorem dX12_onOf_171 : decode cX12_onOf 171 = .ok (.aload_n 0, 1) := by decide +kernel
theorem dX12_onOf_172 : decode cX12_onOf 172 = .ok (.iload 6, 2) := by decide +kernel
theorem dX12_onOf_174 : decode cX12_onOf 174 = .ok (.iload 7, 2) := by decide +kernel
theorem dX12_onOf_176 : decode cX12_onOf 176 = .ok (.invokevirtual 141, 3) := by decide +kernel
theorem dX12_onOf_179 : decode cX12_onOf 179 = .ok (.ifCond .eq 12, 3) := by decide +kernel
theorem dX12_onOf_182 : decode cX12_onOf 182 = .ok (.aload_n 0, 1) := by decide +kernel
theorem dX12_onOf_183 : decode cX12_onOf 183 = .ok (.iload 6, 2) := by decide +kernel
theorem dX12_onOf_185 : decode cX12_onOf 185 = .ok (.invokevirtual 134, 3) := by decide +kernel
theorem dX12_onOf_188 : decode cX12_onOf 188 = .ok (.goto 10, 3) := by decide +kernel
theorem dX12_onOf_191 : decode cX12_onOf 191 = .ok (.aload_n 0, 1) := by decide +kernel
theorem dX12_onOf_192 : decode cX12_onOf 192 = .ok (.iload 6, 2) := by decide +kernel
theorem dX12_onOf_194 : decode cX12_onOf 194 = .ok (.invokevirtual 134, 3) := by decide +kernel
theorem dX12_onOf_197 : decode cX12_onOf 197 = .ok (.ineg, 1) := by decide +kernel
theorem dX12_onOf_198 : decode cX12_onOf 198 = .ok (.iadd, 1) := by decide +kernel
theorem dX12_onOf_199 : decode cX12_onOf 199 = .ok (.istore 5, 2) := by decide +kernel
theorem dX12_onOf_201 : decode cX12_onOf 201 = .ok (.iinc 7 1, 3) := by decide +kernel
theorem dX12_onOf_204 : decode cX12_onOf 204 = .ok (.goto (-186), 3) := by decide +kernel
theorem dX12_onOf_207 : decode cX12_onOf 207 = .ok (.iinc 6 1, 3) := by decide +kernel
theorem dX12_onOf_210 : decode cX12_onOf 210 = .ok (.goto (-204), 3) := by decide +kernel
theorem dX12_onOf_213 : decode cX12_onOf 213 = .ok (.iload 5, 2) := by decide +kernel
theorem dX12_onOf_215 : decode cX12_onOf 215 = .ok (.ireturn, 1) := by decide +kernel
theorem dX12_isPair_0 : decode cX12_isPair 0 = .ok (.iload_n 0, 1) := by decide +kernel
theorem dX12_isPair_1 : decode cX12_isPair 1 = .ok (.invokestatic 101, 3) := by decide +kernel
theorem dX12_isPair_4 : decode cX12_isPair 4 = .ok (.ifCond .eq 19, 3) := by decide +kernel
theorem dX12_isPair_7 : decode cX12_isPair 7 = .ok (.iload_n 1, 1) := by decide +kernel
theorem dX12_isPair_8 : decode cX12_isPair 8 = .ok (.invokestatic 101, 3) := by decide +kernel
theorem dX12_isPair_11 : decode cX12_isPair 11 = .ok (.ifCond .eq 12, 3) := by decide +kernel
theorem dX12_isPair_14 : decode cX12_isPair 14 = .ok (.iload_n 0, 1) := by decide +kernel
theorem dX12_isPair_15 : decode cX12_isPair 15 = .ok (.iload_n 1, 1) := by decide +kernel
theorem dX12_isPair_16 : decode cX12_isPair 16 = .ok (.if_icmp .eq 7, 3) := by decide +kernel
theorem dX12_isPair_19 : decode cX12_isPair 19 = .ok (.iconst 1, 1) := by decide +kernel
theorem dX12_isPair_20 : decode cX12_isPair 20 = .ok (.goto 4, 3) := by decide +kernel
theorem dX12_isPair_23 : decode cX12_isPair 23 = .ok (.iconst 0, 1) := by decide +kernel
theorem dX12_isPair_24 : decode cX12_isPair 24 = .ok (.ireturn, 1) := by decide +kernel
theorem dX12_isPlace_0 : decode cX12_isPlace 0 = .ok (.iload_n 0, 1) := by decide +kernel
theorem dX12_isPlace_1 : decode cX12_isPlace 1 = .ok (.i2l, 1) := by decide +kernel
theorem dX12_isPlace_2 : decode cX12_isPlace 2 = .ok (.ldc2_w 165, 3) := by decide +kernel
theorem dX12_isPlace_5 : decode cX12_isPlace 5 = .ok (.ldc2_w 112, 3) := by decide +kernel
theorem dX12_isPlace_8 : decode cX12_isPlace 8 = .ok (.invokestatic 92, 3) := by decide +kernel
theorem dX12_isPlace_11 : decode cX12_isPlace 11 = .ok (.ifCond .eq 19, 3) := by decide +kernel
theorem dX12_isPlace_14 : decode cX12_isPlace 14 = .ok (.iload_n 1, 1) := by decide +kernel
theorem dX12_isPlace_15 : decode cX12_isPlace 15 = .ok (.i2l, 1) := by decide +kernel
theorem dX12_isPlace_16 : decode cX12_isPlace 16 = .ok (.lconst 0, 1) := by decide +kernel
theorem dX12_isPlace_17 : decode cX12_isPlace 17 = .ok (.ldc2_w 114, 3) := by decide +kernel
theorem dX12_isPlace_20 : decode cX12_isPlace 20 = .ok (.invokestatic 92, 3) := by decide +kernel
theorem dX12_isPlace_23 : decode cX12_isPlace 23 = .ok (.ifCond .eq 7, 3) := by decide +kernel
theorem dX12_isPlace_26 : decode cX12_isPlace 26 = .ok (.iconst 1, 1) := by decide +kernel
theorem dX12_isPlace_27 : decode cX12_isPlace 27 = .ok (.goto 4, 3) := by decide +kernel
theorem dX12_isPlace_30 : decode cX12_isPlace 30 = .ok (.iconst 0, 1) := by decide +kernel
theorem dX12_isPlace_31 : decode cX12_isPlace 31 = .ok (.ireturn, 1) := by decide +kernel
theorem dX12_put_0 : decode cX12_put 0 = .ok (.iload_n 1, 1) := by decide +kernel
theorem dX12_put_1 : decode cX12_put 1 = .ok (.iload_n 2, 1) := by decide +kernel
theorem dX12_put_2 : decode cX12_put 2 = .ok (.invokestatic 167, 3) := by decide +kernel
theorem dX12_put_5 : decode cX12_put 5 = .ok (.ifCond .ne 6, 3) := by decide +kernel
theorem dX12_put_8 : decode cX12_put 8 = .ok (.ldc 170, 2) := by decide +kernel
theorem dX12_put_10 : decode cX12_put 10 = .ok (.ireturn, 1) := by decide +kernel
theorem dX12_put_11 : decode cX12_put 11 = .ok (.iload_n 3, 1) := by decide +kernel
theorem dX12_put_12 : decode cX12_put 12 = .ok (.iload 4, 2) := by decide +kernel
theorem dX12_put_14 : decode cX12_put 14 = .ok (.invokestatic 171, 3) := by decide +kernel
theorem dX12_put_17 : decode cX12_put 17 = .ok (.ifCond .eq 16, 3) := by decide +kernel
theorem dX12_put_20 : decode cX12_put 20 = .ok (.iload 5, 2) := by decide +kernel
theorem dX12_put_22 : decode cX12_put 22 = .ok (.i2l, 1) := by decide +kernel
theorem dX12_put_23 : decode cX12_put 23 = .ok (.lconst 0, 1) := by decide +kernel
theorem dX12_put_24 : decode cX12_put 24 = .ok (.ldc2_w 90, 3) := by decide +kernel
theorem dX12_put_27 : decode cX12_put 27 = .ok (.invokestatic 92, 3) := by decide +kernel
theorem dX12_put_30 : decode cX12_put 30 = .ok (.ifCond .ne 6, 3) := by decide +kernel
theorem dX12_put_33 : decode cX12_put 33 = .ok (.ldc 174, 2) := by decide +kernel
theorem dX12_put_35 : decode cX12_put 35 = .ok (.ireturn, 1) := by decide +kernel
theorem dX12_put_36 : decode cX12_put 36 = .ok (.iload 5, 2) := by decide +kernel
theorem dX12_put_38 : decode cX12_put 38 = .ok (.iconst 4, 1) := by decide +kernel
theorem dX12_put_39 : decode cX12_put 39 = .ok (.if_icmp .ne 21, 3) := by decide +kernel
theorem dX12_put_42 : decode cX12_put 42 = .ok (.aload_n 0, 1) := by decide +kernel
theorem dX12_put_43 : decode cX12_put 43 = .ok (.iload_n 1, 1) := by decide +kernel
theorem dX12_put_44 : decode cX12_put 44 = .ok (.iload_n 2, 1) := by decide +kernel
theorem dX12_put_45 : decode cX12_put 45 = .ok (.iload_n 3, 1) := by decide +kernel
theorem dX12_put_46 : decode cX12_put 46 = .ok (.iload 4, 2) := by decide +kernel
theorem dX12_put_48 : decode cX12_put 48 = .ok (.invokevirtual 175, 3) := by decide +kernel
theorem dX12_put_51 : decode cX12_put 51 = .ok (.ifCond .eq 7, 3) := by decide +kernel
theorem dX12_put_54 : decode cX12_put 54 = .ok (.iconst 1, 1) := by decide +kernel
theorem dX12_put_55 : decode cX12_put 55 = .ok (.goto 4, 3) := by decide +kernel
theorem dX12_put_58 : decode cX12_put 58 = .ok (.iconst 0, 1) := by decide +kernel
theorem dX12_put_59 : decode cX12_put 59 = .ok (.ireturn, 1) := by decide +kernel
theorem dX12_put_60 : decode cX12_put 60 = .ok (.aload_n 0, 1) := by decide +kernel
theorem dX12_put_61 : decode cX12_put 61 = .ok (.iload_n 1, 1) := by decide +kernel
theorem dX12_put_62 : decode cX12_put 62 = .ok (.iload_n 2, 1) := by decide +kernel
theorem dX12_put_63 : decode cX12_put 63 = .ok (.iload_n 3, 1) := by decide +kernel
theorem dX12_put_64 : decode cX12_put 64 = .ok (.iload 4, 2) := by decide +kernel
theorem dX12_put_66 : decode cX12_put 66 = .ok (.invokevirtual 161, 3) := by decide +kernel
theorem dX12_put_69 : decode cX12_put 69 = .ok (.ifCond .ne 6, 3) := by decide +kernel
theorem dX12_put_72 : decode cX12_put 72 = .ok (.ldc 178, 2) := by decide +kernel
theorem dX12_put_74 : decode cX12_put 74 = .ok (.ireturn, 1) := by decide +kernel
theorem dX12_put_75 : decode cX12_put 75 = .ok (.iload 5, 2) := by decide +kernel
theorem dX12_put_77 : decode cX12_put 77 = .ok (.ifCond .ne 10, 3) := by decide +kernel
theorem dX12_put_80 : decode cX12_put 80 = .ok (.aload_n 0, 1) := by decide +kernel
theorem dX12_put_81 : decode cX12_put 81 = .ok (.invokevirtual 151, 3) := by decide +kernel
theorem dX12_put_84 : decode cX12_put 84 = .ok (.goto 51, 3) := by decide +kernel
theorem dX12_put_87 : decode cX12_put 87 = .ok (.iload 5, 2) := by decide +kernel
theorem dX12_put_89 : decode cX12_put 89 = .ok (.iconst 1, 1) := by decide +kernel
theorem dX12_put_90 : decode cX12_put 90 = .ok (.if_icmp .ne 10, 3) := by decide +kernel
theorem dX12_put_93 : decode cX12_put 93 = .ok (.aload_n 0, 1) := by decide +kernel
theorem dX12_put_94 : decode cX12_put 94 = .ok (.invokevirtual 158, 3) := by decide +kernel
theorem dX12_put_97 : decode cX12_put 97 = .ok (.goto 38, 3) := by decide +kernel
theorem dX12_put_100 : decode cX12_put 100 = .ok (.iload 5, 2) := by decide +kernel
theorem dX12_put_102 : decode cX12_put 102 = .ok (.iconst 2, 1) := by decide +kernel
theorem dX12_put_103 : decode cX12_put 103 = .ok (.if_icmp .ne 10, 3) := by decide +kernel
theorem dX12_put_106 : decode cX12_put 106 = .ok (.aload_n 0, 1) := by decide +kernel
theorem dX12_put_107 : decode cX12_put 107 = .ok (.invokevirtual 155, 3) := by decide +kernel
theorem dX12_put_110 : decode cX12_put 110 = .ok (.goto 25, 3) := by decide +kernel
theorem dX12_put_113 : decode cX12_put 113 = .ok (.iload 5, 2) := by decide +kernel
theorem dX12_put_115 : decode cX12_put 115 = .ok (.iconst 3, 1) := by decide +kernel
theorem dX12_put_116 : decode cX12_put 116 = .ok (.if_icmp .ne 10, 3) := by decide +kernel
theorem dX12_put_119 : decode cX12_put 119 = .ok (.aload_n 0, 1) := by decide +kernel
theorem dX12_put_120 : decode cX12_put 120 = .ok (.invokevirtual 179, 3) := by decide +kernel
theorem dX12_put_123 : decode cX12_put 123 = .ok (.goto 12, 3) := by decide +kernel
theorem dX12_put_126 : decode cX12_put 126 = .ok (.aload_n 0, 1) := by decide +kernel
theorem dX12_put_127 : decode cX12_put 127 = .ok (.iload_n 1, 1) := by decide +kernel
theorem dX12_put_128 : decode cX12_put 128 = .ok (.iload_n 2, 1) := by decide +kernel
theorem dX12_put_129 : decode cX12_put 129 = .ok (.iload_n 3, 1) := by decide +kernel
theorem dX12_put_130 : decode cX12_put 130 = .ok (.iload 4, 2) := by decide +kernel
theorem dX12_put_132 : decode cX12_put 132 = .ok (.invokevirtual 182, 3) := by decide +kernel
theorem dX12_put_135 : decode cX12_put 135 = .ok (.ireturn, 1) := by decide +kernel
theorem dX12_fit_0 : decode cX12_fit 0 = .ok (.iload_n 1, 1) := by decide +kernel
theorem dX12_fit_1 : decode cX12_fit 1 = .ok (.iload_n 2, 1) := by decide +kernel
theorem dX12_fit_2 : decode cX12_fit 2 = .ok (.invokestatic 167, 3) := by decide +kernel
theorem dX12_fit_5 : decode cX12_fit 5 = .ok (.ifCond .ne 6, 3) := by decide +kernel
theorem dX12_fit_8 : decode cX12_fit 8 = .ok (.bipush (-101), 2) := by decide +kernel
theorem dX12_fit_10 : decode cX12_fit 10 = .ok (.ireturn, 1) := by decide +kernel
theorem dX12_fit_11 : decode cX12_fit 11 = .ok (.iload_n 3, 1) := by decide +kernel
theorem dX12_fit_12 : decode cX12_fit 12 = .ok (.i2l, 1) := by decide +kernel
theorem dX12_fit_13 : decode cX12_fit 13 = .ok (.lconst 0, 1) := by decide +kernel
theorem dX12_fit_14 : decode cX12_fit 14 = .ok (.ldc2_w 118, 3) := by decide +kernel
theorem dX12_fit_17 : decode cX12_fit 17 = .ok (.invokestatic 92, 3) := by decide +kernel
theorem dX12_fit_20 : decode cX12_fit 20 = .ok (.ifCond .ne 6, 3) := by decide +kernel
theorem dX12_fit_23 : decode cX12_fit 23 = .ok (.bipush (-102), 2) := by decide +kernel
theorem dX12_fit_25 : decode cX12_fit 25 = .ok (.ireturn, 1) := by decide +kernel
theorem dX12_fit_26 : decode cX12_fit 26 = .ok (.iconst 0, 1) := by decide +kernel
theorem dX12_fit_27 : decode cX12_fit 27 = .ok (.istore 4, 2) := by decide +kernel
theorem dX12_fit_29 : decode cX12_fit 29 = .ok (.iconst (-1), 1) := by decide +kernel
theorem dX12_fit_30 : decode cX12_fit 30 = .ok (.istore 5, 2) := by decide +kernel
theorem dX12_fit_32 : decode cX12_fit 32 = .ok (.iconst (-1), 1) := by decide +kernel
theorem dX12_fit_33 : decode cX12_fit 33 = .ok (.istore 6, 2) := by decide +kernel
theorem dX12_fit_35 : decode cX12_fit 35 = .ok (.iconst 0, 1) := by decide +kernel
theorem dX12_fit_36 : decode cX12_fit 36 = .ok (.istore 7, 2) := by decide +kernel
theorem dX12_fit_38 : decode cX12_fit 38 = .ok (.bipush (-7), 2) := by decide +kernel
theorem dX12_fit_40 : decode cX12_fit 40 = .ok (.istore 8, 2) := by decide +kernel
theorem dX12_fit_42 : decode cX12_fit 42 = .ok (.iload 8, 2) := by decide +kernel
theorem dX12_fit_44 : decode cX12_fit 44 = .ok (.bipush 8, 2) := by decide +kernel
theorem dX12_fit_46 : decode cX12_fit 46 = .ok (.if_icmp .ge 74, 3) := by decide +kernel
theorem dX12_fit_49 : decode cX12_fit 49 = .ok (.iconst 0, 1) := by decide +kernel
theorem dX12_fit_50 : decode cX12_fit 50 = .ok (.istore 9, 2) := by decide +kernel
theorem dX12_fit_52 : decode cX12_fit 52 = .ok (.iload 9, 2) := by decide +kernel
theorem dX12_fit_54 : decode cX12_fit 54 = .ok (.bipush 16, 2) := by decide +kernel
theorem dX12_fit_56 : decode cX12_fit 56 = .ok (.if_icmp .ge 58, 3) := by decide +kernel
theorem dX12_fit_59 : decode cX12_fit 59 = .ok (.aload_n 0, 1) := by decide +kernel
theorem dX12_fit_60 : decode cX12_fit 60 = .ok (.iload_n 1, 1) := by decide +kernel
theorem dX12_fit_61 : decode cX12_fit 61 = .ok (.iload_n 2, 1) := by decide +kernel
theorem dX12_fit_62 : decode cX12_fit 62 = .ok (.iload 8, 2) := by decide +kernel
theorem dX12_fit_64 : decode cX12_fit 64 = .ok (.iload 9, 2) := by decide +kernel
theorem dX12_fit_66 : decode cX12_fit 66 = .ok (.invokevirtual 175, 3) := by decide +kernel
theorem dX12_fit_69 : decode cX12_fit 69 = .ok (.ifCond .eq 39, 3) := by decide +kernel
theorem dX12_fit_72 : decode cX12_fit 72 = .ok (.aload_n 0, 1) := by decide +kernel
theorem dX12_fit_73 : decode cX12_fit 73 = .ok (.invokevirtual 179, 3) := by decide +kernel
theorem dX12_fit_76 : decode cX12_fit 76 = .ok (.istore 10, 2) := by decide +kernel
theorem dX12_fit_78 : decode cX12_fit 78 = .ok (.iload 4, 2) := by decide +kernel
theorem dX12_fit_80 : decode cX12_fit 80 = .ok (.ifCond .eq 10, 3) := by decide +kernel
theorem dX12_fit_83 : decode cX12_fit 83 = .ok (.iload 10, 2) := by decide +kernel
theorem dX12_fit_85 : decode cX12_fit 85 = .ok (.iload 7, 2) := by decide +kernel
theorem dX12_fit_87 : decode cX12_fit 87 = .ok (.if_icmp .ge 18, 3) := by decide +kernel
theorem dX12_fit_90 : decode cX12_fit 90 = .ok (.iload 8, 2) := by decide +kernel
theorem dX12_fit_92 : decode cX12_fit 92 = .ok (.bipush 7, 2) := by decide +kernel
theorem dX12_fit_94 : decode cX12_fit 94 = .ok (.iadd, 1) := by decide +kernel
theorem dX12_fit_95 : decode cX12_fit 95 = .ok (.istore 5, 2) := by decide +kernel
theorem dX12_fit_97 : decode cX12_fit 97 = .ok (.iload 9, 2) := by decide +kernel
theorem dX12_fit_99 : decode cX12_fit 99 = .ok (.istore 6, 2) := by decide +kernel
theorem dX12_fit_101 : decode cX12_fit 101 = .ok (.iload 10, 2) := by decide +kernel
theorem dX12_fit_103 : decode cX12_fit 103 = .ok (.istore 7, 2) := by decide +kernel
theorem dX12_fit_105 : decode cX12_fit 105 = .ok (.iinc 4 1, 3) := by decide +kernel
theorem dX12_fit_108 : decode cX12_fit 108 = .ok (.iinc 9 1, 3) := by decide +kernel
theorem dX12_fit_111 : decode cX12_fit 111 = .ok (.goto (-59), 3) := by decide +kernel
theorem dX12_fit_114 : decode cX12_fit 114 = .ok (.iinc 8 1, 3) := by decide +kernel
theorem dX12_fit_117 : decode cX12_fit 117 = .ok (.goto (-75), 3) := by decide +kernel
theorem dX12_fit_120 : decode cX12_fit 120 = .ok (.iload_n 3, 1) := by decide +kernel
theorem dX12_fit_121 : decode cX12_fit 121 = .ok (.ifCond .ne 8, 3) := by decide +kernel
theorem dX12_fit_124 : decode cX12_fit 124 = .ok (.iload 5, 2) := by decide +kernel
theorem dX12_fit_126 : decode cX12_fit 126 = .ok (.goto 15, 3) := by decide +kernel
theorem dX12_fit_129 : decode cX12_fit 129 = .ok (.iload_n 3, 1) := by decide +kernel
theorem dX12_fit_130 : decode cX12_fit 130 = .ok (.iconst 1, 1) := by decide +kernel
theorem dX12_fit_131 : decode cX12_fit 131 = .ok (.if_icmp .ne 8, 3) := by decide +kernel
theorem dX12_fit_134 : decode cX12_fit 134 = .ok (.iload 6, 2) := by decide +kernel
theorem dX12_fit_136 : decode cX12_fit 136 = .ok (.goto 5, 3) := by decide +kernel
theorem dX12_fit_139 : decode cX12_fit 139 = .ok (.iload 4, 2) := by decide +kernel
theorem dX12_fit_141 : decode cX12_fit 141 = .ok (.ireturn, 1) := by decide +kernel
theorem dX12_common_0 : decode cX12_common 0 = .ok (.iload_n 0, 1) := by decide +kernel
theorem dX12_common_1 : decode cX12_common 1 = .ok (.istore_n 2, 1) := by decide +kernel
theorem dX12_common_2 : decode cX12_common 2 = .ok (.iload_n 1, 1) := by decide +kernel
theorem dX12_common_3 : decode cX12_common 3 = .ok (.istore_n 3, 1) := by decide +kernel
theorem dX12_common_4 : decode cX12_common 4 = .ok (.iload_n 2, 1) := by decide +kernel
theorem dX12_common_5 : decode cX12_common 5 = .ok (.ifCond .eq 16, 3) := by decide +kernel
theorem dX12_common_8 : decode cX12_common 8 = .ok (.iload_n 3, 1) := by decide +kernel
theorem dX12_common_9 : decode cX12_common 9 = .ok (.iload_n 2, 1) := by decide +kernel
theorem dX12_common_10 : decode cX12_common 10 = .ok (.irem, 1) := by decide +kernel
theorem dX12_common_11 : decode cX12_common 11 = .ok (.istore 4, 2) := by decide +kernel
theorem dX12_common_13 : decode cX12_common 13 = .ok (.iload_n 2, 1) := by decide +kernel
theorem dX12_common_14 : decode cX12_common 14 = .ok (.istore_n 3, 1) := by decide +kernel
theorem dX12_common_15 : decode cX12_common 15 = .ok (.iload 4, 2) := by decide +kernel
theorem dX12_common_17 : decode cX12_common 17 = .ok (.istore_n 2, 1) := by decide +kernel
theorem dX12_common_18 : decode cX12_common 18 = .ok (.goto (-14), 3) := by decide +kernel
theorem dX12_common_21 : decode cX12_common 21 = .ok (.iload_n 3, 1) := by decide +kernel
theorem dX12_common_22 : decode cX12_common 22 = .ok (.ireturn, 1) := by decide +kernel
theorem dX12_chance_0 : decode cX12_chance 0 = .ok (.iload_n 1, 1) := by decide +kernel
theorem dX12_chance_1 : decode cX12_chance 1 = .ok (.iload_n 2, 1) := by decide +kernel
theorem dX12_chance_2 : decode cX12_chance 2 = .ok (.invokestatic 167, 3) := by decide +kernel
theorem dX12_chance_5 : decode cX12_chance 5 = .ok (.ifCond .ne 6, 3) := by decide +kernel
theorem dX12_chance_8 : decode cX12_chance 8 = .ok (.bipush (-101), 2) := by decide +kernel
theorem dX12_chance_10 : decode cX12_chance 10 = .ok (.ireturn, 1) := by decide +kernel
theorem dX12_chance_11 : decode cX12_chance 11 = .ok (.iload_n 3, 1) := by decide +kernel
theorem dX12_chance_12 : decode cX12_chance 12 = .ok (.iload 4, 2) := by decide +kernel
theorem dX12_chance_14 : decode cX12_chance 14 = .ok (.invokestatic 171, 3) := by decide +kernel
theorem dX12_chance_17 : decode cX12_chance 17 = .ok (.ifCond .eq 14, 3) := by decide +kernel
theorem dX12_chance_20 : decode cX12_chance 20 = .ok (.iload 5, 2) := by decide +kernel
theorem dX12_chance_22 : decode cX12_chance 22 = .ok (.i2l, 1) := by decide +kernel
theorem dX12_chance_23 : decode cX12_chance 23 = .ok (.lconst 0, 1) := by decide +kernel
theorem dX12_chance_24 : decode cX12_chance 24 = .ok (.lconst 1, 1) := by decide +kernel
theorem dX12_chance_25 : decode cX12_chance 25 = .ok (.invokestatic 92, 3) := by decide +kernel
theorem dX12_chance_28 : decode cX12_chance 28 = .ok (.ifCond .ne 6, 3) := by decide +kernel
theorem dX12_chance_31 : decode cX12_chance 31 = .ok (.bipush (-102), 2) := by decide +kernel
theorem dX12_chance_33 : decode cX12_chance 33 = .ok (.ireturn, 1) := by decide +kernel
theorem dX12_chance_34 : decode cX12_chance 34 = .ok (.aload_n 0, 1) := by decide +kernel
theorem dX12_chance_35 : decode cX12_chance 35 = .ok (.iload_n 1, 1) := by decide +kernel
theorem dX12_chance_36 : decode cX12_chance 36 = .ok (.iload_n 2, 1) := by decide +kernel
theorem dX12_chance_37 : decode cX12_chance 37 = .ok (.iload_n 3, 1) := by decide +kernel
theorem dX12_chance_38 : decode cX12_chance 38 = .ok (.iload 4, 2) := by decide +kernel
theorem dX12_chance_40 : decode cX12_chance 40 = .ok (.invokevirtual 175, 3) := by decide +kernel
theorem dX12_chance_43 : decode cX12_chance 43 = .ok (.ifCond .ne 6, 3) := by decide +kernel
theorem dX12_chance_46 : decode cX12_chance 46 = .ok (.bipush (-103), 2) := by decide +kernel
theorem dX12_chance_48 : decode cX12_chance 48 = .ok (.ireturn, 1) := by decide +kernel
theorem dX12_chance_49 : decode cX12_chance 49 = .ok (.aload_n 0, 1) := by decide +kernel
theorem dX12_chance_50 : decode cX12_chance 50 = .ok (.invokevirtual 179, 3) := by decide +kernel
theorem dX12_chance_53 : decode cX12_chance 53 = .ok (.istore 6, 2) := by decide +kernel
theorem dX12_chance_55 : decode cX12_chance 55 = .ok (.iconst 0, 1) := by decide +kernel
theorem dX12_chance_56 : decode cX12_chance 56 = .ok (.istore 7, 2) := by decide +kernel
theorem dX12_chance_58 : decode cX12_chance 58 = .ok (.iconst 0, 1) := by decide +kernel
theorem dX12_chance_59 : decode cX12_chance 59 = .ok (.istore 8, 2) := by decide +kernel
theorem dX12_chance_61 : decode cX12_chance 61 = .ok (.bipush (-7), 2) := by decide +kernel
theorem dX12_chance_63 : decode cX12_chance 63 = .ok (.istore 9, 2) := by decide +kernel
theorem dX12_chance_65 : decode cX12_chance 65 = .ok (.iload 9, 2) := by decide +kernel
theorem dX12_chance_67 : decode cX12_chance 67 = .ok (.bipush 8, 2) := by decide +kernel
theorem dX12_chance_69 : decode cX12_chance 69 = .ok (.if_icmp .ge 76, 3) := by decide +kernel
theorem dX12_chance_72 : decode cX12_chance 72 = .ok (.iconst 0, 1) := by decide +kernel
theorem dX12_chance_73 : decode cX12_chance 73 = .ok (.istore 10, 2) := by decide +kernel
theorem dX12_chance_75 : decode cX12_chance 75 = .ok (.iload 10, 2) := by decide +kernel
theorem dX12_chance_77 : decode cX12_chance 77 = .ok (.bipush 16, 2) := by decide +kernel
theorem dX12_chance_79 : decode cX12_chance 79 = .ok (.if_icmp .ge 60, 3) := by decide +kernel
theorem dX12_chance_82 : decode cX12_chance 82 = .ok (.aload_n 0, 1) := by decide +kernel
theorem dX12_chance_83 : decode cX12_chance 83 = .ok (.iload_n 1, 1) := by decide +kernel
theorem dX12_chance_84 : decode cX12_chance 84 = .ok (.iload_n 2, 1) := by decide +kernel
theorem dX12_chance_85 : decode cX12_chance 85 = .ok (.iload 9, 2) := by decide +kernel
theorem dX12_chance_87 : decode cX12_chance 87 = .ok (.iload 10, 2) := by decide +kernel
theorem dX12_chance_89 : decode cX12_chance 89 = .ok (.invokevirtual 175, 3) := by decide +kernel
theorem dX12_chance_92 : decode cX12_chance 92 = .ok (.istore 11, 2) := by decide +kernel
theorem dX12_chance_94 : decode cX12_chance 94 = .ok (.iload 7, 2) := by decide +kernel
theorem dX12_chance_96 : decode cX12_chance 96 = .ok (.iload 11, 2) := by decide +kernel
theorem dX12_chance_98 : decode cX12_chance 98 = .ok (.ifCond .eq 7, 3) := by decide +kernel
theorem dX12_chance_101 : decode cX12_chance 101 = .ok (.iconst 1, 1) := by decide +kernel
theorem dX12_chance_102 : decode cX12_chance 102 = .ok (.goto 4, 3) := by decide +kernel
theorem dX12_chance_105 : decode cX12_chance 105 = .ok (.iconst 0, 1) := by decide +kernel
theorem dX12_chance_106 : decode cX12_chance 106 = .ok (.iadd, 1) := by decide +kernel
theorem dX12_chance_107 : decode cX12_chance 107 = .ok (.istore 7, 2) := by decide +kernel
theorem dX12_chance_109 : decode cX12_chance 109 = .ok (.iload 8, 2) := by decide +kernel
theorem dX12_chance_111 : decode cX12_chance 111 = .ok (.iload 11, 2) := by decide +kernel
theorem dX12_chance_113 : decode cX12_chance 113 = .ok (.ifCond .eq 16, 3) := by decide +kernel
theorem dX12_chance_116 : decode cX12_chance 116 = .ok (.aload_n 0, 1) := by decide +kernel
theorem dX12_chance_117 : decode cX12_chance 117 = .ok (.invokevirtual 179, 3) := by decide +kernel
theorem dX12_chance_120 : decode cX12_chance 120 = .ok (.iload 6, 2) := by decide +kernel
theorem dX12_chance_122 : decode cX12_chance 122 = .ok (.if_icmp .gt 7, 3) := by decide +kernel
theorem dX12_chance_125 : decode cX12_chance 125 = .ok (.iconst 1, 1) := by decide +kernel
theorem dX12_chance_126 : decode cX12_chance 126 = .ok (.goto 4, 3) := by decide +kernel
theorem dX12_chance_129 : decode cX12_chance 129 = .ok (.iconst 0, 1) := by decide +kernel
theorem dX12_chance_130 : decode cX12_chance 130 = .ok (.iadd, 1) := by decide +kernel
theorem dX12_chance_131 : decode cX12_chance 131 = .ok (.istore 8, 2) := by decide +kernel
theorem dX12_chance_133 : decode cX12_chance 133 = .ok (.iinc 10 1, 3) := by decide +kernel
theorem dX12_chance_136 : decode cX12_chance 136 = .ok (.goto (-61), 3) := by decide +kernel
theorem dX12_chance_139 : decode cX12_chance 139 = .ok (.iinc 9 1, 3) := by decide +kernel
theorem dX12_chance_142 : decode cX12_chance 142 = .ok (.goto (-77), 3) := by decide +kernel
theorem dX12_chance_145 : decode cX12_chance 145 = .ok (.iload 5, 2) := by decide +kernel
theorem dX12_chance_147 : decode cX12_chance 147 = .ok (.ifCond .ne 8, 3) := by decide +kernel
theorem dX12_chance_150 : decode cX12_chance 150 = .ok (.iload 8, 2) := by decide +kernel
theorem dX12_chance_152 : decode cX12_chance 152 = .ok (.goto 5, 3) := by decide +kernel
theorem dX12_chance_155 : decode cX12_chance 155 = .ok (.iload 7, 2) := by decide +kernel
theorem dX12_chance_157 : decode cX12_chance 157 = .ok (.iload 8, 2) := by decide +kernel
theorem dX12_chance_159 : decode cX12_chance 159 = .ok (.iload 7, 2) := by decide +kernel
theorem dX12_chance_161 : decode cX12_chance 161 = .ok (.invokestatic 186, 3) := by decide +kernel
theorem dX12_chance_164 : decode cX12_chance 164 = .ok (.idiv, 1) := by decide +kernel
theorem dX12_chance_165 : decode cX12_chance 165 = .ok (.ireturn, 1) := by decide +kernel
theorem dX12_asGreat_0 : decode cX12_asGreat 0 = .ok (.iload_n 3, 1) := by decide +kernel
theorem dX12_asGreat_1 : decode cX12_asGreat 1 = .ok (.i2l, 1) := by decide +kernel
theorem dX12_asGreat_2 : decode cX12_asGreat 2 = .ok (.ldc2_w 165, 3) := by decide +kernel
theorem dX12_asGreat_5 : decode cX12_asGreat 5 = .ok (.ldc2_w 112, 3) := by decide +kernel
theorem dX12_asGreat_8 : decode cX12_asGreat 8 = .ok (.invokestatic 92, 3) := by decide +kernel
theorem dX12_asGreat_11 : decode cX12_asGreat 11 = .ok (.ifCond .eq 19, 3) := by decide +kernel
theorem dX12_asGreat_14 : decode cX12_asGreat 14 = .ok (.aload_n 0, 1) := by decide +kernel
theorem dX12_asGreat_15 : decode cX12_asGreat 15 = .ok (.iload_n 1, 1) := by decide +kernel
theorem dX12_asGreat_16 : decode cX12_asGreat 16 = .ok (.iload_n 2, 1) := by decide +kernel
theorem dX12_asGreat_17 : decode cX12_asGreat 17 = .ok (.iload_n 3, 1) := by decide +kernel
theorem dX12_asGreat_18 : decode cX12_asGreat 18 = .ok (.iload 4, 2) := by decide +kernel
theorem dX12_asGreat_20 : decode cX12_asGreat 20 = .ok (.invokevirtual 161, 3) := by decide +kernel
theorem dX12_asGreat_23 : decode cX12_asGreat 23 = .ok (.ifCond .eq 7, 3) := by decide +kernel
theorem dX12_asGreat_26 : decode cX12_asGreat 26 = .ok (.iconst 1, 1) := by decide +kernel
theorem dX12_asGreat_27 : decode cX12_asGreat 27 = .ok (.goto 4, 3) := by decide +kernel
theorem dX12_asGreat_30 : decode cX12_asGreat 30 = .ok (.iconst 0, 1) := by decide +kernel
theorem dX12_asGreat_31 : decode cX12_asGreat 31 = .ok (.istore 6, 2) := by decide +kernel
theorem dX12_asGreat_33 : decode cX12_asGreat 33 = .ok (.iload 6, 2) := by decide +kernel
theorem dX12_asGreat_35 : decode cX12_asGreat 35 = .ok (.ifCond .eq 21, 3) := by decide +kernel
theorem dX12_asGreat_38 : decode cX12_asGreat 38 = .ok (.aload_n 0, 1) := by decide +kernel
theorem dX12_asGreat_39 : decode cX12_asGreat 39 = .ok (.iload_n 1, 1) := by decide +kernel
theorem dX12_asGreat_40 : decode cX12_asGreat 40 = .ok (.iload_n 2, 1) := by decide +kernel
theorem dX12_asGreat_41 : decode cX12_asGreat 41 = .ok (.iload_n 3, 1) := by decide +kernel
theorem dX12_asGreat_42 : decode cX12_asGreat 42 = .ok (.iload 4, 2) := by decide +kernel
theorem dX12_asGreat_44 : decode cX12_asGreat 44 = .ok (.invokevirtual 182, 3) := by decide +kernel
theorem dX12_asGreat_47 : decode cX12_asGreat 47 = .ok (.iload 5, 2) := by decide +kernel
theorem dX12_asGreat_49 : decode cX12_asGreat 49 = .ok (.if_icmp .lt 7, 3) := by decide +kernel
theorem dX12_asGreat_52 : decode cX12_asGreat 52 = .ok (.iconst 1, 1) := by decide +kernel
theorem dX12_asGreat_53 : decode cX12_asGreat 53 = .ok (.goto 4, 3) := by decide +kernel
theorem dX12_asGreat_56 : decode cX12_asGreat 56 = .ok (.iconst 0, 1) := by decide +kernel
theorem dX12_asGreat_57 : decode cX12_asGreat 57 = .ok (.ireturn, 1) := by decide +kernel
theorem dX12_beside_0 : decode cX12_beside 0 = .ok (.iload_n 1, 1) := by decide +kernel
theorem dX12_beside_1 : decode cX12_beside 1 = .ok (.iload_n 2, 1) := by decide +kernel
theorem dX12_beside_2 : decode cX12_beside 2 = .ok (.invokestatic 167, 3) := by decide +kernel
theorem dX12_beside_5 : decode cX12_beside 5 = .ok (.ifCond .ne 6, 3) := by decide +kernel
theorem dX12_beside_8 : decode cX12_beside 8 = .ok (.bipush (-101), 2) := by decide +kernel
theorem dX12_beside_10 : decode cX12_beside 10 = .ok (.ireturn, 1) := by decide +kernel
theorem dX12_beside_11 : decode cX12_beside 11 = .ok (.iload_n 3, 1) := by decide +kernel
theorem dX12_beside_12 : decode cX12_beside 12 = .ok (.iload 4, 2) := by decide +kernel
theorem dX12_beside_14 : decode cX12_beside 14 = .ok (.invokestatic 171, 3) := by decide +kernel
theorem dX12_beside_17 : decode cX12_beside 17 = .ok (.ifCond .ne 6, 3) := by decide +kernel
theorem dX12_beside_20 : decode cX12_beside 20 = .ok (.bipush (-102), 2) := by decide +kernel
theorem dX12_beside_22 : decode cX12_beside 22 = .ok (.ireturn, 1) := by decide +kernel
theorem dX12_beside_23 : decode cX12_beside 23 = .ok (.aload_n 0, 1) := by decide +kernel
theorem dX12_beside_24 : decode cX12_beside 24 = .ok (.iload_n 1, 1) := by decide +kernel
theorem dX12_beside_25 : decode cX12_beside 25 = .ok (.iload_n 2, 1) := by decide +kernel
theorem dX12_beside_26 : decode cX12_beside 26 = .ok (.iload_n 3, 1) := by decide +kernel
theorem dX12_beside_27 : decode cX12_beside 27 = .ok (.iload 4, 2) := by decide +kernel
theorem dX12_beside_29 : decode cX12_beside 29 = .ok (.invokevirtual 161, 3) := by decide +kernel
theorem dX12_beside_32 : decode cX12_beside 32 = .ok (.ifCond .ne 6, 3) := by decide +kernel
theorem dX12_beside_35 : decode cX12_beside 35 = .ok (.bipush (-103), 2) := by decide +kernel
theorem dX12_beside_37 : decode cX12_beside 37 = .ok (.ireturn, 1) := by decide +kernel
theorem dX12_beside_38 : decode cX12_beside 38 = .ok (.aload_n 0, 1) := by decide +kernel
theorem dX12_beside_39 : decode cX12_beside 39 = .ok (.iload_n 1, 1) := by decide +kernel
theorem dX12_beside_40 : decode cX12_beside 40 = .ok (.iload_n 2, 1) := by decide +kernel
theorem dX12_beside_41 : decode cX12_beside 41 = .ok (.iload_n 3, 1) := by decide +kernel
theorem dX12_beside_42 : decode cX12_beside 42 = .ok (.iload 4, 2) := by decide +kernel
theorem dX12_beside_44 : decode cX12_beside 44 = .ok (.invokevirtual 182, 3) := by decide +kernel
theorem dX12_beside_47 : decode cX12_beside 47 = .ok (.istore 5, 2) := by decide +kernel
theorem dX12_beside_49 : decode cX12_beside 49 = .ok (.aload_n 0, 1) := by decide +kernel
theorem dX12_beside_50 : decode cX12_beside 50 = .ok (.iload_n 1, 1) := by decide +kernel
theorem dX12_beside_51 : decode cX12_beside 51 = .ok (.iload_n 2, 1) := by decide +kernel
theorem dX12_beside_52 : decode cX12_beside 52 = .ok (.iload_n 3, 1) := by decide +kernel
theorem dX12_beside_53 : decode cX12_beside 53 = .ok (.iconst 1, 1) := by decide +kernel
theorem dX12_beside_54 : decode cX12_beside 54 = .ok (.isub, 1) := by decide +kernel
theorem dX12_beside_55 : decode cX12_beside 55 = .ok (.iload 4, 2) := by decide +kernel
theorem dX12_beside_57 : decode cX12_beside 57 = .ok (.iload 5, 2) := by decide +kernel
theorem dX12_beside_59 : decode cX12_beside 59 = .ok (.invokevirtual 189, 3) := by decide +kernel
theorem dX12_beside_62 : decode cX12_beside 62 = .ok (.aload_n 0, 1) := by decide +kernel
theorem dX12_beside_63 : decode cX12_beside 63 = .ok (.iload_n 1, 1) := by decide +kernel
theorem dX12_beside_64 : decode cX12_beside 64 = .ok (.iload_n 2, 1) := by decide +kernel
theorem dX12_beside_65 : decode cX12_beside 65 = .ok (.iload_n 3, 1) := by decide +kernel
theorem dX12_beside_66 : decode cX12_beside 66 = .ok (.iconst 1, 1) := by decide +kernel
theorem dX12_beside_67 : decode cX12_beside 67 = .ok (.iadd, 1) := by decide +kernel
theorem dX12_beside_68 : decode cX12_beside 68 = .ok (.iload 4, 2) := by decide +kernel
theorem dX12_beside_70 : decode cX12_beside 70 = .ok (.iload 5, 2) := by decide +kernel
theorem dX12_beside_72 : decode cX12_beside 72 = .ok (.invokevirtual 189, 3) := by decide +kernel
theorem dX12_beside_75 : decode cX12_beside 75 = .ok (.iadd, 1) := by decide +kernel
theorem dX12_beside_76 : decode cX12_beside 76 = .ok (.aload_n 0, 1) := by decide +kernel
theorem dX12_beside_77 : decode cX12_beside 77 = .ok (.iload_n 1, 1) := by decide +kernel
theorem dX12_beside_78 : decode cX12_beside 78 = .ok (.iload_n 2, 1) := by decide +kernel
theorem dX12_beside_79 : decode cX12_beside 79 = .ok (.iload_n 3, 1) := by decide +kernel
theorem dX12_beside_80 : decode cX12_beside 80 = .ok (.iload 4, 2) := by decide +kernel
theorem dX12_beside_82 : decode cX12_beside 82 = .ok (.bipush 15, 2) := by decide +kernel
theorem dX12_beside_84 : decode cX12_beside 84 = .ok (.iadd, 1) := by decide +kernel
theorem dX12_beside_85 : decode cX12_beside 85 = .ok (.bipush 16, 2) := by decide +kernel
theorem dX12_beside_87 : decode cX12_beside 87 = .ok (.irem, 1) := by decide +kernel
theorem dX12_beside_88 : decode cX12_beside 88 = .ok (.iload 5, 2) := by decide +kernel
theorem dX12_beside_90 : decode cX12_beside 90 = .ok (.invokevirtual 189, 3) := by decide +kernel
theorem dX12_beside_93 : decode cX12_beside 93 = .ok (.iadd, 1) := by decide +kernel
theorem dX12_beside_94 : decode cX12_beside 94 = .ok (.aload_n 0, 1) := by decide +kernel
theorem dX12_beside_95 : decode cX12_beside 95 = .ok (.iload_n 1, 1) := by decide +kernel
theorem dX12_beside_96 : decode cX12_beside 96 = .ok (.iload_n 2, 1) := by decide +kernel
theorem dX12_beside_97 : decode cX12_beside 97 = .ok (.iload_n 3, 1) := by decide +kernel
theorem dX12_beside_98 : decode cX12_beside 98 = .ok (.iload 4, 2) := by decide +kernel
theorem dX12_beside_100 : decode cX12_beside 100 = .ok (.iconst 1, 1) := by decide +kernel
theorem dX12_beside_101 : decode cX12_beside 101 = .ok (.iadd, 1) := by decide +kernel
theorem dX12_beside_102 : decode cX12_beside 102 = .ok (.bipush 16, 2) := by decide +kernel
theorem dX12_beside_104 : decode cX12_beside 104 = .ok (.irem, 1) := by decide +kernel
theorem dX12_beside_105 : decode cX12_beside 105 = .ok (.iload 5, 2) := by decide +kernel
theorem dX12_beside_107 : decode cX12_beside 107 = .ok (.invokevirtual 189, 3) := by decide +kernel
theorem dX12_beside_110 : decode cX12_beside 110 = .ok (.iadd, 1) := by decide +kernel
theorem dX12_beside_111 : decode cX12_beside 111 = .ok (.ireturn, 1) := by decide +kernel
theorem dX12_letters_0 : decode cX12_letters 0 = .ok (.iconst 0, 1) := by decide +kernel
theorem dX12_letters_1 : decode cX12_letters 1 = .ok (.istore_n 3, 1) := by decide +kernel
theorem dX12_letters_2 : decode cX12_letters 2 = .ok (.iconst 1, 1) := by decide +kernel
theorem dX12_letters_3 : decode cX12_letters 3 = .ok (.istore 4, 2) := by decide +kernel
theorem dX12_letters_5 : decode cX12_letters 5 = .ok (.lload_n 1, 1) := by decide +kernel
theorem dX12_letters_6 : decode cX12_letters 6 = .ok (.lstore 5, 2) := by decide +kernel
theorem dX12_letters_8 : decode cX12_letters 8 = .ok (.iconst 0, 1) := by decide +kernel
theorem dX12_letters_9 : decode cX12_letters 9 = .ok (.istore 7, 2) := by decide +kernel
theorem dX12_letters_11 : decode cX12_letters 11 = .ok (.iload 7, 2) := by decide +kernel
theorem dX12_letters_13 : decode cX12_letters 13 = .ok (.bipush 8, 2) := by decide +kernel
theorem dX12_letters_15 : decode cX12_letters 15 = .ok (.if_icmp .ge 68, 3) := by decide +kernel
theorem dX12_letters_18 : decode cX12_letters 18 = .ok (.lload 5, 2) := by decide +kernel
theorem dX12_letters_20 : decode cX12_letters 20 = .ok (.ldc2_w 193, 3) := by decide +kernel
theorem dX12_letters_23 : decode cX12_letters 23 = .ok (.land, 1) := by decide +kernel
theorem dX12_letters_24 : decode cX12_letters 24 = .ok (.l2i, 1) := by decide +kernel
theorem dX12_letters_25 : decode cX12_letters 25 = .ok (.istore 8, 2) := by decide +kernel
theorem dX12_letters_27 : decode cX12_letters 27 = .ok (.lload 5, 2) := by decide +kernel
theorem dX12_letters_29 : decode cX12_letters 29 = .ok (.bipush 8, 2) := by decide +kernel
theorem dX12_letters_31 : decode cX12_letters 31 = .ok (.lushr, 1) := by decide +kernel
theorem dX12_letters_32 : decode cX12_letters 32 = .ok (.lstore 5, 2) := by decide +kernel
theorem dX12_letters_34 : decode cX12_letters 34 = .ok (.iload 4, 2) := by decide +kernel
theorem dX12_letters_36 : decode cX12_letters 36 = .ok (.ifCond .eq 25, 3) := by decide +kernel
theorem dX12_letters_39 : decode cX12_letters 39 = .ok (.iload 8, 2) := by decide +kernel
theorem dX12_letters_41 : decode cX12_letters 41 = .ok (.bipush 126, 2) := by decide +kernel
theorem dX12_letters_43 : decode cX12_letters 43 = .ok (.if_icmp .gt 18, 3) := by decide +kernel
theorem dX12_letters_46 : decode cX12_letters 46 = .ok (.iload 8, 2) := by decide +kernel
theorem dX12_letters_48 : decode cX12_letters 48 = .ok (.ifCond .eq 9, 3) := by decide +kernel
theorem dX12_letters_51 : decode cX12_letters 51 = .ok (.iload_n 3, 1) := by decide +kernel
theorem dX12_letters_52 : decode cX12_letters 52 = .ok (.iload 7, 2) := by decide +kernel
theorem dX12_letters_54 : decode cX12_letters 54 = .ok (.if_icmp .ne 7, 3) := by decide +kernel
theorem dX12_letters_57 : decode cX12_letters 57 = .ok (.iconst 1, 1) := by decide +kernel
theorem dX12_letters_58 : decode cX12_letters 58 = .ok (.goto 4, 3) := by decide +kernel
theorem dX12_letters_61 : decode cX12_letters 61 = .ok (.iconst 0, 1) := by decide +kernel
theorem dX12_letters_62 : decode cX12_letters 62 = .ok (.istore 4, 2) := by decide +kernel
theorem dX12_letters_64 : decode cX12_letters 64 = .ok (.iload_n 3, 1) := by decide +kernel
theorem dX12_letters_65 : decode cX12_letters 65 = .ok (.iload 8, 2) := by decide +kernel
theorem dX12_letters_67 : decode cX12_letters 67 = .ok (.ifCond .le 7, 3) := by decide +kernel
theorem dX12_letters_70 : decode cX12_letters 70 = .ok (.iconst 1, 1) := by decide +kernel
theorem dX12_letters_71 : decode cX12_letters 71 = .ok (.goto 4, 3) := by decide +kernel
theorem dX12_letters_74 : decode cX12_letters 74 = .ok (.iconst 0, 1) := by decide +kernel
theorem dX12_letters_75 : decode cX12_letters 75 = .ok (.iadd, 1) := by decide +kernel
theorem dX12_letters_76 : decode cX12_letters 76 = .ok (.istore_n 3, 1) := by decide +kernel
theorem dX12_letters_77 : decode cX12_letters 77 = .ok (.iinc 7 1, 3) := by decide +kernel
theorem dX12_letters_80 : decode cX12_letters 80 = .ok (.goto (-69), 3) := by decide +kernel
theorem dX12_letters_83 : decode cX12_letters 83 = .ok (.iload 4, 2) := by decide +kernel
theorem dX12_letters_85 : decode cX12_letters 85 = .ok (.ifCond .ne 6, 3) := by decide +kernel
theorem dX12_letters_88 : decode cX12_letters 88 = .ok (.bipush (-102), 2) := by decide +kernel
theorem dX12_letters_90 : decode cX12_letters 90 = .ok (.ireturn, 1) := by decide +kernel
theorem dX12_letters_91 : decode cX12_letters 91 = .ok (.aload_n 0, 1) := by decide +kernel
theorem dX12_letters_92 : decode cX12_letters 92 = .ok (.getfield 195, 3) := by decide +kernel
theorem dX12_letters_95 : decode cX12_letters 95 = .ok (.iload_n 3, 1) := by decide +kernel
theorem dX12_letters_96 : decode cX12_letters 96 = .ok (.iadd, 1) := by decide +kernel
theorem dX12_letters_97 : decode cX12_letters 97 = .ok (.bipush 50, 2) := by decide +kernel
theorem dX12_letters_99 : decode cX12_letters 99 = .ok (.if_icmp .le 6, 3) := by decide +kernel
theorem dX12_letters_102 : decode cX12_letters 102 = .ok (.bipush (-104), 2) := by decide +kernel
theorem dX12_letters_104 : decode cX12_letters 104 = .ok (.ireturn, 1) := by decide +kernel
theorem dX12_letters_105 : decode cX12_letters 105 = .ok (.iconst 0, 1) := by decide +kernel
theorem dX12_letters_106 : decode cX12_letters 106 = .ok (.istore 7, 2) := by decide +kernel
theorem dX12_letters_108 : decode cX12_letters 108 = .ok (.iload 7, 2) := by decide +kernel
theorem dX12_letters_110 : decode cX12_letters 110 = .ok (.iload_n 3, 1) := by decide +kernel
theorem dX12_letters_111 : decode cX12_letters 111 = .ok (.if_icmp .ge 40, 3) := by decide +kernel
theorem dX12_letters_114 : decode cX12_letters 114 = .ok (.aload_n 0, 1) := by decide +kernel
theorem dX12_letters_115 : decode cX12_letters 115 = .ok (.getfield 25, 3) := by decide +kernel
theorem dX12_letters_118 : decode cX12_letters 118 = .ok (.aload_n 0, 1) := by decide +kernel
theorem dX12_letters_119 : decode cX12_letters 119 = .ok (.getfield 195, 3) := by decide +kernel
theorem dX12_letters_122 : decode cX12_letters 122 = .ok (.lload_n 1, 1) := by decide +kernel
theorem dX12_letters_123 : decode cX12_letters 123 = .ok (.bipush 8, 2) := by decide +kernel
theorem dX12_letters_125 : decode cX12_letters 125 = .ok (.iload 7, 2) := by decide +kernel
theorem dX12_letters_127 : decode cX12_letters 127 = .ok (.imul, 1) := by decide +kernel
theorem dX12_letters_128 : decode cX12_letters 128 = .ok (.lushr, 1) := by decide +kernel
theorem dX12_letters_129 : decode cX12_letters 129 = .ok (.ldc2_w 193, 3) := by decide +kernel
theorem dX12_letters_132 : decode cX12_letters 132 = .ok (.land, 1) := by decide +kernel
theorem dX12_letters_133 : decode cX12_letters 133 = .ok (.l2i, 1) := by decide +kernel
theorem dX12_letters_134 : decode cX12_letters 134 = .ok (.iastore, 1) := by decide +kernel
theorem dX12_letters_135 : decode cX12_letters 135 = .ok (.aload_n 0, 1) := by decide +kernel
theorem dX12_letters_136 : decode cX12_letters 136 = .ok (.dup, 1) := by decide +kernel
theorem dX12_letters_137 : decode cX12_letters 137 = .ok (.getfield 195, 3) := by decide +kernel
theorem dX12_letters_140 : decode cX12_letters 140 = .ok (.iconst 1, 1) := by decide +kernel
theorem dX12_letters_141 : decode cX12_letters 141 = .ok (.iadd, 1) := by decide +kernel
theorem dX12_letters_142 : decode cX12_letters 142 = .ok (.putfield 195, 3) := by decide +kernel
theorem dX12_letters_145 : decode cX12_letters 145 = .ok (.iinc 7 1, 3) := by decide +kernel
theorem dX12_letters_148 : decode cX12_letters 148 = .ok (.goto (-40), 3) := by decide +kernel
theorem dX12_letters_151 : decode cX12_letters 151 = .ok (.aload_n 0, 1) := by decide +kernel
theorem dX12_letters_152 : decode cX12_letters 152 = .ok (.getfield 195, 3) := by decide +kernel
theorem dX12_letters_155 : decode cX12_letters 155 = .ok (.ireturn, 1) := by decide +kernel
theorem dX12_blank_0 : decode cX12_blank 0 = .ok (.aload_n 0, 1) := by decide +kernel
theorem dX12_blank_1 : decode cX12_blank 1 = .ok (.getfield 195, 3) := by decide +kernel
theorem dX12_blank_4 : decode cX12_blank 4 = .ok (.istore_n 1, 1) := by decide +kernel
theorem dX12_blank_5 : decode cX12_blank 5 = .ok (.aload_n 0, 1) := by decide +kernel
theorem dX12_blank_6 : decode cX12_blank 6 = .ok (.iconst 0, 1) := by decide +kernel
theorem dX12_blank_7 : decode cX12_blank 7 = .ok (.putfield 195, 3) := by decide +kernel
theorem dX12_blank_10 : decode cX12_blank 10 = .ok (.iload_n 1, 1) := by decide +kernel
theorem dX12_blank_11 : decode cX12_blank 11 = .ok (.ireturn, 1) := by decide +kernel
theorem dX12_wayOf_0 : decode cX12_wayOf 0 = .ok (.iload_n 0, 1) := by decide +kernel
theorem dX12_wayOf_1 : decode cX12_wayOf 1 = .ok (.bipush 74, 2) := by decide +kernel
theorem dX12_wayOf_3 : decode cX12_wayOf 3 = .ok (.if_icmp .ne 7, 3) := by decide +kernel
theorem dX12_wayOf_6 : decode cX12_wayOf 6 = .ok (.iconst 0, 1) := by decide +kernel
theorem dX12_wayOf_7 : decode cX12_wayOf 7 = .ok (.goto 34, 3) := by decide +kernel
theorem dX12_wayOf_10 : decode cX12_wayOf 10 = .ok (.iload_n 0, 1) := by decide +kernel
theorem dX12_wayOf_11 : decode cX12_wayOf 11 = .ok (.bipush 66, 2) := by decide +kernel
theorem dX12_wayOf_13 : decode cX12_wayOf 13 = .ok (.if_icmp .ne 7, 3) := by decide +kernel
theorem dX12_wayOf_16 : decode cX12_wayOf 16 = .ok (.iconst 1, 1) := by decide +kernel
theorem dX12_wayOf_17 : decode cX12_wayOf 17 = .ok (.goto 24, 3) := by decide +kernel
theorem dX12_wayOf_20 : decode cX12_wayOf 20 = .ok (.iload_n 0, 1) := by decide +kernel
theorem dX12_wayOf_21 : decode cX12_wayOf 21 = .ok (.bipush 83, 2) := by decide +kernel
theorem dX12_wayOf_23 : decode cX12_wayOf 23 = .ok (.if_icmp .ne 7, 3) := by decide +kernel
theorem dX12_wayOf_26 : decode cX12_wayOf 26 = .ok (.iconst 2, 1) := by decide +kernel
theorem dX12_wayOf_27 : decode cX12_wayOf 27 = .ok (.goto 14, 3) := by decide +kernel
theorem dX12_wayOf_30 : decode cX12_wayOf 30 = .ok (.iload_n 0, 1) := by decide +kernel
theorem dX12_wayOf_31 : decode cX12_wayOf 31 = .ok (.bipush 67, 2) := by decide +kernel
theorem dX12_wayOf_33 : decode cX12_wayOf 33 = .ok (.if_icmp .ne 7, 3) := by decide +kernel
theorem dX12_wayOf_36 : decode cX12_wayOf 36 = .ok (.iconst 3, 1) := by decide +kernel
theorem dX12_wayOf_37 : decode cX12_wayOf 37 = .ok (.goto 4, 3) := by decide +kernel
theorem dX12_wayOf_40 : decode cX12_wayOf 40 = .ok (.iconst (-1), 1) := by decide +kernel
theorem dX12_wayOf_41 : decode cX12_wayOf 41 = .ok (.ireturn, 1) := by decide +kernel
theorem dX12_letterOf_0 : decode cX12_letterOf 0 = .ok (.iload_n 0, 1) := by decide +kernel
theorem dX12_letterOf_1 : decode cX12_letterOf 1 = .ok (.bipush 100, 2) := by decide +kernel
theorem dX12_letterOf_3 : decode cX12_letterOf 3 = .ok (.if_icmp .ne 7, 3) := by decide +kernel
theorem dX12_letterOf_6 : decode cX12_letterOf 6 = .ok (.iconst 0, 1) := by decide +kernel
theorem dX12_letterOf_7 : decode cX12_letterOf 7 = .ok (.goto 24, 3) := by decide +kernel
theorem dX12_letterOf_10 : decode cX12_letterOf 10 = .ok (.iload_n 0, 1) := by decide +kernel
theorem dX12_letterOf_11 : decode cX12_letterOf 11 = .ok (.bipush 101, 2) := by decide +kernel
theorem dX12_letterOf_13 : decode cX12_letterOf 13 = .ok (.if_icmp .ne 7, 3) := by decide +kernel
theorem dX12_letterOf_16 : decode cX12_letterOf 16 = .ok (.iconst 1, 1) := by decide +kernel
theorem dX12_letterOf_17 : decode cX12_letterOf 17 = .ok (.goto 14, 3) := by decide +kernel
theorem dX12_letterOf_20 : decode cX12_letterOf 20 = .ok (.iload_n 0, 1) := by decide +kernel
theorem dX12_letterOf_21 : decode cX12_letterOf 21 = .ok (.bipush 107, 2) := by decide +kernel
theorem dX12_letterOf_23 : decode cX12_letterOf 23 = .ok (.if_icmp .ne 7, 3) := by decide +kernel
theorem dX12_letterOf_26 : decode cX12_letterOf 26 = .ok (.iconst 2, 1) := by decide +kernel
theorem dX12_letterOf_27 : decode cX12_letterOf 27 = .ok (.goto 4, 3) := by decide +kernel
theorem dX12_letterOf_30 : decode cX12_letterOf 30 = .ok (.iconst (-1), 1) := by decide +kernel
theorem dX12_letterOf_31 : decode cX12_letterOf 31 = .ok (.ireturn, 1) := by decide +kernel
theorem dX12_layMark_0 : decode cX12_layMark 0 = .ok (.aload_n 0, 1) := by decide +kernel
theorem dX12_layMark_1 : decode cX12_layMark 1 = .ok (.getfield 46, 3) := by decide +kernel
theorem dX12_layMark_4 : decode cX12_layMark 4 = .ok (.aload_n 0, 1) := by decide +kernel
theorem dX12_layMark_5 : decode cX12_layMark 5 = .ok (.getfield 198, 3) := by decide +kernel
theorem dX12_layMark_8 : decode cX12_layMark 8 = .ok (.iload_n 1, 1) := by decide +kernel
theorem dX12_layMark_9 : decode cX12_layMark 9 = .ok (.iastore, 1) := by decide +kernel
theorem dX12_layMark_10 : decode cX12_layMark 10 = .ok (.aload_n 0, 1) := by decide +kernel
theorem dX12_layMark_11 : decode cX12_layMark 11 = .ok (.getfield 49, 3) := by decide +kernel
theorem dX12_layMark_14 : decode cX12_layMark 14 = .ok (.aload_n 0, 1) := by decide +kernel
theorem dX12_layMark_15 : decode cX12_layMark 15 = .ok (.getfield 198, 3) := by decide +kernel
theorem dX12_layMark_18 : decode cX12_layMark 18 = .ok (.iload_n 2, 1) := by decide +kernel
theorem dX12_layMark_19 : decode cX12_layMark 19 = .ok (.iastore, 1) := by decide +kernel
theorem dX12_layMark_20 : decode cX12_layMark 20 = .ok (.aload_n 0, 1) := by decide +kernel
theorem dX12_layMark_21 : decode cX12_layMark 21 = .ok (.dup, 1) := by decide +kernel
theorem dX12_layMark_22 : decode cX12_layMark 22 = .ok (.getfield 198, 3) := by decide +kernel
theorem dX12_layMark_25 : decode cX12_layMark 25 = .ok (.iconst 1, 1) := by decide +kernel
theorem dX12_layMark_26 : decode cX12_layMark 26 = .ok (.iadd, 1) := by decide +kernel
theorem dX12_layMark_27 : decode cX12_layMark 27 = .ok (.putfield 198, 3) := by decide +kernel
theorem dX12_layMark_30 : decode cX12_layMark 30 = .ok (.return_, 1) := by decide +kernel
theorem dX12_layDown_0 : decode cX12_layDown 0 = .ok (.aload_n 0, 1) := by decide +kernel
theorem dX12_layDown_1 : decode cX12_layDown 1 = .ok (.getfield 201, 3) := by decide +kernel
theorem dX12_layDown_4 : decode cX12_layDown 4 = .ok (.ifCond .le 45, 3) := by decide +kernel
theorem dX12_layDown_7 : decode cX12_layDown 7 = .ok (.aload_n 0, 1) := by decide +kernel
theorem dX12_layDown_8 : decode cX12_layDown 8 = .ok (.getfield 52, 3) := by decide +kernel
theorem dX12_layDown_11 : decode cX12_layDown 11 = .ok (.aload_n 0, 1) := by decide +kernel
theorem dX12_layDown_12 : decode cX12_layDown 12 = .ok (.getfield 201, 3) := by decide +kernel
theorem dX12_layDown_15 : decode cX12_layDown 15 = .ok (.iconst 1, 1) := by decide +kernel
theorem dX12_layDown_16 : decode cX12_layDown 16 = .ok (.isub, 1) := by decide +kernel
theorem dX12_layDown_17 : decode cX12_layDown 17 = .ok (.iaload, 1) := by decide +kernel
theorem dX12_layDown_18 : decode cX12_layDown 18 = .ok (.iload_n 1, 1) := by decide +kernel
theorem dX12_layDown_19 : decode cX12_layDown 19 = .ok (.if_icmp .gt 30, 3) := by decide +kernel
theorem dX12_layDown_22 : decode cX12_layDown 22 = .ok (.aload_n 0, 1) := by decide +kernel
theorem dX12_layDown_23 : decode cX12_layDown 23 = .ok (.dup, 1) := by decide +kernel
theorem dX12_layDown_24 : decode cX12_layDown 24 = .ok (.getfield 201, 3) := by decide +kernel
theorem dX12_layDown_27 : decode cX12_layDown 27 = .ok (.iconst 1, 1) := by decide +kernel
theorem dX12_layDown_28 : decode cX12_layDown 28 = .ok (.isub, 1) := by decide +kernel
theorem dX12_layDown_29 : decode cX12_layDown 29 = .ok (.putfield 201, 3) := by decide +kernel
theorem dX12_layDown_32 : decode cX12_layDown 32 = .ok (.aload_n 0, 1) := by decide +kernel
theorem dX12_layDown_33 : decode cX12_layDown 33 = .ok (.aload_n 0, 1) := by decide +kernel
theorem dX12_layDown_34 : decode cX12_layDown 34 = .ok (.getfield 52, 3) := by decide +kernel
theorem dX12_layDown_37 : decode cX12_layDown 37 = .ok (.aload_n 0, 1) := by decide +kernel
theorem dX12_layDown_38 : decode cX12_layDown 38 = .ok (.getfield 201, 3) := by decide +kernel
theorem dX12_layDown_41 : decode cX12_layDown 41 = .ok (.iaload, 1) := by decide +kernel
theorem dX12_layDown_42 : decode cX12_layDown 42 = .ok (.iconst 0, 1) := by decide +kernel
theorem dX12_layDown_43 : decode cX12_layDown 43 = .ok (.invokevirtual 204, 3) := by decide +kernel
theorem dX12_layDown_46 : decode cX12_layDown 46 = .ok (.goto (-46), 3) := by decide +kernel
theorem dX12_layDown_49 : decode cX12_layDown 49 = .ok (.return_, 1) := by decide +kernel
theorem dX12_endNumber_0 : decode cX12_endNumber 0 = .ok (.aload_n 0, 1) := by decide +kernel
theorem dX12_endNumber_1 : decode cX12_endNumber 1 = .ok (.iconst 3, 1) := by decide +kernel
theorem dX12_endNumber_2 : decode cX12_endNumber 2 = .ok (.aload_n 0, 1) := by decide +kernel
theorem dX12_endNumber_3 : decode cX12_endNumber 3 = .ok (.getfield 208, 3) := by decide +kernel
theorem dX12_endNumber_6 : decode cX12_endNumber 6 = .ok (.imul, 1) := by decide +kernel
theorem dX12_endNumber_7 : decode cX12_endNumber 7 = .ok (.aload_n 0, 1) := by decide +kernel
theorem dX12_endNumber_8 : decode cX12_endNumber 8 = .ok (.getfield 211, 3) := by decide +kernel
theorem dX12_endNumber_11 : decode cX12_endNumber 11 = .ok (.iadd, 1) := by decide +kernel
theorem dX12_endNumber_12 : decode cX12_endNumber 12 = .ok (.aload_n 0, 1) := by decide +kernel
theorem dX12_endNumber_13 : decode cX12_endNumber 13 = .ok (.getfield 214, 3) := by decide +kernel
theorem dX12_endNumber_16 : decode cX12_endNumber 16 = .ok (.invokevirtual 204, 3) := by decide +kernel
theorem dX12_endNumber_19 : decode cX12_endNumber 19 = .ok (.aload_n 0, 1) := by decide +kernel
theorem dX12_endNumber_20 : decode cX12_endNumber 20 = .ok (.bipush 9, 2) := by decide +kernel
theorem dX12_endNumber_22 : decode cX12_endNumber 22 = .ok (.putfield 217, 3) := by decide +kernel
theorem dX12_endNumber_25 : decode cX12_endNumber 25 = .ok (.return_, 1) := by decide +kernel
theorem dX12_goBehind_0 : decode cX12_goBehind 0 = .ok (.iload_n 1, 1) := by decide +kernel
theorem dX12_goBehind_1 : decode cX12_goBehind 1 = .ok (.bipush 38, 2) := by decide +kernel
theorem dX12_goBehind_3 : decode cX12_goBehind 3 = .ok (.if_icmp .eq 11, 3) := by decide +kernel
theorem dX12_goBehind_6 : decode cX12_goBehind 6 = .ok (.iload_n 1, 1) := by decide +kernel
theorem dX12_goBehind_7 : decode cX12_goBehind 7 = .ok (.bipush 124, 2) := by decide +kernel
theorem dX12_goBehind_9 : decode cX12_goBehind 9 = .ok (.if_icmp .eq 5, 3) := by decide +kernel
theorem dX12_goBehind_12 : decode cX12_goBehind 12 = .ok (.iconst 0, 1) := by decide +kernel
theorem dX12_goBehind_13 : decode cX12_goBehind 13 = .ok (.ireturn, 1) := by decide +kernel
theorem dX12_goBehind_14 : decode cX12_goBehind 14 = .ok (.aload_n 0, 1) := by decide +kernel
theorem dX12_goBehind_15 : decode cX12_goBehind 15 = .ok (.getfield 217, 3) := by decide +kernel
theorem dX12_goBehind_18 : decode cX12_goBehind 18 = .ok (.bipush 8, 2) := by decide +kernel
theorem dX12_goBehind_20 : decode cX12_goBehind 20 = .ok (.if_icmp .ne 7, 3) := by decide +kernel
theorem dX12_goBehind_23 : decode cX12_goBehind 23 = .ok (.aload_n 0, 1) := by decide +kernel
theorem dX12_goBehind_24 : decode cX12_goBehind 24 = .ok (.invokevirtual 220, 3) := by decide +kernel
theorem dX12_goBehind_27 : decode cX12_goBehind 27 = .ok (.aload_n 0, 1) := by decide +kernel
theorem dX12_goBehind_28 : decode cX12_goBehind 28 = .ok (.iload_n 1, 1) := by decide +kernel
theorem dX12_goBehind_29 : decode cX12_goBehind 29 = .ok (.bipush 38, 2) := by decide +kernel
theorem dX12_goBehind_31 : decode cX12_goBehind 31 = .ok (.if_icmp .ne 8, 3) := by decide +kernel
theorem dX12_goBehind_34 : decode cX12_goBehind 34 = .ok (.bipush 10, 2) := by decide +kernel
theorem dX12_goBehind_36 : decode cX12_goBehind 36 = .ok (.goto 5, 3) := by decide +kernel
theorem dX12_goBehind_39 : decode cX12_goBehind 39 = .ok (.bipush 11, 2) := by decide +kernel
theorem dX12_goBehind_41 : decode cX12_goBehind 41 = .ok (.invokevirtual 223, 3) := by decide +kernel
theorem dX12_goBehind_44 : decode cX12_goBehind 44 = .ok (.aload_n 0, 1) := by decide +kernel
theorem dX12_goBehind_45 : decode cX12_goBehind 45 = .ok (.getfield 52, 3) := by decide +kernel
theorem dX12_goBehind_48 : decode cX12_goBehind 48 = .ok (.aload_n 0, 1) := by decide +kernel
theorem dX12_goBehind_49 : decode cX12_goBehind 49 = .ok (.getfield 201, 3) := by decide +kernel
theorem dX12_goBehind_52 : decode cX12_goBehind 52 = .ok (.iload_n 1, 1) := by decide +kernel
theorem dX12_goBehind_53 : decode cX12_goBehind 53 = .ok (.bipush 38, 2) := by decide +kernel
theorem dX12_goBehind_55 : decode cX12_goBehind 55 = .ok (.if_icmp .ne 8, 3) := by decide +kernel
theorem dX12_goBehind_58 : decode cX12_goBehind 58 = .ok (.bipush 10, 2) := by decide +kernel
theorem dX12_goBehind_60 : decode cX12_goBehind 60 = .ok (.goto 5, 3) := by decide +kernel
theorem dX12_goBehind_63 : decode cX12_goBehind 63 = .ok (.bipush 11, 2) := by decide +kernel
theorem dX12_goBehind_65 : decode cX12_goBehind 65 = .ok (.iastore, 1) := by decide +kernel
theorem dX12_goBehind_66 : decode cX12_goBehind 66 = .ok (.aload_n 0, 1) := by decide +kernel
theorem dX12_goBehind_67 : decode cX12_goBehind 67 = .ok (.dup, 1) := by decide +kernel
theorem dX12_goBehind_68 : decode cX12_goBehind 68 = .ok (.getfield 201, 3) := by decide +kernel
theorem dX12_goBehind_71 : decode cX12_goBehind 71 = .ok (.iconst 1, 1) := by decide +kernel
theorem dX12_goBehind_72 : decode cX12_goBehind 72 = .ok (.iadd, 1) := by decide +kernel
theorem dX12_goBehind_73 : decode cX12_goBehind 73 = .ok (.putfield 201, 3) := by decide +kernel
theorem dX12_goBehind_76 : decode cX12_goBehind 76 = .ok (.aload_n 0, 1) := by decide +kernel
theorem dX12_goBehind_77 : decode cX12_goBehind 77 = .ok (.iconst 5, 1) := by decide +kernel
theorem dX12_goBehind_78 : decode cX12_goBehind 78 = .ok (.putfield 217, 3) := by decide +kernel
theorem dX12_goBehind_81 : decode cX12_goBehind 81 = .ok (.iconst 1, 1) := by decide +kernel
theorem dX12_goBehind_82 : decode cX12_goBehind 82 = .ok (.ireturn, 1) := by decide +kernel
theorem dX12_go_0 : decode cX12_go 0 = .ok (.iload_n 1, 1) := by decide +kernel
theorem dX12_go_1 : decode cX12_go 1 = .ok (.i2l, 1) := by decide +kernel
theorem dX12_go_2 : decode cX12_go 2 = .ok (.ldc2_w 227, 3) := by decide +kernel
theorem dX12_go_5 : decode cX12_go 5 = .ok (.ldc2_w 229, 3) := by decide +kernel
theorem dX12_go_8 : decode cX12_go 8 = .ok (.invokestatic 92, 3) := by decide +kernel
theorem dX12_go_11 : decode cX12_go 11 = .ok (.istore_n 2, 1) := by decide +kernel
theorem dX12_go_12 : decode cX12_go 12 = .ok (.aload_n 0, 1) := by decide +kernel
theorem dX12_go_13 : decode cX12_go 13 = .ok (.getfield 217, 3) := by decide +kernel
theorem dX12_go_16 : decode cX12_go 16 = .ok (.tableswitch 344 0 8 #[52, 79, 96, 111, 167, 184, 241, 296, 312], 52) := by decide +kernel
theorem dX12_go_68 : decode cX12_go 68 = .ok (.aload_n 0, 1) := by decide +kernel
theorem dX12_go_69 : decode cX12_go 69 = .ok (.iload_n 1, 1) := by decide +kernel
theorem dX12_go_70 : decode cX12_go 70 = .ok (.invokestatic 231, 3) := by decide +kernel
theorem dX12_go_73 : decode cX12_go 73 = .ok (.putfield 234, 3) := by decide +kernel
theorem dX12_go_76 : decode cX12_go 76 = .ok (.aload_n 0, 1) := by decide +kernel
theorem dX12_go_77 : decode cX12_go 77 = .ok (.iconst 1, 1) := by decide +kernel
theorem dX12_go_78 : decode cX12_go 78 = .ok (.putfield 217, 3) := by decide +kernel
theorem dX12_go_81 : decode cX12_go 81 = .ok (.aload_n 0, 1) := by decide +kernel
theorem dX12_go_82 : decode cX12_go 82 = .ok (.getfield 234, 3) := by decide +kernel
theorem dX12_go_85 : decode cX12_go 85 = .ok (.iconst (-1), 1) := by decide +kernel
theorem dX12_go_86 : decode cX12_go 86 = .ok (.if_icmp .eq 7, 3) := by decide +kernel
theorem dX12_go_89 : decode cX12_go 89 = .ok (.iconst 1, 1) := by decide +kernel
theorem dX12_go_90 : decode cX12_go 90 = .ok (.goto 4, 3) := by decide +kernel
theorem dX12_go_93 : decode cX12_go 93 = .ok (.iconst 0, 1) := by decide +kernel
theorem dX12_go_94 : decode cX12_go 94 = .ok (.ireturn, 1) := by decide +kernel
theorem dX12_go_95 : decode cX12_go 95 = .ok (.aload_n 0, 1) := by decide +kernel
theorem dX12_go_96 : decode cX12_go 96 = .ok (.iconst 2, 1) := by decide +kernel
theorem dX12_go_97 : decode cX12_go 97 = .ok (.putfield 217, 3) := by decide +kernel
theorem dX12_go_100 : decode cX12_go 100 = .ok (.iload_n 1, 1) := by decide +kernel
theorem dX12_go_101 : decode cX12_go 101 = .ok (.bipush 58, 2) := by decide +kernel
theorem dX12_go_103 : decode cX12_go 103 = .ok (.if_icmp .ne 7, 3) := by decide +kernel
theorem dX12_go_106 : decode cX12_go 106 = .ok (.iconst 1, 1) := by decide +kernel
theorem dX12_go_107 : decode cX12_go 107 = .ok (.goto 4, 3) := by decide +kernel
theorem dX12_go_110 : decode cX12_go 110 = .ok (.iconst 0, 1) := by decide +kernel
theorem dX12_go_111 : decode cX12_go 111 = .ok (.ireturn, 1) := by decide +kernel
theorem dX12_go_112 : decode cX12_go 112 = .ok (.aload_n 0, 1) := by decide +kernel
theorem dX12_go_113 : decode cX12_go 113 = .ok (.iload_n 1, 1) := by decide +kernel
theorem dX12_go_114 : decode cX12_go 114 = .ok (.bipush 48, 2) := by decide +kernel
theorem dX12_go_116 : decode cX12_go 116 = .ok (.isub, 1) := by decide +kernel
theorem dX12_go_117 : decode cX12_go 117 = .ok (.putfield 237, 3) := by decide +kernel
theorem dX12_go_120 : decode cX12_go 120 = .ok (.aload_n 0, 1) := by decide +kernel
theorem dX12_go_121 : decode cX12_go 121 = .ok (.iconst 3, 1) := by decide +kernel
theorem dX12_go_122 : decode cX12_go 122 = .ok (.putfield 217, 3) := by decide +kernel
theorem dX12_go_125 : decode cX12_go 125 = .ok (.iload_n 2, 1) := by decide +kernel
theorem dX12_go_126 : decode cX12_go 126 = .ok (.ireturn, 1) := by decide +kernel
theorem dX12_go_127 : decode cX12_go 127 = .ok (.aload_n 0, 1) := by decide +kernel
theorem dX12_go_128 : decode cX12_go 128 = .ok (.iload_n 2, 1) := by decide +kernel
theorem dX12_go_129 : decode cX12_go 129 = .ok (.ifCond .eq 18, 3) := by decide +kernel
theorem dX12_go_132 : decode cX12_go 132 = .ok (.bipush 10, 2) := by decide +kernel
theorem dX12_go_134 : decode cX12_go 134 = .ok (.aload_n 0, 1) := by decide +kernel
theorem dX12_go_135 : decode cX12_go 135 = .ok (.getfield 237, 3) := by decide +kernel
theorem dX12_go_138 : decode cX12_go 138 = .ok (.imul, 1) := by decide +kernel
theorem dX12_go_139 : decode cX12_go 139 = .ok (.iload_n 1, 1) := by decide +kernel
theorem dX12_go_140 : decode cX12_go 140 = .ok (.iadd, 1) := by decide +kernel
theorem dX12_go_141 : decode cX12_go 141 = .ok (.bipush 48, 2) := by decide +kernel
theorem dX12_go_143 : decode cX12_go 143 = .ok (.isub, 1) := by decide +kernel
theorem dX12_go_144 : decode cX12_go 144 = .ok (.goto 7, 3) := by decide +kernel
theorem dX12_go_147 : decode cX12_go 147 = .ok (.aload_n 0, 1) := by decide +kernel
theorem dX12_go_148 : decode cX12_go 148 = .ok (.getfield 237, 3) := by decide +kernel
theorem dX12_go_151 : decode cX12_go 151 = .ok (.putfield 237, 3) := by decide +kernel
theorem dX12_go_154 : decode cX12_go 154 = .ok (.aload_n 0, 1) := by decide +kernel
theorem dX12_go_155 : decode cX12_go 155 = .ok (.iload_n 2, 1) := by decide +kernel
theorem dX12_go_156 : decode cX12_go 156 = .ok (.ifCond .eq 7, 3) := by decide +kernel
theorem dX12_go_159 : decode cX12_go 159 = .ok (.iconst 4, 1) := by decide +kernel
theorem dX12_go_160 : decode cX12_go 160 = .ok (.goto 4, 3) := by decide +kernel
theorem dX12_go_163 : decode cX12_go 163 = .ok (.iconst 5, 1) := by decide +kernel
theorem dX12_go_164 : decode cX12_go 164 = .ok (.putfield 217, 3) := by decide +kernel
theorem dX12_go_167 : decode cX12_go 167 = .ok (.iload_n 2, 1) := by decide +kernel
theorem dX12_go_168 : decode cX12_go 168 = .ok (.ifCond .ne 9, 3) := by decide +kernel
theorem dX12_go_171 : decode cX12_go 171 = .ok (.iload_n 1, 1) := by decide +kernel
theorem dX12_go_172 : decode cX12_go 172 = .ok (.bipush 63, 2) := by decide +kernel
theorem dX12_go_174 : decode cX12_go 174 = .ok (.if_icmp .ne 7, 3) := by decide +kernel
theorem dX12_go_177 : decode cX12_go 177 = .ok (.iconst 1, 1) := by decide +kernel
theorem dX12_go_178 : decode cX12_go 178 = .ok (.goto 4, 3) := by decide +kernel
theorem dX12_go_181 : decode cX12_go 181 = .ok (.iconst 0, 1) := by decide +kernel
theorem dX12_go_182 : decode cX12_go 182 = .ok (.ireturn, 1) := by decide +kernel
theorem dX12_go_183 : decode cX12_go 183 = .ok (.aload_n 0, 1) := by decide +kernel
theorem dX12_go_184 : decode cX12_go 184 = .ok (.iconst 5, 1) := by decide +kernel
theorem dX12_go_185 : decode cX12_go 185 = .ok (.putfield 217, 3) := by decide +kernel
theorem dX12_go_188 : decode cX12_go 188 = .ok (.iload_n 1, 1) := by decide +kernel
theorem dX12_go_189 : decode cX12_go 189 = .ok (.bipush 63, 2) := by decide +kernel
theorem dX12_go_191 : decode cX12_go 191 = .ok (.if_icmp .ne 7, 3) := by decide +kernel
theorem dX12_go_194 : decode cX12_go 194 = .ok (.iconst 1, 1) := by decide +kernel
theorem dX12_go_195 : decode cX12_go 195 = .ok (.goto 4, 3) := by decide +kernel
theorem dX12_go_198 : decode cX12_go 198 = .ok (.iconst 0, 1) := by decide +kernel
theorem dX12_go_199 : decode cX12_go 199 = .ok (.ireturn, 1) := by decide +kernel
theorem dX12_go_200 : decode cX12_go 200 = .ok (.iload_n 1, 1) := by decide +kernel
theorem dX12_go_201 : decode cX12_go 201 = .ok (.bipush 33, 2) := by decide +kernel
theorem dX12_go_203 : decode cX12_go 203 = .ok (.if_icmp .ne 26, 3) := by decide +kernel
theorem dX12_go_206 : decode cX12_go 206 = .ok (.aload_n 0, 1) := by decide +kernel
theorem dX12_go_207 : decode cX12_go 207 = .ok (.getfield 52, 3) := by decide +kernel
theorem dX12_go_210 : decode cX12_go 210 = .ok (.aload_n 0, 1) := by decide +kernel
theorem dX12_go_211 : decode cX12_go 211 = .ok (.getfield 201, 3) := by decide +kernel
theorem dX12_go_214 : decode cX12_go 214 = .ok (.bipush 9, 2) := by decide +kernel
theorem dX12_go_216 : decode cX12_go 216 = .ok (.iastore, 1) := by decide +kernel
theorem dX12_go_217 : decode cX12_go 217 = .ok (.aload_n 0, 1) := by decide +kernel
theorem dX12_go_218 : decode cX12_go 218 = .ok (.dup, 1) := by decide +kernel
theorem dX12_go_219 : decode cX12_go 219 = .ok (.getfield 201, 3) := by decide +kernel
theorem dX12_go_222 : decode cX12_go 222 = .ok (.iconst 1, 1) := by decide +kernel
theorem dX12_go_223 : decode cX12_go 223 = .ok (.iadd, 1) := by decide +kernel
theorem dX12_go_224 : decode cX12_go 224 = .ok (.putfield 201, 3) := by decide +kernel
theorem dX12_go_227 : decode cX12_go 227 = .ok (.iconst 1, 1) := by decide +kernel
theorem dX12_go_228 : decode cX12_go 228 = .ok (.ireturn, 1) := by decide +kernel
theorem dX12_go_229 : decode cX12_go 229 = .ok (.aload_n 0, 1) := by decide +kernel
theorem dX12_go_230 : decode cX12_go 230 = .ok (.iload_n 1, 1) := by decide +kernel
theorem dX12_go_231 : decode cX12_go 231 = .ok (.invokestatic 240, 3) := by decide +kernel
theorem dX12_go_234 : decode cX12_go 234 = .ok (.putfield 208, 3) := by decide +kernel
theorem dX12_go_237 : decode cX12_go 237 = .ok (.aload_n 0, 1) := by decide +kernel
theorem dX12_go_238 : decode cX12_go 238 = .ok (.bipush 6, 2) := by decide +kernel
theorem dX12_go_240 : decode cX12_go 240 = .ok (.putfield 217, 3) := by decide +kernel
theorem dX12_go_243 : decode cX12_go 243 = .ok (.aload_n 0, 1) := by decide +kernel
theorem dX12_go_244 : decode cX12_go 244 = .ok (.getfield 208, 3) := by decide +kernel
theorem dX12_go_247 : decode cX12_go 247 = .ok (.iconst (-1), 1) := by decide +kernel
theorem dX12_go_248 : decode cX12_go 248 = .ok (.if_icmp .eq 7, 3) := by decide +kernel
theorem dX12_go_251 : decode cX12_go 251 = .ok (.iconst 1, 1) := by decide +kernel
theorem dX12_go_252 : decode cX12_go 252 = .ok (.goto 4, 3) := by decide +kernel
theorem dX12_go_255 : decode cX12_go 255 = .ok (.iconst 0, 1) := by decide +kernel
theorem dX12_go_256 : decode cX12_go 256 = .ok (.ireturn, 1) := by decide +kernel
theorem dX12_go_257 : decode cX12_go 257 = .ok (.aload_n 0, 1) := by decide +kernel
theorem dX12_go_258 : decode cX12_go 258 = .ok (.iload_n 1, 1) := by decide +kernel
theorem dX12_go_259 : decode cX12_go 259 = .ok (.bipush 60, 2) := by decide +kernel
theorem dX12_go_261 : decode cX12_go 261 = .ok (.if_icmp .ne 7, 3) := by decide +kernel
theorem dX12_go_264 : decode cX12_go 264 = .ok (.iconst 0, 1) := by decide +kernel
theorem dX12_go_265 : decode cX12_go 265 = .ok (.goto 14, 3) := by decide +kernel
theorem dX12_go_268 : decode cX12_go 268 = .ok (.iload_n 1, 1) := by decide +kernel
theorem dX12_go_269 : decode cX12_go 269 = .ok (.bipush 61, 2) := by decide +kernel
theorem dX12_go_271 : decode cX12_go 271 = .ok (.if_icmp .ne 7, 3) := by decide +kernel
theorem dX12_go_274 : decode cX12_go 274 = .ok (.iconst 1, 1) := by decide +kernel
theorem dX12_go_275 : decode cX12_go 275 = .ok (.goto 4, 3) := by decide +kernel
theorem dX12_go_278 : decode cX12_go 278 = .ok (.iconst 2, 1) := by decide +kernel
theorem dX12_go_279 : decode cX12_go 279 = .ok (.putfield 211, 3) := by decide +kernel
theorem dX12_go_282 : decode cX12_go 282 = .ok (.aload_n 0, 1) := by decide +kernel
theorem dX12_go_283 : decode cX12_go 283 = .ok (.bipush 7, 2) := by decide +kernel
theorem dX12_go_285 : decode cX12_go 285 = .ok (.putfield 217, 3) := by decide +kernel
theorem dX12_go_288 : decode cX12_go 288 = .ok (.iload_n 1, 1) := by decide +kernel
theorem dX12_go_289 : decode cX12_go 289 = .ok (.bipush 60, 2) := by decide +kernel
theorem dX12_go_291 : decode cX12_go 291 = .ok (.if_icmp .eq 15, 3) := by decide +kernel
theorem dX12_go_294 : decode cX12_go 294 = .ok (.iload_n 1, 1) := by decide +kernel
theorem dX12_go_295 : decode cX12_go 295 = .ok (.bipush 61, 2) := by decide +kernel
theorem dX12_go_297 : decode cX12_go 297 = .ok (.if_icmp .eq 9, 3) := by decide +kernel
theorem dX12_go_300 : decode cX12_go 300 = .ok (.iload_n 1, 1) := by decide +kernel
theorem dX12_go_301 : decode cX12_go 301 = .ok (.bipush 62, 2) := by decide +kernel
theorem dX12_go_303 : decode cX12_go 303 = .ok (.if_icmp .ne 7, 3) := by decide +kernel
theorem dX12_go_306 : decode cX12_go 306 = .ok (.iconst 1, 1) := by decide +kernel
theorem dX12_go_307 : decode cX12_go 307 = .ok (.goto 4, 3) := by decide +kernel
theorem dX12_go_310 : decode cX12_go 310 = .ok (.iconst 0, 1) := by decide +kernel
theorem dX12_go_311 : decode cX12_go 311 = .ok (.ireturn, 1) := by decide +kernel
theorem dX12_go_312 : decode cX12_go 312 = .ok (.aload_n 0, 1) := by decide +kernel
theorem dX12_go_313 : decode cX12_go 313 = .ok (.iload_n 1, 1) := by decide +kernel
theorem dX12_go_314 : decode cX12_go 314 = .ok (.bipush 48, 2) := by decide +kernel
theorem dX12_go_316 : decode cX12_go 316 = .ok (.isub, 1) := by decide +kernel
theorem dX12_go_317 : decode cX12_go 317 = .ok (.putfield 214, 3) := by decide +kernel
theorem dX12_go_320 : decode cX12_go 320 = .ok (.aload_n 0, 1) := by decide +kernel
theorem dX12_go_321 : decode cX12_go 321 = .ok (.bipush 8, 2) := by decide +kernel
theorem dX12_go_323 : decode cX12_go 323 = .ok (.putfield 217, 3) := by decide +kernel
theorem dX12_go_326 : decode cX12_go 326 = .ok (.iload_n 2, 1) := by decide +kernel
theorem dX12_go_327 : decode cX12_go 327 = .ok (.ireturn, 1) := by decide +kernel
theorem dX12_go_328 : decode cX12_go 328 = .ok (.iload_n 2, 1) := by decide +kernel
theorem dX12_go_329 : decode cX12_go 329 = .ok (.ifCond .eq 25, 3) := by decide +kernel
theorem dX12_go_332 : decode cX12_go 332 = .ok (.aload_n 0, 1) := by decide +kernel
theorem dX12_go_333 : decode cX12_go 333 = .ok (.bipush 10, 2) := by decide +kernel
theorem dX12_go_335 : decode cX12_go 335 = .ok (.aload_n 0, 1) := by decide +kernel
theorem dX12_go_336 : decode cX12_go 336 = .ok (.getfield 214, 3) := by decide +kernel
theorem dX12_go_339 : decode cX12_go 339 = .ok (.imul, 1) := by decide +kernel
theorem dX12_go_340 : decode cX12_go 340 = .ok (.iload_n 1, 1) := by decide +kernel
theorem dX12_go_341 : decode cX12_go 341 = .ok (.iadd, 1) := by decide +kernel
theorem dX12_go_342 : decode cX12_go 342 = .ok (.bipush 48, 2) := by decide +kernel
theorem dX12_go_344 : decode cX12_go 344 = .ok (.isub, 1) := by decide +kernel
theorem dX12_go_345 : decode cX12_go 345 = .ok (.putfield 214, 3) := by decide +kernel
theorem dX12_go_348 : decode cX12_go 348 = .ok (.aload_n 0, 1) := by decide +kernel
theorem dX12_go_349 : decode cX12_go 349 = .ok (.invokevirtual 220, 3) := by decide +kernel
theorem dX12_go_352 : decode cX12_go 352 = .ok (.iconst 1, 1) := by decide +kernel
theorem dX12_go_353 : decode cX12_go 353 = .ok (.ireturn, 1) := by decide +kernel
theorem dX12_go_354 : decode cX12_go 354 = .ok (.aload_n 0, 1) := by decide +kernel
theorem dX12_go_355 : decode cX12_go 355 = .ok (.iload_n 1, 1) := by decide +kernel
theorem dX12_go_356 : decode cX12_go 356 = .ok (.invokevirtual 243, 3) := by decide +kernel
theorem dX12_go_359 : decode cX12_go 359 = .ok (.ireturn, 1) := by decide +kernel
theorem dX12_go_360 : decode cX12_go 360 = .ok (.aload_n 0, 1) := by decide +kernel
theorem dX12_go_361 : decode cX12_go 361 = .ok (.iload_n 1, 1) := by decide +kernel
theorem dX12_go_362 : decode cX12_go 362 = .ok (.invokevirtual 243, 3) := by decide +kernel
theorem dX12_go_365 : decode cX12_go 365 = .ok (.ireturn, 1) := by decide +kernel
theorem dX12_faultOf_0 : decode cX12_faultOf 0 = .ok (.aload_n 0, 1) := by decide +kernel
theorem dX12_faultOf_1 : decode cX12_faultOf 1 = .ok (.iconst 0, 1) := by decide +kernel
theorem dX12_faultOf_2 : decode cX12_faultOf 2 = .ok (.putfield 217, 3) := by decide +kernel
theorem dX12_faultOf_5 : decode cX12_faultOf 5 = .ok (.aload_n 0, 1) := by decide +kernel
theorem dX12_faultOf_6 : decode cX12_faultOf 6 = .ok (.iconst 0, 1) := by decide +kernel
theorem dX12_faultOf_7 : decode cX12_faultOf 7 = .ok (.putfield 198, 3) := by decide +kernel
theorem dX12_faultOf_10 : decode cX12_faultOf 10 = .ok (.aload_n 0, 1) := by decide +kernel
theorem dX12_faultOf_11 : decode cX12_faultOf 11 = .ok (.iconst 0, 1) := by decide +kernel
theorem dX12_faultOf_12 : decode cX12_faultOf 12 = .ok (.putfield 201, 3) := by decide +kernel
theorem dX12_faultOf_15 : decode cX12_faultOf 15 = .ok (.iconst 0, 1) := by decide +kernel
theorem dX12_faultOf_16 : decode cX12_faultOf 16 = .ok (.istore_n 1, 1) := by decide +kernel
theorem dX12_faultOf_17 : decode cX12_faultOf 17 = .ok (.iload_n 1, 1) := by decide +kernel
theorem dX12_faultOf_18 : decode cX12_faultOf 18 = .ok (.aload_n 0, 1) := by decide +kernel
theorem dX12_faultOf_19 : decode cX12_faultOf 19 = .ok (.getfield 195, 3) := by decide +kernel
theorem dX12_faultOf_22 : decode cX12_faultOf 22 = .ok (.if_icmp .ge 22, 3) := by decide +kernel
theorem dX12_faultOf_25 : decode cX12_faultOf 25 = .ok (.aload_n 0, 1) := by decide +kernel
theorem dX12_faultOf_26 : decode cX12_faultOf 26 = .ok (.aload_n 0, 1) := by decide +kernel
theorem dX12_faultOf_27 : decode cX12_faultOf 27 = .ok (.getfield 25, 3) := by decide +kernel
theorem dX12_faultOf_30 : decode cX12_faultOf 30 = .ok (.iload_n 1, 1) := by decide +kernel
theorem dX12_faultOf_31 : decode cX12_faultOf 31 = .ok (.iaload, 1) := by decide +kernel
theorem dX12_faultOf_32 : decode cX12_faultOf 32 = .ok (.invokevirtual 246, 3) := by decide +kernel
theorem dX12_faultOf_35 : decode cX12_faultOf 35 = .ok (.ifCond .eq 9, 3) := by decide +kernel
theorem dX12_faultOf_38 : decode cX12_faultOf 38 = .ok (.iinc 1 1, 3) := by decide +kernel
theorem dX12_faultOf_41 : decode cX12_faultOf 41 = .ok (.goto (-24), 3) := by decide +kernel
theorem dX12_faultOf_44 : decode cX12_faultOf 44 = .ok (.iload_n 1, 1) := by decide +kernel
theorem dX12_faultOf_45 : decode cX12_faultOf 45 = .ok (.ireturn, 1) := by decide +kernel
theorem dX12_fault_0 : decode cX12_fault 0 = .ok (.aload_n 0, 1) := by decide +kernel
theorem dX12_fault_1 : decode cX12_fault 1 = .ok (.invokevirtual 249, 3) := by decide +kernel
theorem dX12_fault_4 : decode cX12_fault 4 = .ok (.ireturn, 1) := by decide +kernel
theorem dX12_isHolder_0 : decode cX12_isHolder 0 = .ok (.iload_n 0, 1) := by decide +kernel
theorem dX12_isHolder_1 : decode cX12_isHolder 1 = .ok (.i2l, 1) := by decide +kernel
theorem dX12_isHolder_2 : decode cX12_isHolder 2 = .ok (.lconst 0, 1) := by decide +kernel
theorem dX12_isHolder_3 : decode cX12_isHolder 3 = .ok (.lconst 1, 1) := by decide +kernel
theorem dX12_isHolder_4 : decode cX12_isHolder 4 = .ok (.invokestatic 92, 3) := by decide +kernel
theorem dX12_isHolder_7 : decode cX12_isHolder 7 = .ok (.ireturn, 1) := by decide +kernel
theorem dX12_law_0 : decode cX12_law 0 = .ok (.iload_n 1, 1) := by decide +kernel
theorem dX12_law_1 : decode cX12_law 1 = .ok (.invokestatic 252, 3) := by decide +kernel
theorem dX12_law_4 : decode cX12_law 4 = .ok (.ifCond .ne 6, 3) := by decide +kernel
theorem dX12_law_7 : decode cX12_law 7 = .ok (.bipush (-101), 2) := by decide +kernel
theorem dX12_law_9 : decode cX12_law 9 = .ok (.ireturn, 1) := by decide +kernel
theorem dX12_law_10 : decode cX12_law 10 = .ok (.aload_n 0, 1) := by decide +kernel
theorem dX12_law_11 : decode cX12_law 11 = .ok (.invokevirtual 249, 3) := by decide +kernel
theorem dX12_law_14 : decode cX12_law 14 = .ok (.aload_n 0, 1) := by decide +kernel
theorem dX12_law_15 : decode cX12_law 15 = .ok (.getfield 195, 3) := by decide +kernel
theorem dX12_law_18 : decode cX12_law 18 = .ok (.if_icmp .lt 28, 3) := by decide +kernel
theorem dX12_law_21 : decode cX12_law 21 = .ok (.aload_n 0, 1) := by decide +kernel
theorem dX12_law_22 : decode cX12_law 22 = .ok (.getfield 217, 3) := by decide +kernel
theorem dX12_law_25 : decode cX12_law 25 = .ok (.iconst 3, 1) := by decide +kernel
theorem dX12_law_26 : decode cX12_law 26 = .ok (.if_icmp .eq 23, 3) := by decide +kernel
theorem dX12_law_29 : decode cX12_law 29 = .ok (.aload_n 0, 1) := by decide +kernel
theorem dX12_law_30 : decode cX12_law 30 = .ok (.getfield 217, 3) := by decide +kernel
theorem dX12_law_33 : decode cX12_law 33 = .ok (.iconst 4, 1) := by decide +kernel
theorem dX12_law_34 : decode cX12_law 34 = .ok (.if_icmp .eq 15, 3) := by decide +kernel
theorem dX12_law_37 : decode cX12_law 37 = .ok (.aload_n 0, 1) := by decide +kernel
theorem dX12_law_38 : decode cX12_law 38 = .ok (.getfield 217, 3) := by decide +kernel
theorem dX12_law_41 : decode cX12_law 41 = .ok (.bipush 8, 2) := by decide +kernel
theorem dX12_law_43 : decode cX12_law 43 = .ok (.if_icmp .ge 6, 3) := by decide +kernel
theorem dX12_law_46 : decode cX12_law 46 = .ok (.bipush (-103), 2) := by decide +kernel
theorem dX12_law_48 : decode cX12_law 48 = .ok (.ireturn, 1) := by decide +kernel
theorem dX12_law_49 : decode cX12_law 49 = .ok (.aload_n 0, 1) := by decide +kernel
theorem dX12_law_50 : decode cX12_law 50 = .ok (.getfield 28, 3) := by decide +kernel
theorem dX12_law_53 : decode cX12_law 53 = .ok (.iload_n 1, 1) := by decide +kernel
theorem dX12_law_54 : decode cX12_law 54 = .ok (.iaload, 1) := by decide +kernel
theorem dX12_law_55 : decode cX12_law 55 = .ok (.bipush 8, 2) := by decide +kernel
theorem dX12_law_57 : decode cX12_law 57 = .ok (.if_icmp .ne 6, 3) := by decide +kernel
theorem dX12_law_60 : decode cX12_law 60 = .ok (.bipush (-104), 2) := by decide +kernel
theorem dX12_law_62 : decode cX12_law 62 = .ok (.ireturn, 1) := by decide +kernel
theorem dX12_law_63 : decode cX12_law 63 = .ok (.aload_n 0, 1) := by decide +kernel
theorem dX12_law_64 : decode cX12_law 64 = .ok (.getfield 217, 3) := by decide +kernel
theorem dX12_law_67 : decode cX12_law 67 = .ok (.bipush 8, 2) := by decide +kernel
theorem dX12_law_69 : decode cX12_law 69 = .ok (.if_icmp .ne 7, 3) := by decide +kernel
theorem dX12_law_72 : decode cX12_law 72 = .ok (.aload_n 0, 1) := by decide +kernel
theorem dX12_law_73 : decode cX12_law 73 = .ok (.invokevirtual 220, 3) := by decide +kernel
theorem dX12_law_76 : decode cX12_law 76 = .ok (.aload_n 0, 1) := by decide +kernel
theorem dX12_law_77 : decode cX12_law 77 = .ok (.bipush 11, 2) := by decide +kernel
theorem dX12_law_79 : decode cX12_law 79 = .ok (.invokevirtual 223, 3) := by decide +kernel
theorem dX12_law_82 : decode cX12_law 82 = .ok (.bipush 8, 2) := by decide +kernel
theorem dX12_law_84 : decode cX12_law 84 = .ok (.iload_n 1, 1) := by decide +kernel
theorem dX12_law_85 : decode cX12_law 85 = .ok (.imul, 1) := by decide +kernel
theorem dX12_law_86 : decode cX12_law 86 = .ok (.aload_n 0, 1) := by decide +kernel
theorem dX12_law_87 : decode cX12_law 87 = .ok (.getfield 28, 3) := by decide +kernel
theorem dX12_law_90 : decode cX12_law 90 = .ok (.iload_n 1, 1) := by decide +kernel
theorem dX12_law_91 : decode cX12_law 91 = .ok (.iaload, 1) := by decide +kernel
theorem dX12_law_92 : decode cX12_law 92 = .ok (.iadd, 1) := by decide +kernel
theorem dX12_law_93 : decode cX12_law 93 = .ok (.istore_n 2, 1) := by decide +kernel
theorem dX12_law_94 : decode cX12_law 94 = .ok (.aload_n 0, 1) := by decide +kernel
theorem dX12_law_95 : decode cX12_law 95 = .ok (.getfield 31, 3) := by decide +kernel
theorem dX12_law_98 : decode cX12_law 98 = .ok (.iload_n 2, 1) := by decide +kernel
theorem dX12_law_99 : decode cX12_law 99 = .ok (.aload_n 0, 1) := by decide +kernel
theorem dX12_law_100 : decode cX12_law 100 = .ok (.getfield 234, 3) := by decide +kernel
theorem dX12_law_103 : decode cX12_law 103 = .ok (.iastore, 1) := by decide +kernel
theorem dX12_law_104 : decode cX12_law 104 = .ok (.aload_n 0, 1) := by decide +kernel
theorem dX12_law_105 : decode cX12_law 105 = .ok (.getfield 34, 3) := by decide +kernel
theorem dX12_law_108 : decode cX12_law 108 = .ok (.iload_n 2, 1) := by decide +kernel
theorem dX12_law_109 : decode cX12_law 109 = .ok (.aload_n 0, 1) := by decide +kernel
theorem dX12_law_110 : decode cX12_law 110 = .ok (.getfield 237, 3) := by decide +kernel
theorem dX12_law_113 : decode cX12_law 113 = .ok (.iastore, 1) := by decide +kernel
theorem dX12_law_114 : decode cX12_law 114 = .ok (.aload_n 0, 1) := by decide +kernel
theorem dX12_law_115 : decode cX12_law 115 = .ok (.getfield 37, 3) := by decide +kernel
theorem dX12_law_118 : decode cX12_law 118 = .ok (.iload_n 2, 1) := by decide +kernel
theorem dX12_law_119 : decode cX12_law 119 = .ok (.aload_n 0, 1) := by decide +kernel
theorem dX12_law_120 : decode cX12_law 120 = .ok (.getfield 198, 3) := by decide +kernel
theorem dX12_law_123 : decode cX12_law 123 = .ok (.iastore, 1) := by decide +kernel
theorem dX12_law_124 : decode cX12_law 124 = .ok (.iconst 0, 1) := by decide +kernel
theorem dX12_law_125 : decode cX12_law 125 = .ok (.istore_n 3, 1) := by decide +kernel
theorem dX12_law_126 : decode cX12_law 126 = .ok (.iload_n 3, 1) := by decide +kernel
theorem dX12_law_127 : decode cX12_law 127 = .ok (.aload_n 0, 1) := by decide +kernel
theorem dX12_law_128 : decode cX12_law 128 = .ok (.getfield 198, 3) := by decide +kernel
theorem dX12_law_131 : decode cX12_law 131 = .ok (.if_icmp .ge 43, 3) := by decide +kernel
theorem dX12_law_134 : decode cX12_law 134 = .ok (.aload_n 0, 1) := by decide +kernel
theorem dX12_law_135 : decode cX12_law 135 = .ok (.getfield 40, 3) := by decide +kernel
theorem dX12_law_138 : decode cX12_law 138 = .ok (.bipush 50, 2) := by decide +kernel
theorem dX12_law_140 : decode cX12_law 140 = .ok (.iload_n 2, 1) := by decide +kernel
theorem dX12_law_141 : decode cX12_law 141 = .ok (.imul, 1) := by decide +kernel
theorem dX12_law_142 : decode cX12_law 142 = .ok (.iload_n 3, 1) := by decide +kernel
theorem dX12_law_143 : decode cX12_law 143 = .ok (.iadd, 1) := by decide +kernel
theorem dX12_law_144 : decode cX12_law 144 = .ok (.aload_n 0, 1) := by decide +kernel
theorem dX12_law_145 : decode cX12_law 145 = .ok (.getfield 46, 3) := by decide +kernel
theorem dX12_law_148 : decode cX12_law 148 = .ok (.iload_n 3, 1) := by decide +kernel
theorem dX12_law_149 : decode cX12_law 149 = .ok (.iaload, 1) := by decide +kernel
theorem dX12_law_150 : decode cX12_law 150 = .ok (.iastore, 1) := by decide +kernel
theorem dX12_law_151 : decode cX12_law 151 = .ok (.aload_n 0, 1) := by decide +kernel
theorem dX12_law_152 : decode cX12_law 152 = .ok (.getfield 43, 3) := by decide +kernel
theorem dX12_law_155 : decode cX12_law 155 = .ok (.bipush 50, 2) := by decide +kernel
theorem dX12_law_157 : decode cX12_law 157 = .ok (.iload_n 2, 1) := by decide +kernel
theorem dX12_law_158 : decode cX12_law 158 = .ok (.imul, 1) := by decide +kernel
theorem dX12_law_159 : decode cX12_law 159 = .ok (.iload_n 3, 1) := by decide +kernel
theorem dX12_law_160 : decode cX12_law 160 = .ok (.iadd, 1) := by decide +kernel
theorem dX12_law_161 : decode cX12_law 161 = .ok (.aload_n 0, 1) := by decide +kernel
theorem dX12_law_162 : decode cX12_law 162 = .ok (.getfield 49, 3) := by decide +kernel
theorem dX12_law_165 : decode cX12_law 165 = .ok (.iload_n 3, 1) := by decide +kernel
theorem dX12_law_166 : decode cX12_law 166 = .ok (.iaload, 1) := by decide +kernel
theorem dX12_law_167 : decode cX12_law 167 = .ok (.iastore, 1) := by decide +kernel
theorem dX12_law_168 : decode cX12_law 168 = .ok (.iinc 3 1, 3) := by decide +kernel
theorem dX12_law_171 : decode cX12_law 171 = .ok (.goto (-45), 3) := by decide +kernel
theorem dX12_law_174 : decode cX12_law 174 = .ok (.aload_n 0, 1) := by decide +kernel
theorem dX12_law_175 : decode cX12_law 175 = .ok (.getfield 28, 3) := by decide +kernel
theorem dX12_law_178 : decode cX12_law 178 = .ok (.iload_n 1, 1) := by decide +kernel
theorem dX12_law_179 : decode cX12_law 179 = .ok (.dup2, 1) := by decide +kernel
theorem dX12_law_180 : decode cX12_law 180 = .ok (.iaload, 1) := by decide +kernel
theorem dX12_law_181 : decode cX12_law 181 = .ok (.iconst 1, 1) := by decide +kernel
theorem dX12_law_182 : decode cX12_law 182 = .ok (.iadd, 1) := by decide +kernel
theorem dX12_law_183 : decode cX12_law 183 = .ok (.iastore, 1) := by decide +kernel
theorem dX12_law_184 : decode cX12_law 184 = .ok (.aload_n 0, 1) := by decide +kernel
theorem dX12_law_185 : decode cX12_law 185 = .ok (.iconst 0, 1) := by decide +kernel
theorem dX12_law_186 : decode cX12_law 186 = .ok (.putfield 195, 3) := by decide +kernel
theorem dX12_law_189 : decode cX12_law 189 = .ok (.aload_n 0, 1) := by decide +kernel
theorem dX12_law_190 : decode cX12_law 190 = .ok (.getfield 28, 3) := by decide +kernel
theorem dX12_law_193 : decode cX12_law 193 = .ok (.iload_n 1, 1) := by decide +kernel
theorem dX12_law_194 : decode cX12_law 194 = .ok (.iaload, 1) := by decide +kernel
theorem dX12_law_195 : decode cX12_law 195 = .ok (.ireturn, 1) := by decide +kernel
theorem dX12_strike_0 : decode cX12_strike 0 = .ok (.iload_n 1, 1) := by decide +kernel
theorem dX12_strike_1 : decode cX12_strike 1 = .ok (.invokestatic 252, 3) := by decide +kernel
theorem dX12_strike_4 : decode cX12_strike 4 = .ok (.ifCond .ne 6, 3) := by decide +kernel
theorem dX12_strike_7 : decode cX12_strike 7 = .ok (.bipush (-101), 2) := by decide +kernel
theorem dX12_strike_9 : decode cX12_strike 9 = .ok (.ireturn, 1) := by decide +kernel
theorem dX12_strike_10 : decode cX12_strike 10 = .ok (.aload_n 0, 1) := by decide +kernel
theorem dX12_strike_11 : decode cX12_strike 11 = .ok (.getfield 28, 3) := by decide +kernel
theorem dX12_strike_14 : decode cX12_strike 14 = .ok (.iload_n 1, 1) := by decide +kernel
theorem dX12_strike_15 : decode cX12_strike 15 = .ok (.iaload, 1) := by decide +kernel
theorem dX12_strike_16 : decode cX12_strike 16 = .ok (.ifCond .ne 6, 3) := by decide +kernel
theorem dX12_strike_19 : decode cX12_strike 19 = .ok (.bipush (-103), 2) := by decide +kernel
theorem dX12_strike_21 : decode cX12_strike 21 = .ok (.ireturn, 1) := by decide +kernel
theorem dX12_strike_22 : decode cX12_strike 22 = .ok (.aload_n 0, 1) := by decide +kernel
theorem dX12_strike_23 : decode cX12_strike 23 = .ok (.getfield 28, 3) := by decide +kernel
theorem dX12_strike_26 : decode cX12_strike 26 = .ok (.iload_n 1, 1) := by decide +kernel
theorem dX12_strike_27 : decode cX12_strike 27 = .ok (.dup2, 1) := by decide +kernel
theorem dX12_strike_28 : decode cX12_strike 28 = .ok (.iaload, 1) := by decide +kernel
theorem dX12_strike_29 : decode cX12_strike 29 = .ok (.iconst 1, 1) := by decide +kernel
theorem dX12_strike_30 : decode cX12_strike 30 = .ok (.isub, 1) := by decide +kernel
theorem dX12_strike_31 : decode cX12_strike 31 = .ok (.iastore, 1) := by decide +kernel
theorem dX12_strike_32 : decode cX12_strike 32 = .ok (.aload_n 0, 1) := by decide +kernel
theorem dX12_strike_33 : decode cX12_strike 33 = .ok (.getfield 28, 3) := by decide +kernel
theorem dX12_strike_36 : decode cX12_strike 36 = .ok (.iload_n 1, 1) := by decide +kernel
theorem dX12_strike_37 : decode cX12_strike 37 = .ok (.iaload, 1) := by decide +kernel
theorem dX12_strike_38 : decode cX12_strike 38 = .ok (.ireturn, 1) := by decide +kernel
theorem dX12_holdsFor_0 : decode cX12_holdsFor 0 = .ok (.iconst 0, 1) := by decide +kernel
theorem dX12_holdsFor_1 : decode cX12_holdsFor 1 = .ok (.istore 5, 2) := by decide +kernel
theorem dX12_holdsFor_3 : decode cX12_holdsFor 3 = .ok (.iconst 0, 1) := by decide +kernel
theorem dX12_holdsFor_4 : decode cX12_holdsFor 4 = .ok (.istore 6, 2) := by decide +kernel
theorem dX12_holdsFor_6 : decode cX12_holdsFor 6 = .ok (.iload 6, 2) := by decide +kernel
theorem dX12_holdsFor_8 : decode cX12_holdsFor 8 = .ok (.aload_n 0, 1) := by decide +kernel
theorem dX12_holdsFor_9 : decode cX12_holdsFor 9 = .ok (.getfield 37, 3) := by decide +kernel
theorem dX12_holdsFor_12 : decode cX12_holdsFor 12 = .ok (.iload_n 1, 1) := by decide +kernel
theorem dX12_holdsFor_13 : decode cX12_holdsFor 13 = .ok (.iaload, 1) := by decide +kernel
theorem dX12_holdsFor_14 : decode cX12_holdsFor 14 = .ok (.if_icmp .ge 253, 3) := by decide +kernel
theorem dX12_holdsFor_17 : decode cX12_holdsFor 17 = .ok (.aload_n 0, 1) := by decide +kernel
theorem dX12_holdsFor_18 : decode cX12_holdsFor 18 = .ok (.getfield 40, 3) := by decide +kernel
theorem dX12_holdsFor_21 : decode cX12_holdsFor 21 = .ok (.bipush 50, 2) := by decide +kernel
theorem dX12_holdsFor_23 : decode cX12_holdsFor 23 = .ok (.iload_n 1, 1) := by decide +kernel
theorem dX12_holdsFor_24 : decode cX12_holdsFor 24 = .ok (.imul, 1) := by decide +kernel
theorem dX12_holdsFor_25 : decode cX12_holdsFor 25 = .ok (.iload 6, 2) := by decide +kernel
theorem dX12_holdsFor_27 : decode cX12_holdsFor 27 = .ok (.iadd, 1) := by decide +kernel
theorem dX12_holdsFor_28 : decode cX12_holdsFor 28 = .ok (.iaload, 1) := by decide +kernel
theorem dX12_holdsFor_29 : decode cX12_holdsFor 29 = .ok (.istore 7, 2) := by decide +kernel
theorem dX12_holdsFor_31 : decode cX12_holdsFor 31 = .ok (.iload 7, 2) := by decide +kernel
theorem dX12_holdsFor_33 : decode cX12_holdsFor 33 = .ok (.bipush 9, 2) := by decide +kernel
theorem dX12_holdsFor_35 : decode cX12_holdsFor 35 = .ok (.if_icmp .ge 114, 3) := by decide +kernel
theorem dX12_holdsFor_38 : decode cX12_holdsFor 38 = .ok (.iload 7, 2) := by decide +kernel
theorem dX12_holdsFor_40 : decode cX12_holdsFor 40 = .ok (.iconst 3, 1) := by decide +kernel
theorem dX12_holdsFor_41 : decode cX12_holdsFor 41 = .ok (.idiv, 1) := by decide +kernel
theorem dX12_holdsFor_42 : decode cX12_holdsFor 42 = .ok (.ifCond .ne 7, 3) := by decide +kernel
theorem dX12_holdsFor_45 : decode cX12_holdsFor 45 = .ok (.iload_n 2, 1) := by decide +kernel
theorem dX12_holdsFor_46 : decode cX12_holdsFor 46 = .ok (.goto 17, 3) := by decide +kernel
theorem dX12_holdsFor_49 : decode cX12_holdsFor 49 = .ok (.iload 7, 2) := by decide +kernel
theorem dX12_holdsFor_51 : decode cX12_holdsFor 51 = .ok (.iconst 3, 1) := by decide +kernel
theorem dX12_holdsFor_52 : decode cX12_holdsFor 52 = .ok (.idiv, 1) := by decide +kernel
theorem dX12_holdsFor_53 : decode cX12_holdsFor 53 = .ok (.iconst 1, 1) := by decide +kernel
theorem dX12_holdsFor_54 : decode cX12_holdsFor 54 = .ok (.if_icmp .ne 7, 3) := by decide +kernel
theorem dX12_holdsFor_57 : decode cX12_holdsFor 57 = .ok (.iload_n 3, 1) := by decide +kernel
theorem dX12_holdsFor_58 : decode cX12_holdsFor 58 = .ok (.goto 5, 3) := by decide +kernel
theorem dX12_holdsFor_61 : decode cX12_holdsFor 61 = .ok (.iload 4, 2) := by decide +kernel
theorem dX12_holdsFor_63 : decode cX12_holdsFor 63 = .ok (.istore 8, 2) := by decide +kernel
theorem dX12_holdsFor_65 : decode cX12_holdsFor 65 = .ok (.aload_n 0, 1) := by decide +kernel
theorem dX12_holdsFor_66 : decode cX12_holdsFor 66 = .ok (.getfield 43, 3) := by decide +kernel
theorem dX12_holdsFor_69 : decode cX12_holdsFor 69 = .ok (.bipush 50, 2) := by decide +kernel
theorem dX12_holdsFor_71 : decode cX12_holdsFor 71 = .ok (.iload_n 1, 1) := by decide +kernel
theorem dX12_holdsFor_72 : decode cX12_holdsFor 72 = .ok (.imul, 1) := by decide +kernel
theorem dX12_holdsFor_73 : decode cX12_holdsFor 73 = .ok (.iload 6, 2) := by decide +kernel
theorem dX12_holdsFor_75 : decode cX12_holdsFor 75 = .ok (.iadd, 1) := by decide +kernel
theorem dX12_holdsFor_76 : decode cX12_holdsFor 76 = .ok (.iaload, 1) := by decide +kernel
theorem dX12_holdsFor_77 : decode cX12_holdsFor 77 = .ok (.istore 9, 2) := by decide +kernel
theorem dX12_holdsFor_79 : decode cX12_holdsFor 79 = .ok (.aload_n 0, 1) := by decide +kernel
theorem dX12_holdsFor_80 : decode cX12_holdsFor 80 = .ok (.getfield 55, 3) := by decide +kernel
theorem dX12_holdsFor_83 : decode cX12_holdsFor 83 = .ok (.iload 5, 2) := by decide +kernel
theorem dX12_holdsFor_85 : decode cX12_holdsFor 85 = .ok (.iload 7, 2) := by decide +kernel
theorem dX12_holdsFor_87 : decode cX12_holdsFor 87 = .ok (.iconst 3, 1) := by decide +kernel
theorem dX12_holdsFor_88 : decode cX12_holdsFor 88 = .ok (.irem, 1) := by decide +kernel
theorem dX12_holdsFor_89 : decode cX12_holdsFor 89 = .ok (.ifCond .ne 18, 3) := by decide +kernel
theorem dX12_holdsFor_92 : decode cX12_holdsFor 92 = .ok (.iload 8, 2) := by decide +kernel
theorem dX12_holdsFor_94 : decode cX12_holdsFor 94 = .ok (.iload 9, 2) := by decide +kernel
theorem dX12_holdsFor_96 : decode cX12_holdsFor 96 = .ok (.if_icmp .ge 7, 3) := by decide +kernel
theorem dX12_holdsFor_99 : decode cX12_holdsFor 99 = .ok (.iconst 1, 1) := by decide +kernel
theorem dX12_holdsFor_100 : decode cX12_holdsFor 100 = .ok (.goto 42, 3) := by decide +kernel
theorem dX12_holdsFor_103 : decode cX12_holdsFor 103 = .ok (.iconst 0, 1) := by decide +kernel
theorem dX12_holdsFor_104 : decode cX12_holdsFor 104 = .ok (.goto 38, 3) := by decide +kernel
theorem dX12_holdsFor_107 : decode cX12_holdsFor 107 = .ok (.iload 7, 2) := by decide +kernel
theorem dX12_holdsFor_109 : decode cX12_holdsFor 109 = .ok (.iconst 3, 1) := by decide +kernel
theorem dX12_holdsFor_110 : decode cX12_holdsFor 110 = .ok (.irem, 1) := by decide +kernel
theorem dX12_holdsFor_111 : decode cX12_holdsFor 111 = .ok (.iconst 1, 1) := by decide +kernel
theorem dX12_holdsFor_112 : decode cX12_holdsFor 112 = .ok (.if_icmp .ne 18, 3) := by decide +kernel
theorem dX12_holdsFor_115 : decode cX12_holdsFor 115 = .ok (.iload 8, 2) := by decide +kernel
theorem dX12_holdsFor_117 : decode cX12_holdsFor 117 = .ok (.iload 9, 2) := by decide +kernel
theorem dX12_holdsFor_119 : decode cX12_holdsFor 119 = .ok (.if_icmp .ne 7, 3) := by decide +kernel
theorem dX12_holdsFor_122 : decode cX12_holdsFor 122 = .ok (.iconst 1, 1) := by decide +kernel
theorem dX12_holdsFor_123 : decode cX12_holdsFor 123 = .ok (.goto 19, 3) := by decide +kernel
theorem dX12_holdsFor_126 : decode cX12_holdsFor 126 = .ok (.iconst 0, 1) := by decide +kernel
theorem dX12_holdsFor_127 : decode cX12_holdsFor 127 = .ok (.goto 15, 3) := by decide +kernel
theorem dX12_holdsFor_130 : decode cX12_holdsFor 130 = .ok (.iload 8, 2) := by decide +kernel
theorem dX12_holdsFor_132 : decode cX12_holdsFor 132 = .ok (.iload 9, 2) := by decide +kernel
theorem dX12_holdsFor_134 : decode cX12_holdsFor 134 = .ok (.if_icmp .le 7, 3) := by decide +kernel
theorem dX12_holdsFor_137 : decode cX12_holdsFor 137 = .ok (.iconst 1, 1) := by decide +kernel
theorem dX12_holdsFor_138 : decode cX12_holdsFor 138 = .ok (.goto 4, 3) := by decide +kernel
theorem dX12_holdsFor_141 : decode cX12_holdsFor 141 = .ok (.iconst 0, 1) := by decide +kernel
theorem dX12_holdsFor_142 : decode cX12_holdsFor 142 = .ok (.bastore, 1) := by decide +kernel
theorem dX12_holdsFor_143 : decode cX12_holdsFor 143 = .ok (.iinc 5 1, 3) := by decide +kernel
theorem dX12_holdsFor_146 : decode cX12_holdsFor 146 = .ok (.goto 115, 3) := by decide +kernel
theorem dX12_holdsFor_149 : decode cX12_holdsFor 149 = .ok (.iload 7, 2) := by decide +kernel
theorem dX12_holdsFor_151 : decode cX12_holdsFor 151 = .ok (.bipush 9, 2) := by decide +kernel
theorem dX12_holdsFor_153 : decode cX12_holdsFor 153 = .ok (.if_icmp .ne 32, 3) := by decide +kernel
theorem dX12_holdsFor_156 : decode cX12_holdsFor 156 = .ok (.aload_n 0, 1) := by decide +kernel
theorem dX12_holdsFor_157 : decode cX12_holdsFor 157 = .ok (.getfield 55, 3) := by decide +kernel
theorem dX12_holdsFor_160 : decode cX12_holdsFor 160 = .ok (.iload 5, 2) := by decide +kernel
theorem dX12_holdsFor_162 : decode cX12_holdsFor 162 = .ok (.iconst 1, 1) := by decide +kernel
theorem dX12_holdsFor_163 : decode cX12_holdsFor 163 = .ok (.isub, 1) := by decide +kernel
theorem dX12_holdsFor_164 : decode cX12_holdsFor 164 = .ok (.aload_n 0, 1) := by decide +kernel
theorem dX12_holdsFor_165 : decode cX12_holdsFor 165 = .ok (.getfield 55, 3) := by decide +kernel
theorem dX12_holdsFor_168 : decode cX12_holdsFor 168 = .ok (.iload 5, 2) := by decide +kernel
theorem dX12_holdsFor_170 : decode cX12_holdsFor 170 = .ok (.iconst 1, 1) := by decide +kernel
theorem dX12_holdsFor_171 : decode cX12_holdsFor 171 = .ok (.isub, 1) := by decide +kernel
theorem dX12_holdsFor_172 : decode cX12_holdsFor 172 = .ok (.baload, 1) := by decide +kernel
theorem dX12_holdsFor_173 : decode cX12_holdsFor 173 = .ok (.ifCond .ne 7, 3) := by decide +kernel
theorem dX12_holdsFor_176 : decode cX12_holdsFor 176 = .ok (.iconst 1, 1) := by decide +kernel
theorem dX12_holdsFor_177 : decode cX12_holdsFor 177 = .ok (.goto 4, 3) := by decide +kernel
theorem dX12_holdsFor_180 : decode cX12_holdsFor 180 = .ok (.iconst 0, 1) := by decide +kernel
theorem dX12_holdsFor_181 : decode cX12_holdsFor 181 = .ok (.bastore, 1) := by decide +kernel
theorem dX12_holdsFor_182 : decode cX12_holdsFor 182 = .ok (.goto 79, 3) := by decide +kernel
theorem dX12_holdsFor_185 : decode cX12_holdsFor 185 = .ok (.iinc 5 (-1), 3) := by decide +kernel
theorem dX12_holdsFor_188 : decode cX12_holdsFor 188 = .ok (.aload_n 0, 1) := by decide +kernel
theorem dX12_holdsFor_189 : decode cX12_holdsFor 189 = .ok (.getfield 55, 3) := by decide +kernel
theorem dX12_holdsFor_192 : decode cX12_holdsFor 192 = .ok (.iload 5, 2) := by decide +kernel
theorem dX12_holdsFor_194 : decode cX12_holdsFor 194 = .ok (.iconst 1, 1) := by decide +kernel
theorem dX12_holdsFor_195 : decode cX12_holdsFor 195 = .ok (.isub, 1) := by decide +kernel
theorem dX12_holdsFor_196 : decode cX12_holdsFor 196 = .ok (.iload 7, 2) := by decide +kernel
theorem dX12_holdsFor_198 : decode cX12_holdsFor 198 = .ok (.bipush 10, 2) := by decide +kernel
theorem dX12_holdsFor_200 : decode cX12_holdsFor 200 = .ok (.if_icmp .ne 33, 3) := by decide +kernel
theorem dX12_holdsFor_203 : decode cX12_holdsFor 203 = .ok (.aload_n 0, 1) := by decide +kernel
theorem dX12_holdsFor_204 : decode cX12_holdsFor 204 = .ok (.getfield 55, 3) := by decide +kernel
theorem dX12_holdsFor_207 : decode cX12_holdsFor 207 = .ok (.iload 5, 2) := by decide +kernel
theorem dX12_holdsFor_209 : decode cX12_holdsFor 209 = .ok (.iconst 1, 1) := by decide +kernel
theorem dX12_holdsFor_210 : decode cX12_holdsFor 210 = .ok (.isub, 1) := by decide +kernel
theorem dX12_holdsFor_211 : decode cX12_holdsFor 211 = .ok (.baload, 1) := by decide +kernel
theorem dX12_holdsFor_212 : decode cX12_holdsFor 212 = .ok (.ifCond .eq 17, 3) := by decide +kernel
theorem dX12_holdsFor_215 : decode cX12_holdsFor 215 = .ok (.aload_n 0, 1) := by decide +kernel
theorem dX12_holdsFor_216 : decode cX12_holdsFor 216 = .ok (.getfield 55, 3) := by decide +kernel
theorem dX12_holdsFor_219 : decode cX12_holdsFor 219 = .ok (.iload 5, 2) := by decide +kernel
theorem dX12_holdsFor_221 : decode cX12_holdsFor 221 = .ok (.baload, 1) := by decide +kernel
theorem dX12_holdsFor_222 : decode cX12_holdsFor 222 = .ok (.ifCond .eq 7, 3) := by decide +kernel
theorem dX12_holdsFor_225 : decode cX12_holdsFor 225 = .ok (.iconst 1, 1) := by decide +kernel
theorem dX12_holdsFor_226 : decode cX12_holdsFor 226 = .ok (.goto 34, 3) := by decide +kernel
theorem dX12_holdsFor_229 : decode cX12_holdsFor 229 = .ok (.iconst 0, 1) := by decide +kernel
theorem dX12_holdsFor_230 : decode cX12_holdsFor 230 = .ok (.goto 30, 3) := by decide +kernel
theorem dX12_holdsFor_233 : decode cX12_holdsFor 233 = .ok (.aload_n 0, 1) := by decide +kernel
theorem dX12_holdsFor_234 : decode cX12_holdsFor 234 = .ok (.getfield 55, 3) := by decide +kernel
theorem dX12_holdsFor_237 : decode cX12_holdsFor 237 = .ok (.iload 5, 2) := by decide +kernel
theorem dX12_holdsFor_239 : decode cX12_holdsFor 239 = .ok (.iconst 1, 1) := by decide +kernel
theorem dX12_holdsFor_240 : decode cX12_holdsFor 240 = .ok (.isub, 1) := by decide +kernel
theorem dX12_holdsFor_241 : decode cX12_holdsFor 241 = .ok (.baload, 1) := by decide +kernel
theorem dX12_holdsFor_242 : decode cX12_holdsFor 242 = .ok (.ifCond .ne 13, 3) := by decide +kernel
theorem dX12_holdsFor_245 : decode cX12_holdsFor 245 = .ok (.aload_n 0, 1) := by decide +kernel
theorem dX12_holdsFor_246 : decode cX12_holdsFor 246 = .ok (.getfield 55, 3) := by decide +kernel
theorem dX12_holdsFor_249 : decode cX12_holdsFor 249 = .ok (.iload 5, 2) := by decide +kernel
theorem dX12_holdsFor_251 : decode cX12_holdsFor 251 = .ok (.baload, 1) := by decide +kernel
theorem dX12_holdsFor_252 : decode cX12_holdsFor 252 = .ok (.ifCond .eq 7, 3) := by decide +kernel
theorem dX12_holdsFor_255 : decode cX12_holdsFor 255 = .ok (.iconst 1, 1) := by decide +kernel
theorem dX12_holdsFor_256 : decode cX12_holdsFor 256 = .ok (.goto 4, 3) := by decide +kernel
theorem dX12_holdsFor_259 : decode cX12_holdsFor 259 = .ok (.iconst 0, 1) := by decide +kernel
theorem dX12_holdsFor_260 : decode cX12_holdsFor 260 = .ok (.bastore, 1) := by decide +kernel
theorem dX12_holdsFor_261 : decode cX12_holdsFor 261 = .ok (.iinc 6 1, 3) := by decide +kernel
theorem dX12_holdsFor_264 : decode cX12_holdsFor 264 = .ok (.goto (-258), 3) := by decide +kernel
theorem dX12_holdsFor_267 : decode cX12_holdsFor 267 = .ok (.iload 5, 2) := by decide +kernel
theorem dX12_holdsFor_269 : decode cX12_holdsFor 269 = .ok (.ifCond .eq 12, 3) := by decide +kernel
theorem dX12_holdsFor_272 : decode cX12_holdsFor 272 = .ok (.aload_n 0, 1) := by decide +kernel
theorem dX12_holdsFor_273 : decode cX12_holdsFor 273 = .ok (.getfield 55, 3) := by decide +kernel
theorem dX12_holdsFor_276 : decode cX12_holdsFor 276 = .ok (.iconst 0, 1) := by decide +kernel
theorem dX12_holdsFor_277 : decode cX12_holdsFor 277 = .ok (.baload, 1) := by decide +kernel
theorem dX12_holdsFor_278 : decode cX12_holdsFor 278 = .ok (.ifCond .eq 7, 3) := by decide +kernel
theorem dX12_holdsFor_281 : decode cX12_holdsFor 281 = .ok (.iconst 1, 1) := by decide +kernel
theorem dX12_holdsFor_282 : decode cX12_holdsFor 282 = .ok (.goto 4, 3) := by decide +kernel
theorem dX12_holdsFor_285 : decode cX12_holdsFor 285 = .ok (.iconst 0, 1) := by decide +kernel
theorem dX12_holdsFor_286 : decode cX12_holdsFor 286 = .ok (.ireturn, 1) := by decide +kernel
theorem dX12_apart_0 : decode cX12_apart 0 = .ok (.iload_n 0, 1) := by decide +kernel
theorem dX12_apart_1 : decode cX12_apart 1 = .ok (.bipush 16, 2) := by decide +kernel
theorem dX12_apart_3 : decode cX12_apart 3 = .ok (.irem, 1) := by decide +kernel
theorem dX12_apart_4 : decode cX12_apart 4 = .ok (.iload_n 1, 1) := by decide +kernel
theorem dX12_apart_5 : decode cX12_apart 5 = .ok (.bipush 16, 2) := by decide +kernel
theorem dX12_apart_7 : decode cX12_apart 7 = .ok (.irem, 1) := by decide +kernel
theorem dX12_apart_8 : decode cX12_apart 8 = .ok (.invokestatic 137, 3) := by decide +kernel
theorem dX12_apart_11 : decode cX12_apart 11 = .ok (.istore_n 2, 1) := by decide +kernel
theorem dX12_apart_12 : decode cX12_apart 12 = .ok (.iload_n 0, 1) := by decide +kernel
theorem dX12_apart_13 : decode cX12_apart 13 = .ok (.bipush 16, 2) := by decide +kernel
theorem dX12_apart_15 : decode cX12_apart 15 = .ok (.idiv, 1) := by decide +kernel
theorem dX12_apart_16 : decode cX12_apart 16 = .ok (.iload_n 1, 1) := by decide +kernel
theorem dX12_apart_17 : decode cX12_apart 17 = .ok (.bipush 16, 2) := by decide +kernel
theorem dX12_apart_19 : decode cX12_apart 19 = .ok (.idiv, 1) := by decide +kernel
theorem dX12_apart_20 : decode cX12_apart 20 = .ok (.invokestatic 137, 3) := by decide +kernel
theorem dX12_apart_23 : decode cX12_apart 23 = .ok (.iload_n 2, 1) := by decide +kernel
theorem dX12_apart_24 : decode cX12_apart 24 = .ok (.bipush 8, 2) := by decide +kernel
theorem dX12_apart_26 : decode cX12_apart 26 = .ok (.if_icmp .le 10, 3) := by decide +kernel
theorem dX12_apart_29 : decode cX12_apart 29 = .ok (.bipush 16, 2) := by decide +kernel
theorem dX12_apart_31 : decode cX12_apart 31 = .ok (.iload_n 2, 1) := by decide +kernel
theorem dX12_apart_32 : decode cX12_apart 32 = .ok (.isub, 1) := by decide +kernel
theorem dX12_apart_33 : decode cX12_apart 33 = .ok (.goto 4, 3) := by decide +kernel
theorem dX12_apart_36 : decode cX12_apart 36 = .ok (.iload_n 2, 1) := by decide +kernel
theorem dX12_apart_37 : decode cX12_apart 37 = .ok (.iadd, 1) := by decide +kernel
theorem dX12_apart_38 : decode cX12_apart 38 = .ok (.ireturn, 1) := by decide +kernel
theorem dX12_distanceOf_0 : decode cX12_distanceOf 0 = .ok (.bipush 99, 2) := by decide +kernel
theorem dX12_distanceOf_2 : decode cX12_distanceOf 2 = .ok (.istore_n 3, 1) := by decide +kernel
theorem dX12_distanceOf_3 : decode cX12_distanceOf 3 = .ok (.iconst 0, 1) := by decide +kernel
theorem dX12_distanceOf_4 : decode cX12_distanceOf 4 = .ok (.istore 4, 2) := by decide +kernel
theorem dX12_distanceOf_6 : decode cX12_distanceOf 6 = .ok (.iload 4, 2) := by decide +kernel
theorem dX12_distanceOf_8 : decode cX12_distanceOf 8 = .ok (.sipush 128, 3) := by decide +kernel
theorem dX12_distanceOf_11 : decode cX12_distanceOf 11 = .ok (.if_icmp .ge 70, 3) := by decide +kernel
theorem dX12_distanceOf_14 : decode cX12_distanceOf 14 = .ok (.iconst 0, 1) := by decide +kernel
theorem dX12_distanceOf_15 : decode cX12_distanceOf 15 = .ok (.istore 5, 2) := by decide +kernel
theorem dX12_distanceOf_17 : decode cX12_distanceOf 17 = .ok (.iload 5, 2) := by decide +kernel
theorem dX12_distanceOf_19 : decode cX12_distanceOf 19 = .ok (.sipush 128, 3) := by decide +kernel
theorem dX12_distanceOf_22 : decode cX12_distanceOf 22 = .ok (.if_icmp .ge 53, 3) := by decide +kernel
theorem dX12_distanceOf_25 : decode cX12_distanceOf 25 = .ok (.aload_n 0, 1) := by decide +kernel
theorem dX12_distanceOf_26 : decode cX12_distanceOf 26 = .ok (.getfield 7, 3) := by decide +kernel
theorem dX12_distanceOf_29 : decode cX12_distanceOf 29 = .ok (.iload 4, 2) := by decide +kernel
theorem dX12_distanceOf_31 : decode cX12_distanceOf 31 = .ok (.iaload, 1) := by decide +kernel
theorem dX12_distanceOf_32 : decode cX12_distanceOf 32 = .ok (.iload_n 1, 1) := by decide +kernel
theorem dX12_distanceOf_33 : decode cX12_distanceOf 33 = .ok (.if_icmp .ne 42, 3) := by decide +kernel
theorem dX12_distanceOf_36 : decode cX12_distanceOf 36 = .ok (.aload_n 0, 1) := by decide +kernel
theorem dX12_distanceOf_37 : decode cX12_distanceOf 37 = .ok (.getfield 7, 3) := by decide +kernel
theorem dX12_distanceOf_40 : decode cX12_distanceOf 40 = .ok (.iload 5, 2) := by decide +kernel
theorem dX12_distanceOf_42 : decode cX12_distanceOf 42 = .ok (.iaload, 1) := by decide +kernel
theorem dX12_distanceOf_43 : decode cX12_distanceOf 43 = .ok (.iload_n 2, 1) := by decide +kernel
theorem dX12_distanceOf_44 : decode cX12_distanceOf 44 = .ok (.if_icmp .ne 25, 3) := by decide +kernel
theorem dX12_distanceOf_47 : decode cX12_distanceOf 47 = .ok (.iload 4, 2) := by decide +kernel
theorem dX12_distanceOf_49 : decode cX12_distanceOf 49 = .ok (.iload 5, 2) := by decide +kernel
theorem dX12_distanceOf_51 : decode cX12_distanceOf 51 = .ok (.invokestatic 255, 3) := by decide +kernel
theorem dX12_distanceOf_54 : decode cX12_distanceOf 54 = .ok (.istore 6, 2) := by decide +kernel
theorem dX12_distanceOf_56 : decode cX12_distanceOf 56 = .ok (.iload 6, 2) := by decide +kernel
theorem dX12_distanceOf_58 : decode cX12_distanceOf 58 = .ok (.iload_n 3, 1) := by decide +kernel
theorem dX12_distanceOf_59 : decode cX12_distanceOf 59 = .ok (.if_icmp .ge 8, 3) := by decide +kernel
theorem dX12_distanceOf_62 : decode cX12_distanceOf 62 = .ok (.iload 6, 2) := by decide +kernel
theorem dX12_distanceOf_64 : decode cX12_distanceOf 64 = .ok (.goto 4, 3) := by decide +kernel
theorem dX12_distanceOf_67 : decode cX12_distanceOf 67 = .ok (.iload_n 3, 1) := by decide +kernel
theorem dX12_distanceOf_68 : decode cX12_distanceOf 68 = .ok (.istore_n 3, 1) := by decide +kernel
theorem dX12_distanceOf_69 : decode cX12_distanceOf 69 = .ok (.iinc 5 1, 3) := by decide +kernel
theorem dX12_distanceOf_72 : decode cX12_distanceOf 72 = .ok (.goto (-55), 3) := by decide +kernel
theorem dX12_distanceOf_75 : decode cX12_distanceOf 75 = .ok (.iinc 4 1, 3) := by decide +kernel
theorem dX12_distanceOf_78 : decode cX12_distanceOf 78 = .ok (.goto (-72), 3) := by decide +kernel
theorem dX12_distanceOf_81 : decode cX12_distanceOf 81 = .ok (.iload_n 3, 1) := by decide +kernel
theorem dX12_distanceOf_82 : decode cX12_distanceOf 82 = .ok (.ireturn, 1) := by decide +kernel
theorem dX12_distance_0 : decode cX12_distance 0 = .ok (.iload_n 1, 1) := by decide +kernel
theorem dX12_distance_1 : decode cX12_distance 1 = .ok (.iload_n 2, 1) := by decide +kernel
theorem dX12_distance_2 : decode cX12_distance 2 = .ok (.invokestatic 167, 3) := by decide +kernel
theorem dX12_distance_5 : decode cX12_distance 5 = .ok (.ifCond .eq 12, 3) := by decide +kernel
theorem dX12_distance_8 : decode cX12_distance 8 = .ok (.aload_n 0, 1) := by decide +kernel
theorem dX12_distance_9 : decode cX12_distance 9 = .ok (.iload_n 1, 1) := by decide +kernel
theorem dX12_distance_10 : decode cX12_distance 10 = .ok (.iload_n 2, 1) := by decide +kernel
theorem dX12_distance_11 : decode cX12_distance 11 = .ok (.invokevirtual 258, 3) := by decide +kernel
theorem dX12_distance_14 : decode cX12_distance 14 = .ok (.goto 5, 3) := by decide +kernel
theorem dX12_distance_17 : decode cX12_distance 17 = .ok (.bipush (-101), 2) := by decide +kernel
theorem dX12_distance_19 : decode cX12_distance 19 = .ok (.ireturn, 1) := by decide +kernel
theorem dX12_beast_0 : decode cX12_beast 0 = .ok (.iload_n 1, 1) := by decide +kernel
theorem dX12_beast_1 : decode cX12_beast 1 = .ok (.i2l, 1) := by decide +kernel
theorem dX12_beast_2 : decode cX12_beast 2 = .ok (.lconst 1, 1) := by decide +kernel
theorem dX12_beast_3 : decode cX12_beast 3 = .ok (.ldc2_w 261, 3) := by decide +kernel
theorem dX12_beast_6 : decode cX12_beast 6 = .ok (.invokestatic 92, 3) := by decide +kernel
theorem dX12_beast_9 : decode cX12_beast 9 = .ok (.ifCond .eq 15, 3) := by decide +kernel
theorem dX12_beast_12 : decode cX12_beast 12 = .ok (.iload_n 2, 1) := by decide +kernel
theorem dX12_beast_13 : decode cX12_beast 13 = .ok (.i2l, 1) := by decide +kernel
theorem dX12_beast_14 : decode cX12_beast 14 = .ok (.lconst 0, 1) := by decide +kernel
theorem dX12_beast_15 : decode cX12_beast 15 = .ok (.ldc2_w 263, 3) := by decide +kernel
theorem dX12_beast_18 : decode cX12_beast 18 = .ok (.invokestatic 92, 3) := by decide +kernel
theorem dX12_beast_21 : decode cX12_beast 21 = .ok (.ifCond .ne 6, 3) := by decide +kernel
theorem dX12_beast_24 : decode cX12_beast 24 = .ok (.bipush (-102), 2) := by decide +kernel
theorem dX12_beast_26 : decode cX12_beast 26 = .ok (.ireturn, 1) := by decide +kernel
theorem dX12_beast_27 : decode cX12_beast 27 = .ok (.aload_n 0, 1) := by decide +kernel
theorem dX12_beast_28 : decode cX12_beast 28 = .ok (.getfield 265, 3) := by decide +kernel
theorem dX12_beast_31 : decode cX12_beast 31 = .ok (.bipush 8, 2) := by decide +kernel
theorem dX12_beast_33 : decode cX12_beast 33 = .ok (.if_icmp .ne 6, 3) := by decide +kernel
theorem dX12_beast_36 : decode cX12_beast 36 = .ok (.bipush (-104), 2) := by decide +kernel
theorem dX12_beast_38 : decode cX12_beast 38 = .ok (.ireturn, 1) := by decide +kernel
theorem dX12_beast_39 : decode cX12_beast 39 = .ok (.aload_n 0, 1) := by decide +kernel
theorem dX12_beast_40 : decode cX12_beast 40 = .ok (.getfield 59, 3) := by decide +kernel
theorem dX12_beast_43 : decode cX12_beast 43 = .ok (.aload_n 0, 1) := by decide +kernel
theorem dX12_beast_44 : decode cX12_beast 44 = .ok (.getfield 265, 3) := by decide +kernel
theorem dX12_beast_47 : decode cX12_beast 47 = .ok (.iload_n 1, 1) := by decide +kernel
theorem dX12_beast_48 : decode cX12_beast 48 = .ok (.iastore, 1) := by decide +kernel
theorem dX12_beast_49 : decode cX12_beast 49 = .ok (.aload_n 0, 1) := by decide +kernel
theorem dX12_beast_50 : decode cX12_beast 50 = .ok (.getfield 62, 3) := by decide +kernel
theorem dX12_beast_53 : decode cX12_beast 53 = .ok (.aload_n 0, 1) := by decide +kernel
theorem dX12_beast_54 : decode cX12_beast 54 = .ok (.getfield 265, 3) := by decide +kernel
theorem dX12_beast_57 : decode cX12_beast 57 = .ok (.iload_n 2, 1) := by decide +kernel
theorem dX12_beast_58 : decode cX12_beast 58 = .ok (.iastore, 1) := by decide +kernel
theorem dX12_beast_59 : decode cX12_beast 59 = .ok (.aload_n 0, 1) := by decide +kernel
theorem dX12_beast_60 : decode cX12_beast 60 = .ok (.dup, 1) := by decide +kernel
theorem dX12_beast_61 : decode cX12_beast 61 = .ok (.getfield 265, 3) := by decide +kernel
theorem dX12_beast_64 : decode cX12_beast 64 = .ok (.iconst 1, 1) := by decide +kernel
theorem dX12_beast_65 : decode cX12_beast 65 = .ok (.iadd, 1) := by decide +kernel
theorem dX12_beast_66 : decode cX12_beast 66 = .ok (.putfield 265, 3) := by decide +kernel
theorem dX12_beast_69 : decode cX12_beast 69 = .ok (.aload_n 0, 1) := by decide +kernel
theorem dX12_beast_70 : decode cX12_beast 70 = .ok (.getfield 265, 3) := by decide +kernel
theorem dX12_beast_73 : decode cX12_beast 73 = .ok (.iconst 1, 1) := by decide +kernel
theorem dX12_beast_74 : decode cX12_beast 74 = .ok (.isub, 1) := by decide +kernel
theorem dX12_beast_75 : decode cX12_beast 75 = .ok (.ireturn, 1) := by decide +kernel
theorem dX12_wayCost_0 : decode cX12_wayCost 0 = .ok (.iconst (-1), 1) := by decide +kernel
theorem dX12_wayCost_1 : decode cX12_wayCost 1 = .ok (.istore 5, 2) := by decide +kernel
theorem dX12_wayCost_3 : decode cX12_wayCost 3 = .ok (.bipush 8, 2) := by decide +kernel
theorem dX12_wayCost_5 : decode cX12_wayCost 5 = .ok (.iload_n 1, 1) := by decide +kernel
theorem dX12_wayCost_6 : decode cX12_wayCost 6 = .ok (.imul, 1) := by decide +kernel
theorem dX12_wayCost_7 : decode cX12_wayCost 7 = .ok (.istore 6, 2) := by decide +kernel
theorem dX12_wayCost_9 : decode cX12_wayCost 9 = .ok (.iload 6, 2) := by decide +kernel
theorem dX12_wayCost_11 : decode cX12_wayCost 11 = .ok (.bipush 8, 2) := by decide +kernel
theorem dX12_wayCost_13 : decode cX12_wayCost 13 = .ok (.iload_n 1, 1) := by decide +kernel
theorem dX12_wayCost_14 : decode cX12_wayCost 14 = .ok (.imul, 1) := by decide +kernel
theorem dX12_wayCost_15 : decode cX12_wayCost 15 = .ok (.aload_n 0, 1) := by decide +kernel
theorem dX12_wayCost_16 : decode cX12_wayCost 16 = .ok (.getfield 28, 3) := by decide +kernel
theorem dX12_wayCost_19 : decode cX12_wayCost 19 = .ok (.iload_n 1, 1) := by decide +kernel
theorem dX12_wayCost_20 : decode cX12_wayCost 20 = .ok (.iaload, 1) := by decide +kernel
theorem dX12_wayCost_21 : decode cX12_wayCost 21 = .ok (.iadd, 1) := by decide +kernel
theorem dX12_wayCost_22 : decode cX12_wayCost 22 = .ok (.if_icmp .ge 72, 3) := by decide +kernel
theorem dX12_wayCost_25 : decode cX12_wayCost 25 = .ok (.aload_n 0, 1) := by decide +kernel
theorem dX12_wayCost_26 : decode cX12_wayCost 26 = .ok (.getfield 31, 3) := by decide +kernel
theorem dX12_wayCost_29 : decode cX12_wayCost 29 = .ok (.iload 6, 2) := by decide +kernel
theorem dX12_wayCost_31 : decode cX12_wayCost 31 = .ok (.iaload, 1) := by decide +kernel
theorem dX12_wayCost_32 : decode cX12_wayCost 32 = .ok (.iload 4, 2) := by decide +kernel
theorem dX12_wayCost_34 : decode cX12_wayCost 34 = .ok (.if_icmp .ne 32, 3) := by decide +kernel
theorem dX12_wayCost_37 : decode cX12_wayCost 37 = .ok (.aload_n 0, 1) := by decide +kernel
theorem dX12_wayCost_38 : decode cX12_wayCost 38 = .ok (.iload 6, 2) := by decide +kernel
theorem dX12_wayCost_40 : decode cX12_wayCost 40 = .ok (.iload_n 3, 1) := by decide +kernel
theorem dX12_wayCost_41 : decode cX12_wayCost 41 = .ok (.aload_n 0, 1) := by decide +kernel
theorem dX12_wayCost_42 : decode cX12_wayCost 42 = .ok (.getfield 62, 3) := by decide +kernel
theorem dX12_wayCost_45 : decode cX12_wayCost 45 = .ok (.iload_n 2, 1) := by decide +kernel
theorem dX12_wayCost_46 : decode cX12_wayCost 46 = .ok (.iaload, 1) := by decide +kernel
theorem dX12_wayCost_47 : decode cX12_wayCost 47 = .ok (.aload_n 0, 1) := by decide +kernel
theorem dX12_wayCost_48 : decode cX12_wayCost 48 = .ok (.getfield 59, 3) := by decide +kernel
theorem dX12_wayCost_51 : decode cX12_wayCost 51 = .ok (.iload_n 2, 1) := by decide +kernel
theorem dX12_wayCost_52 : decode cX12_wayCost 52 = .ok (.iaload, 1) := by decide +kernel
theorem dX12_wayCost_53 : decode cX12_wayCost 53 = .ok (.invokestatic 268, 3) := by decide +kernel
theorem dX12_wayCost_56 : decode cX12_wayCost 56 = .ok (.invokevirtual 271, 3) := by decide +kernel
theorem dX12_wayCost_59 : decode cX12_wayCost 59 = .ok (.ifCond .eq 7, 3) := by decide +kernel
theorem dX12_wayCost_62 : decode cX12_wayCost 62 = .ok (.iconst 1, 1) := by decide +kernel
theorem dX12_wayCost_63 : decode cX12_wayCost 63 = .ok (.goto 4, 3) := by decide +kernel
theorem dX12_wayCost_66 : decode cX12_wayCost 66 = .ok (.iconst 0, 1) := by decide +kernel
theorem dX12_wayCost_67 : decode cX12_wayCost 67 = .ok (.istore 7, 2) := by decide +kernel
theorem dX12_wayCost_69 : decode cX12_wayCost 69 = .ok (.iload 7, 2) := by decide +kernel
theorem dX12_wayCost_71 : decode cX12_wayCost 71 = .ok (.ifCond .eq 13, 3) := by decide +kernel
theorem dX12_wayCost_74 : decode cX12_wayCost 74 = .ok (.aload_n 0, 1) := by decide +kernel
theorem dX12_wayCost_75 : decode cX12_wayCost 75 = .ok (.getfield 34, 3) := by decide +kernel
theorem dX12_wayCost_78 : decode cX12_wayCost 78 = .ok (.iload 6, 2) := by decide +kernel
theorem dX12_wayCost_80 : decode cX12_wayCost 80 = .ok (.iaload, 1) := by decide +kernel
theorem dX12_wayCost_81 : decode cX12_wayCost 81 = .ok (.goto 5, 3) := by decide +kernel
theorem dX12_wayCost_84 : decode cX12_wayCost 84 = .ok (.iload 5, 2) := by decide +kernel
theorem dX12_wayCost_86 : decode cX12_wayCost 86 = .ok (.istore 5, 2) := by decide +kernel
theorem dX12_wayCost_88 : decode cX12_wayCost 88 = .ok (.iinc 6 1, 3) := by decide +kernel
theorem dX12_wayCost_91 : decode cX12_wayCost 91 = .ok (.goto (-82), 3) := by decide +kernel
theorem dX12_wayCost_94 : decode cX12_wayCost 94 = .ok (.iload 4, 2) := by decide +kernel
theorem dX12_wayCost_96 : decode cX12_wayCost 96 = .ok (.ifCond .ne 12, 3) := by decide +kernel
theorem dX12_wayCost_99 : decode cX12_wayCost 99 = .ok (.iload_n 3, 1) := by decide +kernel
theorem dX12_wayCost_100 : decode cX12_wayCost 100 = .ok (.iconst 1, 1) := by decide +kernel
theorem dX12_wayCost_101 : decode cX12_wayCost 101 = .ok (.if_icmp .eq 7, 3) := by decide +kernel
theorem dX12_wayCost_104 : decode cX12_wayCost 104 = .ok (.iconst (-1), 1) := by decide +kernel
theorem dX12_wayCost_105 : decode cX12_wayCost 105 = .ok (.goto 5, 3) := by decide +kernel
theorem dX12_wayCost_108 : decode cX12_wayCost 108 = .ok (.iload 5, 2) := by decide +kernel
theorem dX12_wayCost_110 : decode cX12_wayCost 110 = .ok (.ireturn, 1) := by decide +kernel
theorem dX12_crossingOf_0 : decode cX12_crossingOf 0 = .ok (.aload_n 0, 1) := by decide +kernel
theorem dX12_crossingOf_1 : decode cX12_crossingOf 1 = .ok (.iload_n 3, 1) := by decide +kernel
theorem dX12_crossingOf_2 : decode cX12_crossingOf 2 = .ok (.iload 4, 2) := by decide +kernel
theorem dX12_crossingOf_4 : decode cX12_crossingOf 4 = .ok (.invokevirtual 258, 3) := by decide +kernel
theorem dX12_crossingOf_7 : decode cX12_crossingOf 7 = .ok (.istore 5, 2) := by decide +kernel
theorem dX12_crossingOf_9 : decode cX12_crossingOf 9 = .ok (.iconst (-1), 1) := by decide +kernel
theorem dX12_crossingOf_10 : decode cX12_crossingOf 10 = .ok (.istore 6, 2) := by decide +kernel
theorem dX12_crossingOf_12 : decode cX12_crossingOf 12 = .ok (.aload_n 0, 1) := by decide +kernel
theorem dX12_crossingOf_13 : decode cX12_crossingOf 13 = .ok (.iconst (-1), 1) := by decide +kernel
theorem dX12_crossingOf_14 : decode cX12_crossingOf 14 = .ok (.putfield 274, 3) := by decide +kernel
theorem dX12_crossingOf_17 : decode cX12_crossingOf 17 = .ok (.iconst 0, 1) := by decide +kernel
theorem dX12_crossingOf_18 : decode cX12_crossingOf 18 = .ok (.istore 7, 2) := by decide +kernel
theorem dX12_crossingOf_20 : decode cX12_crossingOf 20 = .ok (.iload 7, 2) := by decide +kernel
theorem dX12_crossingOf_22 : decode cX12_crossingOf 22 = .ok (.iconst 4, 1) := by decide +kernel
theorem dX12_crossingOf_23 : decode cX12_crossingOf 23 = .ok (.if_icmp .ge 50, 3) := by decide +kernel
theorem dX12_crossingOf_26 : decode cX12_crossingOf 26 = .ok (.aload_n 0, 1) := by decide +kernel
theorem dX12_crossingOf_27 : decode cX12_crossingOf 27 = .ok (.iload_n 1, 1) := by decide +kernel
theorem dX12_crossingOf_28 : decode cX12_crossingOf 28 = .ok (.iload_n 2, 1) := by decide +kernel
theorem dX12_crossingOf_29 : decode cX12_crossingOf 29 = .ok (.iload 5, 2) := by decide +kernel
theorem dX12_crossingOf_31 : decode cX12_crossingOf 31 = .ok (.iload 7, 2) := by decide +kernel
theorem dX12_crossingOf_33 : decode cX12_crossingOf 33 = .ok (.invokevirtual 277, 3) := by decide +kernel
theorem dX12_crossingOf_36 : decode cX12_crossingOf 36 = .ok (.istore 8, 2) := by decide +kernel
theorem dX12_crossingOf_38 : decode cX12_crossingOf 38 = .ok (.iload 8, 2) := by decide +kernel
theorem dX12_crossingOf_40 : decode cX12_crossingOf 40 = .ok (.iconst (-1), 1) := by decide +kernel
theorem dX12_crossingOf_41 : decode cX12_crossingOf 41 = .ok (.if_icmp .eq 26, 3) := by decide +kernel
theorem dX12_crossingOf_44 : decode cX12_crossingOf 44 = .ok (.iload 6, 2) := by decide +kernel
theorem dX12_crossingOf_46 : decode cX12_crossingOf 46 = .ok (.iconst (-1), 1) := by decide +kernel
theorem dX12_crossingOf_47 : decode cX12_crossingOf 47 = .ok (.if_icmp .eq 10, 3) := by decide +kernel
theorem dX12_crossingOf_50 : decode cX12_crossingOf 50 = .ok (.iload 8, 2) := by decide +kernel
theorem dX12_crossingOf_52 : decode cX12_crossingOf 52 = .ok (.iload 6, 2) := by decide +kernel
theorem dX12_crossingOf_54 : decode cX12_crossingOf 54 = .ok (.if_icmp .ge 13, 3) := by decide +kernel
theorem dX12_crossingOf_57 : decode cX12_crossingOf 57 = .ok (.iload 8, 2) := by decide +kernel
theorem dX12_crossingOf_59 : decode cX12_crossingOf 59 = .ok (.istore 6, 2) := by decide +kernel
theorem dX12_crossingOf_61 : decode cX12_crossingOf 61 = .ok (.aload_n 0, 1) := by decide +kernel
theorem dX12_crossingOf_62 : decode cX12_crossingOf 62 = .ok (.iload 7, 2) := by decide +kernel
theorem dX12_crossingOf_64 : decode cX12_crossingOf 64 = .ok (.putfield 274, 3) := by decide +kernel
theorem dX12_crossingOf_67 : decode cX12_crossingOf 67 = .ok (.iinc 7 1, 3) := by decide +kernel
theorem dX12_crossingOf_70 : decode cX12_crossingOf 70 = .ok (.goto (-50), 3) := by decide +kernel
theorem dX12_crossingOf_73 : decode cX12_crossingOf 73 = .ok (.iload 6, 2) := by decide +kernel
theorem dX12_crossingOf_75 : decode cX12_crossingOf 75 = .ok (.ireturn, 1) := by decide +kernel
theorem dX12_isBeast_0 : decode cX12_isBeast 0 = .ok (.iload_n 1, 1) := by decide +kernel
theorem dX12_isBeast_1 : decode cX12_isBeast 1 = .ok (.i2l, 1) := by decide +kernel
theorem dX12_isBeast_2 : decode cX12_isBeast 2 = .ok (.lconst 0, 1) := by decide +kernel
theorem dX12_isBeast_3 : decode cX12_isBeast 3 = .ok (.aload_n 0, 1) := by decide +kernel
theorem dX12_isBeast_4 : decode cX12_isBeast 4 = .ok (.getfield 265, 3) := by decide +kernel
theorem dX12_isBeast_7 : decode cX12_isBeast 7 = .ok (.iconst 1, 1) := by decide +kernel
theorem dX12_isBeast_8 : decode cX12_isBeast 8 = .ok (.isub, 1) := by decide +kernel
theorem dX12_isBeast_9 : decode cX12_isBeast 9 = .ok (.i2l, 1) := by decide +kernel
theorem dX12_isBeast_10 : decode cX12_isBeast 10 = .ok (.invokestatic 92, 3) := by decide +kernel
theorem dX12_isBeast_13 : decode cX12_isBeast 13 = .ok (.ireturn, 1) := by decide +kernel
theorem dX12_crossing_0 : decode cX12_crossing 0 = .ok (.iload_n 1, 1) := by decide +kernel
theorem dX12_crossing_1 : decode cX12_crossing 1 = .ok (.invokestatic 252, 3) := by decide +kernel
theorem dX12_crossing_4 : decode cX12_crossing 4 = .ok (.ifCond .eq 20, 3) := by decide +kernel
theorem dX12_crossing_7 : decode cX12_crossing 7 = .ok (.aload_n 0, 1) := by decide +kernel
theorem dX12_crossing_8 : decode cX12_crossing 8 = .ok (.iload_n 2, 1) := by decide +kernel
theorem dX12_crossing_9 : decode cX12_crossing 9 = .ok (.invokevirtual 280, 3) := by decide +kernel
theorem dX12_crossing_12 : decode cX12_crossing 12 = .ok (.ifCond .eq 12, 3) := by decide +kernel
theorem dX12_crossing_15 : decode cX12_crossing 15 = .ok (.iload_n 3, 1) := by decide +kernel
theorem dX12_crossing_16 : decode cX12_crossing 16 = .ok (.iload 4, 2) := by decide +kernel
theorem dX12_crossing_18 : decode cX12_crossing 18 = .ok (.invokestatic 167, 3) := by decide +kernel
theorem dX12_crossing_21 : decode cX12_crossing 21 = .ok (.ifCond .ne 6, 3) := by decide +kernel
theorem dX12_crossing_24 : decode cX12_crossing 24 = .ok (.bipush (-101), 2) := by decide +kernel
theorem dX12_crossing_26 : decode cX12_crossing 26 = .ok (.ireturn, 1) := by decide +kernel
theorem dX12_crossing_27 : decode cX12_crossing 27 = .ok (.iload 5, 2) := by decide +kernel
theorem dX12_crossing_29 : decode cX12_crossing 29 = .ok (.i2l, 1) := by decide +kernel
theorem dX12_crossing_30 : decode cX12_crossing 30 = .ok (.lconst 0, 1) := by decide +kernel
theorem dX12_crossing_31 : decode cX12_crossing 31 = .ok (.lconst 1, 1) := by decide +kernel
theorem dX12_crossing_32 : decode cX12_crossing 32 = .ok (.invokestatic 92, 3) := by decide +kernel
theorem dX12_crossing_35 : decode cX12_crossing 35 = .ok (.ifCond .ne 6, 3) := by decide +kernel
theorem dX12_crossing_38 : decode cX12_crossing 38 = .ok (.bipush (-102), 2) := by decide +kernel
theorem dX12_crossing_40 : decode cX12_crossing 40 = .ok (.ireturn, 1) := by decide +kernel
theorem dX12_crossing_41 : decode cX12_crossing 41 = .ok (.aload_n 0, 1) := by decide +kernel
theorem dX12_crossing_42 : decode cX12_crossing 42 = .ok (.iload_n 1, 1) := by decide +kernel
theorem dX12_crossing_43 : decode cX12_crossing 43 = .ok (.iload_n 2, 1) := by decide +kernel
theorem dX12_crossing_44 : decode cX12_crossing 44 = .ok (.iload_n 3, 1) := by decide +kernel
theorem dX12_crossing_45 : decode cX12_crossing 45 = .ok (.iload 4, 2) := by decide +kernel
theorem dX12_crossing_47 : decode cX12_crossing 47 = .ok (.invokevirtual 283, 3) := by decide +kernel
theorem dX12_crossing_50 : decode cX12_crossing 50 = .ok (.istore 6, 2) := by decide +kernel
theorem dX12_crossing_52 : decode cX12_crossing 52 = .ok (.iload 5, 2) := by decide +kernel
theorem dX12_crossing_54 : decode cX12_crossing 54 = .ok (.ifCond .ne 8, 3) := by decide +kernel
theorem dX12_crossing_57 : decode cX12_crossing 57 = .ok (.iload 6, 2) := by decide +kernel
theorem dX12_crossing_59 : decode cX12_crossing 59 = .ok (.goto 7, 3) := by decide +kernel
theorem dX12_crossing_62 : decode cX12_crossing 62 = .ok (.aload_n 0, 1) := by decide +kernel
theorem dX12_crossing_63 : decode cX12_crossing 63 = .ok (.getfield 274, 3) := by decide +kernel
theorem dX12_crossing_66 : decode cX12_crossing 66 = .ok (.ireturn, 1) := by decide +kernel
theorem dX12_layBetween_0 : decode cX12_layBetween 0 = .ok (.iconst 0, 1) := by decide +kernel
theorem dX12_layBetween_1 : decode cX12_layBetween 1 = .ok (.istore_n 3, 1) := by decide +kernel
theorem dX12_layBetween_2 : decode cX12_layBetween 2 = .ok (.iload_n 3, 1) := by decide +kernel
theorem dX12_layBetween_3 : decode cX12_layBetween 3 = .ok (.bipush 6, 2) := by decide +kernel
theorem dX12_layBetween_5 : decode cX12_layBetween 5 = .ok (.if_icmp .ge 72, 3) := by decide +kernel
theorem dX12_layBetween_8 : decode cX12_layBetween 8 = .ok (.iconst 0, 1) := by decide +kernel
theorem dX12_layBetween_9 : decode cX12_layBetween 9 = .ok (.istore 4, 2) := by decide +kernel
theorem dX12_layBetween_11 : decode cX12_layBetween 11 = .ok (.iload 4, 2) := by decide +kernel
theorem dX12_layBetween_13 : decode cX12_layBetween 13 = .ok (.bipush 6, 2) := by decide +kernel
theorem dX12_layBetween_15 : decode cX12_layBetween 15 = .ok (.if_icmp .ge 56, 3) := by decide +kernel
theorem dX12_layBetween_18 : decode cX12_layBetween 18 = .ok (.iload_n 3, 1) := by decide +kernel
theorem dX12_layBetween_19 : decode cX12_layBetween 19 = .ok (.iload 4, 2) := by decide +kernel
theorem dX12_layBetween_21 : decode cX12_layBetween 21 = .ok (.if_icmp .ne 7, 3) := by decide +kernel
theorem dX12_layBetween_24 : decode cX12_layBetween 24 = .ok (.iconst (-1), 1) := by decide +kernel
theorem dX12_layBetween_25 : decode cX12_layBetween 25 = .ok (.goto 12, 3) := by decide +kernel
theorem dX12_layBetween_28 : decode cX12_layBetween 28 = .ok (.aload_n 0, 1) := by decide +kernel
theorem dX12_layBetween_29 : decode cX12_layBetween 29 = .ok (.iload_n 1, 1) := by decide +kernel
theorem dX12_layBetween_30 : decode cX12_layBetween 30 = .ok (.iload_n 2, 1) := by decide +kernel
theorem dX12_layBetween_31 : decode cX12_layBetween 31 = .ok (.iload_n 3, 1) := by decide +kernel
theorem dX12_layBetween_32 : decode cX12_layBetween 32 = .ok (.iload 4, 2) := by decide +kernel
theorem dX12_layBetween_34 : decode cX12_layBetween 34 = .ok (.invokevirtual 283, 3) := by decide +kernel
theorem dX12_layBetween_37 : decode cX12_layBetween 37 = .ok (.istore 5, 2) := by decide +kernel
theorem dX12_layBetween_39 : decode cX12_layBetween 39 = .ok (.aload_n 0, 1) := by decide +kernel
theorem dX12_layBetween_40 : decode cX12_layBetween 40 = .ok (.getfield 65, 3) := by decide +kernel
theorem dX12_layBetween_43 : decode cX12_layBetween 43 = .ok (.bipush 6, 2) := by decide +kernel
theorem dX12_layBetween_45 : decode cX12_layBetween 45 = .ok (.iload_n 3, 1) := by decide +kernel
theorem dX12_layBetween_46 : decode cX12_layBetween 46 = .ok (.imul, 1) := by decide +kernel
theorem dX12_layBetween_47 : decode cX12_layBetween 47 = .ok (.iload 4, 2) := by decide +kernel
theorem dX12_layBetween_49 : decode cX12_layBetween 49 = .ok (.iadd, 1) := by decide +kernel
theorem dX12_layBetween_50 : decode cX12_layBetween 50 = .ok (.iload 5, 2) := by decide +kernel
theorem dX12_layBetween_52 : decode cX12_layBetween 52 = .ok (.iconst (-1), 1) := by decide +kernel
theorem dX12_layBetween_53 : decode cX12_layBetween 53 = .ok (.if_icmp .ne 9, 3) := by decide +kernel
theorem dX12_layBetween_56 : decode cX12_layBetween 56 = .ok (.ldc_w 286, 3) := by decide +kernel
theorem dX12_layBetween_59 : decode cX12_layBetween 59 = .ok (.goto 5, 3) := by decide +kernel
theorem dX12_layBetween_62 : decode cX12_layBetween 62 = .ok (.iload 5, 2) := by decide +kernel
theorem dX12_layBetween_64 : decode cX12_layBetween 64 = .ok (.iastore, 1) := by decide +kernel
theorem dX12_layBetween_65 : decode cX12_layBetween 65 = .ok (.iinc 4 1, 3) := by decide +kernel
theorem dX12_layBetween_68 : decode cX12_layBetween 68 = .ok (.goto (-57), 3) := by decide +kernel
theorem dX12_layBetween_71 : decode cX12_layBetween 71 = .ok (.iinc 3 1, 3) := by decide +kernel
theorem dX12_layBetween_74 : decode cX12_layBetween 74 = .ok (.goto (-72), 3) := by decide +kernel
theorem dX12_layBetween_77 : decode cX12_layBetween 77 = .ok (.return_, 1) := by decide +kernel
theorem dX12_joined_0 : decode cX12_joined 0 = .ok (.iload_n 1, 1) := by decide +kernel
theorem dX12_joined_1 : decode cX12_joined 1 = .ok (.iload_n 1, 1) := by decide +kernel
theorem dX12_joined_2 : decode cX12_joined 2 = .ok (.ineg, 1) := by decide +kernel
theorem dX12_joined_3 : decode cX12_joined 3 = .ok (.iand, 1) := by decide +kernel
theorem dX12_joined_4 : decode cX12_joined 4 = .ok (.istore_n 2, 1) := by decide +kernel
theorem dX12_joined_5 : decode cX12_joined 5 = .ok (.iconst 0, 1) := by decide +kernel
theorem dX12_joined_6 : decode cX12_joined 6 = .ok (.istore_n 3, 1) := by decide +kernel
theorem dX12_joined_7 : decode cX12_joined 7 = .ok (.iload_n 2, 1) := by decide +kernel
theorem dX12_joined_8 : decode cX12_joined 8 = .ok (.iload_n 1, 1) := by decide +kernel
theorem dX12_joined_9 : decode cX12_joined 9 = .ok (.if_icmp .eq 148, 3) := by decide +kernel
theorem dX12_joined_12 : decode cX12_joined 12 = .ok (.ldc_w 286, 3) := by decide +kernel
theorem dX12_joined_15 : decode cX12_joined 15 = .ok (.istore 4, 2) := by decide +kernel
theorem dX12_joined_17 : decode cX12_joined 17 = .ok (.iconst 0, 1) := by decide +kernel
theorem dX12_joined_18 : decode cX12_joined 18 = .ok (.istore 5, 2) := by decide +kernel
theorem dX12_joined_20 : decode cX12_joined 20 = .ok (.iconst 0, 1) := by decide +kernel
theorem dX12_joined_21 : decode cX12_joined 21 = .ok (.istore 6, 2) := by decide +kernel
theorem dX12_joined_23 : decode cX12_joined 23 = .ok (.iload 6, 2) := by decide +kernel
theorem dX12_joined_25 : decode cX12_joined 25 = .ok (.bipush 6, 2) := by decide +kernel
theorem dX12_joined_27 : decode cX12_joined 27 = .ok (.if_icmp .ge 103, 3) := by decide +kernel
theorem dX12_joined_30 : decode cX12_joined 30 = .ok (.iconst 0, 1) := by decide +kernel
theorem dX12_joined_31 : decode cX12_joined 31 = .ok (.istore 7, 2) := by decide +kernel
theorem dX12_joined_33 : decode cX12_joined 33 = .ok (.iload 7, 2) := by decide +kernel
theorem dX12_joined_35 : decode cX12_joined 35 = .ok (.bipush 6, 2) := by decide +kernel
theorem dX12_joined_37 : decode cX12_joined 37 = .ok (.if_icmp .ge 87, 3) := by decide +kernel
theorem dX12_joined_40 : decode cX12_joined 40 = .ok (.iload_n 2, 1) := by decide +kernel
theorem dX12_joined_41 : decode cX12_joined 41 = .ok (.iload 6, 2) := by decide +kernel
theorem dX12_joined_43 : decode cX12_joined 43 = .ok (.ishr, 1) := by decide +kernel
theorem dX12_joined_44 : decode cX12_joined 44 = .ok (.iconst 1, 1) := by decide +kernel
theorem dX12_joined_45 : decode cX12_joined 45 = .ok (.iand, 1) := by decide +kernel
theorem dX12_joined_46 : decode cX12_joined 46 = .ok (.iconst 1, 1) := by decide +kernel
theorem dX12_joined_47 : decode cX12_joined 47 = .ok (.if_icmp .ne 26, 3) := by decide +kernel
theorem dX12_joined_50 : decode cX12_joined 50 = .ok (.iload_n 2, 1) := by decide +kernel
theorem dX12_joined_51 : decode cX12_joined 51 = .ok (.iload 7, 2) := by decide +kernel
theorem dX12_joined_53 : decode cX12_joined 53 = .ok (.ishr, 1) := by decide +kernel
theorem dX12_joined_54 : decode cX12_joined 54 = .ok (.iconst 1, 1) := by decide +kernel
theorem dX12_joined_55 : decode cX12_joined 55 = .ok (.iand, 1) := by decide +kernel
theorem dX12_joined_56 : decode cX12_joined 56 = .ok (.ifCond .ne 17, 3) := by decide +kernel
theorem dX12_joined_59 : decode cX12_joined 59 = .ok (.iload_n 1, 1) := by decide +kernel
theorem dX12_joined_60 : decode cX12_joined 60 = .ok (.iload 7, 2) := by decide +kernel
theorem dX12_joined_62 : decode cX12_joined 62 = .ok (.ishr, 1) := by decide +kernel
theorem dX12_joined_63 : decode cX12_joined 63 = .ok (.iconst 1, 1) := by decide +kernel
theorem dX12_joined_64 : decode cX12_joined 64 = .ok (.iand, 1) := by decide +kernel
theorem dX12_joined_65 : decode cX12_joined 65 = .ok (.iconst 1, 1) := by decide +kernel
theorem dX12_joined_66 : decode cX12_joined 66 = .ok (.if_icmp .ne 7, 3) := by decide +kernel
theorem dX12_joined_69 : decode cX12_joined 69 = .ok (.iconst 1, 1) := by decide +kernel
theorem dX12_joined_70 : decode cX12_joined 70 = .ok (.goto 4, 3) := by decide +kernel
theorem dX12_joined_73 : decode cX12_joined 73 = .ok (.iconst 0, 1) := by decide +kernel
theorem dX12_joined_74 : decode cX12_joined 74 = .ok (.istore 8, 2) := by decide +kernel
theorem dX12_joined_76 : decode cX12_joined 76 = .ok (.iload 8, 2) := by decide +kernel
theorem dX12_joined_78 : decode cX12_joined 78 = .ok (.ifCond .eq 40, 3) := by decide +kernel
theorem dX12_joined_81 : decode cX12_joined 81 = .ok (.aload_n 0, 1) := by decide +kernel
theorem dX12_joined_82 : decode cX12_joined 82 = .ok (.getfield 65, 3) := by decide +kernel
theorem dX12_joined_85 : decode cX12_joined 85 = .ok (.bipush 6, 2) := by decide +kernel
theorem dX12_joined_87 : decode cX12_joined 87 = .ok (.iload 6, 2) := by decide +kernel
theorem dX12_joined_89 : decode cX12_joined 89 = .ok (.imul, 1) := by decide +kernel
theorem dX12_joined_90 : decode cX12_joined 90 = .ok (.iload 7, 2) := by decide +kernel
theorem dX12_joined_92 : decode cX12_joined 92 = .ok (.iadd, 1) := by decide +kernel
theorem dX12_joined_93 : decode cX12_joined 93 = .ok (.iaload, 1) := by decide +kernel
theorem dX12_joined_94 : decode cX12_joined 94 = .ok (.iload 4, 2) := by decide +kernel
theorem dX12_joined_96 : decode cX12_joined 96 = .ok (.if_icmp .ge 22, 3) := by decide +kernel
theorem dX12_joined_99 : decode cX12_joined 99 = .ok (.aload_n 0, 1) := by decide +kernel
theorem dX12_joined_100 : decode cX12_joined 100 = .ok (.getfield 65, 3) := by decide +kernel
theorem dX12_joined_103 : decode cX12_joined 103 = .ok (.bipush 6, 2) := by decide +kernel
theorem dX12_joined_105 : decode cX12_joined 105 = .ok (.iload 6, 2) := by decide +kernel
theorem dX12_joined_107 : decode cX12_joined 107 = .ok (.imul, 1) := by decide +kernel
theorem dX12_joined_108 : decode cX12_joined 108 = .ok (.iload 7, 2) := by decide +kernel
theorem dX12_joined_110 : decode cX12_joined 110 = .ok (.iadd, 1) := by decide +kernel
theorem dX12_joined_111 : decode cX12_joined 111 = .ok (.iaload, 1) := by decide +kernel
theorem dX12_joined_112 : decode cX12_joined 112 = .ok (.istore 4, 2) := by decide +kernel
theorem dX12_joined_114 : decode cX12_joined 114 = .ok (.iload 7, 2) := by decide +kernel
theorem dX12_joined_116 : decode cX12_joined 116 = .ok (.istore 5, 2) := by decide +kernel
theorem dX12_joined_118 : decode cX12_joined 118 = .ok (.iinc 7 1, 3) := by decide +kernel
theorem dX12_joined_121 : decode cX12_joined 121 = .ok (.goto (-88), 3) := by decide +kernel
theorem dX12_joined_124 : decode cX12_joined 124 = .ok (.iinc 6 1, 3) := by decide +kernel
theorem dX12_joined_127 : decode cX12_joined 127 = .ok (.goto (-104), 3) := by decide +kernel
theorem dX12_joined_130 : decode cX12_joined 130 = .ok (.iload 4, 2) := by decide +kernel
theorem dX12_joined_132 : decode cX12_joined 132 = .ok (.ldc_w 286, 3) := by decide +kernel
theorem dX12_joined_135 : decode cX12_joined 135 = .ok (.if_icmp .ne 7, 3) := by decide +kernel
theorem dX12_joined_138 : decode cX12_joined 138 = .ok (.ldc_w 286, 3) := by decide +kernel
theorem dX12_joined_141 : decode cX12_joined 141 = .ok (.ireturn, 1) := by decide +kernel
theorem dX12_joined_142 : decode cX12_joined 142 = .ok (.iload_n 3, 1) := by decide +kernel
theorem dX12_joined_143 : decode cX12_joined 143 = .ok (.iload 4, 2) := by decide +kernel
theorem dX12_joined_145 : decode cX12_joined 145 = .ok (.iadd, 1) := by decide +kernel
theorem dX12_joined_146 : decode cX12_joined 146 = .ok (.istore_n 3, 1) := by decide +kernel
theorem dX12_joined_147 : decode cX12_joined 147 = .ok (.iload_n 2, 1) := by decide +kernel
theorem dX12_joined_148 : decode cX12_joined 148 = .ok (.iconst 1, 1) := by decide +kernel
theorem dX12_joined_149 : decode cX12_joined 149 = .ok (.iload 5, 2) := by decide +kernel
theorem dX12_joined_151 : decode cX12_joined 151 = .ok (.ishl, 1) := by decide +kernel
theorem dX12_joined_152 : decode cX12_joined 152 = .ok (.ior, 1) := by decide +kernel
theorem dX12_joined_153 : decode cX12_joined 153 = .ok (.istore_n 2, 1) := by decide +kernel
theorem dX12_joined_154 : decode cX12_joined 154 = .ok (.goto (-147), 3) := by decide +kernel
theorem dX12_joined_157 : decode cX12_joined 157 = .ok (.iload_n 3, 1) := by decide +kernel
theorem dX12_joined_158 : decode cX12_joined 158 = .ok (.ireturn, 1) := by decide +kernel
theorem dX12_findSpread_0 : decode cX12_findSpread 0 = .ok (.aload_n 0, 1) := by decide +kernel
theorem dX12_findSpread_1 : decode cX12_findSpread 1 = .ok (.iload_n 1, 1) := by decide +kernel
theorem dX12_findSpread_2 : decode cX12_findSpread 2 = .ok (.iload_n 2, 1) := by decide +kernel
theorem dX12_findSpread_3 : decode cX12_findSpread 3 = .ok (.invokevirtual 287, 3) := by decide +kernel
theorem dX12_findSpread_6 : decode cX12_findSpread 6 = .ok (.aload_n 0, 1) := by decide +kernel
theorem dX12_findSpread_7 : decode cX12_findSpread 7 = .ok (.ldc_w 286, 3) := by decide +kernel
theorem dX12_findSpread_10 : decode cX12_findSpread 10 = .ok (.putfield 290, 3) := by decide +kernel
theorem dX12_findSpread_13 : decode cX12_findSpread 13 = .ok (.aload_n 0, 1) := by decide +kernel
theorem dX12_findSpread_14 : decode cX12_findSpread 14 = .ok (.iconst (-1), 1) := by decide +kernel
theorem dX12_findSpread_15 : decode cX12_findSpread 15 = .ok (.putfield 293, 3) := by decide +kernel
theorem dX12_findSpread_18 : decode cX12_findSpread 18 = .ok (.aload_n 0, 1) := by decide +kernel
theorem dX12_findSpread_19 : decode cX12_findSpread 19 = .ok (.getfield 59, 3) := by decide +kernel
theorem dX12_findSpread_22 : decode cX12_findSpread 22 = .ok (.iload_n 2, 1) := by decide +kernel
theorem dX12_findSpread_23 : decode cX12_findSpread 23 = .ok (.iaload, 1) := by decide +kernel
theorem dX12_findSpread_24 : decode cX12_findSpread 24 = .ok (.istore_n 3, 1) := by decide +kernel
theorem dX12_findSpread_25 : decode cX12_findSpread 25 = .ok (.iconst 0, 1) := by decide +kernel
theorem dX12_findSpread_26 : decode cX12_findSpread 26 = .ok (.istore 4, 2) := by decide +kernel
theorem dX12_findSpread_28 : decode cX12_findSpread 28 = .ok (.iload 4, 2) := by decide +kernel
theorem dX12_findSpread_30 : decode cX12_findSpread 30 = .ok (.bipush 64, 2) := by decide +kernel
theorem dX12_findSpread_32 : decode cX12_findSpread 32 = .ok (.if_icmp .ge 114, 3) := by decide +kernel
theorem dX12_findSpread_35 : decode cX12_findSpread 35 = .ok (.iload 4, 2) := by decide +kernel
theorem dX12_findSpread_37 : decode cX12_findSpread 37 = .ok (.iload_n 3, 1) := by decide +kernel
theorem dX12_findSpread_38 : decode cX12_findSpread 38 = .ok (.iand, 1) := by decide +kernel
theorem dX12_findSpread_39 : decode cX12_findSpread 39 = .ok (.ifCond .ne 101, 3) := by decide +kernel
theorem dX12_findSpread_42 : decode cX12_findSpread 42 = .ok (.aload_n 0, 1) := by decide +kernel
theorem dX12_findSpread_43 : decode cX12_findSpread 43 = .ok (.iload_n 3, 1) := by decide +kernel
theorem dX12_findSpread_44 : decode cX12_findSpread 44 = .ok (.iload 4, 2) := by decide +kernel
theorem dX12_findSpread_46 : decode cX12_findSpread 46 = .ok (.ior, 1) := by decide +kernel
theorem dX12_findSpread_47 : decode cX12_findSpread 47 = .ok (.invokevirtual 296, 3) := by decide +kernel
theorem dX12_findSpread_50 : decode cX12_findSpread 50 = .ok (.istore 5, 2) := by decide +kernel
theorem dX12_findSpread_52 : decode cX12_findSpread 52 = .ok (.iload 5, 2) := by decide +kernel
theorem dX12_findSpread_54 : decode cX12_findSpread 54 = .ok (.aload_n 0, 1) := by decide +kernel
theorem dX12_findSpread_55 : decode cX12_findSpread 55 = .ok (.getfield 290, 3) := by decide +kernel
theorem dX12_findSpread_58 : decode cX12_findSpread 58 = .ok (.if_icmp .ne 30, 3) := by decide +kernel
theorem dX12_findSpread_61 : decode cX12_findSpread 61 = .ok (.iload 5, 2) := by decide +kernel
theorem dX12_findSpread_63 : decode cX12_findSpread 63 = .ok (.ldc_w 286, 3) := by decide +kernel
theorem dX12_findSpread_66 : decode cX12_findSpread 66 = .ok (.if_icmp .ge 22, 3) := by decide +kernel
theorem dX12_findSpread_69 : decode cX12_findSpread 69 = .ok (.iload 4, 2) := by decide +kernel
theorem dX12_findSpread_71 : decode cX12_findSpread 71 = .ok (.invokestatic 268, 3) := by decide +kernel
theorem dX12_findSpread_74 : decode cX12_findSpread 74 = .ok (.aload_n 0, 1) := by decide +kernel
theorem dX12_findSpread_75 : decode cX12_findSpread 75 = .ok (.getfield 293, 3) := by decide +kernel
theorem dX12_findSpread_78 : decode cX12_findSpread 78 = .ok (.invokestatic 268, 3) := by decide +kernel
theorem dX12_findSpread_81 : decode cX12_findSpread 81 = .ok (.if_icmp .ge 7, 3) := by decide +kernel
theorem dX12_findSpread_84 : decode cX12_findSpread 84 = .ok (.iconst 1, 1) := by decide +kernel
theorem dX12_findSpread_85 : decode cX12_findSpread 85 = .ok (.goto 4, 3) := by decide +kernel
theorem dX12_findSpread_88 : decode cX12_findSpread 88 = .ok (.iconst 0, 1) := by decide +kernel
theorem dX12_findSpread_89 : decode cX12_findSpread 89 = .ok (.istore 6, 2) := by decide +kernel
theorem dX12_findSpread_91 : decode cX12_findSpread 91 = .ok (.aload_n 0, 1) := by decide +kernel
theorem dX12_findSpread_92 : decode cX12_findSpread 92 = .ok (.iload 5, 2) := by decide +kernel
theorem dX12_findSpread_94 : decode cX12_findSpread 94 = .ok (.aload_n 0, 1) := by decide +kernel
theorem dX12_findSpread_95 : decode cX12_findSpread 95 = .ok (.getfield 290, 3) := by decide +kernel
theorem dX12_findSpread_98 : decode cX12_findSpread 98 = .ok (.if_icmp .lt 8, 3) := by decide +kernel
theorem dX12_findSpread_101 : decode cX12_findSpread 101 = .ok (.iload 6, 2) := by decide +kernel
theorem dX12_findSpread_103 : decode cX12_findSpread 103 = .ok (.ifCond .eq 8, 3) := by decide +kernel
theorem dX12_findSpread_106 : decode cX12_findSpread 106 = .ok (.iload 4, 2) := by decide +kernel
theorem dX12_findSpread_108 : decode cX12_findSpread 108 = .ok (.goto 7, 3) := by decide +kernel
theorem dX12_findSpread_111 : decode cX12_findSpread 111 = .ok (.aload_n 0, 1) := by decide +kernel
theorem dX12_findSpread_112 : decode cX12_findSpread 112 = .ok (.getfield 293, 3) := by decide +kernel
theorem dX12_findSpread_115 : decode cX12_findSpread 115 = .ok (.putfield 293, 3) := by decide +kernel
theorem dX12_findSpread_118 : decode cX12_findSpread 118 = .ok (.aload_n 0, 1) := by decide +kernel
theorem dX12_findSpread_119 : decode cX12_findSpread 119 = .ok (.iload 5, 2) := by decide +kernel
theorem dX12_findSpread_121 : decode cX12_findSpread 121 = .ok (.aload_n 0, 1) := by decide +kernel
theorem dX12_findSpread_122 : decode cX12_findSpread 122 = .ok (.getfield 290, 3) := by decide +kernel
theorem dX12_findSpread_125 : decode cX12_findSpread 125 = .ok (.if_icmp .ge 8, 3) := by decide +kernel
theorem dX12_findSpread_128 : decode cX12_findSpread 128 = .ok (.iload 5, 2) := by decide +kernel
theorem dX12_findSpread_130 : decode cX12_findSpread 130 = .ok (.goto 7, 3) := by decide +kernel
theorem dX12_findSpread_133 : decode cX12_findSpread 133 = .ok (.aload_n 0, 1) := by decide +kernel
theorem dX12_findSpread_134 : decode cX12_findSpread 134 = .ok (.getfield 290, 3) := by decide +kernel
theorem dX12_findSpread_137 : decode cX12_findSpread 137 = .ok (.putfield 290, 3) := by decide +kernel
theorem dX12_findSpread_140 : decode cX12_findSpread 140 = .ok (.iinc 4 1, 3) := by decide +kernel
theorem dX12_findSpread_143 : decode cX12_findSpread 143 = .ok (.goto (-115), 3) := by decide +kernel
theorem dX12_findSpread_146 : decode cX12_findSpread 146 = .ok (.aload_n 0, 1) := by decide +kernel
theorem dX12_findSpread_147 : decode cX12_findSpread 147 = .ok (.aload_n 0, 1) := by decide +kernel
theorem dX12_findSpread_148 : decode cX12_findSpread 148 = .ok (.getfield 290, 3) := by decide +kernel
theorem dX12_findSpread_151 : decode cX12_findSpread 151 = .ok (.ldc_w 286, 3) := by decide +kernel
theorem dX12_findSpread_154 : decode cX12_findSpread 154 = .ok (.if_icmp .ne 7, 3) := by decide +kernel
theorem dX12_findSpread_157 : decode cX12_findSpread 157 = .ok (.iconst (-1), 1) := by decide +kernel
theorem dX12_findSpread_158 : decode cX12_findSpread 158 = .ok (.goto 7, 3) := by decide +kernel
theorem dX12_findSpread_161 : decode cX12_findSpread 161 = .ok (.aload_n 0, 1) := by decide +kernel
theorem dX12_findSpread_162 : decode cX12_findSpread 162 = .ok (.getfield 290, 3) := by decide +kernel
theorem dX12_findSpread_165 : decode cX12_findSpread 165 = .ok (.putfield 290, 3) := by decide +kernel
theorem dX12_findSpread_168 : decode cX12_findSpread 168 = .ok (.return_, 1) := by decide +kernel
theorem dX12_spreadOf_0 : decode cX12_spreadOf 0 = .ok (.aload_n 0, 1) := by decide +kernel
theorem dX12_spreadOf_1 : decode cX12_spreadOf 1 = .ok (.iload_n 1, 1) := by decide +kernel
theorem dX12_spreadOf_2 : decode cX12_spreadOf 2 = .ok (.iload_n 2, 1) := by decide +kernel
theorem dX12_spreadOf_3 : decode cX12_spreadOf 3 = .ok (.invokevirtual 299, 3) := by decide +kernel
theorem dX12_spreadOf_6 : decode cX12_spreadOf 6 = .ok (.aload_n 0, 1) := by decide +kernel
theorem dX12_spreadOf_7 : decode cX12_spreadOf 7 = .ok (.getfield 290, 3) := by decide +kernel
theorem dX12_spreadOf_10 : decode cX12_spreadOf 10 = .ok (.ireturn, 1) := by decide +kernel
theorem dX12_spread_0 : decode cX12_spread 0 = .ok (.iload_n 1, 1) := by decide +kernel
theorem dX12_spread_1 : decode cX12_spread 1 = .ok (.invokestatic 252, 3) := by decide +kernel
theorem dX12_spread_4 : decode cX12_spread 4 = .ok (.ifCond .eq 11, 3) := by decide +kernel
theorem dX12_spread_7 : decode cX12_spread 7 = .ok (.aload_n 0, 1) := by decide +kernel
theorem dX12_spread_8 : decode cX12_spread 8 = .ok (.iload_n 2, 1) := by decide +kernel
theorem dX12_spread_9 : decode cX12_spread 9 = .ok (.invokevirtual 280, 3) := by decide +kernel
theorem dX12_spread_12 : decode cX12_spread 12 = .ok (.ifCond .ne 6, 3) := by decide +kernel
theorem dX12_spread_15 : decode cX12_spread 15 = .ok (.bipush (-101), 2) := by decide +kernel
theorem dX12_spread_17 : decode cX12_spread 17 = .ok (.ireturn, 1) := by decide +kernel
theorem dX12_spread_18 : decode cX12_spread 18 = .ok (.iload_n 3, 1) := by decide +kernel
theorem dX12_spread_19 : decode cX12_spread 19 = .ok (.i2l, 1) := by decide +kernel
theorem dX12_spread_20 : decode cX12_spread 20 = .ok (.lconst 0, 1) := by decide +kernel
theorem dX12_spread_21 : decode cX12_spread 21 = .ok (.lconst 1, 1) := by decide +kernel
theorem dX12_spread_22 : decode cX12_spread 22 = .ok (.invokestatic 92, 3) := by decide +kernel
theorem dX12_spread_25 : decode cX12_spread 25 = .ok (.ifCond .ne 6, 3) := by decide +kernel
theorem dX12_spread_28 : decode cX12_spread 28 = .ok (.bipush (-102), 2) := by decide +kernel
theorem dX12_spread_30 : decode cX12_spread 30 = .ok (.ireturn, 1) := by decide +kernel
theorem dX12_spread_31 : decode cX12_spread 31 = .ok (.aload_n 0, 1) := by decide +kernel
theorem dX12_spread_32 : decode cX12_spread 32 = .ok (.iload_n 1, 1) := by decide +kernel
theorem dX12_spread_33 : decode cX12_spread 33 = .ok (.iload_n 2, 1) := by decide +kernel
theorem dX12_spread_34 : decode cX12_spread 34 = .ok (.invokevirtual 299, 3) := by decide +kernel
theorem dX12_spread_37 : decode cX12_spread 37 = .ok (.iload_n 3, 1) := by decide +kernel
theorem dX12_spread_38 : decode cX12_spread 38 = .ok (.ifCond .ne 10, 3) := by decide +kernel
theorem dX12_spread_41 : decode cX12_spread 41 = .ok (.aload_n 0, 1) := by decide +kernel
theorem dX12_spread_42 : decode cX12_spread 42 = .ok (.getfield 290, 3) := by decide +kernel
theorem dX12_spread_45 : decode cX12_spread 45 = .ok (.goto 7, 3) := by decide +kernel
theorem dX12_spread_48 : decode cX12_spread 48 = .ok (.aload_n 0, 1) := by decide +kernel
theorem dX12_spread_49 : decode cX12_spread 49 = .ok (.getfield 293, 3) := by decide +kernel
theorem dX12_spread_52 : decode cX12_spread 52 = .ok (.ireturn, 1) := by decide +kernel
theorem dX12_unlike_0 : decode cX12_unlike 0 = .ok (.iload_n 1, 1) := by decide +kernel
theorem dX12_unlike_1 : decode cX12_unlike 1 = .ok (.i2l, 1) := by decide +kernel
theorem dX12_unlike_2 : decode cX12_unlike 2 = .ok (.lconst 0, 1) := by decide +kernel
theorem dX12_unlike_3 : decode cX12_unlike 3 = .ok (.lconst 1, 1) := by decide +kernel
theorem dX12_unlike_4 : decode cX12_unlike 4 = .ok (.invokestatic 92, 3) := by decide +kernel
theorem dX12_unlike_7 : decode cX12_unlike 7 = .ok (.ifCond .ne 6, 3) := by decide +kernel
theorem dX12_unlike_10 : decode cX12_unlike 10 = .ok (.bipush (-102), 2) := by decide +kernel
theorem dX12_unlike_12 : decode cX12_unlike 12 = .ok (.ireturn, 1) := by decide +kernel
theorem dX12_unlike_13 : decode cX12_unlike 13 = .ok (.iconst 0, 1) := by decide +kernel
theorem dX12_unlike_14 : decode cX12_unlike 14 = .ok (.istore_n 2, 1) := by decide +kernel
theorem dX12_unlike_15 : decode cX12_unlike 15 = .ok (.iconst (-1), 1) := by decide +kernel
theorem dX12_unlike_16 : decode cX12_unlike 16 = .ok (.istore_n 3, 1) := by decide +kernel
theorem dX12_unlike_17 : decode cX12_unlike 17 = .ok (.iconst (-1), 1) := by decide +kernel
theorem dX12_unlike_18 : decode cX12_unlike 18 = .ok (.istore 4, 2) := by decide +kernel
theorem dX12_unlike_20 : decode cX12_unlike 20 = .ok (.iconst 0, 1) := by decide +kernel
theorem dX12_unlike_21 : decode cX12_unlike 21 = .ok (.istore 5, 2) := by decide +kernel
theorem dX12_unlike_23 : decode cX12_unlike 23 = .ok (.iload 5, 2) := by decide +kernel
theorem dX12_unlike_25 : decode cX12_unlike 25 = .ok (.aload_n 0, 1) := by decide +kernel
theorem dX12_unlike_26 : decode cX12_unlike 26 = .ok (.getfield 265, 3) := by decide +kernel
theorem dX12_unlike_29 : decode cX12_unlike 29 = .ok (.if_icmp .ge 100, 3) := by decide +kernel
theorem dX12_unlike_32 : decode cX12_unlike 32 = .ok (.aload_n 0, 1) := by decide +kernel
theorem dX12_unlike_33 : decode cX12_unlike 33 = .ok (.iconst 0, 1) := by decide +kernel
theorem dX12_unlike_34 : decode cX12_unlike 34 = .ok (.iload 5, 2) := by decide +kernel
theorem dX12_unlike_36 : decode cX12_unlike 36 = .ok (.invokevirtual 302, 3) := by decide +kernel
theorem dX12_unlike_39 : decode cX12_unlike 39 = .ok (.istore 6, 2) := by decide +kernel
theorem dX12_unlike_41 : decode cX12_unlike 41 = .ok (.aload_n 0, 1) := by decide +kernel
theorem dX12_unlike_42 : decode cX12_unlike 42 = .ok (.iconst 1, 1) := by decide +kernel
theorem dX12_unlike_43 : decode cX12_unlike 43 = .ok (.iload 5, 2) := by decide +kernel
theorem dX12_unlike_45 : decode cX12_unlike 45 = .ok (.invokevirtual 302, 3) := by decide +kernel
theorem dX12_unlike_48 : decode cX12_unlike 48 = .ok (.istore 7, 2) := by decide +kernel
theorem dX12_unlike_50 : decode cX12_unlike 50 = .ok (.iload 6, 2) := by decide +kernel
theorem dX12_unlike_52 : decode cX12_unlike 52 = .ok (.iload 7, 2) := by decide +kernel
theorem dX12_unlike_54 : decode cX12_unlike 54 = .ok (.if_icmp .eq 69, 3) := by decide +kernel
theorem dX12_unlike_57 : decode cX12_unlike 57 = .ok (.iload 6, 2) := by decide +kernel
theorem dX12_unlike_59 : decode cX12_unlike 59 = .ok (.iconst (-1), 1) := by decide +kernel
theorem dX12_unlike_60 : decode cX12_unlike 60 = .ok (.if_icmp .ne 9, 3) := by decide +kernel
theorem dX12_unlike_63 : decode cX12_unlike 63 = .ok (.sipush 999, 3) := by decide +kernel
theorem dX12_unlike_66 : decode cX12_unlike 66 = .ok (.goto 5, 3) := by decide +kernel
theorem dX12_unlike_69 : decode cX12_unlike 69 = .ok (.iload 6, 2) := by decide +kernel
theorem dX12_unlike_71 : decode cX12_unlike 71 = .ok (.iload 7, 2) := by decide +kernel
theorem dX12_unlike_73 : decode cX12_unlike 73 = .ok (.iconst (-1), 1) := by decide +kernel
theorem dX12_unlike_74 : decode cX12_unlike 74 = .ok (.if_icmp .ne 9, 3) := by decide +kernel
theorem dX12_unlike_77 : decode cX12_unlike 77 = .ok (.sipush 999, 3) := by decide +kernel
theorem dX12_unlike_80 : decode cX12_unlike 80 = .ok (.goto 5, 3) := by decide +kernel
theorem dX12_unlike_83 : decode cX12_unlike 83 = .ok (.iload 7, 2) := by decide +kernel
theorem dX12_unlike_85 : decode cX12_unlike 85 = .ok (.invokestatic 137, 3) := by decide +kernel
theorem dX12_unlike_88 : decode cX12_unlike 88 = .ok (.istore 8, 2) := by decide +kernel
theorem dX12_unlike_90 : decode cX12_unlike 90 = .ok (.iinc 2 1, 3) := by decide +kernel
theorem dX12_unlike_93 : decode cX12_unlike 93 = .ok (.iload 8, 2) := by decide +kernel
theorem dX12_unlike_95 : decode cX12_unlike 95 = .ok (.iload 4, 2) := by decide +kernel
theorem dX12_unlike_97 : decode cX12_unlike 97 = .ok (.if_icmp .le 8, 3) := by decide +kernel
theorem dX12_unlike_100 : decode cX12_unlike 100 = .ok (.iload 5, 2) := by decide +kernel
theorem dX12_unlike_102 : decode cX12_unlike 102 = .ok (.goto 4, 3) := by decide +kernel
theorem dX12_unlike_105 : decode cX12_unlike 105 = .ok (.iload_n 3, 1) := by decide +kernel
theorem dX12_unlike_106 : decode cX12_unlike 106 = .ok (.istore_n 3, 1) := by decide +kernel
theorem dX12_unlike_107 : decode cX12_unlike 107 = .ok (.iload 8, 2) := by decide +kernel
theorem dX12_unlike_109 : decode cX12_unlike 109 = .ok (.iload 4, 2) := by decide +kernel
theorem dX12_unlike_111 : decode cX12_unlike 111 = .ok (.if_icmp .le 8, 3) := by decide +kernel
theorem dX12_unlike_114 : decode cX12_unlike 114 = .ok (.iload 8, 2) := by decide +kernel
theorem dX12_unlike_116 : decode cX12_unlike 116 = .ok (.goto 5, 3) := by decide +kernel
theorem dX12_unlike_119 : decode cX12_unlike 119 = .ok (.iload 4, 2) := by decide +kernel
theorem dX12_unlike_121 : decode cX12_unlike 121 = .ok (.istore 4, 2) := by decide +kernel
theorem dX12_unlike_123 : decode cX12_unlike 123 = .ok (.iinc 5 1, 3) := by decide +kernel
theorem dX12_unlike_126 : decode cX12_unlike 126 = .ok (.goto (-103), 3) := by decide +kernel
theorem dX12_unlike_129 : decode cX12_unlike 129 = .ok (.iload_n 1, 1) := by decide +kernel
theorem dX12_unlike_130 : decode cX12_unlike 130 = .ok (.ifCond .ne 7, 3) := by decide +kernel
theorem dX12_unlike_133 : decode cX12_unlike 133 = .ok (.iload_n 2, 1) := by decide +kernel
theorem dX12_unlike_134 : decode cX12_unlike 134 = .ok (.goto 4, 3) := by decide +kernel
theorem dX12_unlike_137 : decode cX12_unlike 137 = .ok (.iload_n 3, 1) := by decide +kernel
theorem dX12_unlike_138 : decode cX12_unlike 138 = .ok (.ireturn, 1) := by decide +kernel
theorem dX12_speed_0 : decode cX12_speed 0 = .ok (.iload_n 1, 1) := by decide +kernel
theorem dX12_speed_1 : decode cX12_speed 1 = .ok (.i2l, 1) := by decide +kernel
theorem dX12_speed_2 : decode cX12_speed 2 = .ok (.lconst 0, 1) := by decide +kernel
theorem dX12_speed_3 : decode cX12_speed 3 = .ok (.ldc2_w 112, 3) := by decide +kernel
theorem dX12_speed_6 : decode cX12_speed 6 = .ok (.invokestatic 92, 3) := by decide +kernel
theorem dX12_speed_9 : decode cX12_speed 9 = .ok (.ifCond .ne 6, 3) := by decide +kernel
theorem dX12_speed_12 : decode cX12_speed 12 = .ok (.bipush (-102), 2) := by decide +kernel
theorem dX12_speed_14 : decode cX12_speed 14 = .ok (.ireturn, 1) := by decide +kernel
theorem dX12_speed_15 : decode cX12_speed 15 = .ok (.aload_n 0, 1) := by decide +kernel
theorem dX12_speed_16 : decode cX12_speed 16 = .ok (.getfield 86, 3) := by decide +kernel
theorem dX12_speed_19 : decode cX12_speed 19 = .ok (.istore_n 2, 1) := by decide +kernel
theorem dX12_speed_20 : decode cX12_speed 20 = .ok (.aload_n 0, 1) := by decide +kernel
theorem dX12_speed_21 : decode cX12_speed 21 = .ok (.iload_n 1, 1) := by decide +kernel
theorem dX12_speed_22 : decode cX12_speed 22 = .ok (.putfield 86, 3) := by decide +kernel
theorem dX12_speed_25 : decode cX12_speed 25 = .ok (.iload_n 2, 1) := by decide +kernel
theorem dX12_speed_26 : decode cX12_speed 26 = .ok (.ireturn, 1) := by decide +kernel
theorem dX12_claim_0 : decode cX12_claim 0 = .ok (.iload_n 1, 1) := by decide +kernel
theorem dX12_claim_1 : decode cX12_claim 1 = .ok (.iload_n 2, 1) := by decide +kernel
theorem dX12_claim_2 : decode cX12_claim 2 = .ok (.invokestatic 167, 3) := by decide +kernel
theorem dX12_claim_5 : decode cX12_claim 5 = .ok (.ifCond .ne 6, 3) := by decide +kernel
theorem dX12_claim_8 : decode cX12_claim 8 = .ok (.bipush (-101), 2) := by decide +kernel
theorem dX12_claim_10 : decode cX12_claim 10 = .ok (.ireturn, 1) := by decide +kernel
theorem dX12_claim_11 : decode cX12_claim 11 = .ok (.iload_n 3, 1) := by decide +kernel
theorem dX12_claim_12 : decode cX12_claim 12 = .ok (.i2l, 1) := by decide +kernel
theorem dX12_claim_13 : decode cX12_claim 13 = .ok (.lconst 0, 1) := by decide +kernel
theorem dX12_claim_14 : decode cX12_claim 14 = .ok (.ldc2_w 263, 3) := by decide +kernel
theorem dX12_claim_17 : decode cX12_claim 17 = .ok (.invokestatic 92, 3) := by decide +kernel
theorem dX12_claim_20 : decode cX12_claim 20 = .ok (.ifCond .eq 16, 3) := by decide +kernel
theorem dX12_claim_23 : decode cX12_claim 23 = .ok (.iload 5, 2) := by decide +kernel
theorem dX12_claim_25 : decode cX12_claim 25 = .ok (.i2l, 1) := by decide +kernel
theorem dX12_claim_26 : decode cX12_claim 26 = .ok (.lconst 1, 1) := by decide +kernel
theorem dX12_claim_27 : decode cX12_claim 27 = .ok (.ldc2_w 305, 3) := by decide +kernel
theorem dX12_claim_30 : decode cX12_claim 30 = .ok (.invokestatic 92, 3) := by decide +kernel
theorem dX12_claim_33 : decode cX12_claim 33 = .ok (.ifCond .ne 6, 3) := by decide +kernel
theorem dX12_claim_36 : decode cX12_claim 36 = .ok (.bipush (-102), 2) := by decide +kernel
theorem dX12_claim_38 : decode cX12_claim 38 = .ok (.ireturn, 1) := by decide +kernel
theorem dX12_claim_39 : decode cX12_claim 39 = .ok (.aload_n 0, 1) := by decide +kernel
theorem dX12_claim_40 : decode cX12_claim 40 = .ok (.getfield 307, 3) := by decide +kernel
theorem dX12_claim_43 : decode cX12_claim 43 = .ok (.bipush 12, 2) := by decide +kernel
theorem dX12_claim_45 : decode cX12_claim 45 = .ok (.if_icmp .ne 6, 3) := by decide +kernel
theorem dX12_claim_48 : decode cX12_claim 48 = .ok (.bipush (-104), 2) := by decide +kernel
theorem dX12_claim_50 : decode cX12_claim 50 = .ok (.ireturn, 1) := by decide +kernel
theorem dX12_claim_51 : decode cX12_claim 51 = .ok (.aload_n 0, 1) := by decide +kernel
theorem dX12_claim_52 : decode cX12_claim 52 = .ok (.getfield 68, 3) := by decide +kernel
theorem dX12_claim_55 : decode cX12_claim 55 = .ok (.aload_n 0, 1) := by decide +kernel
theorem dX12_claim_56 : decode cX12_claim 56 = .ok (.getfield 307, 3) := by decide +kernel
theorem dX12_claim_59 : decode cX12_claim 59 = .ok (.iload_n 1, 1) := by decide +kernel
theorem dX12_claim_60 : decode cX12_claim 60 = .ok (.iastore, 1) := by decide +kernel
theorem dX12_claim_61 : decode cX12_claim 61 = .ok (.aload_n 0, 1) := by decide +kernel
theorem dX12_claim_62 : decode cX12_claim 62 = .ok (.getfield 71, 3) := by decide +kernel
theorem dX12_claim_65 : decode cX12_claim 65 = .ok (.aload_n 0, 1) := by decide +kernel
theorem dX12_claim_66 : decode cX12_claim 66 = .ok (.getfield 307, 3) := by decide +kernel
theorem dX12_claim_69 : decode cX12_claim 69 = .ok (.iload_n 2, 1) := by decide +kernel
theorem dX12_claim_70 : decode cX12_claim 70 = .ok (.iastore, 1) := by decide +kernel
theorem dX12_claim_71 : decode cX12_claim 71 = .ok (.aload_n 0, 1) := by decide +kernel
theorem dX12_claim_72 : decode cX12_claim 72 = .ok (.getfield 74, 3) := by decide +kernel
theorem dX12_claim_75 : decode cX12_claim 75 = .ok (.aload_n 0, 1) := by decide +kernel
theorem dX12_claim_76 : decode cX12_claim 76 = .ok (.getfield 307, 3) := by decide +kernel
theorem dX12_claim_79 : decode cX12_claim 79 = .ok (.iload_n 3, 1) := by decide +kernel
theorem dX12_claim_80 : decode cX12_claim 80 = .ok (.iastore, 1) := by decide +kernel
theorem dX12_claim_81 : decode cX12_claim 81 = .ok (.aload_n 0, 1) := by decide +kernel
theorem dX12_claim_82 : decode cX12_claim 82 = .ok (.getfield 77, 3) := by decide +kernel
theorem dX12_claim_85 : decode cX12_claim 85 = .ok (.aload_n 0, 1) := by decide +kernel
theorem dX12_claim_86 : decode cX12_claim 86 = .ok (.getfield 307, 3) := by decide +kernel
theorem dX12_claim_89 : decode cX12_claim 89 = .ok (.iload 4, 2) := by decide +kernel
theorem dX12_claim_91 : decode cX12_claim 91 = .ok (.bastore, 1) := by decide +kernel
theorem dX12_claim_92 : decode cX12_claim 92 = .ok (.aload_n 0, 1) := by decide +kernel
theorem dX12_claim_93 : decode cX12_claim 93 = .ok (.getfield 80, 3) := by decide +kernel
theorem dX12_claim_96 : decode cX12_claim 96 = .ok (.aload_n 0, 1) := by decide +kernel
theorem dX12_claim_97 : decode cX12_claim 97 = .ok (.getfield 307, 3) := by decide +kernel
theorem dX12_claim_100 : decode cX12_claim 100 = .ok (.iload 5, 2) := by decide +kernel
theorem dX12_claim_102 : decode cX12_claim 102 = .ok (.iastore, 1) := by decide +kernel
theorem dX12_claim_103 : decode cX12_claim 103 = .ok (.aload_n 0, 1) := by decide +kernel
theorem dX12_claim_104 : decode cX12_claim 104 = .ok (.dup, 1) := by decide +kernel
theorem dX12_claim_105 : decode cX12_claim 105 = .ok (.getfield 307, 3) := by decide +kernel
theorem dX12_claim_108 : decode cX12_claim 108 = .ok (.iconst 1, 1) := by decide +kernel
theorem dX12_claim_109 : decode cX12_claim 109 = .ok (.iadd, 1) := by decide +kernel
theorem dX12_claim_110 : decode cX12_claim 110 = .ok (.putfield 307, 3) := by decide +kernel
theorem dX12_claim_113 : decode cX12_claim 113 = .ok (.aload_n 0, 1) := by decide +kernel
theorem dX12_claim_114 : decode cX12_claim 114 = .ok (.getfield 307, 3) := by decide +kernel
theorem dX12_claim_117 : decode cX12_claim 117 = .ok (.iconst 1, 1) := by decide +kernel
theorem dX12_claim_118 : decode cX12_claim 118 = .ok (.isub, 1) := by decide +kernel
theorem dX12_claim_119 : decode cX12_claim 119 = .ok (.ireturn, 1) := by decide +kernel
theorem dX12_broken_0 : decode cX12_broken 0 = .ok (.iconst 0, 1) := by decide +kernel
theorem dX12_broken_1 : decode cX12_broken 1 = .ok (.istore 4, 2) := by decide +kernel
theorem dX12_broken_3 : decode cX12_broken 3 = .ok (.iconst 0, 1) := by decide +kernel
theorem dX12_broken_4 : decode cX12_broken 4 = .ok (.istore 5, 2) := by decide +kernel
theorem dX12_broken_6 : decode cX12_broken 6 = .ok (.iload 5, 2) := by decide +kernel
theorem dX12_broken_8 : decode cX12_broken 8 = .ok (.aload_n 0, 1) := by decide +kernel
theorem dX12_broken_9 : decode cX12_broken 9 = .ok (.getfield 307, 3) := by decide +kernel
theorem dX12_broken_12 : decode cX12_broken 12 = .ok (.if_icmp .ge 108, 3) := by decide +kernel
theorem dX12_broken_15 : decode cX12_broken 15 = .ok (.aload_n 0, 1) := by decide +kernel
theorem dX12_broken_16 : decode cX12_broken 16 = .ok (.getfield 68, 3) := by decide +kernel
theorem dX12_broken_19 : decode cX12_broken 19 = .ok (.iload 5, 2) := by decide +kernel
theorem dX12_broken_21 : decode cX12_broken 21 = .ok (.iaload, 1) := by decide +kernel
theorem dX12_broken_22 : decode cX12_broken 22 = .ok (.iload_n 1, 1) := by decide +kernel
theorem dX12_broken_23 : decode cX12_broken 23 = .ok (.if_icmp .ne 91, 3) := by decide +kernel
theorem dX12_broken_26 : decode cX12_broken 26 = .ok (.aload_n 0, 1) := by decide +kernel
theorem dX12_broken_27 : decode cX12_broken 27 = .ok (.getfield 74, 3) := by decide +kernel
theorem dX12_broken_30 : decode cX12_broken 30 = .ok (.iload 5, 2) := by decide +kernel
theorem dX12_broken_32 : decode cX12_broken 32 = .ok (.iaload, 1) := by decide +kernel
theorem dX12_broken_33 : decode cX12_broken 33 = .ok (.iload_n 2, 1) := by decide +kernel
theorem dX12_broken_34 : decode cX12_broken 34 = .ok (.if_icmp .ne 80, 3) := by decide +kernel
theorem dX12_broken_37 : decode cX12_broken 37 = .ok (.aload_n 0, 1) := by decide +kernel
theorem dX12_broken_38 : decode cX12_broken 38 = .ok (.aload_n 0, 1) := by decide +kernel
theorem dX12_broken_39 : decode cX12_broken 39 = .ok (.getfield 71, 3) := by decide +kernel
theorem dX12_broken_42 : decode cX12_broken 42 = .ok (.iload 5, 2) := by decide +kernel
theorem dX12_broken_44 : decode cX12_broken 44 = .ok (.iaload, 1) := by decide +kernel
theorem dX12_broken_45 : decode cX12_broken 45 = .ok (.iload_n 1, 1) := by decide +kernel
theorem dX12_broken_46 : decode cX12_broken 46 = .ok (.iconst 0, 1) := by decide +kernel
theorem dX12_broken_47 : decode cX12_broken 47 = .ok (.iload_n 3, 1) := by decide +kernel
theorem dX12_broken_48 : decode cX12_broken 48 = .ok (.invokevirtual 161, 3) := by decide +kernel
theorem dX12_broken_51 : decode cX12_broken 51 = .ok (.pop, 1) := by decide +kernel
theorem dX12_broken_52 : decode cX12_broken 52 = .ok (.aload_n 0, 1) := by decide +kernel
theorem dX12_broken_53 : decode cX12_broken 53 = .ok (.invokevirtual 151, 3) := by decide +kernel
theorem dX12_broken_56 : decode cX12_broken 56 = .ok (.ifCond .ne 34, 3) := by decide +kernel
theorem dX12_broken_59 : decode cX12_broken 59 = .ok (.aload_n 0, 1) := by decide +kernel
theorem dX12_broken_60 : decode cX12_broken 60 = .ok (.getfield 77, 3) := by decide +kernel
theorem dX12_broken_63 : decode cX12_broken 63 = .ok (.iload 5, 2) := by decide +kernel
theorem dX12_broken_65 : decode cX12_broken 65 = .ok (.baload, 1) := by decide +kernel
theorem dX12_broken_66 : decode cX12_broken 66 = .ok (.ifCond .eq 13, 3) := by decide +kernel
theorem dX12_broken_69 : decode cX12_broken 69 = .ok (.aload_n 0, 1) := by decide +kernel
theorem dX12_broken_70 : decode cX12_broken 70 = .ok (.invokevirtual 158, 3) := by decide +kernel
theorem dX12_broken_73 : decode cX12_broken 73 = .ok (.ifCond .le 17, 3) := by decide +kernel
theorem dX12_broken_76 : decode cX12_broken 76 = .ok (.goto 10, 3) := by decide +kernel
theorem dX12_broken_79 : decode cX12_broken 79 = .ok (.aload_n 0, 1) := by decide +kernel
theorem dX12_broken_80 : decode cX12_broken 80 = .ok (.invokevirtual 158, 3) := by decide +kernel
theorem dX12_broken_83 : decode cX12_broken 83 = .ok (.ifCond .ne 7, 3) := by decide +kernel
theorem dX12_broken_86 : decode cX12_broken 86 = .ok (.iconst 1, 1) := by decide +kernel
theorem dX12_broken_87 : decode cX12_broken 87 = .ok (.goto 4, 3) := by decide +kernel
theorem dX12_broken_90 : decode cX12_broken 90 = .ok (.iconst 0, 1) := by decide +kernel
theorem dX12_broken_91 : decode cX12_broken 91 = .ok (.istore 6, 2) := by decide +kernel
theorem dX12_broken_93 : decode cX12_broken 93 = .ok (.iload 4, 2) := by decide +kernel
theorem dX12_broken_95 : decode cX12_broken 95 = .ok (.iload 6, 2) := by decide +kernel
theorem dX12_broken_97 : decode cX12_broken 97 = .ok (.ifCond .eq 7, 3) := by decide +kernel
theorem dX12_broken_100 : decode cX12_broken 100 = .ok (.iconst 0, 1) := by decide +kernel
theorem dX12_broken_101 : decode cX12_broken 101 = .ok (.goto 10, 3) := by decide +kernel
theorem dX12_broken_104 : decode cX12_broken 104 = .ok (.aload_n 0, 1) := by decide +kernel
theorem dX12_broken_105 : decode cX12_broken 105 = .ok (.getfield 80, 3) := by decide +kernel
theorem dX12_broken_108 : decode cX12_broken 108 = .ok (.iload 5, 2) := by decide +kernel
theorem dX12_broken_110 : decode cX12_broken 110 = .ok (.iaload, 1) := by decide +kernel
theorem dX12_broken_111 : decode cX12_broken 111 = .ok (.iadd, 1) := by decide +kernel
theorem dX12_broken_112 : decode cX12_broken 112 = .ok (.istore 4, 2) := by decide +kernel
theorem dX12_broken_114 : decode cX12_broken 114 = .ok (.iinc 5 1, 3) := by decide +kernel
theorem dX12_broken_117 : decode cX12_broken 117 = .ok (.goto (-111), 3) := by decide +kernel
theorem dX12_broken_120 : decode cX12_broken 120 = .ok (.iload 4, 2) := by decide +kernel
theorem dX12_broken_122 : decode cX12_broken 122 = .ok (.ireturn, 1) := by decide +kernel
theorem dX12_gone_0 : decode cX12_gone 0 = .ok (.iload_n 0, 1) := by decide +kernel
theorem dX12_gone_1 : decode cX12_gone 1 = .ok (.iload_n 1, 1) := by decide +kernel
theorem dX12_gone_2 : decode cX12_gone 2 = .ok (.invokestatic 137, 3) := by decide +kernel
theorem dX12_gone_5 : decode cX12_gone 5 = .ok (.istore_n 2, 1) := by decide +kernel
theorem dX12_gone_6 : decode cX12_gone 6 = .ok (.iload_n 2, 1) := by decide +kernel
theorem dX12_gone_7 : decode cX12_gone 7 = .ok (.bipush 8, 2) := by decide +kernel
theorem dX12_gone_9 : decode cX12_gone 9 = .ok (.if_icmp .le 10, 3) := by decide +kernel
theorem dX12_gone_12 : decode cX12_gone 12 = .ok (.bipush 16, 2) := by decide +kernel
theorem dX12_gone_14 : decode cX12_gone 14 = .ok (.iload_n 2, 1) := by decide +kernel
theorem dX12_gone_15 : decode cX12_gone 15 = .ok (.isub, 1) := by decide +kernel
theorem dX12_gone_16 : decode cX12_gone 16 = .ok (.goto 4, 3) := by decide +kernel
theorem dX12_gone_19 : decode cX12_gone 19 = .ok (.iload_n 2, 1) := by decide +kernel
theorem dX12_gone_20 : decode cX12_gone 20 = .ok (.ireturn, 1) := by decide +kernel
theorem dX12_layOnward_0 : decode cX12_layOnward 0 = .ok (.bipush 9, 2) := by decide +kernel
theorem dX12_layOnward_2 : decode cX12_layOnward 2 = .ok (.istore_n 2, 1) := by decide +kernel
theorem dX12_layOnward_3 : decode cX12_layOnward 3 = .ok (.iload_n 2, 1) := by decide +kernel
theorem dX12_layOnward_4 : decode cX12_layOnward 4 = .ok (.ifCond .lt 134, 3) := by decide +kernel
theorem dX12_layOnward_7 : decode cX12_layOnward 7 = .ok (.iconst 0, 1) := by decide +kernel
theorem dX12_layOnward_8 : decode cX12_layOnward 8 = .ok (.istore_n 3, 1) := by decide +kernel
theorem dX12_layOnward_9 : decode cX12_layOnward 9 = .ok (.iload_n 3, 1) := by decide +kernel
theorem dX12_layOnward_10 : decode cX12_layOnward 10 = .ok (.bipush 16, 2) := by decide +kernel
theorem dX12_layOnward_12 : decode cX12_layOnward 12 = .ok (.if_icmp .ge 120, 3) := by decide +kernel
theorem dX12_layOnward_15 : decode cX12_layOnward 15 = .ok (.iload_n 2, 1) := by decide +kernel
theorem dX12_layOnward_16 : decode cX12_layOnward 16 = .ok (.bipush 9, 2) := by decide +kernel
theorem dX12_layOnward_18 : decode cX12_layOnward 18 = .ok (.if_icmp .ne 7, 3) := by decide +kernel
theorem dX12_layOnward_21 : decode cX12_layOnward 21 = .ok (.iconst 0, 1) := by decide +kernel
theorem dX12_layOnward_22 : decode cX12_layOnward 22 = .ok (.goto 6, 3) := by decide +kernel
theorem dX12_layOnward_25 : decode cX12_layOnward 25 = .ok (.ldc_w 286, 3) := by decide +kernel
theorem dX12_layOnward_28 : decode cX12_layOnward 28 = .ok (.istore 4, 2) := by decide +kernel
theorem dX12_layOnward_30 : decode cX12_layOnward 30 = .ok (.iconst 0, 1) := by decide +kernel
theorem dX12_layOnward_31 : decode cX12_layOnward 31 = .ok (.istore 5, 2) := by decide +kernel
theorem dX12_layOnward_33 : decode cX12_layOnward 33 = .ok (.iload 5, 2) := by decide +kernel
theorem dX12_layOnward_35 : decode cX12_layOnward 35 = .ok (.bipush 16, 2) := by decide +kernel
theorem dX12_layOnward_37 : decode cX12_layOnward 37 = .ok (.if_icmp .ge 68, 3) := by decide +kernel
theorem dX12_layOnward_40 : decode cX12_layOnward 40 = .ok (.iload_n 2, 1) := by decide +kernel
theorem dX12_layOnward_41 : decode cX12_layOnward 41 = .ok (.bipush 9, 2) := by decide +kernel
theorem dX12_layOnward_43 : decode cX12_layOnward 43 = .ok (.if_icmp .ge 62, 3) := by decide +kernel
theorem dX12_layOnward_46 : decode cX12_layOnward 46 = .ok (.aload_n 0, 1) := by decide +kernel
theorem dX12_layOnward_47 : decode cX12_layOnward 47 = .ok (.getfield 83, 3) := by decide +kernel
theorem dX12_layOnward_50 : decode cX12_layOnward 50 = .ok (.bipush 16, 2) := by decide +kernel
theorem dX12_layOnward_52 : decode cX12_layOnward 52 = .ok (.iload_n 2, 1) := by decide +kernel
theorem dX12_layOnward_53 : decode cX12_layOnward 53 = .ok (.imul, 1) := by decide +kernel
theorem dX12_layOnward_54 : decode cX12_layOnward 54 = .ok (.bipush 16, 2) := by decide +kernel
theorem dX12_layOnward_56 : decode cX12_layOnward 56 = .ok (.iadd, 1) := by decide +kernel
theorem dX12_layOnward_57 : decode cX12_layOnward 57 = .ok (.iload 5, 2) := by decide +kernel
theorem dX12_layOnward_59 : decode cX12_layOnward 59 = .ok (.iadd, 1) := by decide +kernel
theorem dX12_layOnward_60 : decode cX12_layOnward 60 = .ok (.iaload, 1) := by decide +kernel
theorem dX12_layOnward_61 : decode cX12_layOnward 61 = .ok (.iload_n 3, 1) := by decide +kernel
theorem dX12_layOnward_62 : decode cX12_layOnward 62 = .ok (.iload 5, 2) := by decide +kernel
theorem dX12_layOnward_64 : decode cX12_layOnward 64 = .ok (.invokestatic 310, 3) := by decide +kernel
theorem dX12_layOnward_67 : decode cX12_layOnward 67 = .ok (.iadd, 1) := by decide +kernel
theorem dX12_layOnward_68 : decode cX12_layOnward 68 = .ok (.istore 6, 2) := by decide +kernel
theorem dX12_layOnward_70 : decode cX12_layOnward 70 = .ok (.iload_n 3, 1) := by decide +kernel
theorem dX12_layOnward_71 : decode cX12_layOnward 71 = .ok (.iload 5, 2) := by decide +kernel
theorem dX12_layOnward_73 : decode cX12_layOnward 73 = .ok (.invokestatic 310, 3) := by decide +kernel
theorem dX12_layOnward_76 : decode cX12_layOnward 76 = .ok (.aload_n 0, 1) := by decide +kernel
theorem dX12_layOnward_77 : decode cX12_layOnward 77 = .ok (.getfield 86, 3) := by decide +kernel
theorem dX12_layOnward_80 : decode cX12_layOnward 80 = .ok (.if_icmp .gt 15, 3) := by decide +kernel
theorem dX12_layOnward_83 : decode cX12_layOnward 83 = .ok (.iload 6, 2) := by decide +kernel
theorem dX12_layOnward_85 : decode cX12_layOnward 85 = .ok (.iload 4, 2) := by decide +kernel
theorem dX12_layOnward_87 : decode cX12_layOnward 87 = .ok (.if_icmp .ge 8, 3) := by decide +kernel
theorem dX12_layOnward_90 : decode cX12_layOnward 90 = .ok (.iload 6, 2) := by decide +kernel
theorem dX12_layOnward_92 : decode cX12_layOnward 92 = .ok (.goto 5, 3) := by decide +kernel
theorem dX12_layOnward_95 : decode cX12_layOnward 95 = .ok (.iload 4, 2) := by decide +kernel
theorem dX12_layOnward_97 : decode cX12_layOnward 97 = .ok (.istore 4, 2) := by decide +kernel
theorem dX12_layOnward_99 : decode cX12_layOnward 99 = .ok (.iinc 5 1, 3) := by decide +kernel
theorem dX12_layOnward_102 : decode cX12_layOnward 102 = .ok (.goto (-69), 3) := by decide +kernel
theorem dX12_layOnward_105 : decode cX12_layOnward 105 = .ok (.aload_n 0, 1) := by decide +kernel
theorem dX12_layOnward_106 : decode cX12_layOnward 106 = .ok (.getfield 83, 3) := by decide +kernel
theorem dX12_layOnward_109 : decode cX12_layOnward 109 = .ok (.bipush 16, 2) := by decide +kernel
theorem dX12_layOnward_111 : decode cX12_layOnward 111 = .ok (.iload_n 2, 1) := by decide +kernel
theorem dX12_layOnward_112 : decode cX12_layOnward 112 = .ok (.imul, 1) := by decide +kernel
theorem dX12_layOnward_113 : decode cX12_layOnward 113 = .ok (.iload_n 3, 1) := by decide +kernel
theorem dX12_layOnward_114 : decode cX12_layOnward 114 = .ok (.iadd, 1) := by decide +kernel
theorem dX12_layOnward_115 : decode cX12_layOnward 115 = .ok (.iload 4, 2) := by decide +kernel
theorem dX12_layOnward_117 : decode cX12_layOnward 117 = .ok (.aload_n 0, 1) := by decide +kernel
theorem dX12_layOnward_118 : decode cX12_layOnward 118 = .ok (.iload_n 1, 1) := by decide +kernel
theorem dX12_layOnward_119 : decode cX12_layOnward 119 = .ok (.iload_n 2, 1) := by decide +kernel
theorem dX12_layOnward_120 : decode cX12_layOnward 120 = .ok (.iload_n 3, 1) := by decide +kernel
theorem dX12_layOnward_121 : decode cX12_layOnward 121 = .ok (.invokevirtual 313, 3) := by decide +kernel
theorem dX12_layOnward_124 : decode cX12_layOnward 124 = .ok (.iadd, 1) := by decide +kernel
theorem dX12_layOnward_125 : decode cX12_layOnward 125 = .ok (.iastore, 1) := by decide +kernel
theorem dX12_layOnward_126 : decode cX12_layOnward 126 = .ok (.iinc 3 1, 3) := by decide +kernel
theorem dX12_layOnward_129 : decode cX12_layOnward 129 = .ok (.goto (-120), 3) := by decide +kernel
theorem dX12_layOnward_132 : decode cX12_layOnward 132 = .ok (.iinc 2 (-1), 3) := by decide +kernel
theorem dX12_layOnward_135 : decode cX12_layOnward 135 = .ok (.goto (-132), 3) := by decide +kernel
theorem dX12_layOnward_138 : decode cX12_layOnward 138 = .ok (.return_, 1) := by decide +kernel
theorem dX12_storyAt_0 : decode cX12_storyAt 0 = .ok (.iconst 0, 1) := by decide +kernel
theorem dX12_storyAt_1 : decode cX12_storyAt 1 = .ok (.istore_n 3, 1) := by decide +kernel
theorem dX12_storyAt_2 : decode cX12_storyAt 2 = .ok (.iconst 0, 1) := by decide +kernel
theorem dX12_storyAt_3 : decode cX12_storyAt 3 = .ok (.istore 4, 2) := by decide +kernel
theorem dX12_storyAt_5 : decode cX12_storyAt 5 = .ok (.iload 4, 2) := by decide +kernel
theorem dX12_storyAt_7 : decode cX12_storyAt 7 = .ok (.iload_n 2, 1) := by decide +kernel
theorem dX12_storyAt_8 : decode cX12_storyAt 8 = .ok (.if_icmp .ge 85, 3) := by decide +kernel
theorem dX12_storyAt_11 : decode cX12_storyAt 11 = .ok (.aload_n 0, 1) := by decide +kernel
theorem dX12_storyAt_12 : decode cX12_storyAt 12 = .ok (.getfield 83, 3) := by decide +kernel
theorem dX12_storyAt_15 : decode cX12_storyAt 15 = .ok (.bipush 16, 2) := by decide +kernel
theorem dX12_storyAt_17 : decode cX12_storyAt 17 = .ok (.iload 4, 2) := by decide +kernel
theorem dX12_storyAt_19 : decode cX12_storyAt 19 = .ok (.imul, 1) := by decide +kernel
theorem dX12_storyAt_20 : decode cX12_storyAt 20 = .ok (.iload_n 3, 1) := by decide +kernel
theorem dX12_storyAt_21 : decode cX12_storyAt 21 = .ok (.iadd, 1) := by decide +kernel
theorem dX12_storyAt_22 : decode cX12_storyAt 22 = .ok (.iaload, 1) := by decide +kernel
theorem dX12_storyAt_23 : decode cX12_storyAt 23 = .ok (.aload_n 0, 1) := by decide +kernel
theorem dX12_storyAt_24 : decode cX12_storyAt 24 = .ok (.iload_n 1, 1) := by decide +kernel
theorem dX12_storyAt_25 : decode cX12_storyAt 25 = .ok (.iload 4, 2) := by decide +kernel
theorem dX12_storyAt_27 : decode cX12_storyAt 27 = .ok (.iload_n 3, 1) := by decide +kernel
theorem dX12_storyAt_28 : decode cX12_storyAt 28 = .ok (.invokevirtual 313, 3) := by decide +kernel
theorem dX12_storyAt_31 : decode cX12_storyAt 31 = .ok (.isub, 1) := by decide +kernel
theorem dX12_storyAt_32 : decode cX12_storyAt 32 = .ok (.istore 5, 2) := by decide +kernel
theorem dX12_storyAt_34 : decode cX12_storyAt 34 = .ok (.iconst 0, 1) := by decide +kernel
theorem dX12_storyAt_35 : decode cX12_storyAt 35 = .ok (.istore 6, 2) := by decide +kernel
theorem dX12_storyAt_37 : decode cX12_storyAt 37 = .ok (.iload_n 3, 1) := by decide +kernel
theorem dX12_storyAt_38 : decode cX12_storyAt 38 = .ok (.iload 6, 2) := by decide +kernel
theorem dX12_storyAt_40 : decode cX12_storyAt 40 = .ok (.invokestatic 310, 3) := by decide +kernel
theorem dX12_storyAt_43 : decode cX12_storyAt 43 = .ok (.aload_n 0, 1) := by decide +kernel
theorem dX12_storyAt_44 : decode cX12_storyAt 44 = .ok (.getfield 86, 3) := by decide +kernel
theorem dX12_storyAt_47 : decode cX12_storyAt 47 = .ok (.if_icmp .gt 31, 3) := by decide +kernel
theorem dX12_storyAt_50 : decode cX12_storyAt 50 = .ok (.aload_n 0, 1) := by decide +kernel
theorem dX12_storyAt_51 : decode cX12_storyAt 51 = .ok (.getfield 83, 3) := by decide +kernel
theorem dX12_storyAt_54 : decode cX12_storyAt 54 = .ok (.bipush 16, 2) := by decide +kernel
theorem dX12_storyAt_56 : decode cX12_storyAt 56 = .ok (.iload 4, 2) := by decide +kernel
theorem dX12_storyAt_58 : decode cX12_storyAt 58 = .ok (.imul, 1) := by decide +kernel
theorem dX12_storyAt_59 : decode cX12_storyAt 59 = .ok (.bipush 16, 2) := by decide +kernel
theorem dX12_storyAt_61 : decode cX12_storyAt 61 = .ok (.iadd, 1) := by decide +kernel
theorem dX12_storyAt_62 : decode cX12_storyAt 62 = .ok (.iload 6, 2) := by decide +kernel
theorem dX12_storyAt_64 : decode cX12_storyAt 64 = .ok (.iadd, 1) := by decide +kernel
theorem dX12_storyAt_65 : decode cX12_storyAt 65 = .ok (.iaload, 1) := by decide +kernel
theorem dX12_storyAt_66 : decode cX12_storyAt 66 = .ok (.iload_n 3, 1) := by decide +kernel
theorem dX12_storyAt_67 : decode cX12_storyAt 67 = .ok (.iload 6, 2) := by decide +kernel
theorem dX12_storyAt_69 : decode cX12_storyAt 69 = .ok (.invokestatic 310, 3) := by decide +kernel
theorem dX12_storyAt_72 : decode cX12_storyAt 72 = .ok (.iadd, 1) := by decide +kernel
theorem dX12_storyAt_73 : decode cX12_storyAt 73 = .ok (.iload 5, 2) := by decide +kernel
theorem dX12_storyAt_75 : decode cX12_storyAt 75 = .ok (.if_icmp .eq 9, 3) := by decide +kernel
theorem dX12_storyAt_78 : decode cX12_storyAt 78 = .ok (.iinc 6 1, 3) := by decide +kernel
theorem dX12_storyAt_81 : decode cX12_storyAt 81 = .ok (.goto (-44), 3) := by decide +kernel
theorem dX12_storyAt_84 : decode cX12_storyAt 84 = .ok (.iload 6, 2) := by decide +kernel
theorem dX12_storyAt_86 : decode cX12_storyAt 86 = .ok (.istore_n 3, 1) := by decide +kernel
theorem dX12_storyAt_87 : decode cX12_storyAt 87 = .ok (.iinc 4 1, 3) := by decide +kernel
theorem dX12_storyAt_90 : decode cX12_storyAt 90 = .ok (.goto (-85), 3) := by decide +kernel
theorem dX12_storyAt_93 : decode cX12_storyAt 93 = .ok (.iload_n 3, 1) := by decide +kernel
theorem dX12_storyAt_94 : decode cX12_storyAt 94 = .ok (.ireturn, 1) := by decide +kernel
theorem dX12_story_0 : decode cX12_story 0 = .ok (.iload_n 1, 1) := by decide +kernel
theorem dX12_story_1 : decode cX12_story 1 = .ok (.invokestatic 101, 3) := by decide +kernel
theorem dX12_story_4 : decode cX12_story 4 = .ok (.ifCond .ne 6, 3) := by decide +kernel
theorem dX12_story_7 : decode cX12_story 7 = .ok (.bipush (-101), 2) := by decide +kernel
theorem dX12_story_9 : decode cX12_story 9 = .ok (.ireturn, 1) := by decide +kernel
theorem dX12_story_10 : decode cX12_story 10 = .ok (.iload_n 2, 1) := by decide +kernel
theorem dX12_story_11 : decode cX12_story 11 = .ok (.ifCond .eq 20, 3) := by decide +kernel
theorem dX12_story_14 : decode cX12_story 14 = .ok (.iload_n 2, 1) := by decide +kernel
theorem dX12_story_15 : decode cX12_story 15 = .ok (.i2l, 1) := by decide +kernel
theorem dX12_story_16 : decode cX12_story 16 = .ok (.ldc2_w 317, 3) := by decide +kernel
theorem dX12_story_19 : decode cX12_story 19 = .ok (.ldc2_w 319, 3) := by decide +kernel
theorem dX12_story_22 : decode cX12_story 22 = .ok (.invokestatic 92, 3) := by decide +kernel
theorem dX12_story_25 : decode cX12_story 25 = .ok (.ifCond .ne 6, 3) := by decide +kernel
theorem dX12_story_28 : decode cX12_story 28 = .ok (.bipush (-102), 2) := by decide +kernel
theorem dX12_story_30 : decode cX12_story 30 = .ok (.ireturn, 1) := by decide +kernel
theorem dX12_story_31 : decode cX12_story 31 = .ok (.aload_n 0, 1) := by decide +kernel
theorem dX12_story_32 : decode cX12_story 32 = .ok (.iload_n 1, 1) := by decide +kernel
theorem dX12_story_33 : decode cX12_story 33 = .ok (.invokevirtual 321, 3) := by decide +kernel
theorem dX12_story_36 : decode cX12_story 36 = .ok (.iload_n 2, 1) := by decide +kernel
theorem dX12_story_37 : decode cX12_story 37 = .ok (.ifCond .ne 12, 3) := by decide +kernel
theorem dX12_story_40 : decode cX12_story 40 = .ok (.aload_n 0, 1) := by decide +kernel
theorem dX12_story_41 : decode cX12_story 41 = .ok (.getfield 83, 3) := by decide +kernel
theorem dX12_story_44 : decode cX12_story 44 = .ok (.iconst 0, 1) := by decide +kernel
theorem dX12_story_45 : decode cX12_story 45 = .ok (.iaload, 1) := by decide +kernel
theorem dX12_story_46 : decode cX12_story 46 = .ok (.goto 12, 3) := by decide +kernel
theorem dX12_story_49 : decode cX12_story 49 = .ok (.aload_n 0, 1) := by decide +kernel
theorem dX12_story_50 : decode cX12_story 50 = .ok (.iload_n 1, 1) := by decide +kernel
theorem dX12_story_51 : decode cX12_story 51 = .ok (.iload_n 2, 1) := by decide +kernel
theorem dX12_story_52 : decode cX12_story 52 = .ok (.bipush 10, 2) := by decide +kernel
theorem dX12_story_54 : decode cX12_story 54 = .ok (.isub, 1) := by decide +kernel
theorem dX12_story_55 : decode cX12_story 55 = .ok (.invokevirtual 324, 3) := by decide +kernel
theorem dX12_story_58 : decode cX12_story 58 = .ok (.ireturn, 1) := by decide +kernel
theorem dX12_judge_0 : decode cX12_judge 0 = .ok (.iload_n 1, 1) := by decide +kernel
theorem dX12_judge_1 : decode cX12_judge 1 = .ok (.invokestatic 101, 3) := by decide +kernel
theorem dX12_judge_4 : decode cX12_judge 4 = .ok (.ifCond .ne 6, 3) := by decide +kernel
theorem dX12_judge_7 : decode cX12_judge 7 = .ok (.bipush (-101), 2) := by decide +kernel
theorem dX12_judge_9 : decode cX12_judge 9 = .ok (.ireturn, 1) := by decide +kernel
theorem dX12_judge_10 : decode cX12_judge 10 = .ok (.lload_n 2, 1) := by decide +kernel
theorem dX12_judge_11 : decode cX12_judge 11 = .ok (.lconst 0, 1) := by decide +kernel
theorem dX12_judge_12 : decode cX12_judge 12 = .ok (.ldc2_w 327, 3) := by decide +kernel
theorem dX12_judge_15 : decode cX12_judge 15 = .ok (.invokestatic 92, 3) := by decide +kernel
theorem dX12_judge_18 : decode cX12_judge 18 = .ok (.ifCond .ne 6, 3) := by decide +kernel
theorem dX12_judge_21 : decode cX12_judge 21 = .ok (.bipush (-102), 2) := by decide +kernel
theorem dX12_judge_23 : decode cX12_judge 23 = .ok (.ireturn, 1) := by decide +kernel
theorem dX12_judge_24 : decode cX12_judge 24 = .ok (.iconst 0, 1) := by decide +kernel
theorem dX12_judge_25 : decode cX12_judge 25 = .ok (.istore 4, 2) := by decide +kernel
theorem dX12_judge_27 : decode cX12_judge 27 = .ok (.iconst 0, 1) := by decide +kernel
theorem dX12_judge_28 : decode cX12_judge 28 = .ok (.istore 5, 2) := by decide +kernel
theorem dX12_judge_30 : decode cX12_judge 30 = .ok (.iconst 1, 1) := by decide +kernel
theorem dX12_judge_31 : decode cX12_judge 31 = .ok (.istore 6, 2) := by decide +kernel
theorem dX12_judge_33 : decode cX12_judge 33 = .ok (.iconst 0, 1) := by decide +kernel
theorem dX12_judge_34 : decode cX12_judge 34 = .ok (.istore 7, 2) := by decide +kernel
theorem dX12_judge_36 : decode cX12_judge 36 = .ok (.iload 7, 2) := by decide +kernel
theorem dX12_judge_38 : decode cX12_judge 38 = .ok (.bipush 10, 2) := by decide +kernel
theorem dX12_judge_40 : decode cX12_judge 40 = .ok (.if_icmp .ge 87, 3) := by decide +kernel
theorem dX12_judge_43 : decode cX12_judge 43 = .ok (.lload_n 2, 1) := by decide +kernel
theorem dX12_judge_44 : decode cX12_judge 44 = .ok (.iconst 4, 1) := by decide +kernel
theorem dX12_judge_45 : decode cX12_judge 45 = .ok (.iload 7, 2) := by decide +kernel
theorem dX12_judge_47 : decode cX12_judge 47 = .ok (.imul, 1) := by decide +kernel
theorem dX12_judge_48 : decode cX12_judge 48 = .ok (.lshr, 1) := by decide +kernel
theorem dX12_judge_49 : decode cX12_judge 49 = .ok (.ldc2_w 114, 3) := by decide +kernel
theorem dX12_judge_52 : decode cX12_judge 52 = .ok (.land, 1) := by decide +kernel
theorem dX12_judge_53 : decode cX12_judge 53 = .ok (.l2i, 1) := by decide +kernel
theorem dX12_judge_54 : decode cX12_judge 54 = .ok (.istore 8, 2) := by decide +kernel
theorem dX12_judge_56 : decode cX12_judge 56 = .ok (.iload 6, 2) := by decide +kernel
theorem dX12_judge_58 : decode cX12_judge 58 = .ok (.ifCond .eq 34, 3) := by decide +kernel
theorem dX12_judge_61 : decode cX12_judge 61 = .ok (.iload 7, 2) := by decide +kernel
theorem dX12_judge_63 : decode cX12_judge 63 = .ok (.ifCond .ne 11, 3) := by decide +kernel
theorem dX12_judge_66 : decode cX12_judge 66 = .ok (.iload 8, 2) := by decide +kernel
theorem dX12_judge_68 : decode cX12_judge 68 = .ok (.ifCond .ne 24, 3) := by decide +kernel
theorem dX12_judge_71 : decode cX12_judge 71 = .ok (.goto 17, 3) := by decide +kernel
theorem dX12_judge_74 : decode cX12_judge 74 = .ok (.iload 5, 2) := by decide +kernel
theorem dX12_judge_76 : decode cX12_judge 76 = .ok (.iload 8, 2) := by decide +kernel
theorem dX12_judge_78 : decode cX12_judge 78 = .ok (.invokestatic 310, 3) := by decide +kernel
theorem dX12_judge_81 : decode cX12_judge 81 = .ok (.aload_n 0, 1) := by decide +kernel
theorem dX12_judge_82 : decode cX12_judge 82 = .ok (.getfield 86, 3) := by decide +kernel
theorem dX12_judge_85 : decode cX12_judge 85 = .ok (.if_icmp .gt 7, 3) := by decide +kernel
theorem dX12_judge_88 : decode cX12_judge 88 = .ok (.iconst 1, 1) := by decide +kernel
theorem dX12_judge_89 : decode cX12_judge 89 = .ok (.goto 4, 3) := by decide +kernel
theorem dX12_judge_92 : decode cX12_judge 92 = .ok (.iconst 0, 1) := by decide +kernel
theorem dX12_judge_93 : decode cX12_judge 93 = .ok (.istore 6, 2) := by decide +kernel
theorem dX12_judge_95 : decode cX12_judge 95 = .ok (.iload 4, 2) := by decide +kernel
theorem dX12_judge_97 : decode cX12_judge 97 = .ok (.iload 5, 2) := by decide +kernel
theorem dX12_judge_99 : decode cX12_judge 99 = .ok (.iload 8, 2) := by decide +kernel
theorem dX12_judge_101 : decode cX12_judge 101 = .ok (.invokestatic 310, 3) := by decide +kernel
theorem dX12_judge_104 : decode cX12_judge 104 = .ok (.aload_n 0, 1) := by decide +kernel
theorem dX12_judge_105 : decode cX12_judge 105 = .ok (.iload_n 1, 1) := by decide +kernel
theorem dX12_judge_106 : decode cX12_judge 106 = .ok (.iload 7, 2) := by decide +kernel
theorem dX12_judge_108 : decode cX12_judge 108 = .ok (.iload 8, 2) := by decide +kernel
theorem dX12_judge_110 : decode cX12_judge 110 = .ok (.invokevirtual 313, 3) := by decide +kernel
theorem dX12_judge_113 : decode cX12_judge 113 = .ok (.iadd, 1) := by decide +kernel
theorem dX12_judge_114 : decode cX12_judge 114 = .ok (.iadd, 1) := by decide +kernel
theorem dX12_judge_115 : decode cX12_judge 115 = .ok (.istore 4, 2) := by decide +kernel
theorem dX12_judge_117 : decode cX12_judge 117 = .ok (.iload 8, 2) := by decide +kernel
theorem dX12_judge_119 : decode cX12_judge 119 = .ok (.istore 5, 2) := by decide +kernel
theorem dX12_judge_121 : decode cX12_judge 121 = .ok (.iinc 7 1, 3) := by decide +kernel
theorem dX12_judge_124 : decode cX12_judge 124 = .ok (.goto (-88), 3) := by decide +kernel
theorem dX12_judge_127 : decode cX12_judge 127 = .ok (.iload 6, 2) := by decide +kernel
theorem dX12_judge_129 : decode cX12_judge 129 = .ok (.ifCond .eq 8, 3) := by decide +kernel
theorem dX12_judge_132 : decode cX12_judge 132 = .ok (.iload 4, 2) := by decide +kernel
theorem dX12_judge_134 : decode cX12_judge 134 = .ok (.goto 4, 3) := by decide +kernel
theorem dX12_judge_137 : decode cX12_judge 137 = .ok (.iconst (-1), 1) := by decide +kernel
theorem dX12_judge_138 : decode cX12_judge 138 = .ok (.ireturn, 1) := by decide +kernel
theorem dX12_agreeAt_0 : decode cX12_agreeAt 0 = .ok (.iconst 0, 1) := by decide +kernel
theorem dX12_agreeAt_1 : decode cX12_agreeAt 1 = .ok (.istore 5, 2) := by decide +kernel
theorem dX12_agreeAt_3 : decode cX12_agreeAt 3 = .ok (.iconst 0, 1) := by decide +kernel
theorem dX12_agreeAt_4 : decode cX12_agreeAt 4 = .ok (.istore 6, 2) := by decide +kernel
theorem dX12_agreeAt_6 : decode cX12_agreeAt 6 = .ok (.iload 6, 2) := by decide +kernel
theorem dX12_agreeAt_8 : decode cX12_agreeAt 8 = .ok (.aload_n 0, 1) := by decide +kernel
theorem dX12_agreeAt_9 : decode cX12_agreeAt 9 = .ok (.getfield 98, 3) := by decide +kernel
theorem dX12_agreeAt_12 : decode cX12_agreeAt 12 = .ok (.if_icmp .ge 118, 3) := by decide +kernel
theorem dX12_agreeAt_15 : decode cX12_agreeAt 15 = .ok (.aload_n 0, 1) := by decide +kernel
theorem dX12_agreeAt_16 : decode cX12_agreeAt 16 = .ok (.getfield 7, 3) := by decide +kernel
theorem dX12_agreeAt_19 : decode cX12_agreeAt 19 = .ok (.aload_n 0, 1) := by decide +kernel
theorem dX12_agreeAt_20 : decode cX12_agreeAt 20 = .ok (.getfield 16, 3) := by decide +kernel
theorem dX12_agreeAt_23 : decode cX12_agreeAt 23 = .ok (.iload 6, 2) := by decide +kernel
theorem dX12_agreeAt_25 : decode cX12_agreeAt 25 = .ok (.iaload, 1) := by decide +kernel
theorem dX12_agreeAt_26 : decode cX12_agreeAt 26 = .ok (.iaload, 1) := by decide +kernel
theorem dX12_agreeAt_27 : decode cX12_agreeAt 27 = .ok (.istore 7, 2) := by decide +kernel
theorem dX12_agreeAt_29 : decode cX12_agreeAt 29 = .ok (.aload_n 0, 1) := by decide +kernel
theorem dX12_agreeAt_30 : decode cX12_agreeAt 30 = .ok (.getfield 13, 3) := by decide +kernel
theorem dX12_agreeAt_33 : decode cX12_agreeAt 33 = .ok (.iload 6, 2) := by decide +kernel
theorem dX12_agreeAt_35 : decode cX12_agreeAt 35 = .ok (.iaload, 1) := by decide +kernel
theorem dX12_agreeAt_36 : decode cX12_agreeAt 36 = .ok (.iconst 4, 1) := by decide +kernel
theorem dX12_agreeAt_37 : decode cX12_agreeAt 37 = .ok (.if_icmp .ne 18, 3) := by decide +kernel
theorem dX12_agreeAt_40 : decode cX12_agreeAt 40 = .ok (.iload_n 1, 1) := by decide +kernel
theorem dX12_agreeAt_41 : decode cX12_agreeAt 41 = .ok (.iconst (-1), 1) := by decide +kernel
theorem dX12_agreeAt_42 : decode cX12_agreeAt 42 = .ok (.if_icmp .eq 9, 3) := by decide +kernel
theorem dX12_agreeAt_45 : decode cX12_agreeAt 45 = .ok (.iload 7, 2) := by decide +kernel
theorem dX12_agreeAt_47 : decode cX12_agreeAt 47 = .ok (.iload_n 1, 1) := by decide +kernel
theorem dX12_agreeAt_48 : decode cX12_agreeAt 48 = .ok (.if_icmp .ne 7, 3) := by decide +kernel
theorem dX12_agreeAt_51 : decode cX12_agreeAt 51 = .ok (.iconst 1, 1) := by decide +kernel
theorem dX12_agreeAt_52 : decode cX12_agreeAt 52 = .ok (.goto 4, 3) := by decide +kernel
theorem dX12_agreeAt_55 : decode cX12_agreeAt 55 = .ok (.iconst 0, 1) := by decide +kernel
theorem dX12_agreeAt_56 : decode cX12_agreeAt 56 = .ok (.istore 8, 2) := by decide +kernel
theorem dX12_agreeAt_58 : decode cX12_agreeAt 58 = .ok (.iload_n 2, 1) := by decide +kernel
theorem dX12_agreeAt_59 : decode cX12_agreeAt 59 = .ok (.iconst (-1), 1) := by decide +kernel
theorem dX12_agreeAt_60 : decode cX12_agreeAt 60 = .ok (.if_icmp .eq 23, 3) := by decide +kernel
theorem dX12_agreeAt_63 : decode cX12_agreeAt 63 = .ok (.iload 7, 2) := by decide +kernel
theorem dX12_agreeAt_65 : decode cX12_agreeAt 65 = .ok (.iload_n 2, 1) := by decide +kernel
theorem dX12_agreeAt_66 : decode cX12_agreeAt 66 = .ok (.if_icmp .ne 17, 3) := by decide +kernel
theorem dX12_agreeAt_69 : decode cX12_agreeAt 69 = .ok (.aload_n 0, 1) := by decide +kernel
theorem dX12_agreeAt_70 : decode cX12_agreeAt 70 = .ok (.getfield 16, 3) := by decide +kernel
theorem dX12_agreeAt_73 : decode cX12_agreeAt 73 = .ok (.iload 6, 2) := by decide +kernel
theorem dX12_agreeAt_75 : decode cX12_agreeAt 75 = .ok (.iaload, 1) := by decide +kernel
theorem dX12_agreeAt_76 : decode cX12_agreeAt 76 = .ok (.iload_n 3, 1) := by decide +kernel
theorem dX12_agreeAt_77 : decode cX12_agreeAt 77 = .ok (.invokestatic 145, 3) := by decide +kernel
theorem dX12_agreeAt_80 : decode cX12_agreeAt 80 = .ok (.goto 10, 3) := by decide +kernel
theorem dX12_agreeAt_83 : decode cX12_agreeAt 83 = .ok (.aload_n 0, 1) := by decide +kernel
theorem dX12_agreeAt_84 : decode cX12_agreeAt 84 = .ok (.getfield 16, 3) := by decide +kernel
theorem dX12_agreeAt_87 : decode cX12_agreeAt 87 = .ok (.iload 6, 2) := by decide +kernel
theorem dX12_agreeAt_89 : decode cX12_agreeAt 89 = .ok (.iaload, 1) := by decide +kernel
theorem dX12_agreeAt_90 : decode cX12_agreeAt 90 = .ok (.istore 9, 2) := by decide +kernel
theorem dX12_agreeAt_92 : decode cX12_agreeAt 92 = .ok (.iload 5, 2) := by decide +kernel
theorem dX12_agreeAt_94 : decode cX12_agreeAt 94 = .ok (.iload 8, 2) := by decide +kernel
theorem dX12_agreeAt_96 : decode cX12_agreeAt 96 = .ok (.ifCond .eq 24, 3) := by decide +kernel
theorem dX12_agreeAt_99 : decode cX12_agreeAt 99 = .ok (.iload 9, 2) := by decide +kernel
theorem dX12_agreeAt_101 : decode cX12_agreeAt 101 = .ok (.iload 4, 2) := by decide +kernel
theorem dX12_agreeAt_103 : decode cX12_agreeAt 103 = .ok (.invokestatic 255, 3) := by decide +kernel
theorem dX12_agreeAt_106 : decode cX12_agreeAt 106 = .ok (.aload_n 0, 1) := by decide +kernel
theorem dX12_agreeAt_107 : decode cX12_agreeAt 107 = .ok (.getfield 19, 3) := by decide +kernel
theorem dX12_agreeAt_110 : decode cX12_agreeAt 110 = .ok (.iload 6, 2) := by decide +kernel
theorem dX12_agreeAt_112 : decode cX12_agreeAt 112 = .ok (.iaload, 1) := by decide +kernel
theorem dX12_agreeAt_113 : decode cX12_agreeAt 113 = .ok (.if_icmp .ne 7, 3) := by decide +kernel
theorem dX12_agreeAt_116 : decode cX12_agreeAt 116 = .ok (.iconst 1, 1) := by decide +kernel
theorem dX12_agreeAt_117 : decode cX12_agreeAt 117 = .ok (.goto 4, 3) := by decide +kernel
theorem dX12_agreeAt_120 : decode cX12_agreeAt 120 = .ok (.iconst 0, 1) := by decide +kernel
theorem dX12_agreeAt_121 : decode cX12_agreeAt 121 = .ok (.iadd, 1) := by decide +kernel
theorem dX12_agreeAt_122 : decode cX12_agreeAt 122 = .ok (.istore 5, 2) := by decide +kernel
theorem dX12_agreeAt_124 : decode cX12_agreeAt 124 = .ok (.iinc 6 1, 3) := by decide +kernel
theorem dX12_agreeAt_127 : decode cX12_agreeAt 127 = .ok (.goto (-121), 3) := by decide +kernel
theorem dX12_agreeAt_130 : decode cX12_agreeAt 130 = .ok (.iload 5, 2) := by decide +kernel
theorem dX12_agreeAt_132 : decode cX12_agreeAt 132 = .ok (.ireturn, 1) := by decide +kernel
theorem dX12_hasNeedle_0 : decode cX12_hasNeedle 0 = .ok (.iconst 0, 1) := by decide +kernel
theorem dX12_hasNeedle_1 : decode cX12_hasNeedle 1 = .ok (.istore_n 2, 1) := by decide +kernel
theorem dX12_hasNeedle_2 : decode cX12_hasNeedle 2 = .ok (.iconst 0, 1) := by decide +kernel
theorem dX12_hasNeedle_3 : decode cX12_hasNeedle 3 = .ok (.istore_n 3, 1) := by decide +kernel
theorem dX12_hasNeedle_4 : decode cX12_hasNeedle 4 = .ok (.iload_n 3, 1) := by decide +kernel
theorem dX12_hasNeedle_5 : decode cX12_hasNeedle 5 = .ok (.aload_n 0, 1) := by decide +kernel
theorem dX12_hasNeedle_6 : decode cX12_hasNeedle 6 = .ok (.getfield 98, 3) := by decide +kernel
theorem dX12_hasNeedle_9 : decode cX12_hasNeedle 9 = .ok (.if_icmp .ge 49, 3) := by decide +kernel
theorem dX12_hasNeedle_12 : decode cX12_hasNeedle 12 = .ok (.iload_n 2, 1) := by decide +kernel
theorem dX12_hasNeedle_13 : decode cX12_hasNeedle 13 = .ok (.ifCond .ne 33, 3) := by decide +kernel
theorem dX12_hasNeedle_16 : decode cX12_hasNeedle 16 = .ok (.aload_n 0, 1) := by decide +kernel
theorem dX12_hasNeedle_17 : decode cX12_hasNeedle 17 = .ok (.getfield 13, 3) := by decide +kernel
theorem dX12_hasNeedle_20 : decode cX12_hasNeedle 20 = .ok (.iload_n 3, 1) := by decide +kernel
theorem dX12_hasNeedle_21 : decode cX12_hasNeedle 21 = .ok (.iaload, 1) := by decide +kernel
theorem dX12_hasNeedle_22 : decode cX12_hasNeedle 22 = .ok (.iconst 4, 1) := by decide +kernel
theorem dX12_hasNeedle_23 : decode cX12_hasNeedle 23 = .ok (.if_icmp .ne 27, 3) := by decide +kernel
theorem dX12_hasNeedle_26 : decode cX12_hasNeedle 26 = .ok (.iload_n 1, 1) := by decide +kernel
theorem dX12_hasNeedle_27 : decode cX12_hasNeedle 27 = .ok (.iconst (-1), 1) := by decide +kernel
theorem dX12_hasNeedle_28 : decode cX12_hasNeedle 28 = .ok (.if_icmp .eq 18, 3) := by decide +kernel
theorem dX12_hasNeedle_31 : decode cX12_hasNeedle 31 = .ok (.aload_n 0, 1) := by decide +kernel
theorem dX12_hasNeedle_32 : decode cX12_hasNeedle 32 = .ok (.getfield 7, 3) := by decide +kernel
theorem dX12_hasNeedle_35 : decode cX12_hasNeedle 35 = .ok (.aload_n 0, 1) := by decide +kernel
theorem dX12_hasNeedle_36 : decode cX12_hasNeedle 36 = .ok (.getfield 16, 3) := by decide +kernel
theorem dX12_hasNeedle_39 : decode cX12_hasNeedle 39 = .ok (.iload_n 3, 1) := by decide +kernel
theorem dX12_hasNeedle_40 : decode cX12_hasNeedle 40 = .ok (.iaload, 1) := by decide +kernel
theorem dX12_hasNeedle_41 : decode cX12_hasNeedle 41 = .ok (.iaload, 1) := by decide +kernel
theorem dX12_hasNeedle_42 : decode cX12_hasNeedle 42 = .ok (.iload_n 1, 1) := by decide +kernel
theorem dX12_hasNeedle_43 : decode cX12_hasNeedle 43 = .ok (.if_icmp .ne 7, 3) := by decide +kernel
theorem dX12_hasNeedle_46 : decode cX12_hasNeedle 46 = .ok (.iconst 1, 1) := by decide +kernel
theorem dX12_hasNeedle_47 : decode cX12_hasNeedle 47 = .ok (.goto 4, 3) := by decide +kernel
theorem dX12_hasNeedle_50 : decode cX12_hasNeedle 50 = .ok (.iconst 0, 1) := by decide +kernel
theorem dX12_hasNeedle_51 : decode cX12_hasNeedle 51 = .ok (.istore_n 2, 1) := by decide +kernel
theorem dX12_hasNeedle_52 : decode cX12_hasNeedle 52 = .ok (.iinc 3 1, 3) := by decide +kernel
theorem dX12_hasNeedle_55 : decode cX12_hasNeedle 55 = .ok (.goto (-51), 3) := by decide +kernel
theorem dX12_hasNeedle_58 : decode cX12_hasNeedle 58 = .ok (.iload_n 2, 1) := by decide +kernel
theorem dX12_hasNeedle_59 : decode cX12_hasNeedle 59 = .ok (.ireturn, 1) := by decide +kernel
theorem dX12_pole_0 : decode cX12_pole 0 = .ok (.iload_n 1, 1) := by decide +kernel
theorem dX12_pole_1 : decode cX12_pole 1 = .ok (.iconst (-1), 1) := by decide +kernel
theorem dX12_pole_2 : decode cX12_pole 2 = .ok (.if_icmp .eq 10, 3) := by decide +kernel
theorem dX12_pole_5 : decode cX12_pole 5 = .ok (.iload_n 1, 1) := by decide +kernel
theorem dX12_pole_6 : decode cX12_pole 6 = .ok (.invokestatic 101, 3) := by decide +kernel
theorem dX12_pole_9 : decode cX12_pole 9 = .ok (.ifCond .eq 15, 3) := by decide +kernel
theorem dX12_pole_12 : decode cX12_pole 12 = .ok (.iload_n 2, 1) := by decide +kernel
theorem dX12_pole_13 : decode cX12_pole 13 = .ok (.iconst (-1), 1) := by decide +kernel
theorem dX12_pole_14 : decode cX12_pole 14 = .ok (.if_icmp .eq 13, 3) := by decide +kernel
theorem dX12_pole_17 : decode cX12_pole 17 = .ok (.iload_n 2, 1) := by decide +kernel
theorem dX12_pole_18 : decode cX12_pole 18 = .ok (.invokestatic 101, 3) := by decide +kernel
theorem dX12_pole_21 : decode cX12_pole 21 = .ok (.ifCond .ne 6, 3) := by decide +kernel
theorem dX12_pole_24 : decode cX12_pole 24 = .ok (.bipush (-101), 2) := by decide +kernel
theorem dX12_pole_26 : decode cX12_pole 26 = .ok (.ireturn, 1) := by decide +kernel
theorem dX12_pole_27 : decode cX12_pole 27 = .ok (.iload_n 3, 1) := by decide +kernel
theorem dX12_pole_28 : decode cX12_pole 28 = .ok (.i2l, 1) := by decide +kernel
theorem dX12_pole_29 : decode cX12_pole 29 = .ok (.lconst 0, 1) := by decide +kernel
theorem dX12_pole_30 : decode cX12_pole 30 = .ok (.ldc2_w 114, 3) := by decide +kernel
theorem dX12_pole_33 : decode cX12_pole 33 = .ok (.invokestatic 92, 3) := by decide +kernel
theorem dX12_pole_36 : decode cX12_pole 36 = .ok (.ifCond .eq 16, 3) := by decide +kernel
theorem dX12_pole_39 : decode cX12_pole 39 = .ok (.iload 4, 2) := by decide +kernel
theorem dX12_pole_41 : decode cX12_pole 41 = .ok (.i2l, 1) := by decide +kernel
theorem dX12_pole_42 : decode cX12_pole 42 = .ok (.lconst 0, 1) := by decide +kernel
theorem dX12_pole_43 : decode cX12_pole 43 = .ok (.ldc2_w 118, 3) := by decide +kernel
theorem dX12_pole_46 : decode cX12_pole 46 = .ok (.invokestatic 92, 3) := by decide +kernel
theorem dX12_pole_49 : decode cX12_pole 49 = .ok (.ifCond .ne 6, 3) := by decide +kernel
theorem dX12_pole_52 : decode cX12_pole 52 = .ok (.bipush (-102), 2) := by decide +kernel
theorem dX12_pole_54 : decode cX12_pole 54 = .ok (.ireturn, 1) := by decide +kernel
theorem dX12_pole_55 : decode cX12_pole 55 = .ok (.aload_n 0, 1) := by decide +kernel
theorem dX12_pole_56 : decode cX12_pole 56 = .ok (.iload_n 1, 1) := by decide +kernel
theorem dX12_pole_57 : decode cX12_pole 57 = .ok (.invokevirtual 329, 3) := by decide +kernel
theorem dX12_pole_60 : decode cX12_pole 60 = .ok (.ifCond .ne 14, 3) := by decide +kernel
theorem dX12_pole_63 : decode cX12_pole 63 = .ok (.iload 4, 2) := by decide +kernel
theorem dX12_pole_65 : decode cX12_pole 65 = .ok (.ifCond .ne 7, 3) := by decide +kernel
theorem dX12_pole_68 : decode cX12_pole 68 = .ok (.iconst (-1), 1) := by decide +kernel
theorem dX12_pole_69 : decode cX12_pole 69 = .ok (.goto 4, 3) := by decide +kernel
theorem dX12_pole_72 : decode cX12_pole 72 = .ok (.iconst 0, 1) := by decide +kernel
theorem dX12_pole_73 : decode cX12_pole 73 = .ok (.ireturn, 1) := by decide +kernel
theorem dX12_pole_74 : decode cX12_pole 74 = .ok (.iconst (-1), 1) := by decide +kernel
theorem dX12_pole_75 : decode cX12_pole 75 = .ok (.istore 5, 2) := by decide +kernel
theorem dX12_pole_77 : decode cX12_pole 77 = .ok (.iconst (-1), 1) := by decide +kernel
theorem dX12_pole_78 : decode cX12_pole 78 = .ok (.istore 6, 2) := by decide +kernel
theorem dX12_pole_80 : decode cX12_pole 80 = .ok (.iconst 0, 1) := by decide +kernel
theorem dX12_pole_81 : decode cX12_pole 81 = .ok (.istore 7, 2) := by decide +kernel
theorem dX12_pole_83 : decode cX12_pole 83 = .ok (.iconst 0, 1) := by decide +kernel
theorem dX12_pole_84 : decode cX12_pole 84 = .ok (.istore 8, 2) := by decide +kernel
theorem dX12_pole_86 : decode cX12_pole 86 = .ok (.iload 8, 2) := by decide +kernel
theorem dX12_pole_88 : decode cX12_pole 88 = .ok (.sipush 128, 3) := by decide +kernel
theorem dX12_pole_91 : decode cX12_pole 91 = .ok (.if_icmp .ge 81, 3) := by decide +kernel
theorem dX12_pole_94 : decode cX12_pole 94 = .ok (.aload_n 0, 1) := by decide +kernel
theorem dX12_pole_95 : decode cX12_pole 95 = .ok (.iload_n 1, 1) := by decide +kernel
theorem dX12_pole_96 : decode cX12_pole 96 = .ok (.iload_n 2, 1) := by decide +kernel
theorem dX12_pole_97 : decode cX12_pole 97 = .ok (.iload_n 3, 1) := by decide +kernel
theorem dX12_pole_98 : decode cX12_pole 98 = .ok (.iload 8, 2) := by decide +kernel
theorem dX12_pole_100 : decode cX12_pole 100 = .ok (.invokevirtual 332, 3) := by decide +kernel
theorem dX12_pole_103 : decode cX12_pole 103 = .ok (.istore 9, 2) := by decide +kernel
theorem dX12_pole_105 : decode cX12_pole 105 = .ok (.iload 9, 2) := by decide +kernel
theorem dX12_pole_107 : decode cX12_pole 107 = .ok (.iload 6, 2) := by decide +kernel
theorem dX12_pole_109 : decode cX12_pole 109 = .ok (.if_icmp .le 7, 3) := by decide +kernel
theorem dX12_pole_112 : decode cX12_pole 112 = .ok (.iconst 1, 1) := by decide +kernel
theorem dX12_pole_113 : decode cX12_pole 113 = .ok (.goto 19, 3) := by decide +kernel
theorem dX12_pole_116 : decode cX12_pole 116 = .ok (.iload 9, 2) := by decide +kernel
theorem dX12_pole_118 : decode cX12_pole 118 = .ok (.iload 6, 2) := by decide +kernel
theorem dX12_pole_120 : decode cX12_pole 120 = .ok (.if_icmp .ne 10, 3) := by decide +kernel
theorem dX12_pole_123 : decode cX12_pole 123 = .ok (.iload 7, 2) := by decide +kernel
theorem dX12_pole_125 : decode cX12_pole 125 = .ok (.iconst 1, 1) := by decide +kernel
theorem dX12_pole_126 : decode cX12_pole 126 = .ok (.iadd, 1) := by decide +kernel
theorem dX12_pole_127 : decode cX12_pole 127 = .ok (.goto 5, 3) := by decide +kernel
theorem dX12_pole_130 : decode cX12_pole 130 = .ok (.iload 7, 2) := by decide +kernel
theorem dX12_pole_132 : decode cX12_pole 132 = .ok (.istore 7, 2) := by decide +kernel
theorem dX12_pole_134 : decode cX12_pole 134 = .ok (.iload 9, 2) := by decide +kernel
theorem dX12_pole_136 : decode cX12_pole 136 = .ok (.iload 6, 2) := by decide +kernel
theorem dX12_pole_138 : decode cX12_pole 138 = .ok (.if_icmp .le 8, 3) := by decide +kernel
theorem dX12_pole_141 : decode cX12_pole 141 = .ok (.iload 8, 2) := by decide +kernel
theorem dX12_pole_143 : decode cX12_pole 143 = .ok (.goto 5, 3) := by decide +kernel
theorem dX12_pole_146 : decode cX12_pole 146 = .ok (.iload 5, 2) := by decide +kernel
theorem dX12_pole_148 : decode cX12_pole 148 = .ok (.istore 5, 2) := by decide +kernel
theorem dX12_pole_150 : decode cX12_pole 150 = .ok (.iload 9, 2) := by decide +kernel
theorem dX12_pole_152 : decode cX12_pole 152 = .ok (.iload 6, 2) := by decide +kernel
theorem dX12_pole_154 : decode cX12_pole 154 = .ok (.if_icmp .le 8, 3) := by decide +kernel
theorem dX12_pole_157 : decode cX12_pole 157 = .ok (.iload 9, 2) := by decide +kernel
theorem dX12_pole_159 : decode cX12_pole 159 = .ok (.goto 5, 3) := by decide +kernel
theorem dX12_pole_162 : decode cX12_pole 162 = .ok (.iload 6, 2) := by decide +kernel
theorem dX12_pole_164 : decode cX12_pole 164 = .ok (.istore 6, 2) := by decide +kernel
theorem dX12_pole_166 : decode cX12_pole 166 = .ok (.iinc 8 1, 3) := by decide +kernel
theorem dX12_pole_169 : decode cX12_pole 169 = .ok (.goto (-83), 3) := by decide +kernel
theorem dX12_pole_172 : decode cX12_pole 172 = .ok (.iload 4, 2) := by decide +kernel
theorem dX12_pole_174 : decode cX12_pole 174 = .ok (.ifCond .ne 8, 3) := by decide +kernel
theorem dX12_pole_177 : decode cX12_pole 177 = .ok (.iload 5, 2) := by decide +kernel
theorem dX12_pole_179 : decode cX12_pole 179 = .ok (.goto 16, 3) := by decide +kernel
theorem dX12_pole_182 : decode cX12_pole 182 = .ok (.iload 4, 2) := by decide +kernel
theorem dX12_pole_184 : decode cX12_pole 184 = .ok (.iconst 1, 1) := by decide +kernel
theorem dX12_pole_185 : decode cX12_pole 185 = .ok (.if_icmp .ne 8, 3) := by decide +kernel
theorem dX12_pole_188 : decode cX12_pole 188 = .ok (.iload 6, 2) := by decide +kernel
theorem dX12_pole_190 : decode cX12_pole 190 = .ok (.goto 5, 3) := by decide +kernel
theorem dX12_pole_193 : decode cX12_pole 193 = .ok (.iload 7, 2) := by decide +kernel
theorem dX12_pole_195 : decode cX12_pole 195 = .ok (.ireturn, 1) := by decide +kernel
theorem dX12_floor_0 : decode cX12_floor 0 = .ok (.iload_n 1, 1) := by decide +kernel
theorem dX12_floor_1 : decode cX12_floor 1 = .ok (.i2l, 1) := by decide +kernel
theorem dX12_floor_2 : decode cX12_floor 2 = .ok (.lconst 0, 1) := by decide +kernel
theorem dX12_floor_3 : decode cX12_floor 3 = .ok (.ldc2_w 335, 3) := by decide +kernel
theorem dX12_floor_6 : decode cX12_floor 6 = .ok (.invokestatic 92, 3) := by decide +kernel
theorem dX12_floor_9 : decode cX12_floor 9 = .ok (.ifCond .ne 6, 3) := by decide +kernel
theorem dX12_floor_12 : decode cX12_floor 12 = .ok (.bipush (-102), 2) := by decide +kernel
theorem dX12_floor_14 : decode cX12_floor 14 = .ok (.ireturn, 1) := by decide +kernel
theorem dX12_floor_15 : decode cX12_floor 15 = .ok (.aload_n 0, 1) := by decide +kernel
theorem dX12_floor_16 : decode cX12_floor 16 = .ok (.getfield 337, 3) := by decide +kernel
theorem dX12_floor_19 : decode cX12_floor 19 = .ok (.istore_n 2, 1) := by decide +kernel
theorem dX12_floor_20 : decode cX12_floor 20 = .ok (.aload_n 0, 1) := by decide +kernel
theorem dX12_floor_21 : decode cX12_floor 21 = .ok (.iload_n 1, 1) := by decide +kernel
theorem dX12_floor_22 : decode cX12_floor 22 = .ok (.putfield 337, 3) := by decide +kernel
theorem dX12_floor_25 : decode cX12_floor 25 = .ok (.iload_n 2, 1) := by decide +kernel
theorem dX12_floor_26 : decode cX12_floor 26 = .ok (.ireturn, 1) := by decide +kernel
theorem dX12_mirrorOf_0 : decode cX12_mirrorOf 0 = .ok (.iconst 0, 1) := by decide +kernel
theorem dX12_mirrorOf_1 : decode cX12_mirrorOf 1 = .ok (.istore_n 2, 1) := by decide +kernel
theorem dX12_mirrorOf_2 : decode cX12_mirrorOf 2 = .ok (.iload_n 1, 1) := by decide +kernel
theorem dX12_mirrorOf_3 : decode cX12_mirrorOf 3 = .ok (.iconst 1, 1) := by decide +kernel
theorem dX12_mirrorOf_4 : decode cX12_mirrorOf 4 = .ok (.isub, 1) := by decide +kernel
theorem dX12_mirrorOf_5 : decode cX12_mirrorOf 5 = .ok (.iload_n 2, 1) := by decide +kernel
theorem dX12_mirrorOf_6 : decode cX12_mirrorOf 6 = .ok (.isub, 1) := by decide +kernel
theorem dX12_mirrorOf_7 : decode cX12_mirrorOf 7 = .ok (.ifCond .lt 42, 3) := by decide +kernel
theorem dX12_mirrorOf_10 : decode cX12_mirrorOf 10 = .ok (.iload_n 1, 1) := by decide +kernel
theorem dX12_mirrorOf_11 : decode cX12_mirrorOf 11 = .ok (.iload_n 2, 1) := by decide +kernel
theorem dX12_mirrorOf_12 : decode cX12_mirrorOf 12 = .ok (.iadd, 1) := by decide +kernel
theorem dX12_mirrorOf_13 : decode cX12_mirrorOf 13 = .ok (.bipush 24, 2) := by decide +kernel
theorem dX12_mirrorOf_15 : decode cX12_mirrorOf 15 = .ok (.if_icmp .ge 34, 3) := by decide +kernel
theorem dX12_mirrorOf_18 : decode cX12_mirrorOf 18 = .ok (.aload_n 0, 1) := by decide +kernel
theorem dX12_mirrorOf_19 : decode cX12_mirrorOf 19 = .ok (.getfield 337, 3) := by decide +kernel
theorem dX12_mirrorOf_22 : decode cX12_mirrorOf 22 = .ok (.iload_n 1, 1) := by decide +kernel
theorem dX12_mirrorOf_23 : decode cX12_mirrorOf 23 = .ok (.iconst 1, 1) := by decide +kernel
theorem dX12_mirrorOf_24 : decode cX12_mirrorOf 24 = .ok (.isub, 1) := by decide +kernel
theorem dX12_mirrorOf_25 : decode cX12_mirrorOf 25 = .ok (.iload_n 2, 1) := by decide +kernel
theorem dX12_mirrorOf_26 : decode cX12_mirrorOf 26 = .ok (.isub, 1) := by decide +kernel
theorem dX12_mirrorOf_27 : decode cX12_mirrorOf 27 = .ok (.ishr, 1) := by decide +kernel
theorem dX12_mirrorOf_28 : decode cX12_mirrorOf 28 = .ok (.iconst 1, 1) := by decide +kernel
theorem dX12_mirrorOf_29 : decode cX12_mirrorOf 29 = .ok (.iand, 1) := by decide +kernel
theorem dX12_mirrorOf_30 : decode cX12_mirrorOf 30 = .ok (.aload_n 0, 1) := by decide +kernel
theorem dX12_mirrorOf_31 : decode cX12_mirrorOf 31 = .ok (.getfield 337, 3) := by decide +kernel
theorem dX12_mirrorOf_34 : decode cX12_mirrorOf 34 = .ok (.iload_n 1, 1) := by decide +kernel
theorem dX12_mirrorOf_35 : decode cX12_mirrorOf 35 = .ok (.iload_n 2, 1) := by decide +kernel
theorem dX12_mirrorOf_36 : decode cX12_mirrorOf 36 = .ok (.iadd, 1) := by decide +kernel
theorem dX12_mirrorOf_37 : decode cX12_mirrorOf 37 = .ok (.ishr, 1) := by decide +kernel
theorem dX12_mirrorOf_38 : decode cX12_mirrorOf 38 = .ok (.iconst 1, 1) := by decide +kernel
theorem dX12_mirrorOf_39 : decode cX12_mirrorOf 39 = .ok (.iand, 1) := by decide +kernel
theorem dX12_mirrorOf_40 : decode cX12_mirrorOf 40 = .ok (.if_icmp .ne 9, 3) := by decide +kernel
theorem dX12_mirrorOf_43 : decode cX12_mirrorOf 43 = .ok (.iinc 2 1, 3) := by decide +kernel
theorem dX12_mirrorOf_46 : decode cX12_mirrorOf 46 = .ok (.goto (-44), 3) := by decide +kernel
theorem dX12_mirrorOf_49 : decode cX12_mirrorOf 49 = .ok (.iload_n 2, 1) := by decide +kernel
theorem dX12_mirrorOf_50 : decode cX12_mirrorOf 50 = .ok (.ireturn, 1) := by decide +kernel
theorem dX12_mirror_0 : decode cX12_mirror 0 = .ok (.iload_n 1, 1) := by decide +kernel
theorem dX12_mirror_1 : decode cX12_mirror 1 = .ok (.i2l, 1) := by decide +kernel
theorem dX12_mirror_2 : decode cX12_mirror 2 = .ok (.lconst 1, 1) := by decide +kernel
theorem dX12_mirror_3 : decode cX12_mirror 3 = .ok (.ldc2_w 340, 3) := by decide +kernel
theorem dX12_mirror_6 : decode cX12_mirror 6 = .ok (.invokestatic 92, 3) := by decide +kernel
theorem dX12_mirror_9 : decode cX12_mirror 9 = .ok (.ifCond .eq 11, 3) := by decide +kernel
theorem dX12_mirror_12 : decode cX12_mirror 12 = .ok (.aload_n 0, 1) := by decide +kernel
theorem dX12_mirror_13 : decode cX12_mirror 13 = .ok (.iload_n 1, 1) := by decide +kernel
theorem dX12_mirror_14 : decode cX12_mirror 14 = .ok (.invokevirtual 342, 3) := by decide +kernel
theorem dX12_mirror_17 : decode cX12_mirror 17 = .ok (.goto 5, 3) := by decide +kernel
theorem dX12_mirror_20 : decode cX12_mirror 20 = .ok (.bipush (-102), 2) := by decide +kernel
theorem dX12_mirror_22 : decode cX12_mirror 22 = .ok (.ireturn, 1) := by decide +kernel
theorem dX12_ridgeOf_0 : decode cX12_ridgeOf 0 = .ok (.iconst 1, 1) := by decide +kernel
theorem dX12_ridgeOf_1 : decode cX12_ridgeOf 1 = .ok (.istore_n 1, 1) := by decide +kernel
theorem dX12_ridgeOf_2 : decode cX12_ridgeOf 2 = .ok (.iconst 2, 1) := by decide +kernel
theorem dX12_ridgeOf_3 : decode cX12_ridgeOf 3 = .ok (.istore_n 2, 1) := by decide +kernel
theorem dX12_ridgeOf_4 : decode cX12_ridgeOf 4 = .ok (.iload_n 2, 1) := by decide +kernel
theorem dX12_ridgeOf_5 : decode cX12_ridgeOf 5 = .ok (.bipush 24, 2) := by decide +kernel
theorem dX12_ridgeOf_7 : decode cX12_ridgeOf 7 = .ok (.if_icmp .ge 50, 3) := by decide +kernel
theorem dX12_ridgeOf_10 : decode cX12_ridgeOf 10 = .ok (.aload_n 0, 1) := by decide +kernel
theorem dX12_ridgeOf_11 : decode cX12_ridgeOf 11 = .ok (.iload_n 2, 1) := by decide +kernel
theorem dX12_ridgeOf_12 : decode cX12_ridgeOf 12 = .ok (.invokevirtual 342, 3) := by decide +kernel
theorem dX12_ridgeOf_15 : decode cX12_ridgeOf 15 = .ok (.aload_n 0, 1) := by decide +kernel
theorem dX12_ridgeOf_16 : decode cX12_ridgeOf 16 = .ok (.iload_n 1, 1) := by decide +kernel
theorem dX12_ridgeOf_17 : decode cX12_ridgeOf 17 = .ok (.invokevirtual 342, 3) := by decide +kernel
theorem dX12_ridgeOf_20 : decode cX12_ridgeOf 20 = .ok (.isub, 1) := by decide +kernel
theorem dX12_ridgeOf_21 : decode cX12_ridgeOf 21 = .ok (.istore_n 3, 1) := by decide +kernel
theorem dX12_ridgeOf_22 : decode cX12_ridgeOf 22 = .ok (.iload_n 3, 1) := by decide +kernel
theorem dX12_ridgeOf_23 : decode cX12_ridgeOf 23 = .ok (.ifCond .gt 22, 3) := by decide +kernel
theorem dX12_ridgeOf_26 : decode cX12_ridgeOf 26 = .ok (.iload_n 3, 1) := by decide +kernel
theorem dX12_ridgeOf_27 : decode cX12_ridgeOf 27 = .ok (.ifCond .ne 22, 3) := by decide +kernel
theorem dX12_ridgeOf_30 : decode cX12_ridgeOf 30 = .ok (.iload_n 2, 1) := by decide +kernel
theorem dX12_ridgeOf_31 : decode cX12_ridgeOf 31 = .ok (.bipush 12, 2) := by decide +kernel
theorem dX12_ridgeOf_33 : decode cX12_ridgeOf 33 = .ok (.invokestatic 137, 3) := by decide +kernel
theorem dX12_ridgeOf_36 : decode cX12_ridgeOf 36 = .ok (.iload_n 1, 1) := by decide +kernel
theorem dX12_ridgeOf_37 : decode cX12_ridgeOf 37 = .ok (.bipush 12, 2) := by decide +kernel
theorem dX12_ridgeOf_39 : decode cX12_ridgeOf 39 = .ok (.invokestatic 137, 3) := by decide +kernel
theorem dX12_ridgeOf_42 : decode cX12_ridgeOf 42 = .ok (.if_icmp .ge 7, 3) := by decide +kernel
theorem dX12_ridgeOf_45 : decode cX12_ridgeOf 45 = .ok (.iload_n 2, 1) := by decide +kernel
theorem dX12_ridgeOf_46 : decode cX12_ridgeOf 46 = .ok (.goto 4, 3) := by decide +kernel
theorem dX12_ridgeOf_49 : decode cX12_ridgeOf 49 = .ok (.iload_n 1, 1) := by decide +kernel
theorem dX12_ridgeOf_50 : decode cX12_ridgeOf 50 = .ok (.istore_n 1, 1) := by decide +kernel
theorem dX12_ridgeOf_51 : decode cX12_ridgeOf 51 = .ok (.iinc 2 1, 3) := by decide +kernel
theorem dX12_ridgeOf_54 : decode cX12_ridgeOf 54 = .ok (.goto (-50), 3) := by decide +kernel
theorem dX12_ridgeOf_57 : decode cX12_ridgeOf 57 = .ok (.iload_n 1, 1) := by decide +kernel
theorem dX12_ridgeOf_58 : decode cX12_ridgeOf 58 = .ok (.ireturn, 1) := by decide +kernel
theorem dX12_ridge_0 : decode cX12_ridge 0 = .ok (.aload_n 0, 1) := by decide +kernel
theorem dX12_ridge_1 : decode cX12_ridge 1 = .ok (.invokevirtual 345, 3) := by decide +kernel
theorem dX12_ridge_4 : decode cX12_ridge 4 = .ok (.ireturn, 1) := by decide +kernel
theorem dX12_countOf_0 : decode cX12_countOf 0 = .ok (.iload_n 1, 1) := by decide +kernel
theorem dX12_countOf_1 : decode cX12_countOf 1 = .ok (.tableswitch 87 0 6 #[43, 53, 58, 65, 72, 77, 82], 43) := by decide +kernel
theorem dX12_countOf_44 : decode cX12_countOf 44 = .ok (.sipush 128, 3) := by decide +kernel
theorem dX12_countOf_47 : decode cX12_countOf 47 = .ok (.aload_n 0, 1) := by decide +kernel
theorem dX12_countOf_48 : decode cX12_countOf 48 = .ok (.iconst (-1), 1) := by decide +kernel
theorem dX12_countOf_49 : decode cX12_countOf 49 = .ok (.invokevirtual 120, 3) := by decide +kernel
theorem dX12_countOf_52 : decode cX12_countOf 52 = .ok (.isub, 1) := by decide +kernel
theorem dX12_countOf_53 : decode cX12_countOf 53 = .ok (.ireturn, 1) := by decide +kernel
theorem dX12_countOf_54 : decode cX12_countOf 54 = .ok (.aload_n 0, 1) := by decide +kernel
theorem dX12_countOf_55 : decode cX12_countOf 55 = .ok (.getfield 98, 3) := by decide +kernel
theorem dX12_countOf_58 : decode cX12_countOf 58 = .ok (.ireturn, 1) := by decide +kernel
theorem dX12_countOf_59 : decode cX12_countOf 59 = .ok (.aload_n 0, 1) := by decide +kernel
theorem dX12_countOf_60 : decode cX12_countOf 60 = .ok (.getfield 28, 3) := by decide +kernel
theorem dX12_countOf_63 : decode cX12_countOf 63 = .ok (.iconst 0, 1) := by decide +kernel
theorem dX12_countOf_64 : decode cX12_countOf 64 = .ok (.iaload, 1) := by decide +kernel
theorem dX12_countOf_65 : decode cX12_countOf 65 = .ok (.ireturn, 1) := by decide +kernel
theorem dX12_countOf_66 : decode cX12_countOf 66 = .ok (.aload_n 0, 1) := by decide +kernel
theorem dX12_countOf_67 : decode cX12_countOf 67 = .ok (.getfield 28, 3) := by decide +kernel
theorem dX12_countOf_70 : decode cX12_countOf 70 = .ok (.iconst 1, 1) := by decide +kernel
theorem dX12_countOf_71 : decode cX12_countOf 71 = .ok (.iaload, 1) := by decide +kernel
theorem dX12_countOf_72 : decode cX12_countOf 72 = .ok (.ireturn, 1) := by decide +kernel
theorem dX12_countOf_73 : decode cX12_countOf 73 = .ok (.aload_n 0, 1) := by decide +kernel
theorem dX12_countOf_74 : decode cX12_countOf 74 = .ok (.getfield 265, 3) := by decide +kernel
theorem dX12_countOf_77 : decode cX12_countOf 77 = .ok (.ireturn, 1) := by decide +kernel
theorem dX12_countOf_78 : decode cX12_countOf 78 = .ok (.aload_n 0, 1) := by decide +kernel
theorem dX12_countOf_79 : decode cX12_countOf 79 = .ok (.getfield 307, 3) := by decide +kernel
theorem dX12_countOf_82 : decode cX12_countOf 82 = .ok (.ireturn, 1) := by decide +kernel
theorem dX12_countOf_83 : decode cX12_countOf 83 = .ok (.aload_n 0, 1) := by decide +kernel
theorem dX12_countOf_84 : decode cX12_countOf 84 = .ok (.getfield 195, 3) := by decide +kernel
theorem dX12_countOf_87 : decode cX12_countOf 87 = .ok (.ireturn, 1) := by decide +kernel
theorem dX12_countOf_88 : decode cX12_countOf 88 = .ok (.bipush (-102), 2) := by decide +kernel
theorem dX12_countOf_90 : decode cX12_countOf 90 = .ok (.ireturn, 1) := by decide +kernel
theorem dX12_count_0 : decode cX12_count 0 = .ok (.aload_n 0, 1) := by decide +kernel
theorem dX12_count_1 : decode cX12_count 1 = .ok (.iload_n 1, 1) := by decide +kernel
theorem dX12_count_2 : decode cX12_count 2 = .ok (.invokevirtual 348, 3) := by decide +kernel
theorem dX12_count_5 : decode cX12_count 5 = .ok (.ireturn, 1) := by decide +kernel
theorem dX12_tell_0 : decode cX12_tell 0 = .ok (.aload_n 0, 1) := by decide +kernel
theorem dX12_tell_1 : decode cX12_tell 1 = .ok (.ldc2_w 351, 3) := by decide +kernel
theorem dX12_tell_4 : decode cX12_tell 4 = .ok (.aload_n 0, 1) := by decide +kernel
theorem dX12_tell_5 : decode cX12_tell 5 = .ok (.getfield 353, 3) := by decide +kernel
theorem dX12_tell_8 : decode cX12_tell 8 = .ok (.lmul, 1) := by decide +kernel
theorem dX12_tell_9 : decode cX12_tell 9 = .ok (.lload_n 1, 1) := by decide +kernel
theorem dX12_tell_10 : decode cX12_tell 10 = .ok (.ladd, 1) := by decide +kernel
theorem dX12_tell_11 : decode cX12_tell 11 = .ok (.putfield 353, 3) := by decide +kernel
theorem dX12_tell_14 : decode cX12_tell 14 = .ok (.return_, 1) := by decide +kernel
theorem dX12_digest_0 : decode cX12_digest 0 = .ok (.aload_n 0, 1) := by decide +kernel
theorem dX12_digest_1 : decode cX12_digest 1 = .ok (.ldc2_w 357, 3) := by decide +kernel
theorem dX12_digest_4 : decode cX12_digest 4 = .ok (.putfield 353, 3) := by decide +kernel
theorem dX12_digest_7 : decode cX12_digest 7 = .ok (.iconst 0, 1) := by decide +kernel
theorem dX12_digest_8 : decode cX12_digest 8 = .ok (.istore_n 1, 1) := by decide +kernel
theorem dX12_digest_9 : decode cX12_digest 9 = .ok (.iload_n 1, 1) := by decide +kernel
theorem dX12_digest_10 : decode cX12_digest 10 = .ok (.sipush 128, 3) := by decide +kernel
theorem dX12_digest_13 : decode cX12_digest 13 = .ok (.if_icmp .ge 20, 3) := by decide +kernel
theorem dX12_digest_16 : decode cX12_digest 16 = .ok (.aload_n 0, 1) := by decide +kernel
theorem dX12_digest_17 : decode cX12_digest 17 = .ok (.aload_n 0, 1) := by decide +kernel
theorem dX12_digest_18 : decode cX12_digest 18 = .ok (.getfield 7, 3) := by decide +kernel
theorem dX12_digest_21 : decode cX12_digest 21 = .ok (.iload_n 1, 1) := by decide +kernel
theorem dX12_digest_22 : decode cX12_digest 22 = .ok (.iaload, 1) := by decide +kernel
theorem dX12_digest_23 : decode cX12_digest 23 = .ok (.i2l, 1) := by decide +kernel
theorem dX12_digest_24 : decode cX12_digest 24 = .ok (.invokevirtual 359, 3) := by decide +kernel
theorem dX12_digest_27 : decode cX12_digest 27 = .ok (.iinc 1 1, 3) := by decide +kernel
theorem dX12_digest_30 : decode cX12_digest 30 = .ok (.goto (-21), 3) := by decide +kernel
theorem dX12_digest_33 : decode cX12_digest 33 = .ok (.iconst 0, 1) := by decide +kernel
theorem dX12_digest_34 : decode cX12_digest 34 = .ok (.istore_n 1, 1) := by decide +kernel
theorem dX12_digest_35 : decode cX12_digest 35 = .ok (.iload_n 1, 1) := by decide +kernel
theorem dX12_digest_36 : decode cX12_digest 36 = .ok (.aload_n 0, 1) := by decide +kernel
theorem dX12_digest_37 : decode cX12_digest 37 = .ok (.getfield 98, 3) := by decide +kernel
theorem dX12_digest_40 : decode cX12_digest 40 = .ok (.if_icmp .ge 52, 3) := by decide +kernel
theorem dX12_digest_43 : decode cX12_digest 43 = .ok (.aload_n 0, 1) := by decide +kernel
theorem dX12_digest_44 : decode cX12_digest 44 = .ok (.aload_n 0, 1) := by decide +kernel
theorem dX12_digest_45 : decode cX12_digest 45 = .ok (.getfield 13, 3) := by decide +kernel
theorem dX12_digest_48 : decode cX12_digest 48 = .ok (.iload_n 1, 1) := by decide +kernel
theorem dX12_digest_49 : decode cX12_digest 49 = .ok (.iaload, 1) := by decide +kernel
theorem dX12_digest_50 : decode cX12_digest 50 = .ok (.i2l, 1) := by decide +kernel
theorem dX12_digest_51 : decode cX12_digest 51 = .ok (.invokevirtual 359, 3) := by decide +kernel
theorem dX12_digest_54 : decode cX12_digest 54 = .ok (.aload_n 0, 1) := by decide +kernel
theorem dX12_digest_55 : decode cX12_digest 55 = .ok (.aload_n 0, 1) := by decide +kernel
theorem dX12_digest_56 : decode cX12_digest 56 = .ok (.getfield 16, 3) := by decide +kernel
theorem dX12_digest_59 : decode cX12_digest 59 = .ok (.iload_n 1, 1) := by decide +kernel
theorem dX12_digest_60 : decode cX12_digest 60 = .ok (.iaload, 1) := by decide +kernel
theorem dX12_digest_61 : decode cX12_digest 61 = .ok (.i2l, 1) := by decide +kernel
theorem dX12_digest_62 : decode cX12_digest 62 = .ok (.invokevirtual 359, 3) := by decide +kernel
theorem dX12_digest_65 : decode cX12_digest 65 = .ok (.aload_n 0, 1) := by decide +kernel
theorem dX12_digest_66 : decode cX12_digest 66 = .ok (.aload_n 0, 1) := by decide +kernel
theorem dX12_digest_67 : decode cX12_digest 67 = .ok (.getfield 19, 3) := by decide +kernel
theorem dX12_digest_70 : decode cX12_digest 70 = .ok (.iload_n 1, 1) := by decide +kernel
theorem dX12_digest_71 : decode cX12_digest 71 = .ok (.iaload, 1) := by decide +kernel
theorem dX12_digest_72 : decode cX12_digest 72 = .ok (.i2l, 1) := by decide +kernel
theorem dX12_digest_73 : decode cX12_digest 73 = .ok (.invokevirtual 359, 3) := by decide +kernel
theorem dX12_digest_76 : decode cX12_digest 76 = .ok (.aload_n 0, 1) := by decide +kernel
theorem dX12_digest_77 : decode cX12_digest 77 = .ok (.aload_n 0, 1) := by decide +kernel
theorem dX12_digest_78 : decode cX12_digest 78 = .ok (.iload_n 1, 1) := by decide +kernel
theorem dX12_digest_79 : decode cX12_digest 79 = .ok (.invokevirtual 134, 3) := by decide +kernel
theorem dX12_digest_82 : decode cX12_digest 82 = .ok (.i2l, 1) := by decide +kernel
theorem dX12_digest_83 : decode cX12_digest 83 = .ok (.invokevirtual 359, 3) := by decide +kernel
theorem dX12_digest_86 : decode cX12_digest 86 = .ok (.iinc 1 1, 3) := by decide +kernel
theorem dX12_digest_89 : decode cX12_digest 89 = .ok (.goto (-54), 3) := by decide +kernel
theorem dX12_digest_92 : decode cX12_digest 92 = .ok (.iconst 0, 1) := by decide +kernel
theorem dX12_digest_93 : decode cX12_digest 93 = .ok (.istore_n 1, 1) := by decide +kernel
theorem dX12_digest_94 : decode cX12_digest 94 = .ok (.iload_n 1, 1) := by decide +kernel
theorem dX12_digest_95 : decode cX12_digest 95 = .ok (.bipush 6, 2) := by decide +kernel
theorem dX12_digest_97 : decode cX12_digest 97 = .ok (.if_icmp .ge 36, 3) := by decide +kernel
theorem dX12_digest_100 : decode cX12_digest 100 = .ok (.iload_n 1, 1) := by decide +kernel
theorem dX12_digest_101 : decode cX12_digest 101 = .ok (.iconst 1, 1) := by decide +kernel
theorem dX12_digest_102 : decode cX12_digest 102 = .ok (.iadd, 1) := by decide +kernel
theorem dX12_digest_103 : decode cX12_digest 103 = .ok (.istore_n 2, 1) := by decide +kernel
theorem dX12_digest_104 : decode cX12_digest 104 = .ok (.iload_n 2, 1) := by decide +kernel
theorem dX12_digest_105 : decode cX12_digest 105 = .ok (.bipush 6, 2) := by decide +kernel
theorem dX12_digest_107 : decode cX12_digest 107 = .ok (.if_icmp .ge 20, 3) := by decide +kernel
theorem dX12_digest_110 : decode cX12_digest 110 = .ok (.aload_n 0, 1) := by decide +kernel
theorem dX12_digest_111 : decode cX12_digest 111 = .ok (.aload_n 0, 1) := by decide +kernel
theorem dX12_digest_112 : decode cX12_digest 112 = .ok (.iload_n 1, 1) := by decide +kernel
theorem dX12_digest_113 : decode cX12_digest 113 = .ok (.iload_n 2, 1) := by decide +kernel
theorem dX12_digest_114 : decode cX12_digest 114 = .ok (.invokevirtual 258, 3) := by decide +kernel
theorem dX12_digest_117 : decode cX12_digest 117 = .ok (.i2l, 1) := by decide +kernel
theorem dX12_digest_118 : decode cX12_digest 118 = .ok (.invokevirtual 359, 3) := by decide +kernel
theorem dX12_digest_121 : decode cX12_digest 121 = .ok (.iinc 2 1, 3) := by decide +kernel
theorem dX12_digest_124 : decode cX12_digest 124 = .ok (.goto (-20), 3) := by decide +kernel
theorem dX12_digest_127 : decode cX12_digest 127 = .ok (.iinc 1 1, 3) := by decide +kernel
theorem dX12_digest_130 : decode cX12_digest 130 = .ok (.goto (-36), 3) := by decide +kernel
theorem dX12_digest_133 : decode cX12_digest 133 = .ok (.iconst 0, 1) := by decide +kernel
theorem dX12_digest_134 : decode cX12_digest 134 = .ok (.istore_n 1, 1) := by decide +kernel
theorem dX12_digest_135 : decode cX12_digest 135 = .ok (.iload_n 1, 1) := by decide +kernel
theorem dX12_digest_136 : decode cX12_digest 136 = .ok (.aload_n 0, 1) := by decide +kernel
theorem dX12_digest_137 : decode cX12_digest 137 = .ok (.getfield 265, 3) := by decide +kernel
theorem dX12_digest_140 : decode cX12_digest 140 = .ok (.if_icmp .ge 53, 3) := by decide +kernel
theorem dX12_digest_143 : decode cX12_digest 143 = .ok (.aload_n 0, 1) := by decide +kernel
theorem dX12_digest_144 : decode cX12_digest 144 = .ok (.aload_n 0, 1) := by decide +kernel
theorem dX12_digest_145 : decode cX12_digest 145 = .ok (.getfield 59, 3) := by decide +kernel
theorem dX12_digest_148 : decode cX12_digest 148 = .ok (.iload_n 1, 1) := by decide +kernel
theorem dX12_digest_149 : decode cX12_digest 149 = .ok (.iaload, 1) := by decide +kernel
theorem dX12_digest_150 : decode cX12_digest 150 = .ok (.i2l, 1) := by decide +kernel
theorem dX12_digest_151 : decode cX12_digest 151 = .ok (.invokevirtual 359, 3) := by decide +kernel
theorem dX12_digest_154 : decode cX12_digest 154 = .ok (.aload_n 0, 1) := by decide +kernel
theorem dX12_digest_155 : decode cX12_digest 155 = .ok (.aload_n 0, 1) := by decide +kernel
theorem dX12_digest_156 : decode cX12_digest 156 = .ok (.getfield 62, 3) := by decide +kernel
theorem dX12_digest_159 : decode cX12_digest 159 = .ok (.iload_n 1, 1) := by decide +kernel
theorem dX12_digest_160 : decode cX12_digest 160 = .ok (.iaload, 1) := by decide +kernel
theorem dX12_digest_161 : decode cX12_digest 161 = .ok (.i2l, 1) := by decide +kernel
theorem dX12_digest_162 : decode cX12_digest 162 = .ok (.invokevirtual 359, 3) := by decide +kernel
theorem dX12_digest_165 : decode cX12_digest 165 = .ok (.aload_n 0, 1) := by decide +kernel
theorem dX12_digest_166 : decode cX12_digest 166 = .ok (.aload_n 0, 1) := by decide +kernel
theorem dX12_digest_167 : decode cX12_digest 167 = .ok (.iconst 0, 1) := by decide +kernel
theorem dX12_digest_168 : decode cX12_digest 168 = .ok (.iload_n 1, 1) := by decide +kernel
theorem dX12_digest_169 : decode cX12_digest 169 = .ok (.invokevirtual 302, 3) := by decide +kernel
theorem dX12_digest_172 : decode cX12_digest 172 = .ok (.i2l, 1) := by decide +kernel
theorem dX12_digest_173 : decode cX12_digest 173 = .ok (.invokevirtual 359, 3) := by decide +kernel
theorem dX12_digest_176 : decode cX12_digest 176 = .ok (.aload_n 0, 1) := by decide +kernel
theorem dX12_digest_177 : decode cX12_digest 177 = .ok (.aload_n 0, 1) := by decide +kernel
theorem dX12_digest_178 : decode cX12_digest 178 = .ok (.iconst 1, 1) := by decide +kernel
theorem dX12_digest_179 : decode cX12_digest 179 = .ok (.iload_n 1, 1) := by decide +kernel
theorem dX12_digest_180 : decode cX12_digest 180 = .ok (.invokevirtual 302, 3) := by decide +kernel
theorem dX12_digest_183 : decode cX12_digest 183 = .ok (.i2l, 1) := by decide +kernel
theorem dX12_digest_184 : decode cX12_digest 184 = .ok (.invokevirtual 359, 3) := by decide +kernel
theorem dX12_digest_187 : decode cX12_digest 187 = .ok (.iinc 1 1, 3) := by decide +kernel
theorem dX12_digest_190 : decode cX12_digest 190 = .ok (.goto (-55), 3) := by decide +kernel
theorem dX12_digest_193 : decode cX12_digest 193 = .ok (.aload_n 0, 1) := by decide +kernel
theorem dX12_digest_194 : decode cX12_digest 194 = .ok (.aload_n 0, 1) := by decide +kernel
theorem dX12_digest_195 : decode cX12_digest 195 = .ok (.getfield 86, 3) := by decide +kernel
theorem dX12_digest_198 : decode cX12_digest 198 = .ok (.i2l, 1) := by decide +kernel
theorem dX12_digest_199 : decode cX12_digest 199 = .ok (.invokevirtual 359, 3) := by decide +kernel
theorem dX12_digest_202 : decode cX12_digest 202 = .ok (.iconst 0, 1) := by decide +kernel
theorem dX12_digest_203 : decode cX12_digest 203 = .ok (.istore_n 1, 1) := by decide +kernel
theorem dX12_digest_204 : decode cX12_digest 204 = .ok (.iload_n 1, 1) := by decide +kernel
theorem dX12_digest_205 : decode cX12_digest 205 = .ok (.aload_n 0, 1) := by decide +kernel
theorem dX12_digest_206 : decode cX12_digest 206 = .ok (.getfield 307, 3) := by decide +kernel
theorem dX12_digest_209 : decode cX12_digest 209 = .ok (.if_icmp .ge 71, 3) := by decide +kernel
theorem dX12_digest_212 : decode cX12_digest 212 = .ok (.aload_n 0, 1) := by decide +kernel
theorem dX12_digest_213 : decode cX12_digest 213 = .ok (.aload_n 0, 1) := by decide +kernel
theorem dX12_digest_214 : decode cX12_digest 214 = .ok (.getfield 68, 3) := by decide +kernel
theorem dX12_digest_217 : decode cX12_digest 217 = .ok (.iload_n 1, 1) := by decide +kernel
theorem dX12_digest_218 : decode cX12_digest 218 = .ok (.iaload, 1) := by decide +kernel
theorem dX12_digest_219 : decode cX12_digest 219 = .ok (.i2l, 1) := by decide +kernel
theorem dX12_digest_220 : decode cX12_digest 220 = .ok (.invokevirtual 359, 3) := by decide +kernel
theorem dX12_digest_223 : decode cX12_digest 223 = .ok (.aload_n 0, 1) := by decide +kernel
theorem dX12_digest_224 : decode cX12_digest 224 = .ok (.aload_n 0, 1) := by decide +kernel
theorem dX12_digest_225 : decode cX12_digest 225 = .ok (.getfield 71, 3) := by decide +kernel
theorem dX12_digest_228 : decode cX12_digest 228 = .ok (.iload_n 1, 1) := by decide +kernel
theorem dX12_digest_229 : decode cX12_digest 229 = .ok (.iaload, 1) := by decide +kernel
theorem dX12_digest_230 : decode cX12_digest 230 = .ok (.i2l, 1) := by decide +kernel
theorem dX12_digest_231 : decode cX12_digest 231 = .ok (.invokevirtual 359, 3) := by decide +kernel
theorem dX12_digest_234 : decode cX12_digest 234 = .ok (.aload_n 0, 1) := by decide +kernel
theorem dX12_digest_235 : decode cX12_digest 235 = .ok (.aload_n 0, 1) := by decide +kernel
theorem dX12_digest_236 : decode cX12_digest 236 = .ok (.getfield 74, 3) := by decide +kernel
theorem dX12_digest_239 : decode cX12_digest 239 = .ok (.iload_n 1, 1) := by decide +kernel
theorem dX12_digest_240 : decode cX12_digest 240 = .ok (.iaload, 1) := by decide +kernel
theorem dX12_digest_241 : decode cX12_digest 241 = .ok (.i2l, 1) := by decide +kernel
theorem dX12_digest_242 : decode cX12_digest 242 = .ok (.invokevirtual 359, 3) := by decide +kernel
theorem dX12_digest_245 : decode cX12_digest 245 = .ok (.aload_n 0, 1) := by decide +kernel
theorem dX12_digest_246 : decode cX12_digest 246 = .ok (.aload_n 0, 1) := by decide +kernel
theorem dX12_digest_247 : decode cX12_digest 247 = .ok (.getfield 77, 3) := by decide +kernel
theorem dX12_digest_250 : decode cX12_digest 250 = .ok (.iload_n 1, 1) := by decide +kernel
theorem dX12_digest_251 : decode cX12_digest 251 = .ok (.baload, 1) := by decide +kernel
theorem dX12_digest_252 : decode cX12_digest 252 = .ok (.ifCond .eq 7, 3) := by decide +kernel
theorem dX12_digest_255 : decode cX12_digest 255 = .ok (.lconst 1, 1) := by decide +kernel
theorem dX12_digest_256 : decode cX12_digest 256 = .ok (.goto 4, 3) := by decide +kernel
theorem dX12_digest_259 : decode cX12_digest 259 = .ok (.lconst 0, 1) := by decide +kernel
theorem dX12_digest_260 : decode cX12_digest 260 = .ok (.invokevirtual 359, 3) := by decide +kernel
theorem dX12_digest_263 : decode cX12_digest 263 = .ok (.aload_n 0, 1) := by decide +kernel
theorem dX12_digest_264 : decode cX12_digest 264 = .ok (.aload_n 0, 1) := by decide +kernel
theorem dX12_digest_265 : decode cX12_digest 265 = .ok (.getfield 80, 3) := by decide +kernel
theorem dX12_digest_268 : decode cX12_digest 268 = .ok (.iload_n 1, 1) := by decide +kernel
theorem dX12_digest_269 : decode cX12_digest 269 = .ok (.iaload, 1) := by decide +kernel
theorem dX12_digest_270 : decode cX12_digest 270 = .ok (.i2l, 1) := by decide +kernel
theorem dX12_digest_271 : decode cX12_digest 271 = .ok (.invokevirtual 359, 3) := by decide +kernel
theorem dX12_digest_274 : decode cX12_digest 274 = .ok (.iinc 1 1, 3) := by decide +kernel
theorem dX12_digest_277 : decode cX12_digest 277 = .ok (.goto (-73), 3) := by decide +kernel
theorem dX12_digest_280 : decode cX12_digest 280 = .ok (.aload_n 0, 1) := by decide +kernel
theorem dX12_digest_281 : decode cX12_digest 281 = .ok (.aload_n 0, 1) := by decide +kernel
theorem dX12_digest_282 : decode cX12_digest 282 = .ok (.getfield 337, 3) := by decide +kernel
theorem dX12_digest_285 : decode cX12_digest 285 = .ok (.i2l, 1) := by decide +kernel
theorem dX12_digest_286 : decode cX12_digest 286 = .ok (.invokevirtual 359, 3) := by decide +kernel
theorem dX12_digest_289 : decode cX12_digest 289 = .ok (.aload_n 0, 1) := by decide +kernel
theorem dX12_digest_290 : decode cX12_digest 290 = .ok (.aload_n 0, 1) := by decide +kernel
theorem dX12_digest_291 : decode cX12_digest 291 = .ok (.invokevirtual 345, 3) := by decide +kernel
theorem dX12_digest_294 : decode cX12_digest 294 = .ok (.i2l, 1) := by decide +kernel
theorem dX12_digest_295 : decode cX12_digest 295 = .ok (.invokevirtual 359, 3) := by decide +kernel
theorem dX12_digest_298 : decode cX12_digest 298 = .ok (.iconst 0, 1) := by decide +kernel
theorem dX12_digest_299 : decode cX12_digest 299 = .ok (.istore_n 1, 1) := by decide +kernel
theorem dX12_digest_300 : decode cX12_digest 300 = .ok (.iload_n 1, 1) := by decide +kernel
theorem dX12_digest_301 : decode cX12_digest 301 = .ok (.aload_n 0, 1) := by decide +kernel
theorem dX12_digest_302 : decode cX12_digest 302 = .ok (.getfield 195, 3) := by decide +kernel
theorem dX12_digest_305 : decode cX12_digest 305 = .ok (.if_icmp .ge 20, 3) := by decide +kernel
theorem dX12_digest_308 : decode cX12_digest 308 = .ok (.aload_n 0, 1) := by decide +kernel
theorem dX12_digest_309 : decode cX12_digest 309 = .ok (.aload_n 0, 1) := by decide +kernel
theorem dX12_digest_310 : decode cX12_digest 310 = .ok (.getfield 25, 3) := by decide +kernel
theorem dX12_digest_313 : decode cX12_digest 313 = .ok (.iload_n 1, 1) := by decide +kernel
theorem dX12_digest_314 : decode cX12_digest 314 = .ok (.iaload, 1) := by decide +kernel
theorem dX12_digest_315 : decode cX12_digest 315 = .ok (.i2l, 1) := by decide +kernel
theorem dX12_digest_316 : decode cX12_digest 316 = .ok (.invokevirtual 359, 3) := by decide +kernel
theorem dX12_digest_319 : decode cX12_digest 319 = .ok (.iinc 1 1, 3) := by decide +kernel
theorem dX12_digest_322 : decode cX12_digest 322 = .ok (.goto (-22), 3) := by decide +kernel
theorem dX12_digest_325 : decode cX12_digest 325 = .ok (.iconst 0, 1) := by decide +kernel
theorem dX12_digest_326 : decode cX12_digest 326 = .ok (.istore_n 1, 1) := by decide +kernel
theorem dX12_digest_327 : decode cX12_digest 327 = .ok (.iload_n 1, 1) := by decide +kernel
theorem dX12_digest_328 : decode cX12_digest 328 = .ok (.bipush 7, 2) := by decide +kernel
theorem dX12_digest_330 : decode cX12_digest 330 = .ok (.if_icmp .ge 19, 3) := by decide +kernel
theorem dX12_digest_333 : decode cX12_digest 333 = .ok (.aload_n 0, 1) := by decide +kernel
theorem dX12_digest_334 : decode cX12_digest 334 = .ok (.aload_n 0, 1) := by decide +kernel
theorem dX12_digest_335 : decode cX12_digest 335 = .ok (.iload_n 1, 1) := by decide +kernel
theorem dX12_digest_336 : decode cX12_digest 336 = .ok (.invokevirtual 348, 3) := by decide +kernel
theorem dX12_digest_339 : decode cX12_digest 339 = .ok (.i2l, 1) := by decide +kernel
theorem dX12_digest_340 : decode cX12_digest 340 = .ok (.invokevirtual 359, 3) := by decide +kernel
theorem dX12_digest_343 : decode cX12_digest 343 = .ok (.iinc 1 1, 3) := by decide +kernel
theorem dX12_digest_346 : decode cX12_digest 346 = .ok (.goto (-19), 3) := by decide +kernel
theorem dX12_digest_349 : decode cX12_digest 349 = .ok (.aload_n 0, 1) := by decide +kernel
theorem dX12_digest_350 : decode cX12_digest 350 = .ok (.getfield 353, 3) := by decide +kernel
theorem dX12_digest_353 : decode cX12_digest 353 = .ok (.lreturn, 1) := by decide +kernel
